/-! the parser's tokens: sortOf, valueOf, spells, wordKind -/
section TK
variable {l : Launch} {g : jG} {d : Nat} {h : jH}
theorem le32 {a b : Int32} : a ≤ b ↔ a.toInt ≤ b.toInt := Int32.le_iff_toInt_le
theorem c8_10 : ((Int8.ofInt 10).toInt32).toInt = 10 := by decide
theorem c8_32 : ((Int8.ofInt 32).toInt32).toInt = 32 := by decide
theorem c8_48 : ((Int8.ofInt 48).toInt32).toInt = 48 := by decide
theorem c8_57 : ((Int8.ofInt 57).toInt32).toInt = 57 := by decide
theorem c8_97 : ((Int8.ofInt 97).toInt32).toInt = 97 := by decide
theorem c8_122 : ((Int8.ofInt 122).toInt32).toInt = 122 := by decide
theorem c16_1000 : ((Int16.ofInt 1000).toInt32).toInt = 1000 := by decide
def soF (z : Int) : Int := if z = 32 then 0 else if 97 ≤ z ∧ z ≤ 122 then 1 else if 48 ≤ z ∧ z ≤ 57 then 2 else 3
theorem soF_b (z : Int) : 0 ≤ soF z ∧ soF z ≤ 3 := by
  unfold soF
  repeat' split
  all_goals omega
theorem sort_run {x : Int32} : jCal l g 61 d [.int x] h 0 0 (fun v h' => h' = h ∧ v = some (.int (Int32.ofInt (soF x.toInt)))) := by
  refine jCal_of (by decide +kernel) (show 1 ≤ jmx 61 by decide +kernel) ?_
  show J l g 61 d 0 [some (.int x)] [] h 0 0 _
  have fin3 : (¬ x.toInt = 32) → (¬ (97 ≤ x.toInt ∧ x.toInt ≤ 122)) → (¬ (48 ≤ x.toInt ∧ x.toInt ≤ 57)) → J l g 61 d 38 [some (.int x)] [] h 0 0 (fun v h' => h' = h ∧ v = some (.int (Int32.ofInt (soF x.toInt)))) := fun a b c => by
    refine j_iconst (n := 3) (by decide +kernel) ?_
    exact j_ret (v := some (.int (Int32.ofInt 3))) ⟨by decide +kernel, Or.inl (by decide +kernel)⟩ ⟨rfl, by rw [soF, if_neg a, if_neg b, if_neg c]⟩ rfl
  have dig : (¬ x.toInt = 32) → (¬ (97 ≤ x.toInt ∧ x.toInt ≤ 122)) → J l g 61 d 22 [some (.int x)] [] h 0 0 (fun v h' => h' = h ∧ v = some (.int (Int32.ofInt (soF x.toInt)))) := fun a b => by
    refine j_iload_n (k4 := 0) (by decide +kernel) rfl ?_
    refine j_bipush (n := 48) (by decide +kernel) ?_
    refine j_icmp_lt (off := 13) (tgt := 38) (by decide +kernel) (by decide) (fun e => fin3 a b (fun q => by have := i32_lt.mp e; rw [c8_48] at this; omega)) (fun e => ?_)
    refine j_iload_n (k4 := 0) (by decide +kernel) rfl ?_
    refine j_bipush (n := 57) (by decide +kernel) ?_
    refine j_icmp_gt (off := 7) (tgt := 38) (by decide +kernel) (by decide) (fun e2 => fin3 a b (fun q => by have := i32_lt.mp e2; rw [c8_57] at this; omega)) (fun e2 => ?_)
    refine j_iconst (n := 2) (by decide +kernel) ?_
    refine j_goto (off := 4) (tgt := 39) (by decide +kernel) (by decide) ?_
    have f1 : 48 ≤ x.toInt := by
      have q1 := fun q => e (i32_lt.mpr q)
      rw [c8_48] at q1
      exact Int.not_lt.mp q1
    have f2 : x.toInt ≤ 57 := by
      have q1 := fun q => e2 (i32_lt.mpr q)
      rw [c8_57] at q1
      exact Int.not_lt.mp q1
    exact j_ret (v := some (.int (Int32.ofInt 2))) ⟨by decide +kernel, Or.inl (by decide +kernel)⟩ ⟨rfl, by rw [soF, if_neg a, if_neg b, if_pos ⟨f1, f2⟩]⟩ rfl
  refine j_iload_n (k4 := 0) (by decide +kernel) rfl ?_
  refine j_bipush (n := 32) (by decide +kernel) ?_
  refine j_icmp_ne (off := 5) (tgt := 8) (by decide +kernel) (by decide) (fun e => ?_) (fun e => ?_)
  · have a : ¬ x.toInt = 32 := fun q => e (i32_eq (q.trans c8_32.symm))
    refine j_iload_n (k4 := 0) (by decide +kernel) rfl ?_
    refine j_bipush (n := 97) (by decide +kernel) ?_
    refine j_icmp_lt (off := 11) (tgt := 22) (by decide +kernel) (by decide) (fun e => dig a (fun q => by have := i32_lt.mp e; rw [c8_97] at this; omega)) (fun e => ?_)
    refine j_iload_n (k4 := 0) (by decide +kernel) rfl ?_
    refine j_bipush (n := 122) (by decide +kernel) ?_
    refine j_icmp_gt (off := 5) (tgt := 22) (by decide +kernel) (by decide) (fun e2 => dig a (fun q => by have := i32_lt.mp e2; rw [c8_122] at this; omega)) (fun e2 => ?_)
    refine j_iconst (n := 1) (by decide +kernel) ?_
    have f1 : 97 ≤ x.toInt := by
      have q1 := fun q => e (i32_lt.mpr q)
      rw [c8_97] at q1
      exact Int.not_lt.mp q1
    have f2 : x.toInt ≤ 122 := by
      have q1 := fun q => e2 (i32_lt.mpr q)
      rw [c8_122] at q1
      exact Int.not_lt.mp q1
    exact j_ret (v := some (.int (Int32.ofInt 1))) ⟨by decide +kernel, Or.inl (by decide +kernel)⟩ ⟨rfl, by rw [soF, if_neg a, if_pos ⟨f1, f2⟩]⟩ rfl
  · have a : x.toInt = 32 := by rw [Classical.not_not.mp e]; exact c8_32
    refine j_iconst (n := 0) (by decide +kernel) ?_
    exact j_ret (v := some (.int (Int32.ofInt 0))) ⟨by decide +kernel, Or.inl (by decide +kernel)⟩ ⟨rfl, by rw [soF, if_pos a]⟩ rfl
def vaF (f : Nat → Int32) (fr : Nat) : Nat → Int
  | 0 => 0
  | n + 1 => if 1000 < vaF f fr n * 10 + (f (fr + n)).toInt - 48 then 1000 else vaF f fr n * 10 + (f (fr + n)).toInt - 48
theorem vaF_b {f : Nat → Int32} {fr : Nat} : ∀ n, (∀ j, j < n → 48 ≤ (f (fr + j)).toInt ∧ (f (fr + j)).toInt ≤ 57) → 0 ≤ vaF f fr n ∧ vaF f fr n ≤ 1000 := by
  intro n
  induction n with
  | zero => intro _; rw [vaF]; omega
  | succ n ih =>
    intro hj
    have h1 := ih (fun j q => hj j (by omega))
    have h2 := hj n (by omega)
    rw [vaF]
    split <;> omega
theorem value_run {a0 fr stp : Nat} {f : Nat → Int32} (ht : h[a0]? = some (.inl (0, 400, f))) (hfs : fr ≤ stp) (hs : stp ≤ 400) (hdg : ∀ j, fr ≤ j → j < stp → 48 ≤ (f j).toInt ∧ (f j).toInt ≤ 57) (hd1 : 1 ≤ d) :
    jCal l g 77 d [.ref (g.2.2 + a0), .int (Int32.ofInt (fr : Int)), .int (Int32.ofInt (stp : Int))] h 0 0 (fun v h' => h' = h ∧ v = some (.int (Int32.ofInt (vaF f fr (stp - fr))))) := by
  refine jCal_of (by decide +kernel) (show 3 ≤ jmx 77 by decide +kernel) ?_
  show J l g 77 d 0 [some (.ref (g.2.2 + a0)), some (.int (Int32.ofInt (fr : Int))), some (.int (Int32.ofInt (stp : Int))), none, none] [] h 0 0 _
  have hcls : jcN 3 = (jyN 77).cls := by decide +kernel
  have loop : ∀ (k n : Nat), stp - (fr + n) = k → fr + n ≤ stp → J l g 77 d 5 [some (.ref (g.2.2 + a0)), some (.int (Int32.ofInt (fr : Int))), some (.int (Int32.ofInt (stp : Int))), some (.int (Int32.ofInt (vaF f fr n))), some (.int (Int32.ofInt ((fr + n : Nat) : Int)))] [] h 0 0 (fun v h' => h' = h ∧ v = some (.int (Int32.ofInt (vaF f fr (stp - fr))))) := by
    intro k
    induction k with
    | zero =>
      intro n h1 h2
      have e1 : stp - fr = n := by omega
      refine j_iload (i := 4) (by decide +kernel) rfl ?_
      refine j_iload_n (k4 := 2) (by decide +kernel) rfl ?_
      refine j_icmp_ge (off := 28) (tgt := 36) (by decide +kernel) (by decide) (fun _ => ?_) (fun q => absurd (le32.mpr (by rw [i32_n (by omega), i32_n (by omega)]; omega)) q)
      refine j_iload_n (k4 := 3) (by decide +kernel) rfl ?_
      exact j_ret (v := some (.int (Int32.ofInt (vaF f fr n)))) ⟨by decide +kernel, Or.inl (by decide +kernel)⟩ ⟨rfl, by rw [e1]⟩ rfl
    | succ k ih =>
      intro n h1 h2
      have hb := vaF_b (f := f) (fr := fr) n (fun j q => hdg (fr + j) (by omega) (by omega))
      have hb2 := hdg (fr + n) (by omega) (by omega)
      have hi : (Int32.ofInt ((fr + n : Nat) : Int)).toInt = ((fr + n : Nat) : Int) := i32_n (by omega)
      have hv : (Int32.ofInt (vaF f fr n)).toInt = vaF f fr n := i32_ofInt (by omega) (by omega)
      refine j_iload (i := 4) (by decide +kernel) rfl ?_
      refine j_iload_n (k4 := 2) (by decide +kernel) rfl ?_
      refine j_icmp_ge (off := 28) (tgt := 36) (by decide +kernel) (by decide) (fun q => absurd (le32.mp q) (by rw [i32_n (by omega), i32_n (by omega)]; omega)) (fun _ => ?_)

      refine j_iload_n (k4 := 3) (by decide +kernel) rfl ?_
      refine j_bipush (n := 10) (by decide +kernel) ?_
      refine j_imul (by decide +kernel) ?_
      refine j_aload_n (k4 := 0) (by decide +kernel) rfl ?_
      refine j_iload (i := 4) (by decide +kernel) rfl ?_
      refine j_iald (by decide +kernel) ht (i32_in (by rw [hi]; omega) (by rw [hi]; omega)) ?_
      rw [i32_at hi]
      refine j_iadd (by decide +kernel) ?_
      refine j_bipush (n := 48) (by decide +kernel) ?_
      refine j_isub (by decide +kernel) ?_
      refine j_sipush (n := 1000) (by decide +kernel) ?_
      refine j_mmin (own := 3) (i := 71) (by decide +kernel) hcls (by decide +kernel) hd1 (by decide) ?_
      have m1 : (Int32.ofInt (vaF f fr n) * (Int8.ofInt 10).toInt32).toInt = vaF f fr n * 10 := by rw [i32_mul (by rw [hv, c8_10]; omega) (by rw [hv, c8_10]; omega), hv, c8_10]
      have m2 : (Int32.ofInt (vaF f fr n) * (Int8.ofInt 10).toInt32 + f (fr + n)).toInt = vaF f fr n * 10 + (f (fr + n)).toInt := by rw [i32_add (by rw [m1]; omega) (by rw [m1]; omega), m1]
      have m3 : (Int32.ofInt (vaF f fr n) * (Int8.ofInt 10).toInt32 + f (fr + n) - (Int8.ofInt 48).toInt32).toInt = vaF f fr n * 10 + (f (fr + n)).toInt - 48 := by rw [i32_sub (by rw [m2, c8_48]; omega) (by rw [m2, c8_48]; omega), m2, c8_48]
      have m4 : (if (Int16.ofInt 1000).toInt32 < Int32.ofInt (vaF f fr n) * (Int8.ofInt 10).toInt32 + f (fr + n) - (Int8.ofInt 48).toInt32 then (Int16.ofInt 1000).toInt32 else Int32.ofInt (vaF f fr n) * (Int8.ofInt 10).toInt32 + f (fr + n) - (Int8.ofInt 48).toInt32) = Int32.ofInt (vaF f fr (n + 1)) := by
        rw [vaF]
        by_cases hq : 1000 < vaF f fr n * 10 + (f (fr + n)).toInt - 48
        · rw [if_pos hq, if_pos (i32_lt.mpr (by rw [m3, c16_1000]; exact hq))]
          decide
        · rw [if_neg hq, if_neg (fun z => hq (by have := i32_lt.mp z; rw [m3, c16_1000] at this; exact this))]
          exact i32_eq (by rw [m3, i32_ofInt (by omega) (by omega)])
      rw [m4]
      refine j_istore_n (k4 := 3) (by decide +kernel) (by decide +kernel) ?_
      refine j_iinc (i := 4) (n := 1) (by decide +kernel) (by decide +kernel) rfl ?_
      refine j_goto (off := -28) (tgt := 5) (by decide +kernel) (by decide) ?_
      have e2 : Int32.ofInt ((fr + n : Nat) : Int) + Int32.ofInt 1 = Int32.ofInt ((fr + (n + 1) : Nat) : Int) := i32_eq (by rw [i32_addn hi (by omega) (by omega), i32_n (by omega)]; omega)
      show J l g 77 d 5 [some (.ref (g.2.2 + a0)), some (.int (Int32.ofInt (fr : Int))), some (.int (Int32.ofInt (stp : Int))), some (.int (Int32.ofInt (vaF f fr (n + 1)))), some (.int (Int32.ofInt ((fr + n : Nat) : Int) + Int32.ofInt 1))] [] h 0 0 _
      rw [e2]
      exact ih (n + 1) (by omega) (by omega)
  refine j_iconst (n := 0) (by decide +kernel) ?_
  refine j_istore_n (k4 := 3) (by decide +kernel) (by decide +kernel) ?_
  refine j_iload_n (k4 := 1) (by decide +kernel) rfl ?_
  refine j_istore (i := 4) (by decide +kernel) (by decide +kernel) ?_
  exact loop (stp - fr) 0 (by omega) (by omega)
/-- the text from fr to stp is the i-th word -/
def spP (f : Nat → Int32) (i fr stp : Nat) : Prop := stp = fr + jsl.getD i 0 ∧ ∀ k, k < jsl.getD i 0 → f (fr + k) = sgCh i k
theorem spells_run {i a0 fr stp : Nat} {f : Nat → Int32} (hi : i < 13) (ht : h[a0]? = some (.inl (0, 400, f))) (hfs : fr ≤ stp) (hs : stp ≤ 400) (hd1 : 4 ≤ d) :
    jCal l g 63 d [.ref (jAK g i), .ref (g.2.2 + a0), .int (Int32.ofInt (fr : Int)), .int (Int32.ofInt (stp : Int))] h 0 0 (fun v h' => h' = h ∧ ((v = some (.int 1) ∧ spP f i fr stp) ∨ (v = some (.int 0) ∧ ¬ spP f i fr stp))) := by
  refine jCal_of (by decide +kernel) (show 4 ≤ jmx 63 by decide +kernel) ?_
  show J l g 63 d 0 [some (.ref (jAK g i)), some (.ref (g.2.2 + a0)), some (.int (Int32.ofInt (fr : Int))), some (.int (Int32.ofInt (stp : Int))), none] [] h 0 0 _
  have hcls : jcN 3 = (jyN 63).cls := by decide +kernel
  obtain ⟨a1, a2, a3⟩ := jsl_all i hi
  have hfr : (Int32.ofInt (fr : Int)).toInt = (fr : Int) := i32_n (by omega)
  have hst : (Int32.ofInt (stp : Int)).toInt = (stp : Int) := i32_n (by omega)
  have no : ∀ (pc : Nat) (o4 : Option Value), (pc = 10 ∨ pc = 39) → ¬ spP f i fr stp → J l g 63 d pc [some (.ref (jAK g i)), some (.ref (g.2.2 + a0)), some (.int (Int32.ofInt (fr : Int))), some (.int (Int32.ofInt (stp : Int))), o4] [] h 0 0 (fun v h' => h' = h ∧ ((v = some (.int 1) ∧ spP f i fr stp) ∨ (v = some (.int 0) ∧ ¬ spP f i fr stp))) := by
    intro pc o4 hpc hno
    rcases hpc with rfl | rfl
    · refine j_iconst (n := 0) (by decide +kernel) ?_
      exact j_ret (v := some (.int 0)) ⟨by decide +kernel, Or.inr (Or.inl ⟨by decide +kernel, Or.inl rfl⟩)⟩ ⟨rfl, Or.inr ⟨rfl, hno⟩⟩ rfl
    · refine j_iconst (n := 0) (by decide +kernel) ?_
      exact j_ret (v := some (.int 0)) ⟨by decide +kernel, Or.inr (Or.inl ⟨by decide +kernel, Or.inl rfl⟩)⟩ ⟨rfl, Or.inr ⟨rfl, hno⟩⟩ rfl
  have loop : stp = fr + jsl.getD i 0 → ∀ (q k : Nat), jsl.getD i 0 - k = q → k ≤ jsl.getD i 0 → (∀ j, j < k → f (fr + j) = sgCh i j) → J l g 63 d 15 [some (.ref (jAK g i)), some (.ref (g.2.2 + a0)), some (.int (Int32.ofInt (fr : Int))), some (.int (Int32.ofInt (stp : Int))), some (.int (Int32.ofInt (k : Int)))] [] h 0 0 (fun v h' => h' = h ∧ ((v = some (.int 1) ∧ spP f i fr stp) ∨ (v = some (.int 0) ∧ ¬ spP f i fr stp))) := by
    intro hsl q
    induction q with
    | zero =>
      intro k h1 h2 h3
      refine j_iload (i := 4) (by decide +kernel) rfl ?_
      refine j_aload_n (k4 := 0) (by decide +kernel) rfl ?_
      refine j_callVS (own := 3) (i := 110) (y2 := 64) (d2 := 1) (mc := 0) (ms := 0) (kc := 0) (ks := 0) (As := []) hi (by decide +kernel) (by decide +kernel) hcls (by decide +kernel) (by decide) (by decide +kernel) (by decide +kernel) (by omega) (by show (1 + 0 : Nat) ≤ 8; decide) (st_len hi (by omega)) (fun v h' hq => ?_)
      obtain ⟨rfl, rfl⟩ := hq
      refine j_icmp_ge (off := 26) (tgt := 47) (by decide +kernel) (by decide) (fun _ => ?_) (fun q => absurd (le32.mpr (by rw [a3, i32_n (by omega)]; omega)) q)
      refine j_iconst (n := 1) (by decide +kernel) ?_
      exact j_ret (v := some (.int 1)) ⟨by decide +kernel, Or.inr (Or.inl ⟨by decide +kernel, Or.inr rfl⟩)⟩ ⟨rfl, Or.inl ⟨rfl, hsl, fun j hj => h3 j (by omega)⟩⟩ rfl
    | succ q ih =>
      intro k h1 h2 h3
      have hk : (Int32.ofInt (k : Int)).toInt = (k : Int) := i32_n (by omega)
      have hfk : (Int32.ofInt (fr : Int) + Int32.ofInt (k : Int)).toInt = ((fr + k : Nat) : Int) := by rw [i32_add (by rw [hfr, hk]; omega) (by rw [hfr, hk]; omega), hfr, hk]; omega
      refine j_iload (i := 4) (by decide +kernel) rfl ?_
      refine j_aload_n (k4 := 0) (by decide +kernel) rfl ?_
      refine j_callVS (own := 3) (i := 110) (y2 := 64) (d2 := 1) (mc := 0) (ms := 0) (kc := 0) (ks := 0) (As := []) hi (by decide +kernel) (by decide +kernel) hcls (by decide +kernel) (by decide) (by decide +kernel) (by decide +kernel) (by omega) (by show (1 + 0 : Nat) ≤ 8; decide) (st_len hi (by omega)) (fun v h' hq => ?_)
      obtain ⟨rfl, rfl⟩ := hq
      refine j_icmp_ge (off := 26) (tgt := 47) (by decide +kernel) (by decide) (fun q => absurd (le32.mp q) (by rw [a3, hk]; omega)) (fun _ => ?_)
      refine j_aload_n (k4 := 1) (by decide +kernel) rfl ?_
      refine j_iload_n (k4 := 2) (by decide +kernel) rfl ?_
      refine j_iload (i := 4) (by decide +kernel) rfl ?_
      refine j_iadd (by decide +kernel) ?_
      refine j_iald (by decide +kernel) ht (i32_in (by rw [hfk]; omega) (by rw [hfk]; omega)) ?_
      rw [i32_at hfk]
      refine j_aload_n (k4 := 0) (by decide +kernel) rfl ?_
      refine j_iload (i := 4) (by decide +kernel) rfl ?_
      refine j_callVS (own := 3) (i := 116) (y2 := 66) (d2 := 3) (mc := 0) (ms := 0) (kc := 0) (ks := 0) (As := [.int (Int32.ofInt (k : Int))]) hi (by decide +kernel) (by decide +kernel) hcls (by decide +kernel) (by decide) (by decide +kernel) (show 1 = jnp 66 by decide +kernel) (by omega) (by show (1 + 0 : Nat) ≤ 8; decide) (st_chr hi (by omega) (by omega)) (fun v h' hq => ?_)
      obtain ⟨rfl, rfl⟩ := hq
      refine j_icmp_eq (off := 5) (tgt := 41) (by decide +kernel) (by decide) (fun e => ?_) (fun e => ?_)
      · refine j_iinc (i := 4) (n := 1) (by decide +kernel) (by decide +kernel) rfl ?_
        refine j_goto (off := -29) (tgt := 15) (by decide +kernel) (by decide) ?_
        have e2 : Int32.ofInt (k : Int) + Int32.ofInt 1 = Int32.ofInt ((k + 1 : Nat) : Int) := i32_eq (by rw [i32_addn hk (by omega) (by omega), i32_n (by omega)]; omega)
        show J l g 63 d 15 [some (.ref (jAK g i)), some (.ref (g.2.2 + a0)), some (.int (Int32.ofInt (fr : Int))), some (.int (Int32.ofInt (stp : Int))), some (.int (Int32.ofInt (k : Int) + Int32.ofInt 1))] [] _ 0 0 _
        rw [e2]
        exact ih (k + 1) (by omega) (by omega) (fun j hj => by
          rcases Nat.lt_or_ge j k with hl | hl
          · exact h3 j hl
          · have : j = k := by omega
            subst this
            exact e)
      · exact no 39 _ (Or.inr rfl) (fun hp => e (hp.2 k (by omega)))
  refine j_iload_n (k4 := 3) (by decide +kernel) rfl ?_
  refine j_iload_n (k4 := 2) (by decide +kernel) rfl ?_
  refine j_isub (by decide +kernel) ?_
  refine j_aload_n (k4 := 0) (by decide +kernel) rfl ?_
  refine j_callVS (own := 3) (i := 110) (y2 := 64) (d2 := 1) (mc := 0) (ms := 0) (kc := 0) (ks := 0) (As := []) hi (by decide +kernel) (by decide +kernel) hcls (by decide +kernel) (by decide) (by decide +kernel) (by decide +kernel) (by omega) (by show (1 + 0 : Nat) ≤ 8; decide) (st_len hi (by omega)) (fun v h' hq => ?_)
  obtain ⟨rfl, rfl⟩ := hq
  have hsub : (Int32.ofInt (stp : Int) - Int32.ofInt (fr : Int)).toInt = (stp : Int) - (fr : Int) := by rw [i32_sub (by rw [hfr, hst]; omega) (by rw [hfr, hst]; omega), hfr, hst]
  refine j_icmp_eq (off := 5) (tgt := 12) (by decide +kernel) (by decide) (fun e => ?_) (fun e => ?_)
  · have hsl : stp = fr + jsl.getD i 0 := by
      have := congrArg Int32.toInt e
      rw [hsub, a3] at this
      omega
    refine j_iconst (n := 0) (by decide +kernel) ?_
    refine j_istore (i := 4) (by decide +kernel) (by decide +kernel) ?_
    exact loop hsl (jsl.getD i 0) 0 (by omega) (by omega) (fun j hj => absurd hj (by omega))
  · refine no 10 _ (Or.inl rfl) (fun hp => e (i32_eq ?_))
    rw [hsub, a3, hp.1]
    omega
theorem testWordKind_j {a0 fr stp : Nat} {f : Nat → Int32} (ht : h[a0]? = some (.inl (0, 400, f))) (hfs : fr ≤ stp) (hs : stp ≤ 400) (hd1 : 5 ≤ d) (hp : ∀ i, i < 7 → ¬ spP f i fr stp) :
    J l g 75 d 0 [some (.ref (g.2.2 + a0)), some (.int (Int32.ofInt (fr : Int))), some (.int (Int32.ofInt (stp : Int)))] [] h 0 0 (fun v h' => h' = h ∧ ∃ j, j ≤ 13 ∧ (∀ i, i < j → ¬ spP f i fr stp) ∧ (j < 13 → spP f j fr stp) ∧ v = some (.int (Int32.ofInt (if j < 13 then 6 + (j : Int) else 2)))) := by
  have hcls : jcN 3 = (jyN 75).cls := by decide +kernel
  refine j_ldcS (i := 7) (by decide) (by decide +kernel) (by decide +kernel) ?_
  refine j_aload_n (k4 := 0) (by decide +kernel) rfl ?_
  refine j_iload_n (k4 := 1) (by decide +kernel) rfl ?_
  refine j_iload_n (k4 := 2) (by decide +kernel) rfl ?_
  refine j_callS' (own := 3) (i := 79) (y2 := 63) (d2 := 4) (mc := 0) (ms := 0) (kc := 0) (ks := 0) (As := [.ref (jAK g 7), .ref (g.2.2 + a0), .int (Int32.ofInt (fr : Int)), .int (Int32.ofInt (stp : Int))]) (st := []) (by decide +kernel) hcls (by decide +kernel) (by decide) (by decide +kernel) (show 4 = jnp 63 by decide +kernel) (by omega) (by decide) (spells_run (by decide) ht hfs hs (by omega)) (fun v h' hq => ?_)
  obtain ⟨rfl, hq⟩ := hq
  rcases hq with ⟨rfl, y7⟩ | ⟨rfl, n7⟩
  · refine j_if_eq (off := 6) (tgt := 14) (by decide +kernel) (by decide) (fun e => absurd e (by decide)) (fun _ => ?_)
    refine j_bipush (n := 13) (by decide +kernel) ?_
    refine j_ret (v := some (.int (Int8.ofInt 13).toInt32)) ⟨by decide +kernel, Or.inl (by decide +kernel)⟩ ⟨rfl, 7, by decide, fun i hi => ?_, fun _ => y7, by decide⟩ rfl
    have hi2 : i < 7 ∨ False := by omega
    rcases hi2 with hi3 | hi4
    · exact hp i hi3
    · exact absurd hi4 id
  refine j_if_eq (off := 6) (tgt := 14) (by decide +kernel) (by decide) (fun _ => ?_) (fun e => absurd rfl e)
  refine j_ldcS (i := 8) (by decide) (by decide +kernel) (by decide +kernel) ?_
  refine j_aload_n (k4 := 0) (by decide +kernel) rfl ?_
  refine j_iload_n (k4 := 1) (by decide +kernel) rfl ?_
  refine j_iload_n (k4 := 2) (by decide +kernel) rfl ?_
  refine j_callS' (own := 3) (i := 79) (y2 := 63) (d2 := 4) (mc := 0) (ms := 0) (kc := 0) (ks := 0) (As := [.ref (jAK g 8), .ref (g.2.2 + a0), .int (Int32.ofInt (fr : Int)), .int (Int32.ofInt (stp : Int))]) (st := []) (by decide +kernel) hcls (by decide +kernel) (by decide) (by decide +kernel) (show 4 = jnp 63 by decide +kernel) (by omega) (by decide) (spells_run (by decide) ht hfs hs (by omega)) (fun v h' hq => ?_)
  obtain ⟨rfl, hq⟩ := hq
  rcases hq with ⟨rfl, y8⟩ | ⟨rfl, n8⟩
  · refine j_if_eq (off := 6) (tgt := 28) (by decide +kernel) (by decide) (fun e => absurd e (by decide)) (fun _ => ?_)
    refine j_bipush (n := 14) (by decide +kernel) ?_
    refine j_ret (v := some (.int (Int8.ofInt 14).toInt32)) ⟨by decide +kernel, Or.inl (by decide +kernel)⟩ ⟨rfl, 8, by decide, fun i hi => ?_, fun _ => y8, by decide⟩ rfl
    have hi2 : i < 7 ∨ i = 7 := by omega
    rcases hi2 with hi3 | rfl
    · exact hp i hi3
    · exact n7
  refine j_if_eq (off := 6) (tgt := 28) (by decide +kernel) (by decide) (fun _ => ?_) (fun e => absurd rfl e)
  refine j_ldcS (i := 9) (by decide) (by decide +kernel) (by decide +kernel) ?_
  refine j_aload_n (k4 := 0) (by decide +kernel) rfl ?_
  refine j_iload_n (k4 := 1) (by decide +kernel) rfl ?_
  refine j_iload_n (k4 := 2) (by decide +kernel) rfl ?_
  refine j_callS' (own := 3) (i := 79) (y2 := 63) (d2 := 4) (mc := 0) (ms := 0) (kc := 0) (ks := 0) (As := [.ref (jAK g 9), .ref (g.2.2 + a0), .int (Int32.ofInt (fr : Int)), .int (Int32.ofInt (stp : Int))]) (st := []) (by decide +kernel) hcls (by decide +kernel) (by decide) (by decide +kernel) (show 4 = jnp 63 by decide +kernel) (by omega) (by decide) (spells_run (by decide) ht hfs hs (by omega)) (fun v h' hq => ?_)
  obtain ⟨rfl, hq⟩ := hq
  rcases hq with ⟨rfl, y9⟩ | ⟨rfl, n9⟩
  · refine j_if_eq (off := 6) (tgt := 42) (by decide +kernel) (by decide) (fun e => absurd e (by decide)) (fun _ => ?_)
    refine j_bipush (n := 15) (by decide +kernel) ?_
    refine j_ret (v := some (.int (Int8.ofInt 15).toInt32)) ⟨by decide +kernel, Or.inl (by decide +kernel)⟩ ⟨rfl, 9, by decide, fun i hi => ?_, fun _ => y9, by decide⟩ rfl
    have hi2 : i < 7 ∨ i = 7 ∨ i = 8 := by omega
    rcases hi2 with hi3 | rfl | rfl
    · exact hp i hi3
    · exact n7
    · exact n8
  refine j_if_eq (off := 6) (tgt := 42) (by decide +kernel) (by decide) (fun _ => ?_) (fun e => absurd rfl e)
  refine j_ldcS (i := 10) (by decide) (by decide +kernel) (by decide +kernel) ?_
  refine j_aload_n (k4 := 0) (by decide +kernel) rfl ?_
  refine j_iload_n (k4 := 1) (by decide +kernel) rfl ?_
  refine j_iload_n (k4 := 2) (by decide +kernel) rfl ?_
  refine j_callS' (own := 3) (i := 79) (y2 := 63) (d2 := 4) (mc := 0) (ms := 0) (kc := 0) (ks := 0) (As := [.ref (jAK g 10), .ref (g.2.2 + a0), .int (Int32.ofInt (fr : Int)), .int (Int32.ofInt (stp : Int))]) (st := []) (by decide +kernel) hcls (by decide +kernel) (by decide) (by decide +kernel) (show 4 = jnp 63 by decide +kernel) (by omega) (by decide) (spells_run (by decide) ht hfs hs (by omega)) (fun v h' hq => ?_)
  obtain ⟨rfl, hq⟩ := hq
  rcases hq with ⟨rfl, y10⟩ | ⟨rfl, n10⟩
  · refine j_if_eq (off := 6) (tgt := 56) (by decide +kernel) (by decide) (fun e => absurd e (by decide)) (fun _ => ?_)
    refine j_bipush (n := 16) (by decide +kernel) ?_
    refine j_ret (v := some (.int (Int8.ofInt 16).toInt32)) ⟨by decide +kernel, Or.inl (by decide +kernel)⟩ ⟨rfl, 10, by decide, fun i hi => ?_, fun _ => y10, by decide⟩ rfl
    have hi2 : i < 7 ∨ i = 7 ∨ i = 8 ∨ i = 9 := by omega
    rcases hi2 with hi3 | rfl | rfl | rfl
    · exact hp i hi3
    · exact n7
    · exact n8
    · exact n9
  refine j_if_eq (off := 6) (tgt := 56) (by decide +kernel) (by decide) (fun _ => ?_) (fun e => absurd rfl e)
  refine j_ldcS (i := 11) (by decide) (by decide +kernel) (by decide +kernel) ?_
  refine j_aload_n (k4 := 0) (by decide +kernel) rfl ?_
  refine j_iload_n (k4 := 1) (by decide +kernel) rfl ?_
  refine j_iload_n (k4 := 2) (by decide +kernel) rfl ?_
  refine j_callS' (own := 3) (i := 79) (y2 := 63) (d2 := 4) (mc := 0) (ms := 0) (kc := 0) (ks := 0) (As := [.ref (jAK g 11), .ref (g.2.2 + a0), .int (Int32.ofInt (fr : Int)), .int (Int32.ofInt (stp : Int))]) (st := []) (by decide +kernel) hcls (by decide +kernel) (by decide) (by decide +kernel) (show 4 = jnp 63 by decide +kernel) (by omega) (by decide) (spells_run (by decide) ht hfs hs (by omega)) (fun v h' hq => ?_)
  obtain ⟨rfl, hq⟩ := hq
  rcases hq with ⟨rfl, y11⟩ | ⟨rfl, n11⟩
  · refine j_if_eq (off := 6) (tgt := 70) (by decide +kernel) (by decide) (fun e => absurd e (by decide)) (fun _ => ?_)
    refine j_bipush (n := 17) (by decide +kernel) ?_
    refine j_ret (v := some (.int (Int8.ofInt 17).toInt32)) ⟨by decide +kernel, Or.inl (by decide +kernel)⟩ ⟨rfl, 11, by decide, fun i hi => ?_, fun _ => y11, by decide⟩ rfl
    have hi2 : i < 7 ∨ i = 7 ∨ i = 8 ∨ i = 9 ∨ i = 10 := by omega
    rcases hi2 with hi3 | rfl | rfl | rfl | rfl
    · exact hp i hi3
    · exact n7
    · exact n8
    · exact n9
    · exact n10
  refine j_if_eq (off := 6) (tgt := 70) (by decide +kernel) (by decide) (fun _ => ?_) (fun e => absurd rfl e)
  refine j_ldcS (i := 12) (by decide) (by decide +kernel) (by decide +kernel) ?_
  refine j_aload_n (k4 := 0) (by decide +kernel) rfl ?_
  refine j_iload_n (k4 := 1) (by decide +kernel) rfl ?_
  refine j_iload_n (k4 := 2) (by decide +kernel) rfl ?_
  refine j_callS' (own := 3) (i := 79) (y2 := 63) (d2 := 4) (mc := 0) (ms := 0) (kc := 0) (ks := 0) (As := [.ref (jAK g 12), .ref (g.2.2 + a0), .int (Int32.ofInt (fr : Int)), .int (Int32.ofInt (stp : Int))]) (st := []) (by decide +kernel) hcls (by decide +kernel) (by decide) (by decide +kernel) (show 4 = jnp 63 by decide +kernel) (by omega) (by decide) (spells_run (by decide) ht hfs hs (by omega)) (fun v h' hq => ?_)
  obtain ⟨rfl, hq⟩ := hq
  rcases hq with ⟨rfl, y12⟩ | ⟨rfl, n12⟩
  · refine j_if_eq (off := 8) (tgt := 86) (by decide +kernel) (by decide) (fun e => absurd e (by decide)) (fun _ => ?_)
    refine j_bipush (n := 18) (by decide +kernel) ?_
    refine j_goto (off := 4) (tgt := 87) (by decide +kernel) (by decide) ?_
    refine j_ret (v := some (.int (Int8.ofInt 18).toInt32)) ⟨by decide +kernel, Or.inl (by decide +kernel)⟩ ⟨rfl, 12, by decide, fun i hi => ?_, fun _ => y12, by decide⟩ rfl
    have hi2 : i < 7 ∨ i = 7 ∨ i = 8 ∨ i = 9 ∨ i = 10 ∨ i = 11 := by omega
    rcases hi2 with hi3 | rfl | rfl | rfl | rfl | rfl
    · exact hp i hi3
    · exact n7
    · exact n8
    · exact n9
    · exact n10
    · exact n11
  refine j_if_eq (off := 8) (tgt := 86) (by decide +kernel) (by decide) (fun _ => ?_) (fun e => absurd rfl e)
  refine j_iconst (n := 2) (by decide +kernel) ?_
  refine j_ret (v := some (.int (Int32.ofInt 2))) ⟨by decide +kernel, Or.inl (by decide +kernel)⟩ ⟨rfl, 13, by decide, fun i hi => ?_, fun q => absurd q (by decide), by decide⟩ rfl
  have hi2 : i < 7 ∨ i = 7 ∨ i = 8 ∨ i = 9 ∨ i = 10 ∨ i = 11 ∨ i = 12 := by omega
  rcases hi2 with q | rfl | rfl | rfl | rfl | rfl | rfl
  · exact hp i q
  · exact n7
  · exact n8
  · exact n9
  · exact n10
  · exact n11
  · exact n12
theorem testWordKind_run {a0 fr stp : Nat} {f : Nat → Int32} (ht : h[a0]? = some (.inl (0, 400, f))) (hfs : fr ≤ stp) (hs : stp ≤ 400) (hd1 : 5 ≤ d) (hp : ∀ i, i < 7 → ¬ spP f i fr stp) :
    jCal l g 75 d [.ref (g.2.2 + a0), .int (Int32.ofInt (fr : Int)), .int (Int32.ofInt (stp : Int))] h 0 0 (fun v h' => h' = h ∧ ∃ j, j ≤ 13 ∧ (∀ i, i < j → ¬ spP f i fr stp) ∧ (j < 13 → spP f j fr stp) ∧ v = some (.int (Int32.ofInt (if j < 13 then 6 + (j : Int) else 2)))) := jCal_of (by decide +kernel) (show 3 ≤ jmx 75 by decide +kernel) (testWordKind_j ht hfs hs hd1 hp)
theorem wordKind_j {a0 fr stp : Nat} {f : Nat → Int32} (ht : h[a0]? = some (.inl (0, 400, f))) (hfs : fr ≤ stp) (hs : stp ≤ 400) (hd1 : 6 ≤ d) :
    J l g 62 d 0 [some (.ref (g.2.2 + a0)), some (.int (Int32.ofInt (fr : Int))), some (.int (Int32.ofInt (stp : Int)))] [] h 0 0 (fun v h' => h' = h ∧ ∃ j, j ≤ 13 ∧ (∀ i, i < j → ¬ spP f i fr stp) ∧ (j < 13 → spP f j fr stp) ∧ v = some (.int (Int32.ofInt (if j < 13 then 6 + (j : Int) else 2)))) := by
  have hcls : jcN 3 = (jyN 62).cls := by decide +kernel
  refine j_ldcS (i := 0) (by decide) (by decide +kernel) (by decide +kernel) ?_
  refine j_aload_n (k4 := 0) (by decide +kernel) rfl ?_
  refine j_iload_n (k4 := 1) (by decide +kernel) rfl ?_
  refine j_iload_n (k4 := 2) (by decide +kernel) rfl ?_
  refine j_callS' (own := 3) (i := 79) (y2 := 63) (d2 := 4) (mc := 0) (ms := 0) (kc := 0) (ks := 0) (As := [.ref (jAK g 0), .ref (g.2.2 + a0), .int (Int32.ofInt (fr : Int)), .int (Int32.ofInt (stp : Int))]) (st := []) (by decide +kernel) hcls (by decide +kernel) (by decide) (by decide +kernel) (show 4 = jnp 63 by decide +kernel) (by omega) (by decide) (spells_run (by decide) ht hfs hs (by omega)) (fun v h' hq => ?_)
  obtain ⟨rfl, hq⟩ := hq
  rcases hq with ⟨rfl, y0⟩ | ⟨rfl, n0⟩
  · refine j_if_eq (off := 6) (tgt := 14) (by decide +kernel) (by decide) (fun e => absurd e (by decide)) (fun _ => ?_)
    refine j_bipush (n := 6) (by decide +kernel) ?_
    refine j_ret (v := some (.int (Int8.ofInt 6).toInt32)) ⟨by decide +kernel, Or.inl (by decide +kernel)⟩ ⟨rfl, 0, by decide, fun i hi => ?_, fun _ => y0, by decide⟩ rfl
    have hi2 : False := by omega
    exact absurd hi2 id
  refine j_if_eq (off := 6) (tgt := 14) (by decide +kernel) (by decide) (fun _ => ?_) (fun e => absurd rfl e)
  refine j_ldcS (i := 1) (by decide) (by decide +kernel) (by decide +kernel) ?_
  refine j_aload_n (k4 := 0) (by decide +kernel) rfl ?_
  refine j_iload_n (k4 := 1) (by decide +kernel) rfl ?_
  refine j_iload_n (k4 := 2) (by decide +kernel) rfl ?_
  refine j_callS' (own := 3) (i := 79) (y2 := 63) (d2 := 4) (mc := 0) (ms := 0) (kc := 0) (ks := 0) (As := [.ref (jAK g 1), .ref (g.2.2 + a0), .int (Int32.ofInt (fr : Int)), .int (Int32.ofInt (stp : Int))]) (st := []) (by decide +kernel) hcls (by decide +kernel) (by decide) (by decide +kernel) (show 4 = jnp 63 by decide +kernel) (by omega) (by decide) (spells_run (by decide) ht hfs hs (by omega)) (fun v h' hq => ?_)
  obtain ⟨rfl, hq⟩ := hq
  rcases hq with ⟨rfl, y1⟩ | ⟨rfl, n1⟩
  · refine j_if_eq (off := 6) (tgt := 28) (by decide +kernel) (by decide) (fun e => absurd e (by decide)) (fun _ => ?_)
    refine j_bipush (n := 7) (by decide +kernel) ?_
    refine j_ret (v := some (.int (Int8.ofInt 7).toInt32)) ⟨by decide +kernel, Or.inl (by decide +kernel)⟩ ⟨rfl, 1, by decide, fun i hi => ?_, fun _ => y1, by decide⟩ rfl
    have hi2 : i = 0 := by omega
    subst hi2
    exact n0
  refine j_if_eq (off := 6) (tgt := 28) (by decide +kernel) (by decide) (fun _ => ?_) (fun e => absurd rfl e)
  refine j_ldcS (i := 2) (by decide) (by decide +kernel) (by decide +kernel) ?_
  refine j_aload_n (k4 := 0) (by decide +kernel) rfl ?_
  refine j_iload_n (k4 := 1) (by decide +kernel) rfl ?_
  refine j_iload_n (k4 := 2) (by decide +kernel) rfl ?_
  refine j_callS' (own := 3) (i := 79) (y2 := 63) (d2 := 4) (mc := 0) (ms := 0) (kc := 0) (ks := 0) (As := [.ref (jAK g 2), .ref (g.2.2 + a0), .int (Int32.ofInt (fr : Int)), .int (Int32.ofInt (stp : Int))]) (st := []) (by decide +kernel) hcls (by decide +kernel) (by decide) (by decide +kernel) (show 4 = jnp 63 by decide +kernel) (by omega) (by decide) (spells_run (by decide) ht hfs hs (by omega)) (fun v h' hq => ?_)
  obtain ⟨rfl, hq⟩ := hq
  rcases hq with ⟨rfl, y2⟩ | ⟨rfl, n2⟩
  · refine j_if_eq (off := 6) (tgt := 42) (by decide +kernel) (by decide) (fun e => absurd e (by decide)) (fun _ => ?_)
    refine j_bipush (n := 8) (by decide +kernel) ?_
    refine j_ret (v := some (.int (Int8.ofInt 8).toInt32)) ⟨by decide +kernel, Or.inl (by decide +kernel)⟩ ⟨rfl, 2, by decide, fun i hi => ?_, fun _ => y2, by decide⟩ rfl
    have hi2 : i = 0 ∨ i = 1 := by omega
    rcases hi2 with rfl | rfl
    · exact n0
    · exact n1
  refine j_if_eq (off := 6) (tgt := 42) (by decide +kernel) (by decide) (fun _ => ?_) (fun e => absurd rfl e)
  refine j_ldcS (i := 3) (by decide) (by decide +kernel) (by decide +kernel) ?_
  refine j_aload_n (k4 := 0) (by decide +kernel) rfl ?_
  refine j_iload_n (k4 := 1) (by decide +kernel) rfl ?_
  refine j_iload_n (k4 := 2) (by decide +kernel) rfl ?_
  refine j_callS' (own := 3) (i := 79) (y2 := 63) (d2 := 4) (mc := 0) (ms := 0) (kc := 0) (ks := 0) (As := [.ref (jAK g 3), .ref (g.2.2 + a0), .int (Int32.ofInt (fr : Int)), .int (Int32.ofInt (stp : Int))]) (st := []) (by decide +kernel) hcls (by decide +kernel) (by decide) (by decide +kernel) (show 4 = jnp 63 by decide +kernel) (by omega) (by decide) (spells_run (by decide) ht hfs hs (by omega)) (fun v h' hq => ?_)
  obtain ⟨rfl, hq⟩ := hq
  rcases hq with ⟨rfl, y3⟩ | ⟨rfl, n3⟩
  · refine j_if_eq (off := 6) (tgt := 56) (by decide +kernel) (by decide) (fun e => absurd e (by decide)) (fun _ => ?_)
    refine j_bipush (n := 9) (by decide +kernel) ?_
    refine j_ret (v := some (.int (Int8.ofInt 9).toInt32)) ⟨by decide +kernel, Or.inl (by decide +kernel)⟩ ⟨rfl, 3, by decide, fun i hi => ?_, fun _ => y3, by decide⟩ rfl
    have hi2 : i = 0 ∨ i = 1 ∨ i = 2 := by omega
    rcases hi2 with rfl | rfl | rfl
    · exact n0
    · exact n1
    · exact n2
  refine j_if_eq (off := 6) (tgt := 56) (by decide +kernel) (by decide) (fun _ => ?_) (fun e => absurd rfl e)
  refine j_ldcS (i := 4) (by decide) (by decide +kernel) (by decide +kernel) ?_
  refine j_aload_n (k4 := 0) (by decide +kernel) rfl ?_
  refine j_iload_n (k4 := 1) (by decide +kernel) rfl ?_
  refine j_iload_n (k4 := 2) (by decide +kernel) rfl ?_
  refine j_callS' (own := 3) (i := 79) (y2 := 63) (d2 := 4) (mc := 0) (ms := 0) (kc := 0) (ks := 0) (As := [.ref (jAK g 4), .ref (g.2.2 + a0), .int (Int32.ofInt (fr : Int)), .int (Int32.ofInt (stp : Int))]) (st := []) (by decide +kernel) hcls (by decide +kernel) (by decide) (by decide +kernel) (show 4 = jnp 63 by decide +kernel) (by omega) (by decide) (spells_run (by decide) ht hfs hs (by omega)) (fun v h' hq => ?_)
  obtain ⟨rfl, hq⟩ := hq
  rcases hq with ⟨rfl, y4⟩ | ⟨rfl, n4⟩
  · refine j_if_eq (off := 6) (tgt := 70) (by decide +kernel) (by decide) (fun e => absurd e (by decide)) (fun _ => ?_)
    refine j_bipush (n := 10) (by decide +kernel) ?_
    refine j_ret (v := some (.int (Int8.ofInt 10).toInt32)) ⟨by decide +kernel, Or.inl (by decide +kernel)⟩ ⟨rfl, 4, by decide, fun i hi => ?_, fun _ => y4, by decide⟩ rfl
    have hi2 : i = 0 ∨ i = 1 ∨ i = 2 ∨ i = 3 := by omega
    rcases hi2 with rfl | rfl | rfl | rfl
    · exact n0
    · exact n1
    · exact n2
    · exact n3
  refine j_if_eq (off := 6) (tgt := 70) (by decide +kernel) (by decide) (fun _ => ?_) (fun e => absurd rfl e)
  refine j_ldcS (i := 5) (by decide) (by decide +kernel) (by decide +kernel) ?_
  refine j_aload_n (k4 := 0) (by decide +kernel) rfl ?_
  refine j_iload_n (k4 := 1) (by decide +kernel) rfl ?_
  refine j_iload_n (k4 := 2) (by decide +kernel) rfl ?_
  refine j_callS' (own := 3) (i := 79) (y2 := 63) (d2 := 4) (mc := 0) (ms := 0) (kc := 0) (ks := 0) (As := [.ref (jAK g 5), .ref (g.2.2 + a0), .int (Int32.ofInt (fr : Int)), .int (Int32.ofInt (stp : Int))]) (st := []) (by decide +kernel) hcls (by decide +kernel) (by decide) (by decide +kernel) (show 4 = jnp 63 by decide +kernel) (by omega) (by decide) (spells_run (by decide) ht hfs hs (by omega)) (fun v h' hq => ?_)
  obtain ⟨rfl, hq⟩ := hq
  rcases hq with ⟨rfl, y5⟩ | ⟨rfl, n5⟩
  · refine j_if_eq (off := 6) (tgt := 84) (by decide +kernel) (by decide) (fun e => absurd e (by decide)) (fun _ => ?_)
    refine j_bipush (n := 11) (by decide +kernel) ?_
    refine j_ret (v := some (.int (Int8.ofInt 11).toInt32)) ⟨by decide +kernel, Or.inl (by decide +kernel)⟩ ⟨rfl, 5, by decide, fun i hi => ?_, fun _ => y5, by decide⟩ rfl
    have hi2 : i = 0 ∨ i = 1 ∨ i = 2 ∨ i = 3 ∨ i = 4 := by omega
    rcases hi2 with rfl | rfl | rfl | rfl | rfl
    · exact n0
    · exact n1
    · exact n2
    · exact n3
    · exact n4
  refine j_if_eq (off := 6) (tgt := 84) (by decide +kernel) (by decide) (fun _ => ?_) (fun e => absurd rfl e)
  refine j_ldcS (i := 6) (by decide) (by decide +kernel) (by decide +kernel) ?_
  refine j_aload_n (k4 := 0) (by decide +kernel) rfl ?_
  refine j_iload_n (k4 := 1) (by decide +kernel) rfl ?_
  refine j_iload_n (k4 := 2) (by decide +kernel) rfl ?_
  refine j_callS' (own := 3) (i := 79) (y2 := 63) (d2 := 4) (mc := 0) (ms := 0) (kc := 0) (ks := 0) (As := [.ref (jAK g 6), .ref (g.2.2 + a0), .int (Int32.ofInt (fr : Int)), .int (Int32.ofInt (stp : Int))]) (st := []) (by decide +kernel) hcls (by decide +kernel) (by decide) (by decide +kernel) (show 4 = jnp 63 by decide +kernel) (by omega) (by decide) (spells_run (by decide) ht hfs hs (by omega)) (fun v h' hq => ?_)
  obtain ⟨rfl, hq⟩ := hq
  rcases hq with ⟨rfl, y6⟩ | ⟨rfl, n6⟩
  · refine j_if_eq (off := 6) (tgt := 98) (by decide +kernel) (by decide) (fun e => absurd e (by decide)) (fun _ => ?_)
    refine j_bipush (n := 12) (by decide +kernel) ?_
    refine j_ret (v := some (.int (Int8.ofInt 12).toInt32)) ⟨by decide +kernel, Or.inl (by decide +kernel)⟩ ⟨rfl, 6, by decide, fun i hi => ?_, fun _ => y6, by decide⟩ rfl
    have hi2 : i = 0 ∨ i = 1 ∨ i = 2 ∨ i = 3 ∨ i = 4 ∨ i = 5 := by omega
    rcases hi2 with rfl | rfl | rfl | rfl | rfl | rfl
    · exact n0
    · exact n1
    · exact n2
    · exact n3
    · exact n4
    · exact n5
  refine j_if_eq (off := 6) (tgt := 98) (by decide +kernel) (by decide) (fun _ => ?_) (fun e => absurd rfl e)
  refine j_aload_n (k4 := 0) (by decide +kernel) rfl ?_
  refine j_iload_n (k4 := 1) (by decide +kernel) rfl ?_
  refine j_iload_n (k4 := 2) (by decide +kernel) rfl ?_
  refine j_callS' (own := 3) (i := 95) (y2 := 75) (d2 := 5) (mc := 0) (ms := 0) (kc := 0) (ks := 0) (As := [.ref (g.2.2 + a0), .int (Int32.ofInt (fr : Int)), .int (Int32.ofInt (stp : Int))]) (st := []) (by decide +kernel) hcls (by decide +kernel) (by decide) (by decide +kernel) (show 3 = jnp 75 by decide +kernel) (by omega) (by decide) (testWordKind_run ht hfs hs (by omega) (fun i hi => ?_)) (fun v h' hq => ?_)
  · have hi2 : i = 0 ∨ i = 1 ∨ i = 2 ∨ i = 3 ∨ i = 4 ∨ i = 5 ∨ i = 6 := by omega
    rcases hi2 with rfl | rfl | rfl | rfl | rfl | rfl | rfl
    · exact n0
    · exact n1
    · exact n2
    · exact n3
    · exact n4
    · exact n5
    · exact n6
  · obtain ⟨rfl, j, j1, j2, j3, rfl⟩ := hq
    exact j_ret (v := some (.int (Int32.ofInt (if j < 13 then 6 + (j : Int) else 2)))) ⟨by decide +kernel, Or.inl (by decide +kernel)⟩ ⟨rfl, j, j1, j2, j3, rfl⟩ rfl
theorem wordKind_run {a0 fr stp : Nat} {f : Nat → Int32} (ht : h[a0]? = some (.inl (0, 400, f))) (hfs : fr ≤ stp) (hs : stp ≤ 400) (hd1 : 6 ≤ d) :
    jCal l g 62 d [.ref (g.2.2 + a0), .int (Int32.ofInt (fr : Int)), .int (Int32.ofInt (stp : Int))] h 0 0 (fun v h' => h' = h ∧ ∃ j, j ≤ 13 ∧ (∀ i, i < j → ¬ spP f i fr stp) ∧ (j < 13 → spP f j fr stp) ∧ v = some (.int (Int32.ofInt (if j < 13 then 6 + (j : Int) else 2)))) := jCal_of (by decide +kernel) (show 3 ≤ jmx 62 by decide +kernel) (wordKind_j ht hfs hs hd1)
end TK
