section
/-! the parser's tokens: sortOf, valueOf, spells, wordKind -/
section TK
variable {l : Launch} {g : jG} {d : Nat} {h : jH}
theorem le32 {a b : Int32} : a ≤ b ↔ a.toInt ≤ b.toInt := Int32.le_iff_toInt_le
theorem c8_10 : ((Int8.ofInt 10).toInt32).toInt = 10 := by decide
theorem c8_32 : ((Int8.ofInt 32).toInt32).toInt = 32 := by decide
theorem c8_48 : ((Int8.ofInt 48).toInt32).toInt = 48 := by decide
theorem c8_57 : ((Int8.ofInt 57).toInt32).toInt = 57 := by decide
theorem c8_97 : ((Int8.ofInt 97).toInt32).toInt = 97 := by decide
theorem c8_122 : ((Int8.ofInt 122).toInt32).toInt = 122 := by decide
theorem c16_1000 : ((Int16.ofInt 1000).toInt32).toInt = 1000 := by decide
def soF (z : Int) : Int := if z = 32 then 0 else if 97 ≤ z ∧ z ≤ 122 then 1 else if 48 ≤ z ∧ z ≤ 57 then 2 else 3
theorem soF_b (z : Int) : 0 ≤ soF z ∧ soF z ≤ 3 := by
  unfold soF
  repeat' split
  all_goals omega
theorem sort_run {x : Int32} : jCal l g 61 d [.int x] h 0 0 (fun v h' => h' = h ∧ v = some (.int (Int32.ofInt (soF x.toInt)))) := by
  refine jCal_of (by decide +kernel) (show 1 ≤ jmx 61 by decide +kernel) ?_
  show J l g 61 d 0 [some (.int x)] [] h 0 0 _
  have fin3 : (¬ x.toInt = 32) → (¬ (97 ≤ x.toInt ∧ x.toInt ≤ 122)) → (¬ (48 ≤ x.toInt ∧ x.toInt ≤ 57)) → J l g 61 d 38 [some (.int x)] [] h 0 0 (fun v h' => h' = h ∧ v = some (.int (Int32.ofInt (soF x.toInt)))) := fun a b c => by
    refine j_iconst (n := 3) (dQ (by decide +kernel)) ?_
    exact j_ret (v := some (.int (Int32.ofInt 3))) ⟨by decide +kernel, Or.inl (by decide +kernel)⟩ ⟨rfl, by rw [soF, if_neg a, if_neg b, if_neg c]⟩ rfl
  have dig : (¬ x.toInt = 32) → (¬ (97 ≤ x.toInt ∧ x.toInt ≤ 122)) → J l g 61 d 22 [some (.int x)] [] h 0 0 (fun v h' => h' = h ∧ v = some (.int (Int32.ofInt (soF x.toInt)))) := fun a b => by
    refine j_iload_n (k4 := 0) (dQ (by decide +kernel)) rfl ?_
    refine j_bipush (n := 48) (dQ (by decide +kernel)) ?_
    refine j_icmp_lt (off := 13) (tgt := 38) (dQ (by decide +kernel)) (by decide) (fun e => fin3 a b (fun q => by have := i32_lt.mp e; rw [c8_48] at this; omega)) (fun e => ?_)
    refine j_iload_n (k4 := 0) (dQ (by decide +kernel)) rfl ?_
    refine j_bipush (n := 57) (dQ (by decide +kernel)) ?_
    refine j_icmp_gt (off := 7) (tgt := 38) (dQ (by decide +kernel)) (by decide) (fun e2 => fin3 a b (fun q => by have := i32_lt.mp e2; rw [c8_57] at this; omega)) (fun e2 => ?_)
    refine j_iconst (n := 2) (dQ (by decide +kernel)) ?_
    refine j_goto (off := 4) (tgt := 39) (dQ (by decide +kernel)) (by decide) ?_
    have f1 : 48 ≤ x.toInt := by
      have q1 := fun q => e (i32_lt.mpr q)
      rw [c8_48] at q1
      exact Int.not_lt.mp q1
    have f2 : x.toInt ≤ 57 := by
      have q1 := fun q => e2 (i32_lt.mpr q)
      rw [c8_57] at q1
      exact Int.not_lt.mp q1
    exact j_ret (v := some (.int (Int32.ofInt 2))) ⟨by decide +kernel, Or.inl (by decide +kernel)⟩ ⟨rfl, by rw [soF, if_neg a, if_neg b, if_pos ⟨f1, f2⟩]⟩ rfl
  refine j_iload_n (k4 := 0) (dQ (by decide +kernel)) rfl ?_
  refine j_bipush (n := 32) (dQ (by decide +kernel)) ?_
  refine j_icmp_ne (off := 5) (tgt := 8) (dQ (by decide +kernel)) (by decide) (fun e => ?_) (fun e => ?_)
  · have a : ¬ x.toInt = 32 := fun q => e (i32_eq (q.trans c8_32.symm))
    refine j_iload_n (k4 := 0) (dQ (by decide +kernel)) rfl ?_
    refine j_bipush (n := 97) (dQ (by decide +kernel)) ?_
    refine j_icmp_lt (off := 11) (tgt := 22) (dQ (by decide +kernel)) (by decide) (fun e => dig a (fun q => by have := i32_lt.mp e; rw [c8_97] at this; omega)) (fun e => ?_)
    refine j_iload_n (k4 := 0) (dQ (by decide +kernel)) rfl ?_
    refine j_bipush (n := 122) (dQ (by decide +kernel)) ?_
    refine j_icmp_gt (off := 5) (tgt := 22) (dQ (by decide +kernel)) (by decide) (fun e2 => dig a (fun q => by have := i32_lt.mp e2; rw [c8_122] at this; omega)) (fun e2 => ?_)
    refine j_iconst (n := 1) (dQ (by decide +kernel)) ?_
    have f1 : 97 ≤ x.toInt := by
      have q1 := fun q => e (i32_lt.mpr q)
      rw [c8_97] at q1
      exact Int.not_lt.mp q1
    have f2 : x.toInt ≤ 122 := by
      have q1 := fun q => e2 (i32_lt.mpr q)
      rw [c8_122] at q1
      exact Int.not_lt.mp q1
    exact j_ret (v := some (.int (Int32.ofInt 1))) ⟨by decide +kernel, Or.inl (by decide +kernel)⟩ ⟨rfl, by rw [soF, if_neg a, if_pos ⟨f1, f2⟩]⟩ rfl
  · have a : x.toInt = 32 := by rw [Classical.not_not.mp e]; exact c8_32
    refine j_iconst (n := 0) (dQ (by decide +kernel)) ?_
    exact j_ret (v := some (.int (Int32.ofInt 0))) ⟨by decide +kernel, Or.inl (by decide +kernel)⟩ ⟨rfl, by rw [soF, if_pos a]⟩ rfl
def vaF (f : Nat → Int32) (fr : Nat) : Nat → Int
  | 0 => 0
  | n + 1 => if 1000 < vaF f fr n * 10 + (f (fr + n)).toInt - 48 then 1000 else vaF f fr n * 10 + (f (fr + n)).toInt - 48
theorem vaF_b {f : Nat → Int32} {fr : Nat} : ∀ n, (∀ j, j < n → 48 ≤ (f (fr + j)).toInt ∧ (f (fr + j)).toInt ≤ 57) → 0 ≤ vaF f fr n ∧ vaF f fr n ≤ 1000 := by
  intro n
  induction n with
  | zero => intro _; rw [vaF]; omega
  | succ n ih =>
    intro hj
    have h1 := ih (fun j q => hj j (by omega))
    have h2 := hj n (by omega)
    rw [vaF]
    split <;> omega
theorem value_run {a0 fr stp : Nat} {f : Nat → Int32} (ht : h[a0]? = some (.inl (0, 400, f))) (hfs : fr ≤ stp) (hs : stp ≤ 400) (hdg : ∀ j, fr ≤ j → j < stp → 48 ≤ (f j).toInt ∧ (f j).toInt ≤ 57) (hd1 : 1 ≤ d) :
    jCal l g 77 d [.ref (g.2.2 + a0), .int (Int32.ofInt (fr : Int)), .int (Int32.ofInt (stp : Int))] h 0 0 (fun v h' => h' = h ∧ v = some (.int (Int32.ofInt (vaF f fr (stp - fr))))) := by
  refine jCal_of (by decide +kernel) (show 3 ≤ jmx 77 by decide +kernel) ?_
  show J l g 77 d 0 [some (.ref (g.2.2 + a0)), some (.int (Int32.ofInt (fr : Int))), some (.int (Int32.ofInt (stp : Int))), none, none] [] h 0 0 _
  have hcls : jcN 3 = (jyN 77).cls := by decide +kernel
  have loop : ∀ (k n : Nat), stp - (fr + n) = k → fr + n ≤ stp → J l g 77 d 5 [some (.ref (g.2.2 + a0)), some (.int (Int32.ofInt (fr : Int))), some (.int (Int32.ofInt (stp : Int))), some (.int (Int32.ofInt (vaF f fr n))), some (.int (Int32.ofInt ((fr + n : Nat) : Int)))] [] h 0 0 (fun v h' => h' = h ∧ v = some (.int (Int32.ofInt (vaF f fr (stp - fr))))) := by
    intro k
    induction k with
    | zero =>
      intro n h1 h2
      have e1 : stp - fr = n := by omega
      refine j_iload (i := 4) (dQ (by decide +kernel)) rfl ?_
      refine j_iload_n (k4 := 2) (dQ (by decide +kernel)) rfl ?_
      refine j_icmp_ge (off := 28) (tgt := 36) (dQ (by decide +kernel)) (by decide) (fun _ => ?_) (fun q => absurd (le32.mpr (by rw [i32_n (by omega), i32_n (by omega)]; omega)) q)
      refine j_iload_n (k4 := 3) (dQ (by decide +kernel)) rfl ?_
      exact j_ret (v := some (.int (Int32.ofInt (vaF f fr n)))) ⟨by decide +kernel, Or.inl (by decide +kernel)⟩ ⟨rfl, by rw [e1]⟩ rfl
    | succ k ih =>
      intro n h1 h2
      have hb := vaF_b (f := f) (fr := fr) n (fun j q => hdg (fr + j) (by omega) (by omega))
      have hb2 := hdg (fr + n) (by omega) (by omega)
      have hi : (Int32.ofInt ((fr + n : Nat) : Int)).toInt = ((fr + n : Nat) : Int) := i32_n (by omega)
      have hv : (Int32.ofInt (vaF f fr n)).toInt = vaF f fr n := i32_ofInt (by omega) (by omega)
      refine j_iload (i := 4) (dQ (by decide +kernel)) rfl ?_
      refine j_iload_n (k4 := 2) (dQ (by decide +kernel)) rfl ?_
      refine j_icmp_ge (off := 28) (tgt := 36) (dQ (by decide +kernel)) (by decide) (fun q => absurd (le32.mp q) (by rw [i32_n (by omega), i32_n (by omega)]; omega)) (fun _ => ?_)

      refine j_iload_n (k4 := 3) (dQ (by decide +kernel)) rfl ?_
      refine j_bipush (n := 10) (dQ (by decide +kernel)) ?_
      refine j_imul (dQ (by decide +kernel)) ?_
      refine j_aload_n (k4 := 0) (dQ (by decide +kernel)) rfl ?_
      refine j_iload (i := 4) (dQ (by decide +kernel)) rfl ?_
      refine j_iald (dQ (by decide +kernel)) ht (i32_in (by rw [hi]; omega) (by rw [hi]; omega)) ?_
      rw [i32_at hi]
      refine j_iadd (dQ (by decide +kernel)) ?_
      refine j_bipush (n := 48) (dQ (by decide +kernel)) ?_
      refine j_isub (dQ (by decide +kernel)) ?_
      refine j_sipush (n := 1000) (dQ (by decide +kernel)) ?_
      refine j_mmin (own := 3) (i := 71) (dQ (by decide +kernel)) hcls (by decide +kernel) hd1 (by decide) ?_
      have m1 : (Int32.ofInt (vaF f fr n) * (Int8.ofInt 10).toInt32).toInt = vaF f fr n * 10 := by rw [i32_mul (by rw [hv, c8_10]; omega) (by rw [hv, c8_10]; omega), hv, c8_10]
      have m2 : (Int32.ofInt (vaF f fr n) * (Int8.ofInt 10).toInt32 + f (fr + n)).toInt = vaF f fr n * 10 + (f (fr + n)).toInt := by rw [i32_add (by rw [m1]; omega) (by rw [m1]; omega), m1]
      have m3 : (Int32.ofInt (vaF f fr n) * (Int8.ofInt 10).toInt32 + f (fr + n) - (Int8.ofInt 48).toInt32).toInt = vaF f fr n * 10 + (f (fr + n)).toInt - 48 := by rw [i32_sub (by rw [m2, c8_48]; omega) (by rw [m2, c8_48]; omega), m2, c8_48]
      have m4 : (if (Int16.ofInt 1000).toInt32 < Int32.ofInt (vaF f fr n) * (Int8.ofInt 10).toInt32 + f (fr + n) - (Int8.ofInt 48).toInt32 then (Int16.ofInt 1000).toInt32 else Int32.ofInt (vaF f fr n) * (Int8.ofInt 10).toInt32 + f (fr + n) - (Int8.ofInt 48).toInt32) = Int32.ofInt (vaF f fr (n + 1)) := by
        rw [vaF]
        by_cases hq : 1000 < vaF f fr n * 10 + (f (fr + n)).toInt - 48
        · rw [if_pos hq, if_pos (i32_lt.mpr (by rw [m3, c16_1000]; exact hq))]
          decide
        · rw [if_neg hq, if_neg (fun z => hq (by have := i32_lt.mp z; rw [m3, c16_1000] at this; exact this))]
          exact i32_eq (by rw [m3, i32_ofInt (by omega) (by omega)])
      rw [m4]
      refine j_istore_n (k4 := 3) (dQ (by decide +kernel)) (by decide +kernel) ?_
      refine j_iinc (i := 4) (n := 1) (dQ (by decide +kernel)) (by decide +kernel) rfl ?_
      refine j_goto (off := -28) (tgt := 5) (dQ (by decide +kernel)) (by decide) ?_
      have e2 : Int32.ofInt ((fr + n : Nat) : Int) + Int32.ofInt 1 = Int32.ofInt ((fr + (n + 1) : Nat) : Int) := i32_eq (by rw [i32_addn hi (by omega) (by omega), i32_n (by omega)]; omega)
      show J l g 77 d 5 [some (.ref (g.2.2 + a0)), some (.int (Int32.ofInt (fr : Int))), some (.int (Int32.ofInt (stp : Int))), some (.int (Int32.ofInt (vaF f fr (n + 1)))), some (.int (Int32.ofInt ((fr + n : Nat) : Int) + Int32.ofInt 1))] [] h 0 0 _
      rw [e2]
      exact ih (n + 1) (by omega) (by omega)
  refine j_iconst (n := 0) (dQ (by decide +kernel)) ?_
  refine j_istore_n (k4 := 3) (dQ (by decide +kernel)) (by decide +kernel) ?_
  refine j_iload_n (k4 := 1) (dQ (by decide +kernel)) rfl ?_
  refine j_istore (i := 4) (dQ (by decide +kernel)) (by decide +kernel) ?_
  exact loop (stp - fr) 0 (by omega) (by omega)
/-- the text from fr to stp is the i-th word -/
def spP (f : Nat → Int32) (i fr stp : Nat) : Prop := stp = fr + jsl.getD i 0 ∧ ∀ k, k < jsl.getD i 0 → f (fr + k) = sgCh i k
theorem spells_run {i a0 fr stp : Nat} {f : Nat → Int32} (hi : i < 13) (ht : h[a0]? = some (.inl (0, 400, f))) (hfs : fr ≤ stp) (hs : stp ≤ 400) (hd1 : 4 ≤ d) :
    jCal l g 63 d [.ref (jAK g i), .ref (g.2.2 + a0), .int (Int32.ofInt (fr : Int)), .int (Int32.ofInt (stp : Int))] h 0 0 (fun v h' => h' = h ∧ ((v = some (.int 1) ∧ spP f i fr stp) ∨ (v = some (.int 0) ∧ ¬ spP f i fr stp))) := by
  refine jCal_of (by decide +kernel) (show 4 ≤ jmx 63 by decide +kernel) ?_
  show J l g 63 d 0 [some (.ref (jAK g i)), some (.ref (g.2.2 + a0)), some (.int (Int32.ofInt (fr : Int))), some (.int (Int32.ofInt (stp : Int))), none] [] h 0 0 _
  have hcls : jcN 3 = (jyN 63).cls := by decide +kernel
  obtain ⟨a1, a2, a3⟩ := jsl_all i hi
  have hfr : (Int32.ofInt (fr : Int)).toInt = (fr : Int) := i32_n (by omega)
  have hst : (Int32.ofInt (stp : Int)).toInt = (stp : Int) := i32_n (by omega)
  have no : ∀ (pc : Nat) (o4 : Option Value), (pc = 10 ∨ pc = 39) → ¬ spP f i fr stp → J l g 63 d pc [some (.ref (jAK g i)), some (.ref (g.2.2 + a0)), some (.int (Int32.ofInt (fr : Int))), some (.int (Int32.ofInt (stp : Int))), o4] [] h 0 0 (fun v h' => h' = h ∧ ((v = some (.int 1) ∧ spP f i fr stp) ∨ (v = some (.int 0) ∧ ¬ spP f i fr stp))) := by
    intro pc o4 hpc hno
    rcases hpc with rfl | rfl
    · refine j_iconst (n := 0) (dQ (by decide +kernel)) ?_
      exact j_ret (v := some (.int 0)) ⟨by decide +kernel, Or.inr (Or.inl ⟨by decide +kernel, Or.inl rfl⟩)⟩ ⟨rfl, Or.inr ⟨rfl, hno⟩⟩ rfl
    · refine j_iconst (n := 0) (dQ (by decide +kernel)) ?_
      exact j_ret (v := some (.int 0)) ⟨by decide +kernel, Or.inr (Or.inl ⟨by decide +kernel, Or.inl rfl⟩)⟩ ⟨rfl, Or.inr ⟨rfl, hno⟩⟩ rfl
  have loop : stp = fr + jsl.getD i 0 → ∀ (q k : Nat), jsl.getD i 0 - k = q → k ≤ jsl.getD i 0 → (∀ j, j < k → f (fr + j) = sgCh i j) → J l g 63 d 15 [some (.ref (jAK g i)), some (.ref (g.2.2 + a0)), some (.int (Int32.ofInt (fr : Int))), some (.int (Int32.ofInt (stp : Int))), some (.int (Int32.ofInt (k : Int)))] [] h 0 0 (fun v h' => h' = h ∧ ((v = some (.int 1) ∧ spP f i fr stp) ∨ (v = some (.int 0) ∧ ¬ spP f i fr stp))) := by
    intro hsl q
    induction q with
    | zero =>
      intro k h1 h2 h3
      refine j_iload (i := 4) (dQ (by decide +kernel)) rfl ?_
      refine j_aload_n (k4 := 0) (dQ (by decide +kernel)) rfl ?_
      refine j_callVS (own := 3) (i := 110) (y2 := 64) (d2 := 1) (mc := 0) (ms := 0) (kc := 0) (ks := 0) (As := []) hi (by decide +kernel) (by decide +kernel) hcls (by decide +kernel) (by decide) (by decide +kernel) (by decide +kernel) (by omega) (by show (1 + 0 : Nat) ≤ 8; decide) (st_len hi (by omega)) (fun v h' hq => ?_)
      obtain ⟨rfl, rfl⟩ := hq
      refine j_icmp_ge (off := 26) (tgt := 47) (dQ (by decide +kernel)) (by decide) (fun _ => ?_) (fun q => absurd (le32.mpr (by rw [a3, i32_n (by omega)]; omega)) q)
      refine j_iconst (n := 1) (dQ (by decide +kernel)) ?_
      exact j_ret (v := some (.int 1)) ⟨by decide +kernel, Or.inr (Or.inl ⟨by decide +kernel, Or.inr rfl⟩)⟩ ⟨rfl, Or.inl ⟨rfl, hsl, fun j hj => h3 j (by omega)⟩⟩ rfl
    | succ q ih =>
      intro k h1 h2 h3
      have hk : (Int32.ofInt (k : Int)).toInt = (k : Int) := i32_n (by omega)
      have hfk : (Int32.ofInt (fr : Int) + Int32.ofInt (k : Int)).toInt = ((fr + k : Nat) : Int) := by rw [i32_add (by rw [hfr, hk]; omega) (by rw [hfr, hk]; omega), hfr, hk]; omega
      refine j_iload (i := 4) (dQ (by decide +kernel)) rfl ?_
      refine j_aload_n (k4 := 0) (dQ (by decide +kernel)) rfl ?_
      refine j_callVS (own := 3) (i := 110) (y2 := 64) (d2 := 1) (mc := 0) (ms := 0) (kc := 0) (ks := 0) (As := []) hi (by decide +kernel) (by decide +kernel) hcls (by decide +kernel) (by decide) (by decide +kernel) (by decide +kernel) (by omega) (by show (1 + 0 : Nat) ≤ 8; decide) (st_len hi (by omega)) (fun v h' hq => ?_)
      obtain ⟨rfl, rfl⟩ := hq
      refine j_icmp_ge (off := 26) (tgt := 47) (dQ (by decide +kernel)) (by decide) (fun q => absurd (le32.mp q) (by rw [a3, hk]; omega)) (fun _ => ?_)
      refine j_aload_n (k4 := 1) (dQ (by decide +kernel)) rfl ?_
      refine j_iload_n (k4 := 2) (dQ (by decide +kernel)) rfl ?_
      refine j_iload (i := 4) (dQ (by decide +kernel)) rfl ?_
      refine j_iadd (dQ (by decide +kernel)) ?_
      refine j_iald (dQ (by decide +kernel)) ht (i32_in (by rw [hfk]; omega) (by rw [hfk]; omega)) ?_
      rw [i32_at hfk]
      refine j_aload_n (k4 := 0) (dQ (by decide +kernel)) rfl ?_
      refine j_iload (i := 4) (dQ (by decide +kernel)) rfl ?_
      refine j_callVS (own := 3) (i := 116) (y2 := 66) (d2 := 3) (mc := 0) (ms := 0) (kc := 0) (ks := 0) (As := [.int (Int32.ofInt (k : Int))]) hi (by decide +kernel) (by decide +kernel) hcls (by decide +kernel) (by decide) (by decide +kernel) (show 1 = jnp 66 by decide +kernel) (by omega) (by show (1 + 0 : Nat) ≤ 8; decide) (st_chr hi (by omega) (by omega)) (fun v h' hq => ?_)
      obtain ⟨rfl, rfl⟩ := hq
      refine j_icmp_eq (off := 5) (tgt := 41) (dQ (by decide +kernel)) (by decide) (fun e => ?_) (fun e => ?_)
      · refine j_iinc (i := 4) (n := 1) (dQ (by decide +kernel)) (by decide +kernel) rfl ?_
        refine j_goto (off := -29) (tgt := 15) (dQ (by decide +kernel)) (by decide) ?_
        have e2 : Int32.ofInt (k : Int) + Int32.ofInt 1 = Int32.ofInt ((k + 1 : Nat) : Int) := i32_eq (by rw [i32_addn hk (by omega) (by omega), i32_n (by omega)]; omega)
        show J l g 63 d 15 [some (.ref (jAK g i)), some (.ref (g.2.2 + a0)), some (.int (Int32.ofInt (fr : Int))), some (.int (Int32.ofInt (stp : Int))), some (.int (Int32.ofInt (k : Int) + Int32.ofInt 1))] [] _ 0 0 _
        rw [e2]
        exact ih (k + 1) (by omega) (by omega) (fun j hj => by
          rcases Nat.lt_or_ge j k with hl | hl
          · exact h3 j hl
          · have : j = k := by omega
            subst this
            exact e)
      · exact no 39 _ (Or.inr rfl) (fun hp => e (hp.2 k (by omega)))
  refine j_iload_n (k4 := 3) (dQ (by decide +kernel)) rfl ?_
  refine j_iload_n (k4 := 2) (dQ (by decide +kernel)) rfl ?_
  refine j_isub (dQ (by decide +kernel)) ?_
  refine j_aload_n (k4 := 0) (dQ (by decide +kernel)) rfl ?_
  refine j_callVS (own := 3) (i := 110) (y2 := 64) (d2 := 1) (mc := 0) (ms := 0) (kc := 0) (ks := 0) (As := []) hi (by decide +kernel) (by decide +kernel) hcls (by decide +kernel) (by decide) (by decide +kernel) (by decide +kernel) (by omega) (by show (1 + 0 : Nat) ≤ 8; decide) (st_len hi (by omega)) (fun v h' hq => ?_)
  obtain ⟨rfl, rfl⟩ := hq
  have hsub : (Int32.ofInt (stp : Int) - Int32.ofInt (fr : Int)).toInt = (stp : Int) - (fr : Int) := by rw [i32_sub (by rw [hfr, hst]; omega) (by rw [hfr, hst]; omega), hfr, hst]
  refine j_icmp_eq (off := 5) (tgt := 12) (dQ (by decide +kernel)) (by decide) (fun e => ?_) (fun e => ?_)
  · have hsl : stp = fr + jsl.getD i 0 := by
      have := congrArg Int32.toInt e
      rw [hsub, a3] at this
      omega
    refine j_iconst (n := 0) (dQ (by decide +kernel)) ?_
    refine j_istore (i := 4) (dQ (by decide +kernel)) (by decide +kernel) ?_
    exact loop hsl (jsl.getD i 0) 0 (by omega) (by omega) (fun j hj => absurd hj (by omega))
  · refine no 10 _ (Or.inl rfl) (fun hp => e (i32_eq ?_))
    rw [hsub, a3, hp.1]
    omega
theorem testWordKind_j {a0 fr stp : Nat} {f : Nat → Int32} (ht : h[a0]? = some (.inl (0, 400, f))) (hfs : fr ≤ stp) (hs : stp ≤ 400) (hd1 : 5 ≤ d) (hp : ∀ i, i < 7 → ¬ spP f i fr stp) :
    J l g 75 d 0 [some (.ref (g.2.2 + a0)), some (.int (Int32.ofInt (fr : Int))), some (.int (Int32.ofInt (stp : Int)))] [] h 0 0 (fun v h' => h' = h ∧ ∃ j, j ≤ 13 ∧ (∀ i, i < j → ¬ spP f i fr stp) ∧ (j < 13 → spP f j fr stp) ∧ v = some (.int (Int32.ofInt (if j < 13 then 6 + (j : Int) else 2)))) := by
  have hcls : jcN 3 = (jyN 75).cls := by decide +kernel
  refine j_ldcS (i := 7) (by decide) (dQ (by decide +kernel)) (by decide +kernel) ?_
  refine j_aload_n (k4 := 0) (dQ (by decide +kernel)) rfl ?_
  refine j_iload_n (k4 := 1) (dQ (by decide +kernel)) rfl ?_
  refine j_iload_n (k4 := 2) (dQ (by decide +kernel)) rfl ?_
  refine j_callS' (own := 3) (i := 79) (y2 := 63) (d2 := 4) (mc := 0) (ms := 0) (kc := 0) (ks := 0) (As := [.ref (jAK g 7), .ref (g.2.2 + a0), .int (Int32.ofInt (fr : Int)), .int (Int32.ofInt (stp : Int))]) (st := []) (by decide +kernel) hcls (by decide +kernel) (by decide) (by decide +kernel) (show 4 = jnp 63 by decide +kernel) (by omega) (by decide) (spells_run (by decide) ht hfs hs (by omega)) (fun v h' hq => ?_)
  obtain ⟨rfl, hq⟩ := hq
  rcases hq with ⟨rfl, y7⟩ | ⟨rfl, n7⟩
  · refine j_if_eq (off := 6) (tgt := 14) (dQ (by decide +kernel)) (by decide) (fun e => absurd e (by decide)) (fun _ => ?_)
    refine j_bipush (n := 13) (dQ (by decide +kernel)) ?_
    refine j_ret (v := some (.int (Int8.ofInt 13).toInt32)) ⟨by decide +kernel, Or.inl (by decide +kernel)⟩ ⟨rfl, 7, by decide, fun i hi => ?_, fun _ => y7, by decide⟩ rfl
    have hi2 : i < 7 ∨ False := by omega
    rcases hi2 with hi3 | hi4
    · exact hp i hi3
    · exact absurd hi4 id
  refine j_if_eq (off := 6) (tgt := 14) (dQ (by decide +kernel)) (by decide) (fun _ => ?_) (fun e => absurd rfl e)
  refine j_ldcS (i := 8) (by decide) (dQ (by decide +kernel)) (by decide +kernel) ?_
  refine j_aload_n (k4 := 0) (dQ (by decide +kernel)) rfl ?_
  refine j_iload_n (k4 := 1) (dQ (by decide +kernel)) rfl ?_
  refine j_iload_n (k4 := 2) (dQ (by decide +kernel)) rfl ?_
  refine j_callS' (own := 3) (i := 79) (y2 := 63) (d2 := 4) (mc := 0) (ms := 0) (kc := 0) (ks := 0) (As := [.ref (jAK g 8), .ref (g.2.2 + a0), .int (Int32.ofInt (fr : Int)), .int (Int32.ofInt (stp : Int))]) (st := []) (by decide +kernel) hcls (by decide +kernel) (by decide) (by decide +kernel) (show 4 = jnp 63 by decide +kernel) (by omega) (by decide) (spells_run (by decide) ht hfs hs (by omega)) (fun v h' hq => ?_)
  obtain ⟨rfl, hq⟩ := hq
  rcases hq with ⟨rfl, y8⟩ | ⟨rfl, n8⟩
  · refine j_if_eq (off := 6) (tgt := 28) (dQ (by decide +kernel)) (by decide) (fun e => absurd e (by decide)) (fun _ => ?_)
    refine j_bipush (n := 14) (dQ (by decide +kernel)) ?_
    refine j_ret (v := some (.int (Int8.ofInt 14).toInt32)) ⟨by decide +kernel, Or.inl (by decide +kernel)⟩ ⟨rfl, 8, by decide, fun i hi => ?_, fun _ => y8, by decide⟩ rfl
    have hi2 : i < 7 ∨ i = 7 := by omega
    rcases hi2 with hi3 | rfl
    · exact hp i hi3
    · exact n7
  refine j_if_eq (off := 6) (tgt := 28) (dQ (by decide +kernel)) (by decide) (fun _ => ?_) (fun e => absurd rfl e)
  refine j_ldcS (i := 9) (by decide) (dQ (by decide +kernel)) (by decide +kernel) ?_
  refine j_aload_n (k4 := 0) (dQ (by decide +kernel)) rfl ?_
  refine j_iload_n (k4 := 1) (dQ (by decide +kernel)) rfl ?_
  refine j_iload_n (k4 := 2) (dQ (by decide +kernel)) rfl ?_
  refine j_callS' (own := 3) (i := 79) (y2 := 63) (d2 := 4) (mc := 0) (ms := 0) (kc := 0) (ks := 0) (As := [.ref (jAK g 9), .ref (g.2.2 + a0), .int (Int32.ofInt (fr : Int)), .int (Int32.ofInt (stp : Int))]) (st := []) (by decide +kernel) hcls (by decide +kernel) (by decide) (by decide +kernel) (show 4 = jnp 63 by decide +kernel) (by omega) (by decide) (spells_run (by decide) ht hfs hs (by omega)) (fun v h' hq => ?_)
  obtain ⟨rfl, hq⟩ := hq
  rcases hq with ⟨rfl, y9⟩ | ⟨rfl, n9⟩
  · refine j_if_eq (off := 6) (tgt := 42) (dQ (by decide +kernel)) (by decide) (fun e => absurd e (by decide)) (fun _ => ?_)
    refine j_bipush (n := 15) (dQ (by decide +kernel)) ?_
    refine j_ret (v := some (.int (Int8.ofInt 15).toInt32)) ⟨by decide +kernel, Or.inl (by decide +kernel)⟩ ⟨rfl, 9, by decide, fun i hi => ?_, fun _ => y9, by decide⟩ rfl
    have hi2 : i < 7 ∨ i = 7 ∨ i = 8 := by omega
    rcases hi2 with hi3 | rfl | rfl
    · exact hp i hi3
    · exact n7
    · exact n8
  refine j_if_eq (off := 6) (tgt := 42) (dQ (by decide +kernel)) (by decide) (fun _ => ?_) (fun e => absurd rfl e)
  refine j_ldcS (i := 10) (by decide) (dQ (by decide +kernel)) (by decide +kernel) ?_
  refine j_aload_n (k4 := 0) (dQ (by decide +kernel)) rfl ?_
  refine j_iload_n (k4 := 1) (dQ (by decide +kernel)) rfl ?_
  refine j_iload_n (k4 := 2) (dQ (by decide +kernel)) rfl ?_
  refine j_callS' (own := 3) (i := 79) (y2 := 63) (d2 := 4) (mc := 0) (ms := 0) (kc := 0) (ks := 0) (As := [.ref (jAK g 10), .ref (g.2.2 + a0), .int (Int32.ofInt (fr : Int)), .int (Int32.ofInt (stp : Int))]) (st := []) (by decide +kernel) hcls (by decide +kernel) (by decide) (by decide +kernel) (show 4 = jnp 63 by decide +kernel) (by omega) (by decide) (spells_run (by decide) ht hfs hs (by omega)) (fun v h' hq => ?_)
  obtain ⟨rfl, hq⟩ := hq
  rcases hq with ⟨rfl, y10⟩ | ⟨rfl, n10⟩
  · refine j_if_eq (off := 6) (tgt := 56) (dQ (by decide +kernel)) (by decide) (fun e => absurd e (by decide)) (fun _ => ?_)
    refine j_bipush (n := 16) (dQ (by decide +kernel)) ?_
    refine j_ret (v := some (.int (Int8.ofInt 16).toInt32)) ⟨by decide +kernel, Or.inl (by decide +kernel)⟩ ⟨rfl, 10, by decide, fun i hi => ?_, fun _ => y10, by decide⟩ rfl
    have hi2 : i < 7 ∨ i = 7 ∨ i = 8 ∨ i = 9 := by omega
    rcases hi2 with hi3 | rfl | rfl | rfl
    · exact hp i hi3
    · exact n7
    · exact n8
    · exact n9
  refine j_if_eq (off := 6) (tgt := 56) (dQ (by decide +kernel)) (by decide) (fun _ => ?_) (fun e => absurd rfl e)
  refine j_ldcS (i := 11) (by decide) (dQ (by decide +kernel)) (by decide +kernel) ?_
  refine j_aload_n (k4 := 0) (dQ (by decide +kernel)) rfl ?_
  refine j_iload_n (k4 := 1) (dQ (by decide +kernel)) rfl ?_
  refine j_iload_n (k4 := 2) (dQ (by decide +kernel)) rfl ?_
  refine j_callS' (own := 3) (i := 79) (y2 := 63) (d2 := 4) (mc := 0) (ms := 0) (kc := 0) (ks := 0) (As := [.ref (jAK g 11), .ref (g.2.2 + a0), .int (Int32.ofInt (fr : Int)), .int (Int32.ofInt (stp : Int))]) (st := []) (by decide +kernel) hcls (by decide +kernel) (by decide) (by decide +kernel) (show 4 = jnp 63 by decide +kernel) (by omega) (by decide) (spells_run (by decide) ht hfs hs (by omega)) (fun v h' hq => ?_)
  obtain ⟨rfl, hq⟩ := hq
  rcases hq with ⟨rfl, y11⟩ | ⟨rfl, n11⟩
  · refine j_if_eq (off := 6) (tgt := 70) (dQ (by decide +kernel)) (by decide) (fun e => absurd e (by decide)) (fun _ => ?_)
    refine j_bipush (n := 17) (dQ (by decide +kernel)) ?_
    refine j_ret (v := some (.int (Int8.ofInt 17).toInt32)) ⟨by decide +kernel, Or.inl (by decide +kernel)⟩ ⟨rfl, 11, by decide, fun i hi => ?_, fun _ => y11, by decide⟩ rfl
    have hi2 : i < 7 ∨ i = 7 ∨ i = 8 ∨ i = 9 ∨ i = 10 := by omega
    rcases hi2 with hi3 | rfl | rfl | rfl | rfl
    · exact hp i hi3
    · exact n7
    · exact n8
    · exact n9
    · exact n10
  refine j_if_eq (off := 6) (tgt := 70) (dQ (by decide +kernel)) (by decide) (fun _ => ?_) (fun e => absurd rfl e)
  refine j_ldcS (i := 12) (by decide) (dQ (by decide +kernel)) (by decide +kernel) ?_
  refine j_aload_n (k4 := 0) (dQ (by decide +kernel)) rfl ?_
  refine j_iload_n (k4 := 1) (dQ (by decide +kernel)) rfl ?_
  refine j_iload_n (k4 := 2) (dQ (by decide +kernel)) rfl ?_
  refine j_callS' (own := 3) (i := 79) (y2 := 63) (d2 := 4) (mc := 0) (ms := 0) (kc := 0) (ks := 0) (As := [.ref (jAK g 12), .ref (g.2.2 + a0), .int (Int32.ofInt (fr : Int)), .int (Int32.ofInt (stp : Int))]) (st := []) (by decide +kernel) hcls (by decide +kernel) (by decide) (by decide +kernel) (show 4 = jnp 63 by decide +kernel) (by omega) (by decide) (spells_run (by decide) ht hfs hs (by omega)) (fun v h' hq => ?_)
  obtain ⟨rfl, hq⟩ := hq
  rcases hq with ⟨rfl, y12⟩ | ⟨rfl, n12⟩
  · refine j_if_eq (off := 8) (tgt := 86) (dQ (by decide +kernel)) (by decide) (fun e => absurd e (by decide)) (fun _ => ?_)
    refine j_bipush (n := 18) (dQ (by decide +kernel)) ?_
    refine j_goto (off := 4) (tgt := 87) (dQ (by decide +kernel)) (by decide) ?_
    refine j_ret (v := some (.int (Int8.ofInt 18).toInt32)) ⟨by decide +kernel, Or.inl (by decide +kernel)⟩ ⟨rfl, 12, by decide, fun i hi => ?_, fun _ => y12, by decide⟩ rfl
    have hi2 : i < 7 ∨ i = 7 ∨ i = 8 ∨ i = 9 ∨ i = 10 ∨ i = 11 := by omega
    rcases hi2 with hi3 | rfl | rfl | rfl | rfl | rfl
    · exact hp i hi3
    · exact n7
    · exact n8
    · exact n9
    · exact n10
    · exact n11
  refine j_if_eq (off := 8) (tgt := 86) (dQ (by decide +kernel)) (by decide) (fun _ => ?_) (fun e => absurd rfl e)
  refine j_iconst (n := 2) (dQ (by decide +kernel)) ?_
  refine j_ret (v := some (.int (Int32.ofInt 2))) ⟨by decide +kernel, Or.inl (by decide +kernel)⟩ ⟨rfl, 13, by decide, fun i hi => ?_, fun q => absurd q (by decide), by decide⟩ rfl
  have hi2 : i < 7 ∨ i = 7 ∨ i = 8 ∨ i = 9 ∨ i = 10 ∨ i = 11 ∨ i = 12 := by omega
  rcases hi2 with q | rfl | rfl | rfl | rfl | rfl | rfl
  · exact hp i q
  · exact n7
  · exact n8
  · exact n9
  · exact n10
  · exact n11
  · exact n12
theorem testWordKind_run {a0 fr stp : Nat} {f : Nat → Int32} (ht : h[a0]? = some (.inl (0, 400, f))) (hfs : fr ≤ stp) (hs : stp ≤ 400) (hd1 : 5 ≤ d) (hp : ∀ i, i < 7 → ¬ spP f i fr stp) :
    jCal l g 75 d [.ref (g.2.2 + a0), .int (Int32.ofInt (fr : Int)), .int (Int32.ofInt (stp : Int))] h 0 0 (fun v h' => h' = h ∧ ∃ j, j ≤ 13 ∧ (∀ i, i < j → ¬ spP f i fr stp) ∧ (j < 13 → spP f j fr stp) ∧ v = some (.int (Int32.ofInt (if j < 13 then 6 + (j : Int) else 2)))) := jCal_of (by decide +kernel) (show 3 ≤ jmx 75 by decide +kernel) (testWordKind_j ht hfs hs hd1 hp)
theorem wordKind_j {a0 fr stp : Nat} {f : Nat → Int32} (ht : h[a0]? = some (.inl (0, 400, f))) (hfs : fr ≤ stp) (hs : stp ≤ 400) (hd1 : 6 ≤ d) :
    J l g 62 d 0 [some (.ref (g.2.2 + a0)), some (.int (Int32.ofInt (fr : Int))), some (.int (Int32.ofInt (stp : Int)))] [] h 0 0 (fun v h' => h' = h ∧ ∃ j, j ≤ 13 ∧ (∀ i, i < j → ¬ spP f i fr stp) ∧ (j < 13 → spP f j fr stp) ∧ v = some (.int (Int32.ofInt (if j < 13 then 6 + (j : Int) else 2)))) := by
  have hcls : jcN 3 = (jyN 62).cls := by decide +kernel
  refine j_ldcS (i := 0) (by decide) (dQ (by decide +kernel)) (by decide +kernel) ?_
  refine j_aload_n (k4 := 0) (dQ (by decide +kernel)) rfl ?_
  refine j_iload_n (k4 := 1) (dQ (by decide +kernel)) rfl ?_
  refine j_iload_n (k4 := 2) (dQ (by decide +kernel)) rfl ?_
  refine j_callS' (own := 3) (i := 79) (y2 := 63) (d2 := 4) (mc := 0) (ms := 0) (kc := 0) (ks := 0) (As := [.ref (jAK g 0), .ref (g.2.2 + a0), .int (Int32.ofInt (fr : Int)), .int (Int32.ofInt (stp : Int))]) (st := []) (by decide +kernel) hcls (by decide +kernel) (by decide) (by decide +kernel) (show 4 = jnp 63 by decide +kernel) (by omega) (by decide) (spells_run (by decide) ht hfs hs (by omega)) (fun v h' hq => ?_)
  obtain ⟨rfl, hq⟩ := hq
  rcases hq with ⟨rfl, y0⟩ | ⟨rfl, n0⟩
  · refine j_if_eq (off := 6) (tgt := 14) (dQ (by decide +kernel)) (by decide) (fun e => absurd e (by decide)) (fun _ => ?_)
    refine j_bipush (n := 6) (dQ (by decide +kernel)) ?_
    refine j_ret (v := some (.int (Int8.ofInt 6).toInt32)) ⟨by decide +kernel, Or.inl (by decide +kernel)⟩ ⟨rfl, 0, by decide, fun i hi => ?_, fun _ => y0, by decide⟩ rfl
    have hi2 : False := by omega
    exact absurd hi2 id
  refine j_if_eq (off := 6) (tgt := 14) (dQ (by decide +kernel)) (by decide) (fun _ => ?_) (fun e => absurd rfl e)
  refine j_ldcS (i := 1) (by decide) (dQ (by decide +kernel)) (by decide +kernel) ?_
  refine j_aload_n (k4 := 0) (dQ (by decide +kernel)) rfl ?_
  refine j_iload_n (k4 := 1) (dQ (by decide +kernel)) rfl ?_
  refine j_iload_n (k4 := 2) (dQ (by decide +kernel)) rfl ?_
  refine j_callS' (own := 3) (i := 79) (y2 := 63) (d2 := 4) (mc := 0) (ms := 0) (kc := 0) (ks := 0) (As := [.ref (jAK g 1), .ref (g.2.2 + a0), .int (Int32.ofInt (fr : Int)), .int (Int32.ofInt (stp : Int))]) (st := []) (by decide +kernel) hcls (by decide +kernel) (by decide) (by decide +kernel) (show 4 = jnp 63 by decide +kernel) (by omega) (by decide) (spells_run (by decide) ht hfs hs (by omega)) (fun v h' hq => ?_)
  obtain ⟨rfl, hq⟩ := hq
  rcases hq with ⟨rfl, y1⟩ | ⟨rfl, n1⟩
  · refine j_if_eq (off := 6) (tgt := 28) (dQ (by decide +kernel)) (by decide) (fun e => absurd e (by decide)) (fun _ => ?_)
    refine j_bipush (n := 7) (dQ (by decide +kernel)) ?_
    refine j_ret (v := some (.int (Int8.ofInt 7).toInt32)) ⟨by decide +kernel, Or.inl (by decide +kernel)⟩ ⟨rfl, 1, by decide, fun i hi => ?_, fun _ => y1, by decide⟩ rfl
    have hi2 : i = 0 := by omega
    subst hi2
    exact n0
  refine j_if_eq (off := 6) (tgt := 28) (dQ (by decide +kernel)) (by decide) (fun _ => ?_) (fun e => absurd rfl e)
  refine j_ldcS (i := 2) (by decide) (dQ (by decide +kernel)) (by decide +kernel) ?_
  refine j_aload_n (k4 := 0) (dQ (by decide +kernel)) rfl ?_
  refine j_iload_n (k4 := 1) (dQ (by decide +kernel)) rfl ?_
  refine j_iload_n (k4 := 2) (dQ (by decide +kernel)) rfl ?_
  refine j_callS' (own := 3) (i := 79) (y2 := 63) (d2 := 4) (mc := 0) (ms := 0) (kc := 0) (ks := 0) (As := [.ref (jAK g 2), .ref (g.2.2 + a0), .int (Int32.ofInt (fr : Int)), .int (Int32.ofInt (stp : Int))]) (st := []) (by decide +kernel) hcls (by decide +kernel) (by decide) (by decide +kernel) (show 4 = jnp 63 by decide +kernel) (by omega) (by decide) (spells_run (by decide) ht hfs hs (by omega)) (fun v h' hq => ?_)
  obtain ⟨rfl, hq⟩ := hq
  rcases hq with ⟨rfl, y2⟩ | ⟨rfl, n2⟩
  · refine j_if_eq (off := 6) (tgt := 42) (dQ (by decide +kernel)) (by decide) (fun e => absurd e (by decide)) (fun _ => ?_)
    refine j_bipush (n := 8) (dQ (by decide +kernel)) ?_
    refine j_ret (v := some (.int (Int8.ofInt 8).toInt32)) ⟨by decide +kernel, Or.inl (by decide +kernel)⟩ ⟨rfl, 2, by decide, fun i hi => ?_, fun _ => y2, by decide⟩ rfl
    have hi2 : i = 0 ∨ i = 1 := by omega
    rcases hi2 with rfl | rfl
    · exact n0
    · exact n1
  refine j_if_eq (off := 6) (tgt := 42) (dQ (by decide +kernel)) (by decide) (fun _ => ?_) (fun e => absurd rfl e)
  refine j_ldcS (i := 3) (by decide) (dQ (by decide +kernel)) (by decide +kernel) ?_
  refine j_aload_n (k4 := 0) (dQ (by decide +kernel)) rfl ?_
  refine j_iload_n (k4 := 1) (dQ (by decide +kernel)) rfl ?_
  refine j_iload_n (k4 := 2) (dQ (by decide +kernel)) rfl ?_
  refine j_callS' (own := 3) (i := 79) (y2 := 63) (d2 := 4) (mc := 0) (ms := 0) (kc := 0) (ks := 0) (As := [.ref (jAK g 3), .ref (g.2.2 + a0), .int (Int32.ofInt (fr : Int)), .int (Int32.ofInt (stp : Int))]) (st := []) (by decide +kernel) hcls (by decide +kernel) (by decide) (by decide +kernel) (show 4 = jnp 63 by decide +kernel) (by omega) (by decide) (spells_run (by decide) ht hfs hs (by omega)) (fun v h' hq => ?_)
  obtain ⟨rfl, hq⟩ := hq
  rcases hq with ⟨rfl, y3⟩ | ⟨rfl, n3⟩
  · refine j_if_eq (off := 6) (tgt := 56) (dQ (by decide +kernel)) (by decide) (fun e => absurd e (by decide)) (fun _ => ?_)
    refine j_bipush (n := 9) (dQ (by decide +kernel)) ?_
    refine j_ret (v := some (.int (Int8.ofInt 9).toInt32)) ⟨by decide +kernel, Or.inl (by decide +kernel)⟩ ⟨rfl, 3, by decide, fun i hi => ?_, fun _ => y3, by decide⟩ rfl
    have hi2 : i = 0 ∨ i = 1 ∨ i = 2 := by omega
    rcases hi2 with rfl | rfl | rfl
    · exact n0
    · exact n1
    · exact n2
  refine j_if_eq (off := 6) (tgt := 56) (dQ (by decide +kernel)) (by decide) (fun _ => ?_) (fun e => absurd rfl e)
  refine j_ldcS (i := 4) (by decide) (dQ (by decide +kernel)) (by decide +kernel) ?_
  refine j_aload_n (k4 := 0) (dQ (by decide +kernel)) rfl ?_
  refine j_iload_n (k4 := 1) (dQ (by decide +kernel)) rfl ?_
  refine j_iload_n (k4 := 2) (dQ (by decide +kernel)) rfl ?_
  refine j_callS' (own := 3) (i := 79) (y2 := 63) (d2 := 4) (mc := 0) (ms := 0) (kc := 0) (ks := 0) (As := [.ref (jAK g 4), .ref (g.2.2 + a0), .int (Int32.ofInt (fr : Int)), .int (Int32.ofInt (stp : Int))]) (st := []) (by decide +kernel) hcls (by decide +kernel) (by decide) (by decide +kernel) (show 4 = jnp 63 by decide +kernel) (by omega) (by decide) (spells_run (by decide) ht hfs hs (by omega)) (fun v h' hq => ?_)
  obtain ⟨rfl, hq⟩ := hq
  rcases hq with ⟨rfl, y4⟩ | ⟨rfl, n4⟩
  · refine j_if_eq (off := 6) (tgt := 70) (dQ (by decide +kernel)) (by decide) (fun e => absurd e (by decide)) (fun _ => ?_)
    refine j_bipush (n := 10) (dQ (by decide +kernel)) ?_
    refine j_ret (v := some (.int (Int8.ofInt 10).toInt32)) ⟨by decide +kernel, Or.inl (by decide +kernel)⟩ ⟨rfl, 4, by decide, fun i hi => ?_, fun _ => y4, by decide⟩ rfl
    have hi2 : i = 0 ∨ i = 1 ∨ i = 2 ∨ i = 3 := by omega
    rcases hi2 with rfl | rfl | rfl | rfl
    · exact n0
    · exact n1
    · exact n2
    · exact n3
  refine j_if_eq (off := 6) (tgt := 70) (dQ (by decide +kernel)) (by decide) (fun _ => ?_) (fun e => absurd rfl e)
  refine j_ldcS (i := 5) (by decide) (dQ (by decide +kernel)) (by decide +kernel) ?_
  refine j_aload_n (k4 := 0) (dQ (by decide +kernel)) rfl ?_
  refine j_iload_n (k4 := 1) (dQ (by decide +kernel)) rfl ?_
  refine j_iload_n (k4 := 2) (dQ (by decide +kernel)) rfl ?_
  refine j_callS' (own := 3) (i := 79) (y2 := 63) (d2 := 4) (mc := 0) (ms := 0) (kc := 0) (ks := 0) (As := [.ref (jAK g 5), .ref (g.2.2 + a0), .int (Int32.ofInt (fr : Int)), .int (Int32.ofInt (stp : Int))]) (st := []) (by decide +kernel) hcls (by decide +kernel) (by decide) (by decide +kernel) (show 4 = jnp 63 by decide +kernel) (by omega) (by decide) (spells_run (by decide) ht hfs hs (by omega)) (fun v h' hq => ?_)
  obtain ⟨rfl, hq⟩ := hq
  rcases hq with ⟨rfl, y5⟩ | ⟨rfl, n5⟩
  · refine j_if_eq (off := 6) (tgt := 84) (dQ (by decide +kernel)) (by decide) (fun e => absurd e (by decide)) (fun _ => ?_)
    refine j_bipush (n := 11) (dQ (by decide +kernel)) ?_
    refine j_ret (v := some (.int (Int8.ofInt 11).toInt32)) ⟨by decide +kernel, Or.inl (by decide +kernel)⟩ ⟨rfl, 5, by decide, fun i hi => ?_, fun _ => y5, by decide⟩ rfl
    have hi2 : i = 0 ∨ i = 1 ∨ i = 2 ∨ i = 3 ∨ i = 4 := by omega
    rcases hi2 with rfl | rfl | rfl | rfl | rfl
    · exact n0
    · exact n1
    · exact n2
    · exact n3
    · exact n4
  refine j_if_eq (off := 6) (tgt := 84) (dQ (by decide +kernel)) (by decide) (fun _ => ?_) (fun e => absurd rfl e)
  refine j_ldcS (i := 6) (by decide) (dQ (by decide +kernel)) (by decide +kernel) ?_
  refine j_aload_n (k4 := 0) (dQ (by decide +kernel)) rfl ?_
  refine j_iload_n (k4 := 1) (dQ (by decide +kernel)) rfl ?_
  refine j_iload_n (k4 := 2) (dQ (by decide +kernel)) rfl ?_
  refine j_callS' (own := 3) (i := 79) (y2 := 63) (d2 := 4) (mc := 0) (ms := 0) (kc := 0) (ks := 0) (As := [.ref (jAK g 6), .ref (g.2.2 + a0), .int (Int32.ofInt (fr : Int)), .int (Int32.ofInt (stp : Int))]) (st := []) (by decide +kernel) hcls (by decide +kernel) (by decide) (by decide +kernel) (show 4 = jnp 63 by decide +kernel) (by omega) (by decide) (spells_run (by decide) ht hfs hs (by omega)) (fun v h' hq => ?_)
  obtain ⟨rfl, hq⟩ := hq
  rcases hq with ⟨rfl, y6⟩ | ⟨rfl, n6⟩
  · refine j_if_eq (off := 6) (tgt := 98) (dQ (by decide +kernel)) (by decide) (fun e => absurd e (by decide)) (fun _ => ?_)
    refine j_bipush (n := 12) (dQ (by decide +kernel)) ?_
    refine j_ret (v := some (.int (Int8.ofInt 12).toInt32)) ⟨by decide +kernel, Or.inl (by decide +kernel)⟩ ⟨rfl, 6, by decide, fun i hi => ?_, fun _ => y6, by decide⟩ rfl
    have hi2 : i = 0 ∨ i = 1 ∨ i = 2 ∨ i = 3 ∨ i = 4 ∨ i = 5 := by omega
    rcases hi2 with rfl | rfl | rfl | rfl | rfl | rfl
    · exact n0
    · exact n1
    · exact n2
    · exact n3
    · exact n4
    · exact n5
  refine j_if_eq (off := 6) (tgt := 98) (dQ (by decide +kernel)) (by decide) (fun _ => ?_) (fun e => absurd rfl e)
  refine j_aload_n (k4 := 0) (dQ (by decide +kernel)) rfl ?_
  refine j_iload_n (k4 := 1) (dQ (by decide +kernel)) rfl ?_
  refine j_iload_n (k4 := 2) (dQ (by decide +kernel)) rfl ?_
  refine j_callS' (own := 3) (i := 95) (y2 := 75) (d2 := 5) (mc := 0) (ms := 0) (kc := 0) (ks := 0) (As := [.ref (g.2.2 + a0), .int (Int32.ofInt (fr : Int)), .int (Int32.ofInt (stp : Int))]) (st := []) (by decide +kernel) hcls (by decide +kernel) (by decide) (by decide +kernel) (show 3 = jnp 75 by decide +kernel) (by omega) (by decide) (testWordKind_run ht hfs hs (by omega) (fun i hi => ?_)) (fun v h' hq => ?_)
  · have hi2 : i = 0 ∨ i = 1 ∨ i = 2 ∨ i = 3 ∨ i = 4 ∨ i = 5 ∨ i = 6 := by omega
    rcases hi2 with rfl | rfl | rfl | rfl | rfl | rfl | rfl
    · exact n0
    · exact n1
    · exact n2
    · exact n3
    · exact n4
    · exact n5
    · exact n6
  · obtain ⟨rfl, j, j1, j2, j3, rfl⟩ := hq
    exact j_ret (v := some (.int (Int32.ofInt (if j < 13 then 6 + (j : Int) else 2)))) ⟨by decide +kernel, Or.inl (by decide +kernel)⟩ ⟨rfl, j, j1, j2, j3, rfl⟩ rfl
theorem wordKind_run {a0 fr stp : Nat} {f : Nat → Int32} (ht : h[a0]? = some (.inl (0, 400, f))) (hfs : fr ≤ stp) (hs : stp ≤ 400) (hd1 : 6 ≤ d) :
    jCal l g 62 d [.ref (g.2.2 + a0), .int (Int32.ofInt (fr : Int)), .int (Int32.ofInt (stp : Int))] h 0 0 (fun v h' => h' = h ∧ ∃ j, j ≤ 13 ∧ (∀ i, i < j → ¬ spP f i fr stp) ∧ (j < 13 → spP f j fr stp) ∧ v = some (.int (Int32.ofInt (if j < 13 then 6 + (j : Int) else 2)))) := jCal_of (by decide +kernel) (show 3 ≤ jmx 62 by decide +kernel) (wordKind_j ht hfs hs hd1)
end TK
end
section
/-! tokenize keeps its contract -/
section TZ
variable {l : Launch} {g : jG} {n : Int}
theorem sign_run {d : Nat} {h : jH} {x : Int32} : jCal l g 78 d [.int x] h 0 0 (fun v h' => h' = h ∧ ∃ r : Int, (2 ≤ r ∧ r ≤ 5) ∧ v = some (.int (Int32.ofInt r)) ∧ r = if x.toInt = 40 then 4 else if x.toInt = 41 then 5 else if x.toInt = 59 then 3 else 2) := by
  refine jCal_of (by decide +kernel) (show 1 ≤ jmx 78 by decide +kernel) ?_
  show J l g 78 d 0 [some (.int x)] [] h 0 0 _
  refine j_iload_n (k4 := 0) (dQ (by decide +kernel)) rfl ?_
  have hdec : decode (jbC 78) 1 = .ok (.lookupswitch 41 #[(40, 37), (41, 39), (59, 35)], 35) := by decide +kernel
  have hoff : Op.lookupswitch.offset (#[((40 : Int), (37 : Int)), (41, 39), (59, 35)] : Array (Int × Int)).toList 41 x.toInt = if 40 = x.toInt then 37 else if 41 = x.toInt then 39 else if 59 = x.toInt then 35 else 41 := by
    rw [Op.lookupswitch.offset_cons, Op.lookupswitch.offset_cons, Op.lookupswitch.offset_cons]
    rfl
  by_cases q1 : 40 = x.toInt
  · refine j_lookup (off := 37) (tgt := 38) hdec (by decide) (by rw [hoff, if_pos q1]) (by decide) ?_
    refine j_iconst (n := 4) (dQ (by decide +kernel)) ?_
    exact j_ret (v := some (.int (Int32.ofInt 4))) ⟨by decide +kernel, Or.inl (by decide +kernel)⟩ ⟨rfl, 4, by omega, rfl, by rw [if_pos q1.symm]⟩ rfl
  by_cases q2 : 41 = x.toInt
  · refine j_lookup (off := 39) (tgt := 40) hdec (by decide) (by rw [hoff, if_neg q1, if_pos q2]) (by decide) ?_
    refine j_iconst (n := 5) (dQ (by decide +kernel)) ?_
    exact j_ret (v := some (.int (Int32.ofInt 5))) ⟨by decide +kernel, Or.inl (by decide +kernel)⟩ ⟨rfl, 5, by omega, rfl, by rw [if_neg (fun e => q1 e.symm), if_pos q2.symm]⟩ rfl
  by_cases q3 : 59 = x.toInt
  · refine j_lookup (off := 35) (tgt := 36) hdec (by decide) (by rw [hoff, if_neg q1, if_neg q2, if_pos q3]) (by decide) ?_
    refine j_iconst (n := 3) (dQ (by decide +kernel)) ?_
    exact j_ret (v := some (.int (Int32.ofInt 3))) ⟨by decide +kernel, Or.inl (by decide +kernel)⟩ ⟨rfl, 3, by omega, rfl, by rw [if_neg (fun e => q1 e.symm), if_neg (fun e => q2 e.symm), if_pos q3.symm]⟩ rfl
  refine j_lookup (off := 41) (tgt := 42) hdec (by decide) (by rw [hoff, if_neg q1, if_neg q2, if_neg q3]) (by decide) ?_
  refine j_iconst (n := 2) (dQ (by decide +kernel)) ?_
  exact j_ret (v := some (.int (Int32.ofInt 2))) ⟨by decide +kernel, Or.inl (by decide +kernel)⟩ ⟨rfl, 2, by omega, rfl, by rw [if_neg (fun e => q1 e.symm), if_neg (fun e => q2 e.symm), if_neg (fun e => q3 e.symm)]⟩ rfl
theorem jal3 {y : Nat} {av : List Value} {a b c : Value} (hl : (lg_sl av).length ≤ 3) (hy : jmx y = 3) (h : jal y av = [some a, some b, some c]) (ha : a.category = 1) (hb : b.category = 1) (hc : c.category = 1) : av = [a, b, c] := by
  rw [lg_jargs] at hl
  have key : jargs av = [some a, some b, some c] := by
    rw [jal, hy] at h
    rcases Nat.lt_or_ge (jargs av).length 3 with q | q
    · exfalso
      have := congrArg (fun L => L[2]?) h
      simp only [List.getElem?_append_right (show (jargs av).length ≤ 2 by omega)] at this
      rw [List.getElem?_replicate] at this
      split at this
      · simp at this
      · simp at this
    · rw [show 3 - (jargs av).length = 0 by omega] at h
      simpa using h
  match av, key with
  | [], k => simp [jargs] at k
  | [x], k =>
    rw [jargs] at k
    split at k <;> simp [jargs] at k
  | [x, z], k =>
    rw [jargs, jargs] at k
    split at k <;> split at k <;> simp [jargs] at k
  | x :: z :: u :: t, k =>
    rw [jargs] at k
    split at k
    · simp at k
    · simp only [List.cons.injEq, Option.some.injEq] at k
      obtain ⟨rfl, k⟩ := k
      rw [jargs] at k
      split at k
      · simp at k
      · simp only [List.cons.injEq, Option.some.injEq] at k
        obtain ⟨rfl, k⟩ := k
        rw [jargs] at k
        split at k
        · simp at k
        · simp only [List.cons.injEq, Option.some.injEq] at k
          obtain ⟨rfl, k⟩ := k
          cases t with
          | nil => rfl
          | cons u2 t2 =>
            rw [jargs] at k
            split at k <;> simp at k
theorem J.mono {y d pc : Nat} {al : List (Option Value)} {st : List Value} {h : jH} {kc ks : Nat} {Q Q' : Option Value → jH → Prop} (hJ : J l g y d pc al st h kc ks Q) (hm : ∀ v h', Q v h' → Q' v h') : J l g y d pc al st h kc ks Q' := by
  intro p e R s m args below meth c Z MC MS X K r1 r2 r3 r4 hZ H locs cells slots ls hW hl c1 c2
  exact hJ p e R s m args below meth c Z MC MS X K r1 r2 r3 r4 (fun pc ls H locs h v hv hW hq => hZ pc ls H locs h v hv hW (hm v h hq)) H locs cells slots ls hW hl c1 c2
theorem ty_x49 : tyAt TTs 0 49 = some (.inl (0, 400, [(0, 400, 1, [(0, 255)])])) := rfl
theorem ty_x50 : tyAt TTs 0 50 = some (.inr (3, [(2, 0, 0, 0, 51), (2, 0, 0, 0, 58), (2, 0, 0, 0, 59), (2, 0, 0, 0, 60), (0, 0, 401, 0, 0), (0, 0, 400, 0, 0), (0, -2147483648, 2147483647, 0, 0)])) := rfl
theorem i32_nat {x : Int32} (hx : 0 ≤ x.toInt) : x = Int32.ofInt ((x.toInt.toNat : Nat) : Int) := by
  rw [show ((x.toInt.toNat : Nat) : Int) = x.toInt by omega, Int32.ofInt_toInt]
theorem jst1_4 {x0 x1 x2 x3 x4 x5 : Option Value} {v : Value} : ∃ o3, jst1 [x0, x1, x2, x3, x4, x5] 4 v = [x0, x1, x2, o3, some v, x5] := by
  cases x3 with
  | none => exact ⟨none, rfl⟩
  | some w =>
    by_cases hw : w.category = 2
    · exact ⟨none, by simp [jst1, hw]⟩
    · exact ⟨some w, by simp [jst1, hw]⟩
theorem wordKind_ok : kOK TTs g (EIm n) l Kx_119 := by
  intro bk h av ev hT hD hE hb1 hl hn _ hg
  obtain ⟨g1, g2, g3, g4, g5, g6, g7⟩ := hg
  have hlen : (jal 62 av).length = 3 := (jal_len hl).trans (show jmx 62 = 3 by decide +kernel)
  obtain ⟨a0, a1, a2, hal⟩ := list3 hlen
  have l0 := g4 0 (2, 0, 49) rfl
  have l1 := g4 1 (0, 0, 0) rfl
  have l2 := g4 2 (0, 1, 0) rfl
  have hal2 : jal Kx_119.1 av = [a0, a1, a2] := hal
  rw [hal2] at l0 l1 l2
  obtain ⟨w0, e0, b, hb, rfl⟩ := l0
  obtain ⟨w1, e1, fr, rfl, v1⟩ := l1
  obtain ⟨w2, e2, stp, rfl, v2⟩ := l2
  have r0 := Option.some.inj e0
  have r1 := Option.some.inj e1
  have r2 := Option.some.inj e2
  clear e0 e1 e2
  subst r0 r1 r2
  have hb : bk 0 = some b := hb
  have i1 := g1.2 0 (eNew 0 400 none) _ rfl v1
  have i2 := g1.2 1 (eNew 1 400 none) _ rfl v2
  dsimp only [eNew] at i1 i2
  obtain ⟨z, z1, z2⟩ := g3 _ List.mem_cons_self
  have z3 : z = -fr.toInt + stp.toInt - 1 := by
    have y1 := fevl_cons (q := (0, -1)) v1 (fevl_cons (q := (1, 1)) v2 (show fevl ev [] = some 0 from rfl))
    have y2 := fev_of (F := ([(0, -1), (1, 1)], -1)) y1
    rw [y2] at z1
    have := (Option.some.inj z1).symm
    omega
  obtain ⟨c, hc, f, rfl, hf⟩ := hT 0 b 49 _ hb ty_x49
  have e1 := i32_nat (x := fr) (by omega)
  have e2 := i32_nat (x := stp) (by omega)
  refine jCal_of (show plainName (jyN 62).cls = true by decide +kernel) hl ?_
  rw [hal2, e1, e2]
  show J l g 62 6 0 [some (.ref (g.2.2 + (b + 49))), some (.int (Int32.ofInt ((fr.toInt.toNat : Nat) : Int))), some (.int (Int32.ofInt ((stp.toInt.toNat : Nat) : Int)))] [] h 0 0 _
  refine (wordKind_j (f := f) hc (by omega) (by omega) (Nat.le_refl _)).mono (fun v h' hq => ?_)
  obtain ⟨rfl, j, j1, -, -, rfl⟩ := hq
  have hj : ∀ q : Int, q = (if j < 13 then 6 + (j : Int) else 2) → 2 ≤ q ∧ q ≤ 18 := fun q hq => by
    split at hq <;> omega
  obtain ⟨b1, b2⟩ := hj _ rfl
  generalize (if j < 13 then 6 + (j : Int) else 2) = q at b1 b2
  have hq2 : (Int32.ofInt q).toInt = q := i32_ofInt (by omega) (by omega)
  exact ⟨bk, [], ⟨hT, hD, hE, UN.rf, fun B b hb => hb, hb1⟩, ⟨rfl, fun j q x hj => by cases hj⟩, _, List.mem_cons_self, Int32.ofInt q, rfl, by rw [hq2]; exact ⟨b1, b2⟩, Or.inl rfl, fun F hF => absurd hF List.not_mem_nil⟩
theorem hOK.tr {W W' : List aR} {bk0 bk1 bk2 : aB} {h0 h1 h2 : jH} (a : hOK TTs g (EIm n) W bk0 h0 bk1 h1) (hw : subW W' W = true) (b : hOK TTs g (EIm n) W' bk1 h1 bk2 h2) : hOK TTs g (EIm n) W bk0 h0 bk2 h2 :=
  ⟨b.1, b.2.1, b.2.2.1, a.2.2.2.1.tr a.2.2.2.2.1 (b.2.2.2.1.mono hw), fun B b0 hb => b.2.2.2.2.1 B b0 (a.2.2.2.2.1 B b0 hb), b.2.2.2.2.2⟩
/-- a call of addToken, of either contract -/
theorem addTok_run {K : aK} {kb tb : Int} (hK : K = (76, [some (2, 0, 0, 0, 50), some (0, 0, 400, 0, 0), some (0, 0, kb, 0, 0), some (0, 0, 1000, 0, 0)], [(0, 50, 4, 0, tb)], [], [(9, 0, 0, 0, 0, [])], K.2.2.2.2.2.1, K.2.2.2.2.2.2.1, K.2.2.2.2.2.2.2.1, 1, 0, 0)) (hk : kOK TTs g (EIm n) l K) {bk : aB} {h : jH} {b : Nat} {fs : List Value} {x k v t : Int32}
    (hT : HT TTs g bk h) (hD : BD TTs bk) (hE : EIm n bk h) (hb1 : ∀ B, B ≤ 1 → ∃ b, bk B = some b) (hb : bk 0 = some b) (hc : h[b + 50]? = some (.inr (3, fs))) (ht : fs[4]? = some (.int t)) (t0 : 0 ≤ t.toInt ∧ t.toInt ≤ tb) (x0 : 0 ≤ x.toInt ∧ x.toInt ≤ 400) (k0 : 0 ≤ k.toInt ∧ k.toInt ≤ kb) (v0 : 0 ≤ v.toInt ∧ v.toInt ≤ 1000) :
    jCal l g 76 1 [.ref (g.2.2 + (b + 50)), .int x, .int k, .int v] h 0 0 (kPost TTs g (EIm n) K bk h [x.toInt, k.toInt, v.toInt, t.toInt]) := by
  rw [hK]
  rw [hK] at hk
  refine hk bk h [.ref (g.2.2 + (b + 50)), .int x, .int k, .int v] [x.toInt, k.toInt, v.toInt, t.toInt] hT hD hE hb1 (show 4 ≤ jmx 76 by decide +kernel) rfl (fun q hq => ?_) ⟨⟨rfl, fun i e z he hz => ?_⟩, eFm_plain (plain_app (spEnv_plain _) clEnv_plain), fun F hF => absurd hF List.not_mem_nil, fun i v hv => ?_, trivial, fun q hq => ?_, fun B hB => absurd hB List.not_mem_nil⟩
  · have hq : q ∈ ([] : List (Nat × Int × Nat)) := hq
    exact absurd hq List.not_mem_nil
  · match i, he, hz with
    | 0, he, hz => cases he; cases hz; exact x0
    | 1, he, hz => cases he; cases hz; exact k0
    | 2, he, hz => cases he; cases hz; exact v0
    | 3, he, hz => cases he; cases hz; exact t0
    | i + 4, he, _ => cases he
  · match i, hv with
    | 0, hv => cases hv; exact ⟨_, rfl, b, hb, rfl⟩
    | 1, hv => cases hv; exact ⟨_, rfl, x, rfl, rfl⟩
    | 2, hv => cases hv; exact ⟨_, rfl, k, rfl, rfl⟩
    | 3, hv => cases hv; exact ⟨_, rfl, _, rfl, rfl⟩
    | i + 4, hv => cases hv
  · have hq2 : q = (0, 50, fcon ((4 : Nat) : Int), 3) := List.mem_singleton.mp hq
    subst hq2
    exact ⟨4, b, _, t.toInt, fcon_ok, hb, hc, ⟨by decide, t, ht, rfl⟩, rfl⟩

theorem tokenize_ok (hlow : ∀ (k : Nat) (K : aK), k < 120 → KTx[k]? = some K → kOK TTs g (EIm n) l K) : kOK TTs g (EIm n) l Kx_120 := by
  intro bk h av ev hT hD hE hb1 hl hn _ hg
  have hk1 : kOK TTs g (EIm n) l Kx_117 := hlow 117 _ (by decide) rfl
  have hk2 : kOK TTs g (EIm n) l Kx_118 := hlow 118 _ (by decide) rfl
  obtain ⟨g1, g2, g3, g4, g5, g6, g7⟩ := hg
  have hlen : (jal 60 av).length = 6 := (jal_len hl).trans (show jmx 60 = 6 by decide +kernel)
  obtain ⟨a0, a1, a2, a3, a4, a5, hal⟩ := list6 hlen
  have l0 := g4 0 (2, 0, 50) rfl
  have l1 := g4 1 (2, 0, 49) rfl
  have l2 := g4 2 (0, 0, 0) rfl
  have hal2 : jal Kx_120.1 av = [a0, a1, a2, a3, a4, a5] := hal
  rw [hal2] at l0 l1 l2
  obtain ⟨w0, e0, b, hb, rfl⟩ := l0
  obtain ⟨w1, e1, b', hb', rfl⟩ := l1
  obtain ⟨w2, e2, le, rfl, v2⟩ := l2
  have hb : bk 0 = some b := hb
  have hb' : bk 0 = some b' := hb'
  cases hb.symm.trans hb'
  have r0 := Option.some.inj e0
  have r1 := Option.some.inj e1
  have r2 := Option.some.inj e2
  clear e0 e1 e2
  subst r0 r1 r2
  have i2 := g1.2 0 (eNew 0 400 none) _ rfl v2
  dsimp only [eNew] at i2
  obtain ⟨len, hle⟩ : ∃ len : Nat, le = Int32.ofInt (len : Int) := ⟨le.toInt.toNat, i32_nat i2.1⟩
  have hle0 := i2.2
  have hlen4 : ∃ len : Nat, le = Int32.ofInt (len : Int) ∧ len ≤ 400 := ⟨le.toInt.toNat, i32_nat i2.1, by omega⟩
  clear hle len
  obtain ⟨len, rfl, hle4⟩ := hlen4
  have hleT : (Int32.ofInt (len : Int)).toInt = (len : Int) := i32_n (by omega)
  refine jCal_of (show plainName (jyN 60).cls = true by decide +kernel) hl ?_
  rw [hal2]
  have hcls : jcN 3 = (jyN 60).cls := by decide +kernel
  have hn3 : ∀ r, jcl[3]? = some r → 4 < r.2.2 := fun r hr => by cases hr; decide +kernel
  show J l g 60 7 0 [some (.ref (g.2.2 + (b + 50))), some (.ref (g.2.2 + (b + 49))), some (.int (Int32.ofInt (len : Int))), a3, a4, a5] [] h 0 0 (kPost TTs g (EIm n) Kx_120 bk h ev)
  -- the end
  have fin : ∀ (bk' : aB) (h' : jH), hOK TTs g (EIm n) Kx_120.2.2.2.2.2.2.2.1 bk h bk' h' → ∀ pc (al : List (Option Value)), pc = 135 → J l g 60 7 pc al [] h' 0 0 (kPost TTs g (EIm n) Kx_120 bk h ev) := by
    intro bk' h' hO pc al hpc
    subst hpc
    exact j_ret (v := none) ⟨by decide +kernel, by decide +kernel⟩ ⟨bk', [], hO, ⟨rfl, fun j q x hj => by cases hj⟩, _, List.mem_cons_self, rfl, fun F hF => absurd hF List.not_mem_nil⟩ rfl
  -- the loop
  have loop : ∀ (q i : Nat), len - i = q → i ≤ len → ∀ (bk' : aB) (h' : jH) (fs : List Value) (t : Int32) (o3 o5 : Option Value), hOK TTs g (EIm n) Kx_120.2.2.2.2.2.2.2.1 bk h bk' h' → h'[b + 50]? = some (.inr (3, fs)) → fs[4]? = some (.int t) → 0 ≤ t.toInt → t.toInt ≤ i → J l g 60 7 8 [some (.ref (g.2.2 + (b + 50))), some (.ref (g.2.2 + (b + 49))), some (.int (Int32.ofInt (len : Int))), o3, some (.int (Int32.ofInt (i : Int))), o5] [] h' 0 0 (kPost TTs g (EIm n) Kx_120 bk h ev) := by
    intro q
    induction q using Nat.strongRecOn with
    | ind q ih =>
    intro i h1 h2 bk' h' fs t o3 o5 hO hc ht t0 ti
    have hbb := hO.2.2.2.2.1 0 b hb
    obtain ⟨c, hx, f, rfl, hf⟩ := hO.1 0 b 49 _ hbb ty_x49
    have hx : h'[b + 49]? = some (.inl (0, 400, f)) := hx
    have hi : (Int32.ofInt (i : Int)).toInt = (i : Int) := i32_n (by omega)
    refine j_iload (i := 4) (dQ (by decide +kernel)) rfl ?_
    refine j_iload_n (k4 := 2) (dQ (by decide +kernel)) rfl ?_
    refine j_icmp_ge (off := 117) (tgt := 128) (dQ (by decide +kernel)) (by decide) (fun z => ?_) (fun z => ?_)
    · have ei : i = len := by
        have := le32.mp z
        rw [hi, hleT] at this
        omega
      refine j_aload_n (k4 := 0) (dQ (by decide +kernel)) rfl ?_
      refine j_iload_n (k4 := 2) (dQ (by decide +kernel)) rfl ?_
      refine j_iconst (n := 0) (dQ (by decide +kernel)) ?_
      refine j_iconst (n := 0) (dQ (by decide +kernel)) ?_
      refine j_cV (own := 3) (i := 61) (y2 := 76) (d2 := 1) (mc := 0) (ms := 0) (kc := 0) (ks := 0) (a := b + 50) (As := [.int (Int32.ofInt (len : Int)), .int (Int32.ofInt 0), .int (Int32.ofInt 0)]) (st := []) (dQ (by decide +kernel)) hcls (by decide +kernel) (by decide) (by decide +kernel) (show 3 = jnp 76 by decide +kernel) (by decide) (by decide) hc (fun r hr => by cases hr; decide +kernel)
        (addTok_run (K := Kx_118) (kb := 0) (tb := 400) rfl hk2 hO.1 hO.2.1 hO.2.2.1 hO.2.2.2.2.2 hbb hc ht (by omega) (by rw [hleT]; omega) (by decide) (by decide)) (fun v h2 hq => ?_)
      obtain ⟨bk2, os, k1, -, q, hq, hq2⟩ := hq
      have hq3 : q = (9, 0, 0, 0, 0, []) := List.mem_singleton.mp hq
      subst hq3
      obtain ⟨rfl, -⟩ := hq2
      exact fin bk2 h2 (hO.tr (by decide) k1) 135 _ rfl
    · have il : i < len := by
        rcases Nat.lt_or_ge i len with z2 | z2
        · exact z2
        · exact absurd (le32.mpr (by rw [hi, hleT]; omega)) z
      -- behind a token
      have next : ∀ (j : Nat), i < j → j ≤ len → ∀ (bk' : aB) (h' : jH) (fs : List Value) (t : Int32) (o5 : Option Value), hOK TTs g (EIm n) Kx_120.2.2.2.2.2.2.2.1 bk h bk' h' → h'[b + 50]? = some (.inr (3, fs)) → fs[4]? = some (.int t) → 0 ≤ t.toInt → t.toInt ≤ j → J l g 60 7 122 [some (.ref (g.2.2 + (b + 50))), some (.ref (g.2.2 + (b + 49))), some (.int (Int32.ofInt (len : Int))), some (.int (Int32.ofInt (j : Int))), some (.int (Int32.ofInt (i : Int))), o5] [] h' 0 0 (kPost TTs g (EIm n) Kx_120 bk h ev) := by
        intro j j1 j2 bk' h' fs t o5 hO hc ht t0 tj
        refine j_iload_n (k4 := 3) (dQ (by decide +kernel)) rfl ?_
        refine j_istore (i := 4) (dQ (by decide +kernel)) (by decide +kernel) ?_
        refine j_goto (off := -117) (tgt := 8) (dQ (by decide +kernel)) (by decide) ?_
        exact ih (len - j) (by omega) j rfl j2 bk' h' fs t _ _ hO hc ht t0 tj
      -- a token comes
      have add : ∀ (j pc : Nat) (k v : Int32) (o5 : Option Value), i < j → j ≤ len → (pc = 73 ∨ pc = 96 ∨ pc = 119) → 0 ≤ k.toInt → k.toInt ≤ 18 → 0 ≤ v.toInt → v.toInt ≤ 1000 → J l g 60 7 pc [some (.ref (g.2.2 + (b + 50))), some (.ref (g.2.2 + (b + 49))), some (.int (Int32.ofInt (len : Int))), some (.int (Int32.ofInt (j : Int))), some (.int (Int32.ofInt (i : Int))), o5] [.int v, .int k, .int (Int32.ofInt (i : Int)), .ref (g.2.2 + (b + 50))] h' 0 0 (kPost TTs g (EIm n) Kx_120 bk h ev) := by
        intro j pc k v o5 j1 j2 hpc k1 k2 v1 v2
        have behind : ∀ (w : Option Value) (h2 : jH), kPost TTs g (EIm n) Kx_117 bk' h' [(Int32.ofInt (i : Int)).toInt, k.toInt, v.toInt, t.toInt] w h2 → w = none ∧ J l g 60 7 122 [some (.ref (g.2.2 + (b + 50))), some (.ref (g.2.2 + (b + 49))), some (.int (Int32.ofInt (len : Int))), some (.int (Int32.ofInt (j : Int))), some (.int (Int32.ofInt (i : Int))), o5] [] h2 0 0 (kPost TTs g (EIm n) Kx_120 bk h ev) := by
          intro w h2 hq
          obtain ⟨bk2, os, y1, ⟨y2, y3⟩, q, hq, hq2⟩ := hq
          have hq3 : q = (9, 0, 0, 0, 0, []) := List.mem_singleton.mp hq
          subst hq3
          obtain ⟨rfl, y4⟩ := hq2
          refine ⟨rfl, ?_⟩
          match os, y2 with
          | [tt], _ =>
            obtain ⟨⟨u1, u2⟩, b3, c3, u3, u4, u5⟩ := y3 0 _ tt rfl rfl
            have hb3 := y1.2.2.2.2.1 0 b hbb
            have u3 : bk2 0 = some b3 := u3
            cases hb3.symm.trans u3
            obtain ⟨c4, hc4, fs4, rfl, -⟩ := y1.1 0 b 50 _ hb3 ty_x50
            have u4 : h2[b + 50]? = some c3 := u4
            cases hc4.symm.trans u4
            obtain ⟨-, wv, u6, u7⟩ := u5
            have u6 : fs4[4]? = some (.int wv) := u6
            obtain ⟨z, z1, z2⟩ := y4 _ List.mem_cons_self
            have z3 : some (1 * t.toInt + (-1 * tt + 0) + 1) = some z := z1
            have z4 := (Option.some.inj z3)
            exact next j j1 j2 bk2 h2 fs4 wv o5 (hO.tr (by decide) y1) hc4 u6 (by dsimp only at u1; omega) (by omega)
        rcases hpc with rfl | rfl | rfl
        · refine j_cV (own := 3) (i := 61) (y2 := 76) (d2 := 1) (mc := 0) (ms := 0) (kc := 0) (ks := 0) (a := b + 50) (As := [.int (Int32.ofInt (i : Int)), .int k, .int v]) (st := []) (dQ (by decide +kernel)) hcls (by decide +kernel) (by decide) (by decide +kernel) (show 3 = jnp 76 by decide +kernel) (by decide) (by decide) hc (fun r hr => by cases hr; decide +kernel)
            (addTok_run (K := Kx_117) (kb := 18) (tb := 399) rfl hk1 hO.1 hO.2.1 hO.2.2.1 hO.2.2.2.2.2 hbb hc ht (by omega) (by rw [hi]; omega) (by omega) (by omega)) (fun w h2 hq => ?_)
          obtain ⟨rfl, hJ⟩ := behind w h2 hq
          exact j_goto (off := 46) (tgt := 122) (by decide +kernel) (by decide) hJ
        · refine j_cV (own := 3) (i := 61) (y2 := 76) (d2 := 1) (mc := 0) (ms := 0) (kc := 0) (ks := 0) (a := b + 50) (As := [.int (Int32.ofInt (i : Int)), .int k, .int v]) (st := []) (dQ (by decide +kernel)) hcls (by decide +kernel) (by decide) (by decide +kernel) (show 3 = jnp 76 by decide +kernel) (by decide) (by decide) hc (fun r hr => by cases hr; decide +kernel)
            (addTok_run (K := Kx_117) (kb := 18) (tb := 399) rfl hk1 hO.1 hO.2.1 hO.2.2.1 hO.2.2.2.2.2 hbb hc ht (by omega) (by rw [hi]; omega) (by omega) (by omega)) (fun w h2 hq => ?_)
          obtain ⟨rfl, hJ⟩ := behind w h2 hq
          exact j_goto (off := 23) (tgt := 122) (by decide +kernel) (by decide) hJ
        · refine j_cV (own := 3) (i := 61) (y2 := 76) (d2 := 1) (mc := 0) (ms := 0) (kc := 0) (ks := 0) (a := b + 50) (As := [.int (Int32.ofInt (i : Int)), .int k, .int v]) (st := []) (dQ (by decide +kernel)) hcls (by decide +kernel) (by decide) (by decide +kernel) (show 3 = jnp 76 by decide +kernel) (by decide) (by decide) hc (fun r hr => by cases hr; decide +kernel)
            (addTok_run (K := Kx_117) (kb := 18) (tb := 399) rfl hk1 hO.1 hO.2.1 hO.2.2.1 hO.2.2.2.2.2 hbb hc ht (by omega) (by rw [hi]; omega) (by omega) (by omega)) (fun w h2 hq => ?_)
          obtain ⟨rfl, hJ⟩ := behind w h2 hq
          exact hJ
      -- the token's sort
      have at56 : ∀ (j : Nat), i < j → j ≤ len → (∀ k, i ≤ k → k < j → soF (f k).toInt = soF (f i).toInt) → J l g 60 7 56 [some (.ref (g.2.2 + (b + 50))), some (.ref (g.2.2 + (b + 49))), some (.int (Int32.ofInt (len : Int))), some (.int (Int32.ofInt (j : Int))), some (.int (Int32.ofInt (i : Int))), some (.int (Int32.ofInt (soF (f i).toInt)))] [] h' 0 0 (kPost TTs g (EIm n) Kx_120 bk h ev) := by
        intro j j1 j2 hs
        have hj : (Int32.ofInt (j : Int)).toInt = (j : Int) := i32_n (by omega)
        have sb := soF_b (f i).toInt
        have sT : (Int32.ofInt (soF (f i).toInt)).toInt = soF (f i).toInt := i32_ofInt (by omega) (by omega)
        refine j_iload (i := 5) (dQ (by decide +kernel)) rfl ?_
        refine j_iconst (n := 1) (dQ (by decide +kernel)) ?_
        refine j_icmp_ne (off := 20) (tgt := 79) (dQ (by decide +kernel)) (by decide) (fun s1 => ?_) (fun s1 => ?_)
        · refine j_iload (i := 5) (dQ (by decide +kernel)) rfl ?_
          refine j_iconst (n := 2) (dQ (by decide +kernel)) ?_
          refine j_icmp_ne (off := 20) (tgt := 102) (dQ (by decide +kernel)) (by decide) (fun s2 => ?_) (fun s2 => ?_)
          · refine j_iload (i := 5) (dQ (by decide +kernel)) rfl ?_
            refine j_iconst (n := 3) (dQ (by decide +kernel)) ?_
            refine j_icmp_ne (off := 17) (tgt := 122) (dQ (by decide +kernel)) (by decide) (fun s3 => ?_) (fun s3 => ?_)
            · exact next j j1 j2 bk' h' fs t _ hO hc ht t0 (by omega)
            · refine j_aload_n (k4 := 0) (dQ (by decide +kernel)) rfl ?_
              refine j_iload (i := 4) (dQ (by decide +kernel)) rfl ?_
              refine j_aload_n (k4 := 1) (dQ (by decide +kernel)) rfl ?_
              refine j_iload (i := 4) (dQ (by decide +kernel)) rfl ?_
              refine j_iald (dQ (by decide +kernel)) hx (i32_in (by rw [hi]; omega) (by rw [hi]; omega)) ?_
              refine j_callS' (own := 3) (i := 68) (y2 := 78) (d2 := 0) (mc := 0) (ms := 0) (kc := 0) (ks := 0) (As := [.int (f (Int32.ofInt (i : Int)).toNatClampNeg)]) (by decide +kernel) hcls (by decide +kernel) (by decide) (by decide +kernel) (show 1 = jnp 78 by decide +kernel) (by decide) (by show (1 + (1 + 0) : Nat) ≤ 8; decide) sign_run (fun w h2 hq => ?_)
              obtain ⟨rfl, r, ⟨ra, rb⟩, rfl, -⟩ := hq
              refine j_iconst (n := 0) (dQ (by decide +kernel)) ?_
              exact add j 119 (Int32.ofInt r) (Int32.ofInt 0) _ j1 j2 (Or.inr (Or.inr rfl)) (by rw [i32_ofInt (by omega) (by omega)]; omega) (by rw [i32_ofInt (by omega) (by omega)]; omega) (by decide) (by decide)
          · have so2 : soF (f i).toInt = 2 := by
              rw [← sT, Classical.not_not.mp s2]
              decide
            have dig : ∀ k, i ≤ k → k < j → 48 ≤ (f k).toInt ∧ (f k).toInt ≤ 57 := by
              intro k k1 k2
              have hk := (hs k k1 k2).trans so2
              unfold soF at hk
              repeat' split at hk
              all_goals first
                | assumption
                | exact absurd hk (by decide)
            refine j_aload_n (k4 := 0) (dQ (by decide +kernel)) rfl ?_
            refine j_iload (i := 4) (dQ (by decide +kernel)) rfl ?_
            refine j_iconst (n := 1) (dQ (by decide +kernel)) ?_
            refine j_aload_n (k4 := 1) (dQ (by decide +kernel)) rfl ?_
            refine j_iload (i := 4) (dQ (by decide +kernel)) rfl ?_
            refine j_iload_n (k4 := 3) (dQ (by decide +kernel)) rfl ?_
            refine j_callS' (own := 3) (i := 65) (y2 := 77) (d2 := 1) (mc := 0) (ms := 0) (kc := 0) (ks := 0) (As := [.ref (g.2.2 + (b + 49)), .int (Int32.ofInt (i : Int)), .int (Int32.ofInt (j : Int))]) (by decide +kernel) hcls (by decide +kernel) (by decide) (by decide +kernel) (show 3 = jnp 77 by decide +kernel) (by decide) (by show (1 + (1 + (1 + 0)) : Nat) ≤ 8; decide) (value_run (f := f) hx (by omega) (by omega) dig (by decide)) (fun w h2 hq => ?_)
            obtain ⟨rfl, rfl⟩ := hq
            have vb := vaF_b (f := f) (fr := i) (j - i) (fun k hk => dig (i + k) (by omega) (by omega))
            exact add j 96 (Int32.ofInt 1) (Int32.ofInt (vaF f i (j - i))) _ j1 j2 (Or.inr (Or.inl rfl)) (by decide) (by decide) (by rw [i32_ofInt (by omega) (by omega)]; omega) (by rw [i32_ofInt (by omega) (by omega)]; omega)
        · refine j_aload_n (k4 := 0) (dQ (by decide +kernel)) rfl ?_
          refine j_iload (i := 4) (dQ (by decide +kernel)) rfl ?_
          refine j_aload_n (k4 := 1) (dQ (by decide +kernel)) rfl ?_
          refine j_iload (i := 4) (dQ (by decide +kernel)) rfl ?_
          refine j_iload_n (k4 := 3) (dQ (by decide +kernel)) rfl ?_
          refine j_callS' (own := 3) (i := 57) (y2 := 62) (d2 := 6) (mc := 0) (ms := 0) (kc := 0) (ks := 0) (As := [.ref (g.2.2 + (b + 49)), .int (Int32.ofInt (i : Int)), .int (Int32.ofInt (j : Int))]) (by decide +kernel) hcls (by decide +kernel) (by decide) (by decide +kernel) (show 3 = jnp 62 by decide +kernel) (by decide) (by show (1 + (1 + 0) : Nat) ≤ 8; decide) (wordKind_run (f := f) hx (by omega) (by omega) (by decide)) (fun w h2 hq => ?_)
          obtain ⟨rfl, k, kk, -, -, rfl⟩ := hq
          refine j_iconst (n := 0) (dQ (by decide +kernel)) ?_
          have hk : ∀ q : Int, q = (if k < 13 then 6 + (k : Int) else 2) → 0 ≤ q ∧ q ≤ 18 := fun q hq => by
            split at hq <;> omega
          obtain ⟨ka, kb⟩ := hk _ rfl
          exact add j 73 _ (Int32.ofInt 0) _ j1 j2 (Or.inl rfl) (by rw [i32_ofInt (by omega) (by omega)]; exact ka) (by rw [i32_ofInt (by omega) (by omega)]; exact kb) (by decide) (by decide)
      -- how far it goes
      have scan : ∀ (q j : Nat), len - j = q → i < j → j ≤ len → (∀ k, i ≤ k → k < j → soF (f k).toInt = soF (f i).toInt) → J l g 60 7 28 [some (.ref (g.2.2 + (b + 50))), some (.ref (g.2.2 + (b + 49))), some (.int (Int32.ofInt (len : Int))), some (.int (Int32.ofInt (j : Int))), some (.int (Int32.ofInt (i : Int))), some (.int (Int32.ofInt (soF (f i).toInt)))] [] h' 0 0 (kPost TTs g (EIm n) Kx_120 bk h ev) := by
        intro q
        induction q with
        | zero =>
          intro j h3 j1 j2 hs
          have hj : (Int32.ofInt (j : Int)).toInt = (j : Int) := i32_n (by omega)
          refine j_iload_n (k4 := 3) (dQ (by decide +kernel)) rfl ?_
          refine j_iload_n (k4 := 2) (dQ (by decide +kernel)) rfl ?_
          exact j_icmp_ge (off := 26) (tgt := 56) (by decide +kernel) (by decide) (fun _ => at56 j j1 j2 hs) (fun z => absurd (le32.mpr (by rw [hj, hleT]; omega)) z)
        | succ q ihq =>
          intro j h3 j1 j2 hs
          have hj : (Int32.ofInt (j : Int)).toInt = (j : Int) := i32_n (by omega)
          refine j_iload_n (k4 := 3) (dQ (by decide +kernel)) rfl ?_
          refine j_iload_n (k4 := 2) (dQ (by decide +kernel)) rfl ?_
          refine j_icmp_ge (off := 26) (tgt := 56) (dQ (by decide +kernel)) (by decide) (fun _ => at56 j j1 j2 hs) (fun z => ?_)
          refine j_iload (i := 5) (dQ (by decide +kernel)) rfl ?_
          refine j_iconst (n := 3) (dQ (by decide +kernel)) ?_
          refine j_icmp_eq (off := 20) (tgt := 56) (dQ (by decide +kernel)) (by decide) (fun _ => at56 j j1 j2 hs) (fun _ => ?_)
          refine j_aload_n (k4 := 1) (dQ (by decide +kernel)) rfl ?_
          refine j_iload_n (k4 := 3) (dQ (by decide +kernel)) rfl ?_
          refine j_iald (dQ (by decide +kernel)) hx (i32_in (by rw [hj]; omega) (by rw [hj]; omega)) ?_
          rw [i32_at hj]
          refine j_callS' (own := 3) (i := 53) (y2 := 61) (d2 := 0) (mc := 0) (ms := 0) (kc := 0) (ks := 0) (As := [.int (f j)]) (st := []) (by decide +kernel) hcls (by decide +kernel) (by decide) (by decide +kernel) (show 1 = jnp 61 by decide +kernel) (by decide) (by decide) sort_run (fun w h2 hq => ?_)
          obtain ⟨rfl, rfl⟩ := hq
          refine j_iload (i := 5) (dQ (by decide +kernel)) rfl ?_
          refine j_icmp_ne (off := 9) (tgt := 56) (dQ (by decide +kernel)) (by decide) (fun _ => at56 j j1 j2 hs) (fun s1 => ?_)
          refine j_iinc (i := 3) (n := 1) (dQ (by decide +kernel)) (by decide +kernel) rfl ?_
          refine j_goto (off := -25) (tgt := 28) (dQ (by decide +kernel)) (by decide) ?_
          have e2 : Int32.ofInt (j : Int) + Int32.ofInt 1 = Int32.ofInt ((j + 1 : Nat) : Int) := i32_eq (by rw [i32_addn hj (by omega) (by omega), i32_n (by omega)]; omega)
          have e3 : soF (f j).toInt = soF (f i).toInt := by
            have b1 := soF_b (f j).toInt
            have b2 := soF_b (f i).toInt
            have := congrArg Int32.toInt (Classical.not_not.mp s1)
            rw [i32_ofInt (by omega) (by omega), i32_ofInt (by omega) (by omega)] at this
            exact this
          show J l g 60 7 28 [some (.ref (g.2.2 + (b + 50))), some (.ref (g.2.2 + (b + 49))), some (.int (Int32.ofInt (len : Int))), some (.int (Int32.ofInt (j : Int) + Int32.ofInt 1)), some (.int (Int32.ofInt (i : Int))), some (.int (Int32.ofInt (soF (f i).toInt)))] [] _ 0 0 _
          rw [e2]
          exact ihq (j + 1) (by omega) (by omega) (by omega) (fun k k1 k2 => by
            rcases Nat.lt_or_ge k j with hl | hl
            · exact hs k k1 hl
            · have : k = j := by omega
              subst this
              exact e3)
      refine j_aload_n (k4 := 1) (dQ (by decide +kernel)) rfl ?_
      refine j_iload (i := 4) (dQ (by decide +kernel)) rfl ?_
      refine j_iald (dQ (by decide +kernel)) hx (i32_in (by rw [hi]; omega) (by rw [hi]; omega)) ?_
      rw [i32_at hi]
      refine j_callS' (own := 3) (i := 53) (y2 := 61) (d2 := 0) (mc := 0) (ms := 0) (kc := 0) (ks := 0) (As := [.int (f i)]) (st := []) (by decide +kernel) hcls (by decide +kernel) (by decide) (by decide +kernel) (show 1 = jnp 61 by decide +kernel) (by decide) (by decide) sort_run (fun w h2 hq => ?_)
      obtain ⟨rfl, rfl⟩ := hq
      refine j_istore (i := 5) (dQ (by decide +kernel)) (by decide +kernel) ?_
      refine j_iload (i := 4) (dQ (by decide +kernel)) rfl ?_
      refine j_iconst (n := 1) (dQ (by decide +kernel)) ?_
      refine j_iadd (dQ (by decide +kernel)) ?_
      refine j_istore_n (k4 := 3) (dQ (by decide +kernel)) (by decide +kernel) ?_
      have e2 : Int32.ofInt (i : Int) + Int32.ofInt 1 = Int32.ofInt ((i + 1 : Nat) : Int) := i32_eq (by rw [i32_addn hi (by omega) (by omega), i32_n (by omega)]; omega)
      show J l g 60 7 28 [some (.ref (g.2.2 + (b + 50))), some (.ref (g.2.2 + (b + 49))), some (.int (Int32.ofInt (len : Int))), some (.int (Int32.ofInt (i : Int) + Int32.ofInt 1)), some (.int (Int32.ofInt (i : Int))), some (.int (Int32.ofInt (soF (f i).toInt)))] [] _ 0 0 _
      rw [e2]
      exact scan (len - (i + 1)) (i + 1) rfl (by omega) (by omega) (fun k k1 k2 => by
        have : k = i := by omega
        subst this
        rfl)
  -- the beginning
  obtain ⟨c, hc, fs, rfl, hfl, hfs⟩ := hT 0 b 50 _ hb ty_x50
  have hfl7 : fs.length = 7 := hfl
  refine j_aload_n (k4 := 0) (dQ (by decide +kernel)) rfl ?_
  refine j_iconst (n := 0) (dQ (by decide +kernel)) ?_
  refine j_put (own := 3) (i := 50) (ci := 3) (f := 4) (dQ (by decide +kernel)) hcls (by decide +kernel) hc rfl (by decide +kernel) (by omega) (by decide +kernel) (ty := .int) (by decide +kernel) rfl rfl ?_
  have hc : h[b + 50]? = some (.inr (3, fs)) := hc
  have hU : UN TTs [(0, 50, 4, 4)] bk h (h.set (b + 50) (.inr (3, fs.set 4 (.int (Int32.ofInt 0))))) := UN.set hD hb (tyAt_lt ty_x50) hc offW_fs
  have hH : HT TTs g bk (h.set (b + 50) (.inr (3, fs.set 4 (.int (Int32.ofInt 0))))) := by
    refine hT.set hD hb ty_x50 ⟨fs.set 4 (.int (Int32.ofInt 0)), rfl, by rw [List.length_set]; exact hfl, fun k t hk => ?_⟩
    by_cases h4 : 4 = k
    · subst h4
      cases hk
      exact ⟨_, List.getElem?_set_self (by omega), Int32.ofInt 0, rfl, by decide, by decide⟩
    · rw [List.getElem?_set_ne h4]
      exact hfs k t hk
  refine j_iconst (n := 0) (dQ (by decide +kernel)) ?_
  refine j_istore (i := 4) (dQ (by decide +kernel)) (by decide +kernel) ?_
  obtain ⟨o3, ho3⟩ := jst1_4 (x0 := some (.ref (g.2.2 + (b + 50)))) (x1 := some (.ref (g.2.2 + (b + 49)))) (x2 := some (.int (Int32.ofInt (len : Int)))) (x3 := a3) (x4 := a4) (x5 := a5) (v := .int (Int32.ofInt 0))
  rw [ho3]
  exact loop len 0 rfl (by omega) bk _ (fs.set 4 (.int (Int32.ofInt 0))) (Int32.ofInt 0) _ _ ⟨hH, hD, EIm_ok bk h _ _ (by decide) hU (List.length_set ..) hT hH hE, hU.mono (by decide), fun B b hb => hb, hb1⟩ (List.getElem?_set_self (List.getElem?_eq_some_iff.mp hc).1) (List.getElem?_set_self (by omega)) (by decide) (by decide)
end TZ
end
section
/-! pieces of a method by the checker, between cuts by hand, with any post -/
section CQ
variable {TT : List (List aCT)} {g : jG} {EI : aB → jH → Prop} {P : List aR} {bk0 : aB} {h0 : jH} {ev ev' : List Int} {l : Launch} {d : Nat} {Q : Option Value → jH → Prop} {KT : List aK} {KI : List (List Nat)} {own n : Nat}
theorem chk_okQ {K : aK} {cs : List aCu} {sp : List aSp} {m0 : Option aF} (hM : mOK TT g EI P KT l K.1 own n) (hE : eIv ev (kEnv K)) (hn : ev.length = kN K) (hpre : ∀ (i : Nat) (z : Int), ev[i]? = some z → ev'[i]? = some z) (hQ : ∀ v h', kPost TT g EI K bk0 h0 ev v h' → Q v h')
    (hcut : ∀ C ∈ cs, ∀ μ', 0 ≤ μ' → (∀ F μ, m0 = some F → fev ev' F = some μ → μ' < μ) → CutP TT g EI bk0 h0 ev l d Q K C μ') :
    ∀ (fuel : Nat) (first : Bool) (pc : Nat) (S : aS) (kc ks : Nat), chk (TT, KT, KI, K.2.2.2.2.2.2.2.1, P, K.1, own, d, n) K cs sp m0 fuel first pc S kc ks = true → Go TT g EI K.2.2.2.2.2.2.2.1 bk0 h0 ev' K.1 l d Q pc S kc ks := by
  intro fuel
  induction fuel with
  | zero => intro first pc S kc ks hc; exact absurd (show false = true from hc) (by decide)
  | succ fuel ih =>
    intro first pc S kc ks hc vs bk al st h hp
    obtain ⟨env, fc, loc, stk, ov, pr⟩ := S
    rw [chk] at hc
    cases hf : (bif first then none else cutAt cs pc) with
    | some C =>
      rw [hf] at hc
      dsimp only at hc
      have hf2 : cutAt cs pc = some C := by
        cases first with
        | true => cases hf
        | false => exact hf
      rw [cutAt] at hf2
      have h1 := List.mem_of_find?_eq_some hf2
      have h2 : C.1 = pc := Nat.eq_of_beq_eq_true (List.find?_some (p := fun C : aCu => Nat.beq C.1 pc) hf2)
      rw [← h2]
      exact aCut_ok hE hn hpre hc hp (hcut C h1)
    | none =>
      rw [hf] at hc
      dsimp only at hc
      cases hd0 : dcF K.1 pc with
      | error e => rw [hd0] at hc; cases hc
      | ok q =>
        rw [hd0] at hc
        have hd := dQ hd0
        dsimp only at hc
        obtain ⟨S', hS', hp'⟩ := spl_ok sp _ hp
        have hc := List.all_eq_true.mp hc S' hS'
        obtain ⟨env', fc', loc', stk', ov', pr'⟩ := S'
        clear hp
        have hp := hp'
        clear hp'
        cases hr : isRet q.1 with
        | true =>
          rw [hr] at hc
          simp only [cond_true] at hc
          exact (aRet_ok rfl hn hd hc ⟨hp.1, hp.2.1, hp.2.2.1, fun i z hz => hp.2.2.2 i z (hpre i z hz)⟩).mono hQ
        | false =>
          rw [hr] at hc
          simp only [cond_false] at hc
          split at hc
          · rename_i L hL
            exact aStep_ok hM hd hL hp (fun r hr => ih false r.1 r.2.1 r.2.2.1 r.2.2.2 (List.all_eq_true.mp hc r hr))
          · cases hc
/-- checked cuts cs beside cuts hs by hand -/
theorem cuts_okQ {fuel : Nat} {K : aK} {cs hs : List aCu} {sp : List aSp} (hM : mOK TT g EI P KT l K.1 own n) (hE : eIv ev (kEnv K)) (hn : ev.length = kN K) (hQ : ∀ v h', kPost TT g EI K bk0 h0 ev v h' → Q v h')
    (c5 : cs.all (fun C => Nat.beq C.2.1.length (jmx K.1) && chk (TT, KT, KI, K.2.2.2.2.2.2.2.1, P, K.1, own, K.2.2.2.2.2.2.2.2.1, n) K (cs ++ hs) sp (some C.2.2.2.2.1) fuel true C.1 (spState (kEnv K) C.2.1 C.2.2.1 C.2.2.2.1 C.2.2.2.2.2) K.2.2.2.2.2.2.2.2.2.1 K.2.2.2.2.2.2.2.2.2.2) = true)
    (hh : ∀ C ∈ hs, ∀ μ : Int, 0 ≤ μ → CutP TT g EI bk0 h0 ev l K.2.2.2.2.2.2.2.2.1 Q K C μ) :
    ∀ C ∈ cs ++ hs, ∀ μ : Int, 0 ≤ μ → CutP TT g EI bk0 h0 ev l K.2.2.2.2.2.2.2.2.1 Q K C μ := by
  have main : ∀ (m : Nat) (C : aCu), C ∈ cs ++ hs → ∀ μ : Int, 0 ≤ μ → μ < m → CutP TT g EI bk0 h0 ev l K.2.2.2.2.2.2.2.2.1 Q K C μ := by
    intro m
    induction m with
    | zero => intro C hC μ u1 u2; omega
    | succ m ih =>
      intro C hC μ u1 u2
      rcases List.mem_append.mp hC with hC | hC
      · intro vs bk2 al h2 hp hμ
        have h1 := List.all_eq_true.mp c5 C hC
        simp only [Bool.and_eq_true] at h1
        exact chk_okQ (ev' := vs) hM hE hn hp.2.2.2 hQ (fun C' hC' μ' v1 v2 => ih C' hC' μ' v1 (by have := v2 _ μ rfl hμ; omega)) fuel true C.1 _ _ _ h1.2 vs bk2 al [] h2 ⟨hp.1, hp.2.1, hp.2.2.1, fun i z hz => hz⟩
      · exact hh C hC μ u1
  exact fun C hC μ u => main (μ.toNat + 1) C hC μ u (by omega)
end CQ
section ST
variable {g : jG} {n : Int} {W : List aR} {bk0 bk : aB} {h0 h : jH}
/-- a store into an array -/
theorem hOK.st (hO : hOK TTs g (EIm n) W bk0 h0 bk h) {B b o ty m : Nat} {sg : List aSeg} (hb : bk B = some b) (ht : tyAt TTs B o = some (.inl (ty, m, sg))) {f : Nat → Int32} (hc : h[b + o]? = some (.inl (ty, m, f))) {i : Nat} {v : Int32} (hv : sgOK sg i v.toInt) {lo hi : Int} (hW : subW [(B, o, lo, hi)] W = true) (h1 : lo ≤ i) (h2 : (i : Int) ≤ hi) (hP : apW [(B, o, lo, hi)] Pm = true) :
    hOK TTs g (EIm n) W bk0 h0 bk (h.set (b + o) (.inl (ty, m, upd f i v))) := by
  obtain ⟨a1, a2, a3, a4, a5, a6⟩ := hO
  have hU : UN TTs [(B, o, lo, hi)] bk h (h.set (b + o) (.inl (ty, m, upd f i v))) := UN.set a2 hb (tyAt_lt ht) hc (offW_arr h1 h2)
  have hH : HT TTs g bk (h.set (b + o) (.inl (ty, m, upd f i v))) := by
    refine a1.set a2 hb ht ⟨_, rfl, fun j hj => ?_⟩
    obtain ⟨c', q1, f', q2, q3⟩ := a1 B b o _ hb ht
    cases hc.symm.trans q1
    cases q2
    by_cases hji : j = i
    · subst hji
      rw [show upd f j v j = v from if_pos rfl]
      exact hv
    · rw [show upd f i v j = f j from if_neg hji]
      exact q3 j hj
  exact ⟨hH, a2, EIm_ok bk h _ _ hP hU (List.length_set ..) a1 hH a3, a4.tr a5 (hU.mono hW), a5, a6⟩
/-- a store into a field of an int -/
theorem hOK.sf (hO : hOK TTs g (EIm n) W bk0 h0 bk h) {B b o ci k : Nat} {ts : List aT} (hb : bk B = some b) (ht : tyAt TTs B o = some (.inr (ci, ts))) {fs : List Value} (hc : h[b + o]? = some (.inr (ci, fs))) {v : Int32} {lo hi : Int} {B' o' : Nat} (hk : ts[k]? = some (0, lo, hi, B', o')) (h1 : lo ≤ v.toInt) (h2 : v.toInt ≤ hi) (hW : subW [(B, o, (k : Int), (k : Int))] W = true) (hP : apW [(B, o, (k : Int), (k : Int))] Pm = true) :
    hOK TTs g (EIm n) W bk0 h0 bk (h.set (b + o) (.inr (ci, fs.set k (.int v)))) := by
  obtain ⟨a1, a2, a3, a4, a5, a6⟩ := hO
  have hU : UN TTs [(B, o, (k : Int), (k : Int))] bk h (h.set (b + o) (.inr (ci, fs.set k (.int v)))) := UN.set a2 hb (tyAt_lt ht) hc offW_fs
  have hH : HT TTs g bk (h.set (b + o) (.inr (ci, fs.set k (.int v)))) := by
    obtain ⟨c', q1, f', q2, q3, q4⟩ := a1 B b o _ hb ht
    cases hc.symm.trans q1
    cases q2
    refine a1.set a2 hb ht ⟨_, rfl, by rw [List.length_set]; exact q3, fun j t hj => ?_⟩
    by_cases hjk : k = j
    · subst hjk
      cases hk.symm.trans hj
      obtain ⟨w, q5, -⟩ := q4 k _ hk
      exact ⟨_, List.getElem?_set_self (List.getElem?_eq_some_iff.mp q5).1, v, rfl, h1, h2⟩
    · rw [List.getElem?_set_ne hjk]
      exact q4 j t hj
  exact ⟨hH, a2, EIm_ok bk h _ _ hP hU (List.length_set ..) a1 hH a3, a4.tr a5 (hU.mono hW), a5, a6⟩
theorem hOK.rf (hT : HT TTs g bk h) (hD : BD TTs bk) (hE : EIm n bk h) (hb1 : ∀ B, B ≤ 1 → ∃ b, bk B = some b) : hOK TTs g (EIm n) W bk h bk h := ⟨hT, hD, hE, UN.rf, fun _ _ q => q, hb1⟩
/-- a field that isn't written stays -/
theorem hOK.fld (hO : hOK TTs g (EIm n) W bk0 h0 bk h) {B b o ci k : Nat} {ts : List aT} {fs : List Value} (hb : bk0 B = some b) (ht : tyAt TTs B o = some (.inr (ci, ts))) (hc : h0[b + o]? = some (.inr (ci, fs))) (hW : apW W [(B, o, (k : Int), (k : Int))] = true) :
    ∃ fs', h[b + o]? = some (.inr (ci, fs')) ∧ fs'[k]? = fs[k]? := by
  obtain ⟨c', q1, q2⟩ := hO.2.2.2.1.2 B b o _ hb (tyAt_lt ht) hc
  cases c' with
  | inl a => exact absurd q2 id
  | inr a =>
    obtain ⟨ci', fs'⟩ := a
    obtain ⟨q3, q4, q5⟩ := q2
    have q3 : ci' = ci := q3
    subst q3
    exact ⟨fs', q1, q5 k (ap_not hW List.mem_cons_self (Int.le_refl _) (Int.le_refl _))⟩
/-- places that aren't written stay -/
theorem hOK.arr (hO : hOK TTs g (EIm n) W bk0 h0 bk h) {B b o ty m : Nat} {sg : List aSeg} {f : Nat → Int32} (hb : bk0 B = some b) (ht : tyAt TTs B o = some (.inl (ty, m, sg))) (hc : h0[b + o]? = some (.inl (ty, m, f))) {lo hi : Int} (hW : apW W [(B, o, lo, hi)] = true) :
    ∃ f', h[b + o]? = some (.inl (ty, m, f')) ∧ ∀ i : Nat, lo ≤ i → (i : Int) ≤ hi → f' i = f i := by
  obtain ⟨c', q1, q2⟩ := hO.2.2.2.1.2 B b o _ hb (tyAt_lt ht) hc
  cases c' with
  | inr a => exact absurd q2 id
  | inl a =>
    obtain ⟨ty', m', f'⟩ := a
    obtain ⟨q3, q4, q5⟩ := q2
    have q3 : ty' = ty := q3
    have q4 : m' = m := q4
    subst q3
    subst q4
    exact ⟨f', q1, fun i h1 h2 => q5 i (ap_not hW List.mem_cons_self h1 h2)⟩
end ST
end
