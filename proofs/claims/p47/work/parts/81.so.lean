/-! isLeaf and isSo, walked by hand -/
section SO
variable {l : Launch} {g : jG} {d kc ks : Nat} {Q : Option Value → jH → Prop} {h : jH}
theorem hnf : ∀ f : Nat, f < 42 → ∀ r : vw_C, jcl[12]? = some r → f < r.2.2 := fun f hf r hr => by
  cases hr
  have : (42 : Nat) = nfX12 := by decide +kernel
  show f < nfX12
  omega
theorem leaf_run {b : Nat} {fs : List Value} {f bu na : Nat → Int32} {op arg : Int32} {p q : Nat} (hp : op.toInt = (p : Int)) (hq : arg.toInt = (q : Int)) (hop : (p = 1 ∧ q ≤ 15) ∨ (p = 2 ∧ q ≤ 15) ∨ (p = 3 ∧ q ≤ 11)) (ho : h[b]? = some (.inr (12, fs))) (hf2 : fs[2]? = some (.ref (g.2.2 + (b + 1)))) (hf22 : fs[22]? = some (.ref (g.2.2 + (b + 9)))) (hf23 : fs[23]? = some (.ref (g.2.2 + (b + 10)))) (hr : h[b + 1]? = some (.inl (0, 5270, f))) (hn : h[b + 9]? = some (.inl (0, 12, na))) (hbu : h[b + 10]? = some (.inl (0, 16, bu))) :
    jCal l g 243 d [.ref (g.2.2 + b), .int op, .int arg] h kc ks (fun v h' => h' = h ∧ (v = some (.int 0) ∨ v = some (.int 1))) := by
  refine jCal_of (by decide +kernel) (show 3 ≤ jmx 243 by decide +kernel) ?_
  show J l g 243 d 0 [some (.ref (g.2.2 + b)), some (.int op), some (.int arg)] [] h kc ks _
  have hcls : jcN 12 = (jyN 243).cls := by decide +kernel
  have one : J l g 243 d 63 [some (.ref (g.2.2 + b)), some (.int op), some (.int arg)] [.int (Int32.ofInt 1)] h kc ks (fun v h' => h' = h ∧ (v = some (.int 0) ∨ v = some (.int 1))) := j_ret (v := some (.int 1)) ⟨by decide +kernel, Or.inr (Or.inl ⟨by decide +kernel, Or.inr rfl⟩)⟩ ⟨rfl, Or.inr rfl⟩ rfl
  have zer : J l g 243 d 63 [some (.ref (g.2.2 + b)), some (.int op), some (.int arg)] [.int (Int32.ofInt 0)] h kc ks (fun v h' => h' = h ∧ (v = some (.int 0) ∨ v = some (.int 1))) := j_ret (v := some (.int 0)) ⟨by decide +kernel, Or.inr (Or.inl ⟨by decide +kernel, Or.inl rfl⟩)⟩ ⟨rfl, Or.inl rfl⟩ rfl
  refine j_iload_n (k4 := 1) (dQ (by decide +kernel)) rfl ?_
  refine j_iconst (n := 1) (dQ (by decide +kernel)) ?_
  refine j_icmp_ne (off := 21) (tgt := 23) (dQ (by decide +kernel)) (by decide) (fun e1 => ?_) (fun e1 => ?_)
  · refine j_iload_n (k4 := 1) (dQ (by decide +kernel)) rfl ?_
    refine j_iconst (n := 2) (dQ (by decide +kernel)) ?_
    refine j_icmp_ne (off := 24) (tgt := 49) (dQ (by decide +kernel)) (by decide) (fun e2 => ?_) (fun e2 => ?_)
    · have h3 : p = 3 := by
        rcases hop with ⟨a1, a2⟩ | ⟨a1, a2⟩ | ⟨a1, a2⟩
        · exact absurd ((i32_eqv (z := 1) (by omega)).mpr (by omega)) e1
        · exact absurd ((i32_eqv (z := 2) (by omega)).mpr (by omega)) e2
        · exact a1
      refine j_aload_n (k4 := 0) (dQ (by decide +kernel)) rfl ?_
      refine j_get (own := 12) (i := 39) (ci := 12) (f := 22) (dQ (by decide +kernel)) hcls (by decide +kernel) ho (hnf 22 (by decide)) hf22 ?_
      refine j_iload_n (k4 := 2) (dQ (by decide +kernel)) rfl ?_
      refine j_iald (dQ (by decide +kernel)) hn (i32_in (by omega) (by omega)) ?_
      refine j_if_le (off := 7) (tgt := 62) (dQ (by decide +kernel)) (by decide) (fun _ => ?_) (fun _ => ?_)
      · refine j_iconst (n := 0) (dQ (by decide +kernel)) ?_
        exact zer
      · refine j_iconst (n := 1) (dQ (by decide +kernel)) ?_
        refine j_goto (off := 4) (tgt := 63) (dQ (by decide +kernel)) (by decide) ?_
        exact one
    · refine j_aload_n (k4 := 0) (dQ (by decide +kernel)) rfl ?_
      refine j_get (own := 12) (i := 7) (ci := 12) (f := 2) (dQ (by decide +kernel)) hcls (by decide +kernel) ho (hnf 2 (by decide)) hf2 ?_
      refine j_bipush (n := 30) (dQ (by decide +kernel)) ?_
      refine j_iload_n (k4 := 2) (dQ (by decide +kernel)) rfl ?_
      refine j_iadd (dQ (by decide +kernel)) ?_
      have e3 : ((Int8.ofInt 30).toInt32 + arg).toInt = ((30 + q : Nat) : Int) := by
        rw [show (Int8.ofInt 30).toInt32 = Int32.ofInt 30 by decide, show arg = Int32.ofInt (q : Int) by rw [← hq, Int32.ofInt_toInt], ← Int32.ofInt_add, i32_ofInt (by omega) (by omega)]
        omega
      refine j_iald (dQ (by decide +kernel)) hr (i32_in (by omega) (by omega)) ?_
      refine j_iconst (n := 1) (dQ (by decide +kernel)) ?_
      refine j_icmp_ne (off := 7) (tgt := 45) (dQ (by decide +kernel)) (by decide) (fun _ => ?_) (fun _ => ?_)
      · refine j_iconst (n := 0) (dQ (by decide +kernel)) ?_
        refine j_goto (off := 17) (tgt := 63) (dQ (by decide +kernel)) (by decide) ?_
        exact zer
      · refine j_iconst (n := 1) (dQ (by decide +kernel)) ?_
        refine j_goto (off := 21) (tgt := 63) (dQ (by decide +kernel)) (by decide) ?_
        exact one
  · refine j_aload_n (k4 := 0) (dQ (by decide +kernel)) rfl ?_
    refine j_get (own := 12) (i := 42) (ci := 12) (f := 23) (dQ (by decide +kernel)) hcls (by decide +kernel) ho (hnf 23 (by decide)) hf23 ?_
    refine j_iload_n (k4 := 2) (dQ (by decide +kernel)) rfl ?_
    refine j_iald (dQ (by decide +kernel)) hbu (i32_in (by omega) (by omega)) ?_
    refine j_iconst (n := 1) (dQ (by decide +kernel)) ?_
    refine j_icmp_ne (off := 7) (tgt := 19) (dQ (by decide +kernel)) (by decide) (fun _ => ?_) (fun _ => ?_)
    · refine j_iconst (n := 0) (dQ (by decide +kernel)) ?_
      refine j_goto (off := 43) (tgt := 63) (dQ (by decide +kernel)) (by decide) ?_
      exact zer
    · refine j_iconst (n := 1) (dQ (by decide +kernel)) ?_
      refine j_goto (off := 47) (tgt := 63) (dQ (by decide +kernel)) (by decide) ?_
      exact one
theorem zb {x : Int32} (h : x = 0 ∨ x = 1) : vp_nar .boolean x = x := by
  rcases h with rfl | rfl <;> decide
def bs (s0 s : Nat → Int32) : Prop := (∀ i, i < 400 → s i = 0 ∨ s i = 1) ∧ ∀ i, 400 ≤ i → s i = s0 i
theorem bupd {s0 s : Nat → Int32} {i : Nat} {x : Int32} (h : bs s0 s) (hx : x = 0 ∨ x = 1) (hi : i < 400) : bs s0 (upd s i x) := by
  refine ⟨fun j hj4 => ?_, fun j hj4 => ?_⟩
  · rw [upd]
    by_cases hj : j = i
    · rw [if_pos hj]; exact hx
    · rw [if_neg hj]; exact h.1 j hj4
  · rw [upd, if_neg (by omega)]
    exact h.2 j hj4
theorem i32_sub1 {n : Nat} (h : 1 ≤ n) : Int32.ofInt (n : Int) - Int32.ofInt 1 = Int32.ofInt ((n - 1 : Nat) : Int) := by
  rw [← Int32.ofInt_sub]
  congr 1
  omega
theorem i32_n {n : Nat} (h : n ≤ 100000) : (Int32.ofInt (n : Int)).toInt = (n : Int) := i32_ofInt (by omega) (by omega)
theorem so_loop {b a c e0 : Nat} {fs : List Value} {f bu na : Nat → Int32} {byv : Int32} {s00 : Nat → Int32} (ha : a ≤ 2060) (hc : c ≤ 3000) (he : e0 ≤ 400) (he2 : (f (c + 6)).toInt = (e0 : Int)) (hby : byv = Int32.ofInt (a : Int)) (hty : ∀ i, i < 5270 → sgOK ROWs i (f i).toInt) (hargs : ∀ p, p < 400 → 0 ≤ (f (a + 130 + 2 * p + 1)).toInt ∧ (f (a + 130 + 2 * p + 1)).toInt ≤ 15)
    (ho : h[b]? = some (.inr (12, fs))) (hf2 : fs[2]? = some (.ref (g.2.2 + (b + 1)))) (hf22 : fs[22]? = some (.ref (g.2.2 + (b + 9)))) (hf23 : fs[23]? = some (.ref (g.2.2 + (b + 10)))) (hf24 : fs[24]? = some (.ref (g.2.2 + (b + 11)))) (hf25 : fs[25]? = some (.int byv)) (hr : h[b + 1]? = some (.inl (0, 5270, f))) (hn : h[b + 9]? = some (.inl (0, 12, na))) (hbu : h[b + 10]? = some (.inl (0, 16, bu))) (hlb : b + 11 < h.length) (hd : 2 ≤ d)
    (hQ : ∀ (s : Nat → Int32) (r : Int32), bs s00 s → (r = 0 ∨ r = 1) → Q (some (.int r)) (h.set (b + 11) (.inl (1, 400, s)))) :
    ∀ (m k n : Nat) (s : Nat → Int32) (o4 : Option Value), e0 - k = m → k ≤ 400 → n ≤ k → dep f a (e0 - k) k n = true → bs s00 s → J l g 242 d 11 [some (.ref (g.2.2 + b)), some (.int (Int32.ofInt (c : Int))), some (.int (Int32.ofInt (n : Int))), some (.int (Int32.ofInt (k : Int))), o4] [] (h.set (b + 11) (.inl (1, 400, s))) kc ks Q := by
  have hcls : jcN 12 = (jyN 242).cls := by decide +kernel
  have ob : ∀ x : jC, (h.set (b + 11) x)[b]? = some (.inr (12, fs)) := fun x => by rw [List.getElem?_set_ne (by omega)]; exact ho
  have rw1 : ∀ x : jC, (h.set (b + 11) x)[b + 1]? = some (.inl (0, 5270, f)) := fun x => by rw [List.getElem?_set_ne (by omega)]; exact hr
  have na1 : ∀ x : jC, (h.set (b + 11) x)[b + 9]? = some (.inl (0, 12, na)) := fun x => by rw [List.getElem?_set_ne (by omega)]; exact hn
  have bu1 : ∀ x : jC, (h.set (b + 11) x)[b + 10]? = some (.inl (0, 16, bu)) := fun x => by rw [List.getElem?_set_ne (by omega)]; exact hbu
  have so1 : ∀ x : jC, (h.set (b + 11) x)[b + 11]? = some x := fun x => List.getElem?_set_self hlb
  have c6 : (Int32.ofInt (c : Int) + (Int8.ofInt 6).toInt32).toInt = ((c + 6 : Nat) : Int) := by
    rw [show (Int8.ofInt 6).toInt32 = Int32.ofInt 6 by decide, ← Int32.ofInt_add, i32_ofInt (by omega) (by omega)]
    omega
  intro m
  induction m with
  | zero =>
    intro k n s o4 hm hk hnk hdep hs
    have fin : ∀ r : Int32, (r = 0 ∨ r = 1) → J l g 242 d 223 [some (.ref (g.2.2 + b)), some (.int (Int32.ofInt (c : Int))), some (.int (Int32.ofInt (n : Int))), some (.int (Int32.ofInt (k : Int))), o4] [.int r] (h.set (b + 11) (.inl (1, 400, s))) kc ks Q := fun r hr => j_ret (v := some (.int r)) ⟨by decide +kernel, Or.inr (Or.inl ⟨by decide +kernel, hr⟩)⟩ (hQ s r hs hr) rfl
    refine j_iload_n (k4 := 3) (dQ (by decide +kernel)) rfl ?_
    refine j_aload_n (k4 := 0) (dQ (by decide +kernel)) rfl ?_
    refine j_get (own := 12) (i := 7) (ci := 12) (f := 2) (dQ (by decide +kernel)) hcls (by decide +kernel) (ob _) (hnf 2 (by decide)) hf2 ?_
    refine j_iload_n (k4 := 1) (dQ (by decide +kernel)) rfl ?_
    refine j_bipush (n := 6) (dQ (by decide +kernel)) ?_
    refine j_iadd (dQ (by decide +kernel)) ?_
    refine j_iald (dQ (by decide +kernel)) (rw1 _) (i32_in (by omega) (by omega)) ?_
    rw [i32_at c6]
    refine j_icmp_ge (off := 184) (tgt := 205) (dQ (by decide +kernel)) (by decide) (fun _ => ?_) (fun q => absurd (Int32.le_iff_toInt_le.mpr (by rw [he2, i32_n (by omega)]; omega)) q)
    refine j_iload_n (k4 := 2) (dQ (by decide +kernel)) rfl ?_
    refine j_if_eq (off := 12) (tgt := 218) (dQ (by decide +kernel)) (by decide) (fun _ => ?_) (fun _ => ?_)
    · refine j_iconst (n := 1) (dQ (by decide +kernel)) ?_
      refine j_goto (off := 4) (tgt := 223) (dQ (by decide +kernel)) (by decide) ?_
      exact fin _ (Or.inr rfl)
    · refine j_aload_n (k4 := 0) (dQ (by decide +kernel)) rfl ?_
      refine j_get (own := 12) (i := 45) (ci := 12) (f := 24) (dQ (by decide +kernel)) hcls (by decide +kernel) (ob _) (hnf 24 (by decide)) hf24 ?_
      refine j_iconst (n := 0) (dQ (by decide +kernel)) ?_
      refine j_zald (dQ (by decide +kernel)) (so1 _) (i32_in (by decide) (by decide)) ?_
      refine j_if_eq (off := 7) (tgt := 222) (dQ (by decide +kernel)) (by decide) (fun _ => ?_) (fun _ => ?_)
      · refine j_iconst (n := 0) (dQ (by decide +kernel)) ?_
        exact fin _ (Or.inl rfl)
      · refine j_iconst (n := 1) (dQ (by decide +kernel)) ?_
        refine j_goto (off := 4) (tgt := 223) (dQ (by decide +kernel)) (by decide) ?_
        exact fin _ (Or.inr rfl)
  | succ m ih =>
    intro k n s o4 hm hk hnk hdep hs
    have hke : k < e0 := by omega
    have hdc : e0 - k = m + 1 := hm
    rw [hdc, dep] at hdep
    have hm2 : e0 - (k + 1) = m := by omega
    have ix : byv + (Int16.ofInt 130).toInt32 + Int32.ofInt 2 * Int32.ofInt (k : Int) = Int32.ofInt ((a + 130 + 2 * k : Nat) : Int) := by
      rw [hby, show (Int16.ofInt 130).toInt32 = Int32.ofInt 130 by decide, ← Int32.ofInt_add, ← Int32.ofInt_mul, ← Int32.ofInt_add]
      congr 1
    have ixt : (Int32.ofInt ((a + 130 + 2 * k : Nat) : Int)).toInt = ((a + 130 + 2 * k : Nat) : Int) := i32_n (by omega)
    have kin : Int32.ofInt (k : Int) + Int32.ofInt 1 = Int32.ofInt ((k + 1 : Nat) : Int) := by rw [← Int32.ofInt_add]; rfl
    generalize hop : f (a + 130 + 2 * k) = op at hdep
    /- the step behind each of the three ways -/
    have nxt : ∀ (n' : Nat) (s' : Nat → Int32), n' ≤ k + 1 → dep f a m (k + 1) n' = true → bs s00 s' → J l g 242 d 199 [some (.ref (g.2.2 + b)), some (.int (Int32.ofInt (c : Int))), some (.int (Int32.ofInt (n' : Int))), some (.int (Int32.ofInt (k : Int))), some (.int op)] [] (h.set (b + 11) (.inl (1, 400, s'))) kc ks Q := by
      intro n' s' h1 h2 h3
      refine j_iinc (i := 3) (n := 1) (dQ (by decide +kernel)) (by decide +kernel) rfl ?_
      refine j_goto (off := -191) (tgt := 11) (dQ (by decide +kernel)) (by decide) ?_
      have := ih (k + 1) n' s' (some (.int op)) hm2 (by omega) h1 (by rw [hm2]; exact h2) h3
      rw [← kin] at this
      exact this
    refine j_iload_n (k4 := 3) (dQ (by decide +kernel)) rfl ?_
    refine j_aload_n (k4 := 0) (dQ (by decide +kernel)) rfl ?_
    refine j_get (own := 12) (i := 7) (ci := 12) (f := 2) (dQ (by decide +kernel)) hcls (by decide +kernel) (ob _) (hnf 2 (by decide)) hf2 ?_
    refine j_iload_n (k4 := 1) (dQ (by decide +kernel)) rfl ?_
    refine j_bipush (n := 6) (dQ (by decide +kernel)) ?_
    refine j_iadd (dQ (by decide +kernel)) ?_
    refine j_iald (dQ (by decide +kernel)) (rw1 _) (i32_in (by omega) (by omega)) ?_
    rw [i32_at c6]
    refine j_icmp_ge (off := 184) (tgt := 205) (dQ (by decide +kernel)) (by decide) (fun q => ?_) (fun _ => ?_)
    · have := Int32.le_iff_toInt_le.mp q
      rw [he2, i32_n (by omega)] at this
      omega
    refine j_aload_n (k4 := 0) (dQ (by decide +kernel)) rfl ?_
    refine j_get (own := 12) (i := 7) (ci := 12) (f := 2) (dQ (by decide +kernel)) hcls (by decide +kernel) (ob _) (hnf 2 (by decide)) hf2 ?_
    refine j_aload_n (k4 := 0) (dQ (by decide +kernel)) rfl ?_
    refine j_get (own := 12) (i := 261) (ci := 12) (f := 25) (dQ (by decide +kernel)) hcls (by decide +kernel) (ob _) (hnf 25 (by decide)) hf25 ?_
    refine j_sipush (n := 130) (dQ (by decide +kernel)) ?_
    refine j_iadd (dQ (by decide +kernel)) ?_
    refine j_iconst (n := 2) (dQ (by decide +kernel)) ?_
    refine j_iload_n (k4 := 3) (dQ (by decide +kernel)) rfl ?_
    refine j_imul (dQ (by decide +kernel)) ?_
    refine j_iadd (dQ (by decide +kernel)) ?_
    rw [ix]
    refine j_iald (dQ (by decide +kernel)) (rw1 _) (i32_in (by omega) (by omega)) ?_
    rw [i32_at ixt, hop]
    refine j_istore (i := 4) (dQ (by decide +kernel)) (by decide +kernel) ?_
    refine j_iload (i := 4) (dQ (by decide +kernel)) rfl ?_
    refine j_bipush (n := 10) (dQ (by decide +kernel)) ?_
    refine j_icmp_ne (off := 30) (tgt := 77) (dQ (by decide +kernel)) (by decide) (fun n10 => ?_) (fun n10 => ?_)
    · have no10 : ¬ op.toInt = 10 := fun q => n10 (((i32_eqv (z := 10) (by omega)).mpr q).trans (by decide))
      simp only [no10, decide_false, cond_false] at hdep
      /- the two-place words -/
      have two : (op.toInt = 11 ∨ op.toInt = 12) → J l g 242 d 91 [some (.ref (g.2.2 + b)), some (.int (Int32.ofInt (c : Int))), some (.int (Int32.ofInt (n : Int))), some (.int (Int32.ofInt (k : Int))), some (.int op)] [] (h.set (b + 11) (.inl (1, 400, s))) kc ks Q := by
        intro h2
        have hb2 : (decide (op.toInt = 11) || decide (op.toInt = 12)) = true := by
          rcases h2 with h2 | h2 <;> simp [h2]
        rw [hb2] at hdep
        simp only [cond_true, Bool.and_eq_true] at hdep
        have hn2 := Nat.le_of_ble_eq_true hdep.1
        have dec : Int32.ofInt (n : Int) + Int32.ofInt (-1) = Int32.ofInt ((n - 1 : Nat) : Int) := by
          rw [← Int32.ofInt_add]
          congr 1
          omega
        have sb := i32_sub1 (n := n - 1) (by omega)
        have sbt : (Int32.ofInt ((n - 1 - 1 : Nat) : Int)).toInt = ((n - 1 - 1 : Nat) : Int) := i32_n (by omega)
        have sbt2 : (Int32.ofInt ((n - 1 : Nat) : Int)).toInt = ((n - 1 : Nat) : Int) := i32_n (by omega)
        have st : ∀ r : Int32, (r = 0 ∨ r = 1) → J l g 242 d 161 [some (.ref (g.2.2 + b)), some (.int (Int32.ofInt (c : Int))), some (.int (Int32.ofInt ((n - 1 : Nat) : Int))), some (.int (Int32.ofInt (k : Int))), some (.int op)] [.int r, .int (Int32.ofInt ((n - 1 - 1 : Nat) : Int)), .ref (g.2.2 + (b + 11))] (h.set (b + 11) (.inl (1, 400, s))) kc ks Q := by
          intro r hr
          refine j_zast (dQ (by decide +kernel)) (so1 _) (i32_in (by omega) (by omega)) ?_
          rw [set2, zb hr]
          refine j_goto (off := 37) (tgt := 199) (dQ (by decide +kernel)) (by decide) ?_
          exact nxt (n - 1) _ (by omega) hdep.2 (bupd hs hr (by rw [i32_at sbt]; omega))
        refine j_iinc (i := 2) (n := -1) (dQ (by decide +kernel)) (by decide +kernel) rfl ?_
        rw [dec]
        refine j_aload_n (k4 := 0) (dQ (by decide +kernel)) rfl ?_
        refine j_get (own := 12) (i := 45) (ci := 12) (f := 24) (dQ (by decide +kernel)) hcls (by decide +kernel) (ob _) (hnf 24 (by decide)) hf24 ?_
        refine j_iload_n (k4 := 2) (dQ (by decide +kernel)) rfl ?_
        refine j_iconst (n := 1) (dQ (by decide +kernel)) ?_
        refine j_isub (dQ (by decide +kernel)) ?_
        rw [sb]
        refine j_iload (i := 4) (dQ (by decide +kernel)) rfl ?_
        refine j_bipush (n := 11) (dQ (by decide +kernel)) ?_
        refine j_icmp_ne (off := 31) (tgt := 136) (dQ (by decide +kernel)) (by decide) (fun _ => ?_) (fun _ => ?_)
        · refine j_aload_n (k4 := 0) (dQ (by decide +kernel)) rfl ?_
          refine j_get (own := 12) (i := 45) (ci := 12) (f := 24) (dQ (by decide +kernel)) hcls (by decide +kernel) (ob _) (hnf 24 (by decide)) hf24 ?_
          refine j_iload_n (k4 := 2) (dQ (by decide +kernel)) rfl ?_
          refine j_iconst (n := 1) (dQ (by decide +kernel)) ?_
          refine j_isub (dQ (by decide +kernel)) ?_
          rw [sb]
          refine j_zald (dQ (by decide +kernel)) (so1 _) (i32_in (by omega) (by omega)) ?_
          refine j_if_ne (off := 12) (tgt := 156) (dQ (by decide +kernel)) (by decide) (fun _ => ?_) (fun _ => ?_)
          · refine j_iconst (n := 1) (dQ (by decide +kernel)) ?_
            refine j_goto (off := 4) (tgt := 161) (dQ (by decide +kernel)) (by decide) ?_
            exact st _ (Or.inr rfl)
          · refine j_aload_n (k4 := 0) (dQ (by decide +kernel)) rfl ?_
            refine j_get (own := 12) (i := 45) (ci := 12) (f := 24) (dQ (by decide +kernel)) hcls (by decide +kernel) (ob _) (hnf 24 (by decide)) hf24 ?_
            refine j_iload_n (k4 := 2) (dQ (by decide +kernel)) rfl ?_
            refine j_zald (dQ (by decide +kernel)) (so1 _) (i32_in (by omega) (by omega)) ?_
            refine j_if_eq (off := 7) (tgt := 160) (dQ (by decide +kernel)) (by decide) (fun _ => ?_) (fun _ => ?_)
            · refine j_iconst (n := 0) (dQ (by decide +kernel)) ?_
              exact st _ (Or.inl rfl)
            · refine j_iconst (n := 1) (dQ (by decide +kernel)) ?_
              refine j_goto (off := 4) (tgt := 161) (dQ (by decide +kernel)) (by decide) ?_
              exact st _ (Or.inr rfl)
        · refine j_aload_n (k4 := 0) (dQ (by decide +kernel)) rfl ?_
          refine j_get (own := 12) (i := 45) (ci := 12) (f := 24) (dQ (by decide +kernel)) hcls (by decide +kernel) (ob _) (hnf 24 (by decide)) hf24 ?_
          refine j_iload_n (k4 := 2) (dQ (by decide +kernel)) rfl ?_
          refine j_iconst (n := 1) (dQ (by decide +kernel)) ?_
          refine j_isub (dQ (by decide +kernel)) ?_
          rw [sb]
          refine j_zald (dQ (by decide +kernel)) (so1 _) (i32_in (by omega) (by omega)) ?_
          refine j_if_eq (off := 16) (tgt := 132) (dQ (by decide +kernel)) (by decide) (fun _ => ?_) (fun _ => ?_)
          · refine j_iconst (n := 0) (dQ (by decide +kernel)) ?_
            refine j_goto (off := 28) (tgt := 161) (dQ (by decide +kernel)) (by decide) ?_
            exact st _ (Or.inl rfl)
          · refine j_aload_n (k4 := 0) (dQ (by decide +kernel)) rfl ?_
            refine j_get (own := 12) (i := 45) (ci := 12) (f := 24) (dQ (by decide +kernel)) hcls (by decide +kernel) (ob _) (hnf 24 (by decide)) hf24 ?_
            refine j_iload_n (k4 := 2) (dQ (by decide +kernel)) rfl ?_
            refine j_zald (dQ (by decide +kernel)) (so1 _) (i32_in (by omega) (by omega)) ?_
            refine j_if_eq (off := 7) (tgt := 132) (dQ (by decide +kernel)) (by decide) (fun _ => ?_) (fun _ => ?_)
            · refine j_iconst (n := 0) (dQ (by decide +kernel)) ?_
              refine j_goto (off := 28) (tgt := 161) (dQ (by decide +kernel)) (by decide) ?_
              exact st _ (Or.inl rfl)
            · refine j_iconst (n := 1) (dQ (by decide +kernel)) ?_
              refine j_goto (off := 32) (tgt := 161) (dQ (by decide +kernel)) (by decide) ?_
              exact st _ (Or.inr rfl)
      refine j_iload (i := 4) (dQ (by decide +kernel)) rfl ?_
      refine j_bipush (n := 11) (dQ (by decide +kernel)) ?_
      refine j_icmp_eq (off := 10) (tgt := 91) (dQ (by decide +kernel)) (by decide) (fun q => two (Or.inl (by rw [q]; decide))) (fun n11 => ?_)
      refine j_iload (i := 4) (dQ (by decide +kernel)) rfl ?_
      refine j_bipush (n := 12) (dQ (by decide +kernel)) ?_
      refine j_icmp_ne (off := 77) (tgt := 165) (dQ (by decide +kernel)) (by decide) (fun n12 => ?_) (fun n12 => two (Or.inr (by rw [Classical.not_not.mp n12]; decide)))
      have no11 : ¬ op.toInt = 11 := fun q => n11 (((i32_eqv (z := 11) (by omega)).mpr q).trans (by decide))
      have no12 : ¬ op.toInt = 12 := fun q => n12 (((i32_eqv (z := 12) (by omega)).mpr q).trans (by decide))
      simp only [no11, no12, decide_false, Bool.or_self, cond_false, Bool.and_eq_true, Bool.or_eq_true, decide_eq_true_eq] at hdep
      obtain ⟨hl3, hd3⟩ := hdep
      have hag := hargs k (by omega)
      obtain ⟨q, hq⟩ : ∃ q : Nat, (f (a + 130 + 2 * k + 1)).toInt = (q : Int) := ⟨(f (a + 130 + 2 * k + 1)).toInt.toNat, by omega⟩
      obtain ⟨p, hp⟩ : ∃ p : Nat, op.toInt = (p : Int) := ⟨op.toInt.toNat, by omega⟩
      have ix1 : (Int32.ofInt ((a + 130 + 2 * k : Nat) : Int) + Int32.ofInt 1).toInt = ((a + 130 + 2 * k + 1 : Nat) : Int) := by
        rw [i32_addn ixt (by omega) (by omega)]
        omega
      have nt : (Int32.ofInt (n : Int)).toInt = (n : Int) := i32_n (by omega)
      refine j_aload_n (k4 := 0) (dQ (by decide +kernel)) rfl ?_
      refine j_get (own := 12) (i := 45) (ci := 12) (f := 24) (dQ (by decide +kernel)) hcls (by decide +kernel) (ob _) (hnf 24 (by decide)) hf24 ?_
      refine j_iload_n (k4 := 2) (dQ (by decide +kernel)) rfl ?_
      refine j_aload_n (k4 := 0) (dQ (by decide +kernel)) rfl ?_
      refine j_iload (i := 4) (dQ (by decide +kernel)) rfl ?_
      refine j_aload_n (k4 := 0) (dQ (by decide +kernel)) rfl ?_
      refine j_get (own := 12) (i := 7) (ci := 12) (f := 2) (dQ (by decide +kernel)) hcls (by decide +kernel) (ob _) (hnf 2 (by decide)) hf2 ?_
      refine j_aload_n (k4 := 0) (dQ (by decide +kernel)) rfl ?_
      refine j_get (own := 12) (i := 261) (ci := 12) (f := 25) (dQ (by decide +kernel)) hcls (by decide +kernel) (ob _) (hnf 25 (by decide)) hf25 ?_
      refine j_sipush (n := 130) (dQ (by decide +kernel)) ?_
      refine j_iadd (dQ (by decide +kernel)) ?_
      refine j_iconst (n := 2) (dQ (by decide +kernel)) ?_
      refine j_iload_n (k4 := 3) (dQ (by decide +kernel)) rfl ?_
      refine j_imul (dQ (by decide +kernel)) ?_
      refine j_iadd (dQ (by decide +kernel)) ?_
      rw [ix]
      refine j_iconst (n := 1) (dQ (by decide +kernel)) ?_
      refine j_iadd (dQ (by decide +kernel)) ?_
      refine j_iald (dQ (by decide +kernel)) (rw1 _) (i32_in (by omega) (by omega)) ?_
      rw [i32_at ix1]
      show J l g 242 d 192 _ (([.int op, .int (f (a + 130 + 2 * k + 1))] : List Value).reverse ++ .ref (g.2.2 + b) :: [.int (Int32.ofInt (n : Int)), .ref (g.2.2 + (b + 11))]) _ kc ks _
      rw [show kc = 0 + kc by omega, show ks = 0 + ks by omega]
      refine j_cV (own := 12) (i := 264) (y2 := 243) (d2 := 1) (dQ (by decide +kernel)) hcls (by decide +kernel) (by decide) (by decide +kernel) (show 2 = jnp 243 by decide +kernel) (by omega) (by show (1 + (1 + 0) : Nat) ≤ 8; decide) (ob _) (fun r hr => by cases hr; decide +kernel) (leaf_run hp hq (by omega) (ob _) hf2 hf22 hf23 (rw1 _) (na1 _) (bu1 _)) (fun v h' hq' => ?_)
      obtain ⟨rfl, hv⟩ := hq'
      have fin : ∀ r : Int32, (r = 0 ∨ r = 1) → J l g 242 d 195 [some (.ref (g.2.2 + b)), some (.int (Int32.ofInt (c : Int))), some (.int (Int32.ofInt (n : Int))), some (.int (Int32.ofInt (k : Int))), some (.int op)] [.int r, .int (Int32.ofInt (n : Int)), .ref (g.2.2 + (b + 11))] (h.set (b + 11) (.inl (1, 400, s))) kc ks Q := by
        intro r hr
        refine j_zast (dQ (by decide +kernel)) (so1 _) (i32_in (by omega) (by omega)) ?_
        rw [set2, zb hr]
        refine j_iinc (i := 2) (n := 1) (dQ (by decide +kernel)) (by decide +kernel) rfl ?_
        have := nxt (n + 1) _ (by omega) hd3 (bupd (i := (Int32.ofInt (n : Int)).toNatClampNeg) hs hr (by rw [i32_at nt]; omega))
        rw [show Int32.ofInt (((n + 1 : Nat) : Int)) = Int32.ofInt (n : Int) + Int32.ofInt 1 by rw [← Int32.ofInt_add]; rfl] at this
        exact this
      rcases hv with rfl | rfl
      · exact fin 0 (Or.inl rfl)
      · exact fin 1 (Or.inr rfl)
    · have is10 : op.toInt = 10 := by rw [Classical.not_not.mp n10]; decide
      simp only [is10, decide_true, cond_true, Bool.and_eq_true] at hdep
      have hn1 := Nat.le_of_ble_eq_true hdep.1
      have sb := i32_sub1 (n := n) hn1
      have sbt : (Int32.ofInt ((n - 1 : Nat) : Int)).toInt = ((n - 1 : Nat) : Int) := i32_n (by omega)
      have st : ∀ r : Int32, (r = 0 ∨ r = 1) → J l g 242 d 73 [some (.ref (g.2.2 + b)), some (.int (Int32.ofInt (c : Int))), some (.int (Int32.ofInt (n : Int))), some (.int (Int32.ofInt (k : Int))), some (.int op)] [.int r, .int (Int32.ofInt ((n - 1 : Nat) : Int)), .ref (g.2.2 + (b + 11))] (h.set (b + 11) (.inl (1, 400, s))) kc ks Q := by
        intro r hr
        refine j_zast (dQ (by decide +kernel)) (so1 _) (i32_in (by omega) (by omega)) ?_
        rw [set2, zb hr]
        refine j_goto (off := 125) (tgt := 199) (dQ (by decide +kernel)) (by decide) ?_
        exact nxt n _ (by omega) hdep.2 (bupd hs hr (by rw [i32_at sbt]; omega))
      refine j_aload_n (k4 := 0) (dQ (by decide +kernel)) rfl ?_
      refine j_get (own := 12) (i := 45) (ci := 12) (f := 24) (dQ (by decide +kernel)) hcls (by decide +kernel) (ob _) (hnf 24 (by decide)) hf24 ?_
      refine j_iload_n (k4 := 2) (dQ (by decide +kernel)) rfl ?_
      refine j_iconst (n := 1) (dQ (by decide +kernel)) ?_
      refine j_isub (dQ (by decide +kernel)) ?_
      rw [sb]
      refine j_aload_n (k4 := 0) (dQ (by decide +kernel)) rfl ?_
      refine j_get (own := 12) (i := 45) (ci := 12) (f := 24) (dQ (by decide +kernel)) hcls (by decide +kernel) (ob _) (hnf 24 (by decide)) hf24 ?_
      refine j_iload_n (k4 := 2) (dQ (by decide +kernel)) rfl ?_
      refine j_iconst (n := 1) (dQ (by decide +kernel)) ?_
      refine j_isub (dQ (by decide +kernel)) ?_
      rw [sb]
      refine j_zald (dQ (by decide +kernel)) (so1 _) (i32_in (by omega) (by omega)) ?_
      refine j_if_ne (off := 7) (tgt := 72) (dQ (by decide +kernel)) (by decide) (fun _ => ?_) (fun _ => ?_)
      · refine j_iconst (n := 0) (dQ (by decide +kernel)) ?_
        exact st _ (Or.inl rfl)
      · refine j_iconst (n := 1) (dQ (by decide +kernel)) ?_
        refine j_goto (off := 4) (tgt := 73) (dQ (by decide +kernel)) (by decide) ?_
        exact st _ (Or.inr rfl)
end SO
