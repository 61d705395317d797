/-! calls at the step; the whole step -/
section IV
variable {TT : List (List aCT)} {g : jG} {EI : aB → jH → Prop} {W P : List aR} {bk0 : aB} {h0 : jH} {ev : List Int} {y : Nat} {vs : List Int} {bk : aB} {al : List (Option Value)} {st : List Value} {h : jH} {env : List aE} {fc : List aF} {loc : List (Option aV)} {stk : List aV} {ov : List aO} {pr : List Nat} {l : Launch} {d pc kc ks : Nat} {Q : Option Value → jH → Prop} {KT : List aK} {KI : List (List Nat)} {own n len : Nat} {L : List (Nat × aS × Nat × Nat)}
/-- a call's contract, found: what the rules of a call want -/
theorem aInv_ok {y2 m : Nat} (hM : mOK TT g EI P KT l y own n) (hS : aInv (TT, KT, KI, W, P, y, own, d, n) pc kc ks y2 env fc loc stk ov pr m = some L) (hp : PT TT g EI W bk0 h0 ev y vs bk al st h (env, fc, loc, stk, ov, pr)) (k : GoA TT g EI W bk0 h0 ev y l d Q L) :
    m ≤ stk.length ∧ ∃ (mc ms kc' ks' d2 : Nat) (Q' : Option Value → jH → Prop), mc + kc' = kc ∧ ms + ks' = ks ∧ d2 + 1 ≤ d ∧ ((st.drop m).map fun v => v.category).sum ≤ 8 ∧ jCal l g y2 d2 ((st.take m).reverse) h mc ms Q' ∧ ∀ v h', Q' v h' → J l g y d (pc + 3) al (v.toList ++ st.drop m) h' kc' ks' Q := by
  obtain ⟨hb, h1⟩ := bif_some hS
  have hb := Nat.le_of_ble_eq_true hb
  split at h1
  · cases h1
  · rename_i C hC
    split at h1
    · cases h1
    · rename_i r hr
      have hL := Option.some.inj h1
      clear h1
      subst hL
      obtain ⟨j, K, k1, k2, k3, k4, k5, k6⟩ := aCall_ok hr
      obtain ⟨s1, s2, s3, s4⟩ := sk_args hp.1.2.2.2.2.1 hb
      obtain ⟨a1, a2, Q', a3, a4⟩ := aApp_ok (hM.2.2.2.2 j K k1 k2) k6 (hp.drop m) s2 s4
      subst k3
      refine ⟨hb, _, _, r.1, r.2.1, _, Q', k4, k5, a1, ?_, a3, fun v h' hq => ?_⟩
      · rw [sk_cat _ _ (sk_drop m _ _ hp.1.2.2.2.2.1)]
        exact a2
      · obtain ⟨S, q1, vs', bk', q2⟩ := a4 v h' hq
        exact k (pc + 3, S, r.1, r.2.1) (List.mem_map.mpr ⟨S, q1, rfl⟩) _ _ _ _ _ q2
theorem cpTy_ok {n0 i : Nat} {s0 s1 : List aSeg} {x : Int} (h : cpTy n0 s0 s1 = true) (hx : sgOK s0 i x) (hi : i < n0) : ∀ j, sgOK s1 j x := by
  unfold cpTy at h
  split at h
  · rename_i n b
    rw [Bool.and_eq_true] at h
    have hn := Nat.eq_of_beq_eq_true h.1
    have hb := hx (0, n, 1, [b]) List.mem_cons_self (Nat.zero_le _) (by show i < 0 + n; omega) b (by simp [Nat.mod_one])
    intro j s hs _ _ q hq
    have h3 := List.all_eq_true.mp h.2 s hs
    have h4 := List.all_eq_true.mp h3 q (List.mem_of_getElem? hq)
    simp only [Bool.and_eq_true, decide_eq_true_eq] at h4
    omega
  · cases h
theorem isCp_mem {own j : Nat} (h : isCp own j = true) : (own, j) ∈ jcp := by
  obtain ⟨q, hq, h1⟩ := List.any_eq_true.mp h
  rw [Bool.and_eq_true] at h1
  have e1 := Nat.eq_of_beq_eq_true h1.1
  have e2 := Nat.eq_of_beq_eq_true h1.2
  rw [← e1, ← e2]
  exact hq
theorem i32_nn {z : Int32} (hz : 0 ≤ z.toInt) : ¬ z < 0 := by
  intro h
  have := Int32.lt_iff_toInt_lt.mp h
  simp at this
  omega
theorem st_cpy {j : Nat} {n' dp w1 sp w0 : aV} {S : aS} (hE : eiOK TT g EI P) (ho : jcN own = (jyN y).cls) (hd : decode (jbC y) pc = .ok (.invokestatic j, 3)) (hcp : (own, j) ∈ jcp) (k1 : Nat.beq n'.1 0 = true) (k2 : Nat.beq dp.1 0 = true) (k3 : Nat.beq w1.1 2 = true) (k4 : Nat.beq sp.1 0 = true) (k5 : Nat.beq w0.1 2 = true) (hd1 : 1 ≤ d) (hcat : catS stk ≤ 8) (hS : aCpy TT W P env fc loc stk ov pr w0.2.1 w0.2.2 w1.2.1 w1.2.2 sp.2.1 dp.2.1 n'.2.1 = some S) (hp : PT TT g EI W bk0 h0 ev y vs bk al st h (env, fc, loc, n' :: dp :: w1 :: sp :: w0 :: stk, ov, pr)) (k : Go TT g EI W bk0 h0 ev y l d Q (pc + 3) S kc ks) : J l g y d pc al st h kc ks Q := by
  obtain ⟨x1, s1, rfl, q1, hp1⟩ := hp.pop
  obtain ⟨x2, s2, rfl, q2, hp2⟩ := hp1.pop
  obtain ⟨x3, s3, rfl, q3, hp3⟩ := hp2.pop
  obtain ⟨x4, s4, rfl, q4, hp4⟩ := hp3.pop
  obtain ⟨x5, s5, rfl, q5, hp5⟩ := hp4.pop
  obtain ⟨N, rfl, hN⟩ := q1.int k1
  obtain ⟨D, rfl, hD⟩ := q2.int k2
  obtain ⟨b1, hb1, rfl⟩ := q3.rf k3
  obtain ⟨A, rfl, hA⟩ := q4.int k4
  obtain ⟨b0, hb0, rfl⟩ := q5.rf k5
  rw [aCpy] at hS
  split at hS
  · rename_i r0 r1 ht0 ht1
    obtain ⟨hc, hS⟩ := bif_some hS
    simp only [Bool.and_eq_true] at hc
    obtain ⟨⟨⟨⟨⟨⟨⟨⟨⟨c1, c2⟩, c3⟩, c4⟩, c5⟩, c6⟩, c7⟩, c8⟩, c9⟩, c10⟩ := hc
    have hS2 := Option.some.inj hS
    clear hS
    subst hS2
    have t0 := Nat.eq_of_beq_eq_true c1
    have t1 := Nat.eq_of_beq_eq_true c2
    obtain ⟨cc0, hc0, f, rfl, hsg0⟩ := hp5.2.1.1 _ b0 w0.2.2 _ hb0 ht0
    obtain ⟨cc1, hc1, f1, rfl, hsg1⟩ := hp5.2.1.1 _ b1 w1.2.2 _ hb1 ht1
    have a3 := aWithin_ok hp5.ee c3 hA
    have a4 := aWithin_ok hp5.ee c4 hD
    have a5 := aWithin_ok hp5.ee c5 hN
    obtain ⟨z6, z61, z62⟩ := ent_ok hp5.ee.1 hp5.ee.2.2 c6
    rw [fadd_ok (fadd_ok fcon_ok (lin_ok hp5.ee.2.1 hA)) (lin_ok hp5.ee.2.1 hN)] at z61
    have z63 := Option.some.inj z61
    obtain ⟨z7, z71, z72⟩ := ent_ok hp5.ee.1 hp5.ee.2.2 c7
    rw [fadd_ok (fadd_ok fcon_ok (lin_ok hp5.ee.2.1 hD)) (lin_ok hp5.ee.2.1 hN)] at z71
    have z73 := Option.some.inj z71
    have e1 := i32_clamp (i := A) (by omega)
    have e2 := i32_clamp (i := D) (by omega)
    have e3 := i32_clamp (i := N) (by omega)
    have hct : ctOK g bk (.inl r1) (.inl (r1.1, r1.2.1, va_cpy f f1 A.toNatClampNeg D.toNatClampNeg N.toNatClampNeg)) := ⟨_, rfl, fun i hi => by
      by_cases hin : D.toNatClampNeg ≤ i ∧ i < D.toNatClampNeg + N.toNatClampNeg
      · simp only [va_cpy, if_pos hin]
        exact cpTy_ok c8 (hsg0 _ (by omega)) (by omega) i
      · simp only [va_cpy, if_neg hin]
        exact hsg1 i hi⟩
    have hoff : offW [(w1.2.1, w1.2.2, 0, (r1.2.1 : Int) - 1)] w1.2.1 w1.2.2 (.inl (r1.1, r1.2.1, f1)) (.inl (r1.1, r1.2.1, va_cpy f f1 A.toNatClampNeg D.toNatClampNeg N.toNatClampNeg)) := ⟨rfl, rfl, fun i hi => by
      have hin : ¬ (D.toNatClampNeg ≤ i ∧ i < D.toNatClampNeg + N.toNatClampNeg) := fun q => hi ⟨_, List.mem_cons_self, rfl, rfl, by show (0 : Int) ≤ i; omega, by show (i : Int) ≤ (r1.2.1 : Int) - 1; omega⟩
      simp only [va_cpy, if_neg hin]⟩
    have hP2 := hp5.write hE hb1 ht1 hc1 hct hoff c9 c10
    rw [t1] at hP2 hc1
    rw [t0] at hc0
    refine j_copy hd ho hcp hc0 hc1 (i32_nn (by omega)) (i32_nn (by omega)) (i32_nn (by omega)) (by omega) (by omega) hd1 ?_ (k _ _ _ _ _ hP2)
    rw [sk_cat _ _ hp5.1.2.2.2.2.1]
    exact hcat
  · cases hS
theorem jfindS_mem {own j y2 : Nat} (h : jfindS own j = some y2) : (own, j, y2) ∈ jeM ∨ (own, j, y2) ∈ jeN := by
  rw [jfindS] at h
  split at h
  · rename_i q hq
    cases h
    exact Or.inl (jfind3_mem hq)
  · exact Or.inr (jfind3_mem h)
theorem jfindS_M {own j y2 : Nat} (h : jfindS own j = some y2) (hs : (jfind3 jeM own j).isSome = true) : (own, j, y2) ∈ jeM := by
  rw [jfindS] at h
  split at h
  · rename_i q hq
    cases h
    exact jfind3_mem hq
  · rename_i hq
    rw [hq] at hs
    cases hs
theorem i32_lt {x z : Int32} : x < z ↔ x.toInt < z.toInt := Int32.lt_iff_toInt_lt
theorem st_min {j : Nat} {v w : aV} {q : aE × List aF} (ho : jcN own = (jyN y).cls) (hd : decode (jbC y) pc = .ok (.invokestatic j, 3)) (hm : (own, j, 49) ∈ jeM) (k1 : Nat.beq v.1 0 = true) (k2 : Nat.beq w.1 0 = true) (hd1 : 1 ≤ d) (hcat : catS stk ≤ 8) (hq : aMin env fc w.2.1 v.2.1 = some q) (hp : PT TT g EI W bk0 h0 ev y vs bk al st h (env, fc, loc, v :: w :: stk, ov, pr)) (k : Go TT g EI W bk0 h0 ev y l d Q (pc + 3) (env ++ [q.1], q.2, loc, (0, env.length, 0) :: stk, ov, pr) kc ks) : J l g y d pc al st h kc ks Q := by
  obtain ⟨x1, s1, rfl, q1, hp1⟩ := hp.pop
  obtain ⟨x2, s2, rfl, q2, hp2⟩ := hp1.pop
  obtain ⟨b, rfl, hb⟩ := q1.int k1
  obtain ⟨a, rfl, ha⟩ := q2.int k2
  obtain ⟨h1, h2, h3⟩ := hp2.ee
  obtain ⟨p, r, g1, g2, he⟩ := aiv2 hq
  cases he
  have b1 := aiv_ok h1 h2 h3 g1 ha
  have b2 := aiv_ok h1 h2 h3 g2 hb
  have hv : (if b < a then b else a).toInt ≤ a.toInt ∧ (if b < a then b else a).toInt ≤ b.toInt ∧ ((if b < a then b else a).toInt = a.toInt ∨ (if b < a then b else a).toInt = b.toInt) := by
    by_cases hc : b < a
    · rw [if_pos hc]
      have := i32_lt.mp hc
      omega
    · rw [if_neg hc]
      have : ¬ b.toInt < a.toInt := fun q => hc (i32_lt.mpr q)
      omega
  have hP := hp2.push32 (e := eNew (bif decide (p.1 < r.1) then p.1 else r.1) (bif decide (p.2 < r.2) then p.2 else r.2) none) (x := if b < a then b else a) (eVal.bd (by by_cases c : p.1 < r.1 <;> simp [c] <;> omega) (by by_cases c : p.2 < r.2 <;> simp [c] <;> omega))
  refine j_mmin hd ho hm hd1 (by rw [sk_cat _ _ hp2.1.2.2.2.2.1]; exact hcat) (k _ _ _ _ _ (hP.setE ⟨hP.ee.1, hP.ee.2.1, fun F hF2 => ?_⟩))
  have hone : fev (vs ++ [(if b < a then b else a).toInt]) ([(env.length, 1)], 0) = some (if b < a then b else a).toInt := fone_ok (by rw [h1.1]; simp)
  rcases List.mem_cons.mp hF2 with rfl | hF2
  · exact ⟨_, fadd_ok (fev_app (lin_ok h2 ha)) hone, by omega⟩
  · rcases List.mem_cons.mp hF2 with rfl | hF2
    · exact ⟨_, fadd_ok (fev_app (lin_ok h2 hb)) hone, by omega⟩
    · exact hP.ee.2.2 F hF2
theorem i32_abs {x : Int32} (h : (-2147483648 : Int) < x.toInt) : (if 0 ≤ x then x else 0 - x).toInt = if 0 ≤ x.toInt then x.toInt else -x.toInt := by
  have hm := Int32.toInt_lt x
  by_cases hc : 0 ≤ x
  · have h1 : 0 ≤ x.toInt := by simpa using Int32.le_iff_toInt_le.mp hc
    rw [if_pos hc, if_pos h1]
  · have h1 : ¬ 0 ≤ x.toInt := fun q => hc (Int32.le_iff_toInt_le.mpr (by simpa using q))
    rw [if_neg hc, if_neg h1, Int32.toInt_sub]
    rw [show (0 : Int32).toInt = 0 from rfl]
    rw [Int.bmod_eq_of_le (by omega) (by omega)]
    omega
theorem st_abs {j : Nat} {v : aV} {e : aE} (ho : jcN own = (jyN y).cls) (hd : decode (jbC y) pc = .ok (.invokestatic j, 3)) (hm : (own, j, 161) ∈ jeM) (k1 : Nat.beq v.1 0 = true) (hd1 : 1 ≤ d) (hcat : catS stk ≤ 8) (hq : aAbs env fc v.2.1 = some e) (hp : PT TT g EI W bk0 h0 ev y vs bk al st h (env, fc, loc, v :: stk, ov, pr)) (k : Go TT g EI W bk0 h0 ev y l d Q (pc + 3) (env ++ [e], fc, loc, (0, env.length, 0) :: stk, ov, pr) kc ks) : J l g y d pc al st h kc ks Q := by
  obtain ⟨x1, s1, rfl, q1, hp1⟩ := hp.pop
  obtain ⟨a, rfl, ha⟩ := q1.int k1
  rw [aAbs] at hq
  cases g1 : aiv env fc v.2.1 with
  | none => rw [g1] at hq; cases hq
  | some p =>
    rw [g1] at hq
    have b1 := aiv_ok hp1.ee.1 hp1.ee.2.1 hp1.ee.2.2 g1 ha
    refine j_mabs hd ho hm hd1 (by rw [sk_cat _ _ hp1.1.2.2.2.2.1]; exact hcat) (k _ _ _ _ _ (hp1.push32 ?_))
    dsimp only at hq
    by_cases hc : (-2147483648 : Int) < p.1
    · simp only [hc, decide_true, cond_true] at hq
      cases hq
      rw [i32_abs (by omega)]
      refine eVal.bd ?_ ?_
      · by_cases c : 0 ≤ a.toInt
        · rw [if_pos c]; exact c
        · rw [if_neg c]; omega
      · by_cases c : 0 ≤ a.toInt <;> by_cases c2 : p.2 < -p.1 <;> simp [c, c2] <;> omega
    · simp only [hc, decide_false, cond_false] at hq
      cases hq
      exact eVal.any32 _
theorem ok_invS {j : _} (hM : mOK TT g EI P KT l y own n) (hd : decode (jbC y) pc = .ok (.invokestatic j, len)) (hS : aStep (TT, KT, KI, W, P, y, own, d, n) pc kc ks (.invokestatic j) len env fc loc stk ov pr = some L) (hp : PT TT g EI W bk0 h0 ev y vs bk al st h (env, fc, loc, stk, ov, pr)) (k : GoA TT g EI W bk0 h0 ev y l d Q L) : J l g y d pc al st h kc ks Q := by
  obtain ⟨hb, h1⟩ := bif_some hS
  have hlen := Nat.eq_of_beq_eq_true hb
  subst hlen
  dsimp only at h1
  cases hcp : isCp own j with
  | true =>
    rw [hcp] at h1
    simp only [cond_true] at h1
    unfold aCpyS at h1
    split at h1
    · obtain ⟨hb, h2⟩ := bif_some h1
      simp only [Bool.and_eq_true] at hb
      obtain ⟨⟨⟨⟨⟨⟨c1, c2⟩, c3⟩, c4⟩, c5⟩, c6⟩, c7⟩ := hb
      obtain ⟨S, hS2, rfl⟩ := one_some h2
      exact st_cpy hM.2.2.1 hM.2.2.2.1 hd (isCp_mem hcp) c1 c2 c3 c4 c5 (Nat.le_of_ble_eq_true c6) (Nat.le_of_ble_eq_true c7) hS2 hp (k _ List.mem_cons_self)
    · cases h1
  | false =>
    rw [hcp] at h1
    simp only [cond_false] at h1
    split at h1
    · rename_i hf
      obtain ⟨hs, h2⟩ := bif_some h1
      unfold aMinS at h2
      split at h2
      · obtain ⟨hb, h3⟩ := bif_some h2
        simp only [Bool.and_eq_true] at hb
        obtain ⟨⟨⟨c1, c2⟩, c3⟩, c4⟩ := hb
        split at h3
        · rename_i q hq
          obtain ⟨S, hS2, rfl⟩ := one_some h3
          cases hS2
          exact st_min hM.2.2.2.1 hd (jfindS_M hf hs) c1 c2 (Nat.le_of_ble_eq_true c3) (Nat.le_of_ble_eq_true c4) hq hp (k _ List.mem_cons_self)
        · cases h3
      · cases h2
    · rename_i hf
      obtain ⟨hs, h2⟩ := bif_some h1
      unfold aAbsS at h2
      split at h2
      · obtain ⟨hb, h3⟩ := bif_some h2
        simp only [Bool.and_eq_true] at hb
        obtain ⟨⟨c1, c3⟩, c4⟩ := hb
        split at h3
        · rename_i q hq
          obtain ⟨S, hS2, rfl⟩ := one_some h3
          cases hS2
          exact st_abs hM.2.2.2.1 hd (jfindS_M hf hs) c1 (Nat.le_of_ble_eq_true c3) (Nat.le_of_ble_eq_true c4) hq hp (k _ List.mem_cons_self)
        · cases h3
      · cases h2
    · rename_i y2 _ _ hf
      obtain ⟨hb2, h2⟩ := bif_some h1
      simp only [Bool.and_eq_true] at hb2
      have hk := Nat.eq_of_beq_eq_true hb2.1
      have hy := blt_lt hb2.2
      obtain ⟨m1, m2, m3, m4⟩ := je_mem hy
      obtain ⟨i1, mc, ms, kc', ks', d2, Q', e1, e2, i2, i3, i4, i5⟩ := aInv_ok hM h2 hp k
      subst e1
      subst e2
      obtain ⟨s1, s2, s3, s4⟩ := sk_args hp.1.2.2.2.2.1 i1
      rw [s1]
      rcases jfindS_mem hf with hf | hf
      · exact j_callS hd hM.2.2.2.1 hf hy m1 m2 hk (m3 (by rw [hk]; decide)) s3 i2 i3 i4 i5
      · exact j_callSN hd hM.2.2.2.1 hf hy m1 m2 hk (m3 (by rw [hk]; decide)) s3 i2 i3 i4 i5
    · cases h1
theorem ok_invV {j : _} (hM : mOK TT g EI P KT l y own n) (hd : decode (jbC y) pc = .ok (.invokevirtual j, len)) (hS : aStep (TT, KT, KI, W, P, y, own, d, n) pc kc ks (.invokevirtual j) len env fc loc stk ov pr = some L) (hp : PT TT g EI W bk0 h0 ev y vs bk al st h (env, fc, loc, stk, ov, pr)) (k : GoA TT g EI W bk0 h0 ev y l d Q L) : J l g y d pc al st h kc ks Q := by
  obtain ⟨hb, h1⟩ := bif_some hS
  have hlen := Nat.eq_of_beq_eq_true hb
  subst hlen
  split at h1
  · rename_i y2 hf
    obtain ⟨hb2, h2⟩ := bif_some h1
    simp only [Bool.and_eq_true] at hb2
    obtain ⟨⟨hk, hy⟩, hr⟩ := hb2
    have hk := Nat.eq_of_beq_eq_true hk
    have hy := blt_lt hy
    obtain ⟨m1, m2, m3, m4⟩ := je_mem hy
    obtain ⟨i1, mc, ms, kc', ks', d2, Q', e1, e2, i2, i3, i4, i5⟩ := aInv_ok hM h2 hp k
    subst e1
    subst e2
    rw [aRcv] at hr
    cases hv : stk[jnp y2]? with
    | none => rw [hv] at hr; cases hr
    | some v =>
      rw [hv] at hr
      simp only [Bool.and_eq_true] at hr
      obtain ⟨r1, r2⟩ := hr
      cases ht : tyAt TT v.2.1 v.2.2 with
      | none => rw [ht] at r2; cases r2
      | some t =>
        rw [ht] at r2
        cases t with
        | inl q => cases r2
        | inr q =>
          have r3 := Nat.eq_of_beq_eq_true r2
          obtain ⟨hl, hat⟩ := sk_at _ _ hp.1.2.2.2.2.1
          obtain ⟨w, w1, w2⟩ := hat _ v hv
          obtain ⟨b, hb3, rfl⟩ := w2.rf r1
          obtain ⟨c, hcc, fs, rfl, hlen, hfs⟩ := hp.2.1.1 _ b v.2.2 _ hb3 ht
          have hlt : jnp y2 < st.length := (List.getElem?_eq_some_iff.mp w1).1
          have e1 : (st.take (jnp y2 + 1)).reverse = Value.ref (g.2.2 + (b + v.2.2)) :: (st.take (jnp y2)).reverse := by
            rw [List.take_succ, w1]
            simp
          rw [e1] at i4
          have e2 : st = ((st.take (jnp y2)).reverse).reverse ++ Value.ref (g.2.2 + (b + v.2.2)) :: st.drop (jnp y2 + 1) := by
            rw [List.reverse_reverse]
            have e3 := (List.take_append_drop (jnp y2 + 1) st).symm
            rw [List.take_succ, w1] at e3
            simpa using e3
          rw [e2]
          exact j_callV hd hM.2.2.2.1 (jfind3_mem hf) hy m1 (m4 hk) m2 hk (m3 (by rw [hk]; decide)) (by rw [List.length_reverse, List.length_take]; omega) i2 i3 hcc (by rw [r3]; exact jyo_cl hy) i4 i5
  · cases h1
end IV
