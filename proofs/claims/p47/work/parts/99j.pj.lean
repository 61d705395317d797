/-! rules of the reference keeps its contract -/
section PJ
variable {l : Launch} {g : jG} {n : Int}
def mlW : List aR := [(1, 0, 0, 1), (1, 0, 6, 13), (1, 0, 15, 15), (1, 0, 18, 18), (1, 0, 20, 21), (1, 1, 1130, 2989), (1, 5, 0, 127), (1, 6, 0, 399), (1, 7, 0, 399), (1, 8, 0, 399)]
def mlK : aK := (217, [some (2, 0, 0, 1, 0), none, none], [], [], [(0, -6, 16, 0, 0, [])], [], [], mlW, 9, 0, 0)
theorem use_509 (hk : kOK TTs g (EIm n) l Kx_509) {W0 : List aR} {bk0 bk : aB} {h0 h : jH} (hO : hOK TTs g (EIm n) W0 bk0 h0 bk h) {a1 : Nat} (ha1 : bk 1 = some a1) {x1 : Int32} (hx1 : (-2147483648 : Int) ≤ x1.toInt ∧ x1.toInt ≤ 2147483647) :
    jCal l g 206 1 [.ref (g.2.2 + (a1 + 0)), .int x1] h 0 0 (kPost TTs g (EIm n) Kx_509 bk h [x1.toInt]) := by
  refine hk bk h [.ref (g.2.2 + (a1 + 0)), .int x1] [x1.toInt] hO.1 hO.2.1 hO.2.2.1 hO.2.2.2.2.2 (show 2 ≤ jmx 206 by decide +kernel) rfl (fun q hq => ?_) ⟨⟨rfl, fun i e z he hz => ?_⟩, eFm_plain (plain_app (spEnv_plain _) clEnv_plain), fun F hF => absurd hF List.not_mem_nil, fun i v hv => ?_, trivial, fun q hq => ?_, fun B hB => absurd hB List.not_mem_nil⟩
  · have hq : q ∈ ([] : List (Nat × Int × Nat)) := hq
    exact absurd hq List.not_mem_nil
  · match i, he, hz with
    | 0, he, hz => cases he; cases hz; exact hx1
    | i + 1, he, _ => cases he
  · match i, hv with
    | 0, hv => cases hv; exact ⟨_, rfl, a1, ha1, rfl⟩
    | 1, hv => cases hv; exact ⟨_, rfl, x1, rfl, rfl⟩
    | i + 2, hv => cases hv
  · exact absurd hq List.not_mem_nil
theorem ml_fin {bk bk' : aB} {h h' : jH} {x : Int32} (hO : hOK TTs g (EIm n) mlW bk h bk' h') (h1 : -6 ≤ x.toInt) (h2 : x.toInt ≤ 16) : kPost TTs g (EIm n) mlK bk h [] (some (.int x)) h' := ⟨bk', [], hO, ⟨rfl, fun j q x hj => by cases hj⟩, _, List.mem_cons_self, x, rfl, ⟨h1, h2⟩, Or.inl rfl, fun F hF => absurd hF List.not_mem_nil⟩
theorem pS.of {W0 : List aR} {bk0 bk : aB} {h0 h : jH} (hO : hOK TTs g (EIm n) W0 bk0 h0 bk h) {b : Nat} (hb : bk 1 = some b) : ∃ (T F G s be q c m w : Nat) (N O A P : Nat → Int32), pS h b T F G s be q c m w N O A P ∧ T ≤ 400 := by
  obtain ⟨c, hc, fs, rfl, -, -⟩ := hO.1 1 b 0 _ hb ty_m0
  have hc : h[b + 0]? = some (.inr (12, fs)) := hc
  have fi : ∀ (k : Nat) (hi : Int), mTs[k]? = some (0, 0, hi, 0, 0) → ∃ v : Nat, fs[k]? = some (iN v) ∧ (v : Int) ≤ hi := fun k hi hk => by
    obtain ⟨x, x1, x2, x3⟩ := m_int (q := k) (lo := 0) (hi := hi) hO.1 hb hc hk
    exact ⟨x.toInt.toNat, by rw [x1, iN, ← i32_nat x2], by omega⟩
  obtain ⟨T, f6, t6⟩ := fi 6 400 rfl
  obtain ⟨F, f7, -⟩ := fi 7 400 rfl
  obtain ⟨G, f8, -⟩ := fi 8 400 rfl
  obtain ⟨s, f9, -⟩ := fi 9 3 rfl
  obtain ⟨be, f12, -⟩ := fi 12 1 rfl
  obtain ⟨q, f13, -⟩ := fi 13 16 rfl
  obtain ⟨c, f15, -⟩ := fi 15 400 rfl
  obtain ⟨m, f20, -⟩ := fi 20 400 rfl
  obtain ⟨w, f21, -⟩ := fi 21 8 rfl
  obtain ⟨N, s5, -⟩ := m_arr hO.1 hb ty_m5
  obtain ⟨O, s6, -⟩ := m_arr hO.1 hb ty_m6
  obtain ⟨A, s7, -⟩ := m_arr hO.1 hb ty_m7
  obtain ⟨P, s8, -⟩ := m_arr hO.1 hb ty_m8
  exact ⟨T, F, G, s, be, q, c, m, w, N, O, A, P, ⟨⟨fs, hc, f6, f7, f8, f9, f12, f13, f15, f20, f21⟩, s5, s6, s7, s8⟩, by omega⟩
set_option maxRecDepth 16384 in
theorem begin_run (hlow : ∀ (k : Nat) (K : aK), KTx[k]? = some K → kOK TTs g (EIm n) l K) {W0 : List aR} {bk0 bk : aB} {h0 h : jH} (hO : hOK TTs g (EIm n) W0 bk0 h0 bk h) {b T F G s be q c m w : Nat} {N O A P : Nat → Int32} (hb : bk 1 = some b) (hS : pS h b T F G s be q c m w N O A P) (hT4 : T ≤ 400) :
    ∃ Qm, jCal l g 218 3 [.ref (g.2.2 + (b + 0))] h 0 0 Qm ∧ ∀ v h', Qm v h' → v = none ∧ ∃ bk' F' G' s', hOK TTs g (EIm n) muW bk h bk' h' ∧ pS h' b T F' G' s' 0 q c m w N O A P ∧ pL T F' G' s' := by
  obtain ⟨⟨fs, ho, f6, f7, f8, f9, f12, f13, f15, f20, f21⟩, s5, s6, s7, s8⟩ := hS
  have tT : (Int32.ofInt (T : Int)).toInt = (T : Int) := i32_n (by omega)
  refine ⟨_, use_741 (hlow 741 _ rfl) hO hb (c0 := Int32.ofInt (T : Int)) (by omega) ho f6, fun v h' hq => ?_⟩
  obtain ⟨bk', os, k1, k2, qq, hq1, hq2⟩ := hq
  have hq3 : qq = (9, 0, 0, 0, 0, []) := List.mem_singleton.mp hq1
  subst hq3
  obtain ⟨rfl, hp⟩ := hq2
  have k1 : hOK TTs g (EIm n) muW bk h bk' h' := k1
  have hb' := k1.2.2.2.2.1 1 b hb
  obtain ⟨fs2, hc2, e6, e13, e15, e20, e21, r5, r6, r7, r8⟩ := pS.mv k1 hb ⟨⟨fs, ho, f6, f7, f8, f9, f12, f13, f15, f20, f21⟩, s5, s6, s7, s8⟩
  match os, k2, hp with
  | [x1, x2, x3, x4], k2, hp =>
    obtain ⟨F', rfl, y7, u1⟩ := out_nat hb' hc2 k2 (j := 0) rfl rfl (by decide)
    obtain ⟨G', rfl, y8, u2⟩ := out_nat hb' hc2 k2 (j := 1) rfl rfl (by decide)
    obtain ⟨s', rfl, y9, u3⟩ := out_nat hb' hc2 k2 (j := 2) rfl rfl (by decide)
    obtain ⟨be', rfl, y12, u4⟩ := out_nat hb' hc2 k2 (j := 3) rfl rfl (by decide)
    obtain ⟨z1, a1, b1⟩ := hp ([(0, 1), (2, -1)], 0) (by decide)
    obtain ⟨z2, a2, b2⟩ := hp ([(1, -1), (2, 1)], 0) (by decide)
    obtain ⟨z3, a3, b3⟩ := hp ([(1, -3), (2, 3), (3, -1)], 0) (by decide)
    have a1 : some (1 * (Int32.ofInt (T : Int)).toInt + (-1 * (G' : Int) + 0) + 0) = some z1 := a1
    have a2 : some (-1 * (F' : Int) + (1 * (G' : Int) + 0) + 0) = some z2 := a2
    have a3 : some (-3 * (F' : Int) + (3 * (G' : Int) + (-1 * (s' : Int) + 0)) + 0) = some z3 := a3
    have a1 := Option.some.inj a1
    have a2 := Option.some.inj a2
    have a3 := Option.some.inj a3
    have hbe : be' = 0 := by omega
    subst hbe
    exact ⟨rfl, bk', F', G', s', k1, ⟨⟨fs2, hc2, e6, y7, y8, y9, y12, e13, e15, e20, e21⟩, r5, r6, r7, r8⟩, ⟨by omega, by omega, by omega, by omega, by omega⟩⟩
theorem pF.set6 {fs : List Value} {T F G s be q c m w x : Nat} (hf : pF fs T F G s be q c m w) : pF (fs.set 6 (iN x)) x F G s be q c m w := by
  obtain ⟨f6, f7, f8, f9, f12, f13, f15, f20, f21⟩ := hf
  exact ⟨List.getElem?_set_self (List.getElem?_eq_some_iff.mp f6).1, by rw [List.getElem?_set_ne (by decide)]; exact f7, by rw [List.getElem?_set_ne (by decide)]; exact f8, by rw [List.getElem?_set_ne (by decide)]; exact f9, by rw [List.getElem?_set_ne (by decide)]; exact f12, by rw [List.getElem?_set_ne (by decide)]; exact f13, by rw [List.getElem?_set_ne (by decide)]; exact f15, by rw [List.getElem?_set_ne (by decide)]; exact f20, by rw [List.getElem?_set_ne (by decide)]; exact f21⟩
set_option maxRecDepth 16384 in
/-- the end: tell -/
theorem ml_tell (hlow : ∀ (k : Nat) (K : aK), KTx[k]? = some K → kOK TTs g (EIm n) l K) {bk bk1 : aB} {h h1 : jH} {b pc : Nat} {x : Int32} {al : List (Option Value)} (hb : bk 1 = some b) (hO1 : hOK TTs g (EIm n) mlW bk h bk1 h1) (hpc : pc = 89 ∨ pc = 217) (hx1 : -6 ≤ x.toInt) (hx2 : x.toInt ≤ 16) : J l g 217 9 pc al [.int x, .ref (g.2.2 + (b + 0))] h1 0 0 (kPost TTs g (EIm n) mlK bk h []) := by
  have hcls : jcN 12 = (jyN 217).cls := by decide +kernel
  have hb1 := hO1.2.2.2.2.1 1 b hb
  obtain ⟨c, hc, fs, rfl, -, -⟩ := hO1.1 1 b 0 _ hb1 ty_m0
  have hc : h1[b + 0]? = some (.inr (12, fs)) := hc
  have go : ∀ v h2, kPost TTs g (EIm n) Kx_509 bk1 h1 [x.toInt] v h2 → ∃ y : Int32, v = some (.int y) ∧ kPost TTs g (EIm n) mlK bk h [] (some (.int y)) h2 := fun v h2 hq => by
    obtain ⟨bk', os, k1, k2, qq, hq1, hq2⟩ := hq
    have hq3 : qq = (0, -2147483648, 2147483647, 0, 0, []) := List.mem_singleton.mp hq1
    subst hq3
    obtain ⟨y, rfl, -, -, hp⟩ := hq2
    have hos : os = [] := List.eq_nil_of_length_eq_zero k2.1
    subst hos
    obtain ⟨z1, a1, b1⟩ := hp ([(0, -1), (1, 1)], 0) (by decide)
    obtain ⟨z2, a2, b2⟩ := hp ([(0, 1), (1, -1)], 0) (by decide)
    have a1 : some (-1 * x.toInt + (1 * y.toInt + 0) + 0) = some z1 := a1
    have a2 : some (1 * x.toInt + (-1 * y.toInt + 0) + 0) = some z2 := a2
    have a1 := Option.some.inj a1
    have a2 := Option.some.inj a2
    have k1 : hOK TTs g (EIm n) [(1, 0, 1, 1)] bk1 h1 bk' h2 := k1
    exact ⟨y, rfl, ml_fin (hO1.tr (by decide) k1) (by omega) (by omega)⟩
  have cal := use_509 (l := l) (hlow 509 _ rfl) hO1 hb1 (x1 := x) ⟨i32_lo x, i32_hi x⟩
  rcases hpc with rfl | rfl
  · refine j_cV (own := 12) (i := 104) (y2 := 206) (d2 := 1) (mc := 0) (ms := 0) (kc := 0) (ks := 0) (a := b + 0) (As := [.int x]) (st := []) (dQ (by decide +kernel)) hcls (by decide +kernel) (by decide) (by decide +kernel) (show 1 = jnp 206 by decide +kernel) (by decide) (by decide) hc (fun r hr => by cases hr; decide +kernel) cal (fun v h2 hq => ?_)
    obtain ⟨y, rfl, hP⟩ := go v h2 hq
    exact j_ret (v := some (.int y)) ⟨by decide +kernel, Or.inl (by decide +kernel)⟩ hP rfl
  · refine j_cV (own := 12) (i := 104) (y2 := 206) (d2 := 1) (mc := 0) (ms := 0) (kc := 0) (ks := 0) (a := b + 0) (As := [.int x]) (st := []) (dQ (by decide +kernel)) hcls (by decide +kernel) (by decide) (by decide +kernel) (show 1 = jnp 206 by decide +kernel) (by decide) (by decide) hc (fun r hr => by cases hr; decide +kernel) cal (fun v h2 hq => ?_)
    obtain ⟨y, rfl, hP⟩ := go v h2 hq
    exact j_ret (v := some (.int y)) ⟨by decide +kernel, Or.inl (by decide +kernel)⟩ hP rfl
set_option maxRecDepth 16384 in
set_option maxHeartbeats 4000000 in
/-- from 93 on: the text is right -/
theorem ml_93 (hlow : ∀ (k : Nat) (K : aK), KTx[k]? = some K → kOK TTs g (EIm n) l K) {bk bk1 : aB} {h h1 : jH} {b T F G s q c m w : Nat} {N O A P : Nat → Int32} {o1 o2 : Option Value} (hb : bk 1 = some b) (hO1 : hOK TTs g (EIm n) mlW bk h bk1 h1) (hS1 : pS h1 b T F G s 0 q c m w N O A P) (hq16 : q ≤ 16) (hc4 : c ≤ 400) (hcl : clOK N O A q c) : J l g 217 9 93 [some (.ref (g.2.2 + (b + 0))), o1, o2] [] h1 0 0 (kPost TTs g (EIm n) mlK bk h []) := by
  have hcls : jcN 12 = (jyN 217).cls := by decide +kernel
  have hb1 := hO1.2.2.2.2.1 1 b hb
  obtain ⟨⟨fs, ho, f6, f7, f8, f9, f12, f13, f15, f20, f21⟩, s5, s6, s7, s8⟩ := hS1
  obtain ⟨r, hr, hrt⟩ := m_arr hO1.1 hb1 ty_m1
  obtain ⟨Fi, hFi, -⟩ := m_arr hO1.1 hb1 ty_m2
  obtain ⟨Ki, hKi, -⟩ := m_arr hO1.1 hb1 ty_m3
  have ht7 : 0 ≤ (r 7).toInt ∧ (r 7).toInt ≤ 1 := hrt 7 (by decide) (7, 1, 1, [(0, 1)]) (by decide +kernel) (by decide) (by decide) (0, 1) rfl
  obtain ⟨t, ht, ht2⟩ : ∃ t : Nat, (r 7).toInt = (t : Int) ∧ t < 2 := ⟨(r 7).toInt.toNat, by omega, by omega⟩
  have c1130 : ((Int16.ofInt 1130).toInt32).toInt = 1130 := by decide
  have c930 : ((Int16.ofInt 930).toInt32).toInt = 930 := by decide
  have c130 : ((Int16.ofInt 130).toInt32).toInt = 130 := by decide
  have c8 : ((Int8.ofInt 8).toInt32).toInt = 8 := by decide
  have hmul : ((Int16.ofInt 930).toInt32 * r 7).toInt = 930 * (t : Int) := by rw [i32_mul (by rw [c930, ht]; omega) (by rw [c930, ht]; omega), c930, ht]
  have hat : (Int16.ofInt 1130).toInt32 + (Int16.ofInt 930).toInt32 * r 7 = Int32.ofInt ((1130 + 930 * t : Nat) : Int) := i32_eq (by rw [i32_add (by rw [c1130, hmul]; omega) (by rw [c1130, hmul]; omega), c1130, hmul, i32_n (by omega)]; omega)
  have hatT : (Int32.ofInt ((1130 + 930 * t : Nat) : Int)).toInt = ((1130 + 930 * t : Nat) : Int) := i32_n (by omega)
  have hqT : (Int32.ofInt (q : Int)).toInt = (q : Int) := i32_n (by omega)
  have hE1 := (hO1.2.2.1 b r Fi Ki hb1 hr hFi hKi)
  -- what stays while the row is written
  have hO0 : hOK TTs g (fun _ _ => True) mlW bk h bk1 h1 := ⟨hO1.1, hO1.2.1, trivial, hO1.2.2.2.1, hO1.2.2.2.2.1, hO1.2.2.2.2.2⟩
  have cell : ∀ (X : Nat → Int32) (k : Nat) (cc : jC), k ≠ 1 → h1[b + k]? = some cc → (h1.set (b + 1) (.inl (0, 5270, X)))[b + k]? = some cc := fun X k cc hk hcc => by
    rw [List.getElem?_set_ne (by omega)]
    exact hcc
  have rowc : ∀ X : Nat → Int32, (h1.set (b + 1) (.inl (0, 5270, X)))[b + 1]? = some (.inl (0, 5270, X)) := fun X => List.getElem?_set_self (List.getElem?_eq_some_iff.mp hr).1
  have step : ∀ (X : Nat → Int32) (i : Nat) (v : Int32), hOK TTs g (fun _ _ => True) mlW bk h bk1 (h1.set (b + 1) (.inl (0, 5270, X))) → sgOK ROWs i v.toInt → 1130 ≤ i → i ≤ 2989 → hOK TTs g (fun _ _ => True) mlW bk h bk1 (h1.set (b + 1) (.inl (0, 5270, upd X i v))) ∧ (h1.set (b + 1) (.inl (0, 5270, X))).set (b + 1) (.inl (0, 5270, upd X i v)) = h1.set (b + 1) (.inl (0, 5270, upd X i v)) := by
    intro X i v hX hv i1 i2
    have e : (h1.set (b + 1) (.inl (0, 5270, X))).set (b + 1) (.inl (0, 5270, upd X i v)) = h1.set (b + 1) (.inl (0, 5270, upd X i v)) := List.set_set ..
    refine ⟨?_, e⟩
    rw [← e]
    exact hX.st0 (lo := 1130) (hi := 2989) hb1 ty_m1 (rowc X) hv (by decide) (by omega) (by omega)
  -- the end
  have at212 : ∀ (o2 : Option Value), hOK TTs g (fun _ _ => True) mlW bk h bk1 (h1.set (b + 1) (.inl (0, 5270, cp2 t O A (cp1 t q N r (8 * q)) c))) → J l g 217 9 212 [some (.ref (g.2.2 + (b + 0))), some (iN (1130 + 930 * t)), o2] [] (h1.set (b + 1) (.inl (0, 5270, cp2 t O A (cp1 t q N r (8 * q)) c))) 0 0 (kPost TTs g (EIm n) mlK bk h []) := by
    intro o2 hX
    obtain ⟨p1, p2⟩ := cp_ok (r := r) ht2 hq16 hc4 hcl hE1.1.1 hE1.1.2
    have hE2 : EIm n bk1 (h1.set (b + 1) (.inl (0, 5270, cp2 t O A (cp1 t q N r (8 * q)) c))) := by
      intro b' f F' K' q1 q2 q3 q4
      cases hb1.symm.trans q1
      cases (rowc _).symm.trans q2
      cases (cell _ 2 _ (by decide) hFi).symm.trans q3
      cases (cell _ 3 _ (by decide) hKi).symm.trans q4
      exact ⟨⟨p1, p2⟩, hE1.2⟩
    have hX2 : hOK TTs g (EIm n) mlW bk h bk1 (h1.set (b + 1) (.inl (0, 5270, cp2 t O A (cp1 t q N r (8 * q)) c))) := ⟨hX.1, hX.2.1, hE2, hX.2.2.2.1, hX.2.2.2.2.1, hX.2.2.2.2.2⟩
    have ho2 := cell (cp2 t O A (cp1 t q N r (8 * q)) c) 0 _ (by decide) ho
    refine j_aload_n (k4 := 0) (dQ (by decide +kernel)) rfl ?_
    refine j_aload_n (k4 := 0) (dQ (by decide +kernel)) rfl ?_
    refine j_get (own := 12) (i := 236) (ci := 12) (f := 13) (dQ (by decide +kernel)) hcls (by decide +kernel) ho2 (n12 13 (by decide)) f13 ?_
    exact ml_tell hlow hb hX2 (Or.inr rfl) (by omega) (by omega)
  -- the code
  have l156 : ∀ (d k : Nat), c - k = d → k ≤ c → hOK TTs g (fun _ _ => True) mlW bk h bk1 (h1.set (b + 1) (.inl (0, 5270, cp2 t O A (cp1 t q N r (8 * q)) k))) → J l g 217 9 156 [some (.ref (g.2.2 + (b + 0))), some (iN (1130 + 930 * t)), some (iN k)] [] (h1.set (b + 1) (.inl (0, 5270, cp2 t O A (cp1 t q N r (8 * q)) k))) 0 0 (kPost TTs g (EIm n) mlK bk h []) := by
    intro d
    have hcT : (Int32.ofInt (c : Int)).toInt = (c : Int) := i32_n (by omega)
    induction d with
    | zero =>
      intro k h2 h3 hX
      have ek : k = c := by omega
      subst ek
      have ho2 := cell (cp2 t O A (cp1 t q N r (8 * q)) k) 0 _ (by decide) ho
      refine j_iload_n (k4 := 2) (dQ (by decide +kernel)) rfl ?_
      refine j_aload_n (k4 := 0) (dQ (by decide +kernel)) rfl ?_
      refine j_get (own := 12) (i := 175) (ci := 12) (f := 15) (dQ (by decide +kernel)) hcls (by decide +kernel) ho2 (n12 15 (by decide)) f15 ?_
      refine j_icmp_ge (off := 51) (tgt := 212) (dQ (by decide +kernel)) (by decide) (fun _ => ?_) (fun z => absurd (le32.mpr (Int.le_refl _)) z)
      exact at212 _ hX
    | succ d ih =>
      intro k h2 h3 hX
      have hkT : (Int32.ofInt (k : Int)).toInt = (k : Int) := i32_n (by omega)
      have c2 : (Int32.ofInt 2).toInt = 2 := by decide
      have c1 : (Int32.ofInt 1).toInt = 1 := by decide
      have hj : (Int32.ofInt 2 * Int32.ofInt (k : Int)).toInt = 2 * (k : Int) := by rw [i32_mul (by rw [c2, hkT]; omega) (by rw [c2, hkT]; omega), c2, hkT]
      have hi0 : (Int32.ofInt ((1130 + 930 * t : Nat) : Int) + (Int16.ofInt 130).toInt32).toInt = ((1260 + 930 * t : Nat) : Int) := by rw [i32_add (by rw [hatT, c130]; omega) (by rw [hatT, c130]; omega), hatT, c130]; omega
      have hi1 : (Int32.ofInt ((1130 + 930 * t : Nat) : Int) + (Int16.ofInt 130).toInt32 + Int32.ofInt 2 * Int32.ofInt (k : Int)).toInt = ((1260 + 930 * t + 2 * k : Nat) : Int) := by rw [i32_add (by rw [hi0, hj]; omega) (by rw [hi0, hj]; omega), hi0, hj]; omega
      have hi2 : (Int32.ofInt ((1130 + 930 * t : Nat) : Int) + (Int16.ofInt 130).toInt32 + Int32.ofInt 2 * Int32.ofInt (k : Int) + Int32.ofInt 1).toInt = ((1260 + 930 * t + 2 * k + 1 : Nat) : Int) := by rw [i32_add (by rw [hi1, c1]; omega) (by rw [hi1, c1]; omega), hi1, c1]; omega
      have bO : 0 ≤ (O k).toInt ∧ (O k).toInt ≤ 13 := by
        obtain ⟨O3, hO3, hO3t⟩ := m_arr hO1.1 hb1 ty_m6
        cases s6.symm.trans hO3
        exact hO3t k (by omega) _ List.mem_cons_self (by show 0 ≤ _; omega) (by show _ < 0 + 400; omega) (0, 13) (by rw [Nat.mod_one]; rfl)
      have bA : 0 ≤ (A k).toInt ∧ (A k).toInt ≤ 15 := by
        obtain ⟨O3, hO3, hO3t⟩ := m_arr hO1.1 hb1 ty_m7
        cases s7.symm.trans hO3
        exact hO3t k (by omega) _ List.mem_cons_self (by show 0 ≤ _; omega) (by show _ < 0 + 400; omega) (0, 15) (by rw [Nat.mod_one]; rfl)
      generalize hY : cp2 t O A (cp1 t q N r (8 * q)) k = Y at hX
      have ho2 := cell Y 0 _ (by decide) ho
      have s62 := cell Y 6 _ (by decide) s6
      refine j_iload_n (k4 := 2) (dQ (by decide +kernel)) rfl ?_
      refine j_aload_n (k4 := 0) (dQ (by decide +kernel)) rfl ?_
      refine j_get (own := 12) (i := 175) (ci := 12) (f := 15) (dQ (by decide +kernel)) hcls (by decide +kernel) ho2 (n12 15 (by decide)) f15 ?_
      refine j_icmp_ge (off := 51) (tgt := 212) (dQ (by decide +kernel)) (by decide) (fun z => absurd (le32.mp z) (by rw [hcT, hkT]; omega)) (fun _ => ?_)
      refine j_aload_n (k4 := 0) (dQ (by decide +kernel)) rfl ?_
      refine j_get (own := 12) (i := 7) (ci := 12) (f := 2) (dQ (by decide +kernel)) hcls (by decide +kernel) ho2 (n12 2 (by decide)) (m_ref hX.1 hb1 ho2 rfl) ?_
      refine j_iload_n (k4 := 1) (dQ (by decide +kernel)) rfl ?_
      refine j_sipush (n := 130) (dQ (by decide +kernel)) ?_
      refine j_iadd (dQ (by decide +kernel)) ?_
      refine j_iconst (n := 2) (dQ (by decide +kernel)) ?_
      refine j_iload_n (k4 := 2) (dQ (by decide +kernel)) rfl ?_
      refine j_imul (dQ (by decide +kernel)) ?_
      refine j_iadd (dQ (by decide +kernel)) ?_
      refine j_aload_n (k4 := 0) (dQ (by decide +kernel)) rfl ?_
      refine j_get (own := 12) (i := 30) (ci := 12) (f := 16) (dQ (by decide +kernel)) hcls (by decide +kernel) ho2 (n12 16 (by decide)) (m_ref hX.1 hb1 ho2 rfl) ?_
      refine j_iload_n (k4 := 2) (dQ (by decide +kernel)) rfl ?_
      refine j_iald (dQ (by decide +kernel)) s62 (i32_in (by rw [hkT]; omega) (by rw [hkT]; omega)) ?_
      rw [i32_at hkT]
      refine j_iast (dQ (by decide +kernel)) (rowc Y) (i32_in (by rw [hi1]; omega) (by rw [hi1]; omega)) ?_
      rw [i32_at hi1]
      obtain ⟨hX1, eX1⟩ := step Y (1260 + 930 * t + 2 * k) (O k) hX (row_sc (j := 0) ht2 (by omega) (by decide) (fun q hq => by cases hq; exact bO)) (by omega) (by omega)
      rw [eX1]
      have ho3 := cell (upd Y (1260 + 930 * t + 2 * k) (O k)) 0 _ (by decide) ho
      have s73 := cell (upd Y (1260 + 930 * t + 2 * k) (O k)) 7 _ (by decide) s7
      refine j_aload_n (k4 := 0) (dQ (by decide +kernel)) rfl ?_
      refine j_get (own := 12) (i := 7) (ci := 12) (f := 2) (dQ (by decide +kernel)) hcls (by decide +kernel) ho3 (n12 2 (by decide)) (m_ref hX1.1 hb1 ho3 rfl) ?_
      refine j_iload_n (k4 := 1) (dQ (by decide +kernel)) rfl ?_
      refine j_sipush (n := 130) (dQ (by decide +kernel)) ?_
      refine j_iadd (dQ (by decide +kernel)) ?_
      refine j_iconst (n := 2) (dQ (by decide +kernel)) ?_
      refine j_iload_n (k4 := 2) (dQ (by decide +kernel)) rfl ?_
      refine j_imul (dQ (by decide +kernel)) ?_
      refine j_iadd (dQ (by decide +kernel)) ?_
      refine j_iconst (n := 1) (dQ (by decide +kernel)) ?_
      refine j_iadd (dQ (by decide +kernel)) ?_
      refine j_aload_n (k4 := 0) (dQ (by decide +kernel)) rfl ?_
      refine j_get (own := 12) (i := 33) (ci := 12) (f := 17) (dQ (by decide +kernel)) hcls (by decide +kernel) ho3 (n12 17 (by decide)) (m_ref hX1.1 hb1 ho3 rfl) ?_
      refine j_iload_n (k4 := 2) (dQ (by decide +kernel)) rfl ?_
      refine j_iald (dQ (by decide +kernel)) s73 (i32_in (by rw [hkT]; omega) (by rw [hkT]; omega)) ?_
      rw [i32_at hkT]
      refine j_iast (dQ (by decide +kernel)) (rowc _) (i32_in (by rw [hi2]; omega) (by rw [hi2]; omega)) ?_
      rw [i32_at hi2]
      obtain ⟨hX2, eX2⟩ := step (upd Y (1260 + 930 * t + 2 * k) (O k)) (1260 + 930 * t + 2 * k + 1) (A k) hX1 (row_sc (j := 1) ht2 (by omega) (by decide) (fun q hq => by cases hq; exact bA)) (by omega) (by omega)
      rw [eX2]
      refine j_iinc (i := 2) (n := 1) (dQ (by decide +kernel)) (by decide +kernel) rfl ?_
      refine j_goto (off := -53) (tgt := 156) (dQ (by decide +kernel)) (by decide) ?_
      rw [← hY, cp2_s] at hX2 ⊢
      show J l g 217 9 156 [some (.ref (g.2.2 + (b + 0))), some (iN (1130 + 930 * t)), some (.int (Int32.ofInt (k : Int) + Int32.ofInt 1))] [] _ 0 0 _
      rw [iN_add (by omega)]
      exact ih (k + 1) (by omega) (by omega) hX2
  -- the clauses
  have l121 : ∀ (d k : Nat), 8 * q - k = d → k ≤ 8 * q → hOK TTs g (fun _ _ => True) mlW bk h bk1 (h1.set (b + 1) (.inl (0, 5270, cp1 t q N r k))) → J l g 217 9 121 [some (.ref (g.2.2 + (b + 0))), some (iN (1130 + 930 * t)), some (iN k)] [] (h1.set (b + 1) (.inl (0, 5270, cp1 t q N r k))) 0 0 (kPost TTs g (EIm n) mlK bk h []) := by
    intro d
    have h8q : ((Int8.ofInt 8).toInt32 * Int32.ofInt (q : Int)).toInt = ((8 * q : Nat) : Int) := by rw [i32_mul (by rw [c8, hqT]; omega) (by rw [c8, hqT]; omega), c8, hqT]; omega
    induction d with
    | zero =>
      intro k h2 h3 hX
      have ek : k = 8 * q := by omega
      subst ek
      have hkT : (Int32.ofInt ((8 * q : Nat) : Int)).toInt = ((8 * q : Nat) : Int) := i32_n (by omega)
      have ho2 := cell (cp1 t q N r (8 * q)) 0 _ (by decide) ho
      refine j_iload_n (k4 := 2) (dQ (by decide +kernel)) rfl ?_
      refine j_bipush (n := 8) (dQ (by decide +kernel)) ?_
      refine j_aload_n (k4 := 0) (dQ (by decide +kernel)) rfl ?_
      refine j_get (own := 12) (i := 236) (ci := 12) (f := 13) (dQ (by decide +kernel)) hcls (by decide +kernel) ho2 (n12 13 (by decide)) f13 ?_
      refine j_imul (dQ (by decide +kernel)) ?_
      refine j_icmp_ge (off := 25) (tgt := 154) (dQ (by decide +kernel)) (by decide) (fun _ => ?_) (fun z => absurd (le32.mpr (by rw [h8q, hkT]; omega)) z)
      refine j_iconst (n := 0) (dQ (by decide +kernel)) ?_
      refine j_istore_n (k4 := 2) (dQ (by decide +kernel)) (by decide +kernel) ?_
      have e0 : cp1 t q N r (8 * q) = cp2 t O A (cp1 t q N r (8 * q)) 0 := cp2_0
      have hX3 : hOK TTs g (fun _ _ => True) mlW bk h bk1 (h1.set (b + 1) (.inl (0, 5270, cp2 t O A (cp1 t q N r (8 * q)) 0))) := by rw [← e0]; exact hX
      have e3 : h1.set (b + 1) (.inl (0, 5270, cp1 t q N r (8 * q))) = h1.set (b + 1) (.inl (0, 5270, cp2 t O A (cp1 t q N r (8 * q)) 0)) := by rw [← e0]
      rw [e3]
      exact l156 c 0 rfl (by omega) hX3
    | succ d ih =>
      intro k h2 h3 hX
      have hkT : (Int32.ofInt (k : Int)).toInt = (k : Int) := i32_n (by omega)
      have c1 : (Int32.ofInt 1).toInt = 1 := by decide
      have hi0 : (Int32.ofInt ((1130 + 930 * t : Nat) : Int) + Int32.ofInt 1).toInt = ((1131 + 930 * t : Nat) : Int) := by rw [i32_add (by rw [hatT, c1]; omega) (by rw [hatT, c1]; omega), hatT, c1]; omega
      have hi1 : (Int32.ofInt ((1130 + 930 * t : Nat) : Int) + Int32.ofInt 1 + Int32.ofInt (k : Int)).toInt = ((1131 + 930 * t + k : Nat) : Int) := by rw [i32_add (by rw [hi0, hkT]; omega) (by rw [hi0, hkT]; omega), hi0, hkT]; omega
      have hfit : sgOK ROWs (1131 + 930 * t + k) (N k).toInt := by
        obtain ⟨s', e', a1, a2, a3, a4, -⟩ := hcl (k / 8) (by omega)
        obtain ⟨z0, z1, z2, z3, z4, z5⟩ := a1
        have z1 := z1 (by decide)
        have z3 := z3 (by decide)
        have z4 := z4 (by decide)
        have z5 := z5 (by decide)
        have hk8 : k = 8 * (k / 8) + k % 8 := by omega
        rw [hk8]
        refine row_sb ht2 (by omega) (by omega) (fun q0 hq => ?_)
        have h8 : k % 8 < 8 := by omega
        generalize k % 8 = j at hq h8 ⊢
        match j, hq, h8 with
        | 0, hq, _ => cases hq; exact ⟨by show (0 : Int) ≤ (N (8 * (k / 8))).toInt; omega, by show (N (8 * (k / 8))).toInt ≤ 1; omega⟩
        | 1, hq, _ => cases hq; exact z1
        | 2, hq, _ => cases hq; exact ⟨i32_lo _, i32_hi _⟩
        | 3, hq, _ => cases hq; exact z3
        | 4, hq, _ => cases hq; exact z4
        | 5, hq, _ => cases hq; exact ⟨by show (0 : Int) ≤ (N (8 * (k / 8) + 5)).toInt; omega, by show (N (8 * (k / 8) + 5)).toInt ≤ 400; omega⟩
        | 6, hq, _ => cases hq; exact ⟨by show (0 : Int) ≤ (N (8 * (k / 8) + 6)).toInt; omega, by show (N (8 * (k / 8) + 6)).toInt ≤ 400; omega⟩
        | 7, hq, _ => cases hq; exact ⟨i32_lo _, i32_hi _⟩
        | j + 8, _, h => omega
      generalize hY : cp1 t q N r k = Y at hX
      have ho2 := cell Y 0 _ (by decide) ho
      have s52 := cell Y 5 _ (by decide) s5
      refine j_iload_n (k4 := 2) (dQ (by decide +kernel)) rfl ?_
      refine j_bipush (n := 8) (dQ (by decide +kernel)) ?_
      refine j_aload_n (k4 := 0) (dQ (by decide +kernel)) rfl ?_
      refine j_get (own := 12) (i := 236) (ci := 12) (f := 13) (dQ (by decide +kernel)) hcls (by decide +kernel) ho2 (n12 13 (by decide)) f13 ?_
      refine j_imul (dQ (by decide +kernel)) ?_
      refine j_icmp_ge (off := 25) (tgt := 154) (dQ (by decide +kernel)) (by decide) (fun z => absurd (le32.mp z) (by rw [h8q, hkT]; omega)) (fun _ => ?_)
      refine j_aload_n (k4 := 0) (dQ (by decide +kernel)) rfl ?_
      refine j_get (own := 12) (i := 7) (ci := 12) (f := 2) (dQ (by decide +kernel)) hcls (by decide +kernel) ho2 (n12 2 (by decide)) (m_ref hX.1 hb1 ho2 rfl) ?_
      refine j_iload_n (k4 := 1) (dQ (by decide +kernel)) rfl ?_
      refine j_iconst (n := 1) (dQ (by decide +kernel)) ?_
      refine j_iadd (dQ (by decide +kernel)) ?_
      refine j_iload_n (k4 := 2) (dQ (by decide +kernel)) rfl ?_
      refine j_iadd (dQ (by decide +kernel)) ?_
      refine j_aload_n (k4 := 0) (dQ (by decide +kernel)) rfl ?_
      refine j_get (own := 12) (i := 27) (ci := 12) (f := 14) (dQ (by decide +kernel)) hcls (by decide +kernel) ho2 (n12 14 (by decide)) (m_ref hX.1 hb1 ho2 rfl) ?_
      refine j_iload_n (k4 := 2) (dQ (by decide +kernel)) rfl ?_
      refine j_iald (dQ (by decide +kernel)) s52 (i32_in (by rw [hkT]; omega) (by rw [hkT]; omega)) ?_
      rw [i32_at hkT]
      refine j_iast (dQ (by decide +kernel)) (rowc Y) (i32_in (by rw [hi1]; omega) (by rw [hi1]; omega)) ?_
      rw [i32_at hi1]
      obtain ⟨hX1, eX1⟩ := step Y (1131 + 930 * t + k) (N k) hX hfit (by omega) (by omega)
      rw [eX1]
      refine j_iinc (i := 2) (n := 1) (dQ (by decide +kernel)) (by decide +kernel) rfl ?_
      refine j_goto (off := -30) (tgt := 121) (dQ (by decide +kernel)) (by decide) ?_
      rw [← hY, cp1_s] at hX1 ⊢
      show J l g 217 9 121 [some (.ref (g.2.2 + (b + 0))), some (iN (1130 + 930 * t)), some (.int (Int32.ofInt (k : Int) + Int32.ofInt 1))] [] _ 0 0 _
      rw [iN_add (by omega)]
      exact ih (k + 1) (by omega) (by omega) hX1
  refine j_sipush (n := 1130) (dQ (by decide +kernel)) ?_
  refine j_sipush (n := 930) (dQ (by decide +kernel)) ?_
  refine j_aload_n (k4 := 0) (dQ (by decide +kernel)) rfl ?_
  refine j_get (own := 12) (i := 7) (ci := 12) (f := 2) (dQ (by decide +kernel)) hcls (by decide +kernel) ho (n12 2 (by decide)) (m_ref hO1.1 hb1 ho rfl) ?_
  refine j_bipush (n := 7) (dQ (by decide +kernel)) ?_
  refine j_iald (dQ (by decide +kernel)) hr (i32_in (by decide) (by decide)) ?_
  rw [show ((Int8.ofInt 7).toInt32).toNatClampNeg = 7 by decide]
  refine j_imul (dQ (by decide +kernel)) ?_
  refine j_iadd (dQ (by decide +kernel)) ?_
  rw [hat]
  refine j_istore_n (k4 := 1) (dQ (by decide +kernel)) (by decide +kernel) ?_
  show J l g 217 9 109 [some (.ref (g.2.2 + (b + 0))), some (iN (1130 + 930 * t)), o2] [] h1 0 0 _
  refine j_aload_n (k4 := 0) (dQ (by decide +kernel)) rfl ?_
  refine j_get (own := 12) (i := 7) (ci := 12) (f := 2) (dQ (by decide +kernel)) hcls (by decide +kernel) ho (n12 2 (by decide)) (m_ref hO1.1 hb1 ho rfl) ?_
  refine j_iload_n (k4 := 1) (dQ (by decide +kernel)) rfl ?_
  refine j_aload_n (k4 := 0) (dQ (by decide +kernel)) rfl ?_
  refine j_get (own := 12) (i := 236) (ci := 12) (f := 13) (dQ (by decide +kernel)) hcls (by decide +kernel) ho (n12 13 (by decide)) f13 ?_
  refine j_iast (dQ (by decide +kernel)) hr (i32_in (by rw [hatT]; omega) (by rw [hatT]; omega)) ?_
  rw [i32_at hatT]
  have hX0 := hO0.st0 (i := 1130 + 930 * t) (v := Int32.ofInt (q : Int)) (lo := 1130) (hi := 2989) hb1 ty_m1 hr (row_sa ht2 (by omega)) (by decide) (by omega) (by omega)
  rw [cp1_0 (N := N)] at hX0 ⊢
  refine j_iconst (n := 0) (dQ (by decide +kernel)) ?_
  refine j_istore_n (k4 := 2) (dQ (by decide +kernel)) (by decide +kernel) ?_
  exact l121 (8 * q) 0 rfl (by omega) hX0
end PJ
