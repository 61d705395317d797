/-! the law's cases: counters, rules, run -/
section LU
variable {l : Launch} {g : jG} {n : Int}
theorem lu_462 (hk : kOK TTs g (EIm n) l Kx_462) {W0 : List aR} {bk0 bk : aB} {h0 h : jH} (hO : hOK TTs g (EIm n) W0 bk0 h0 bk h) {a0 : Nat} (ha0 : bk 0 = some a0) {x1 : Int32} (hx1 : (-2147483648 : Int) ≤ x1.toInt ∧ x1.toInt ≤ 2147483647) {x2 : Int32} (hx2 : (-2147483648 : Int) ≤ x2.toInt ∧ x2.toInt ≤ 2147483647) {x3 : Int32} (hx3 : (-2147483648 : Int) ≤ x3.toInt ∧ x3.toInt ≤ 2147483647) :
    jCal l g 20 6 [.ref (g.2.2 + (a0 + 0)), .int x1, .int x2, .int x3] h 0 0 (kPost TTs g (EIm n) Kx_462 bk h [x1.toInt, x2.toInt, x3.toInt]) := by
  refine hk bk h [.ref (g.2.2 + (a0 + 0)), .int x1, .int x2, .int x3] [x1.toInt, x2.toInt, x3.toInt] hO.1 hO.2.1 hO.2.2.1 hO.2.2.2.2.2 (show 4 ≤ jmx 20 by decide +kernel) rfl (fun q hq => ?_) ⟨⟨rfl, fun i e z he hz => ?_⟩, eFm_plain (plain_app (spEnv_plain _) clEnv_plain), fun F hF => absurd hF List.not_mem_nil, fun i v hv => ?_, trivial, fun q hq => ?_, fun B hB => absurd hB List.not_mem_nil⟩
  · have hq : q ∈ ([] : List (Nat × Int × Nat)) := hq
    exact absurd hq List.not_mem_nil
  · match i, he, hz with
    | 0, he, hz => cases he; cases hz; exact hx1
    | 1, he, hz => cases he; cases hz; exact hx2
    | 2, he, hz => cases he; cases hz; exact hx3
    | i + 3, he, _ => cases he
  · match i, hv with
    | 0, hv => cases hv; exact ⟨_, rfl, a0, ha0, rfl⟩
    | 1, hv => cases hv; exact ⟨_, rfl, x1, rfl, rfl⟩
    | 2, hv => cases hv; exact ⟨_, rfl, x2, rfl, rfl⟩
    | 3, hv => cases hv; exact ⟨_, rfl, x3, rfl, rfl⟩
    | i + 4, hv => cases hv
  · exact absurd hq List.not_mem_nil
theorem lu_610 (hk : kOK TTs g (EIm n) l Kx_610) {W0 : List aR} {bk0 bk : aB} {h0 h : jH} (hO : hOK TTs g (EIm n) W0 bk0 h0 bk h) {a1 : Nat} (ha1 : bk 1 = some a1) {x1 : Int32} (hx1 : (-2147483648 : Int) ≤ x1.toInt ∧ x1.toInt ≤ 2147483647) {x2 : Int32} (hx2 : (-2147483648 : Int) ≤ x2.toInt ∧ x2.toInt ≤ 2147483647) {x3 : Int32} (hx3 : (-2147483648 : Int) ≤ x3.toInt ∧ x3.toInt ≤ 2147483647) {c0 : Int32} (hc0 : (0 : Int) ≤ c0.toInt ∧ c0.toInt ≤ 1073741792) {fc0 : Nat → Int32} (ec0 : h[a1 + 1]? = some (.inl (0, 5270, fc0))) (pc0 : fc0 1 = c0) {c1 : Int32} (hc1 : (0 : Int) ≤ c1.toInt ∧ c1.toInt ≤ 1073741823) {fc1 : Nat → Int32} (ec1 : h[a1 + 1]? = some (.inl (0, 5270, fc1))) (pc1 : fc1 5066 = c1) :
    jCal l g 237 6 [.ref (g.2.2 + (a1 + 0)), .int x1, .int x2, .int x3] h 0 0 (kPost TTs g (EIm n) Kx_610 bk h [x1.toInt, x2.toInt, x3.toInt, c0.toInt, c1.toInt]) := by
  refine hk bk h [.ref (g.2.2 + (a1 + 0)), .int x1, .int x2, .int x3] [x1.toInt, x2.toInt, x3.toInt, c0.toInt, c1.toInt] hO.1 hO.2.1 hO.2.2.1 hO.2.2.2.2.2 (show 4 ≤ jmx 237 by decide +kernel) rfl (fun q hq => ?_) ⟨⟨rfl, fun i e z he hz => ?_⟩, eFm_plain (plain_app (spEnv_plain _) clEnv_plain), fun F hF => absurd hF List.not_mem_nil, fun i v hv => ?_, trivial, fun q hq => ?_, fun B hB => absurd hB List.not_mem_nil⟩
  · have hq : q ∈ ([] : List (Nat × Int × Nat)) := hq
    exact absurd hq List.not_mem_nil
  · match i, he, hz with
    | 0, he, hz => cases he; cases hz; exact hx1
    | 1, he, hz => cases he; cases hz; exact hx2
    | 2, he, hz => cases he; cases hz; exact hx3
    | 3, he, hz => cases he; cases hz; exact hc0
    | 4, he, hz => cases he; cases hz; exact hc1
    | i + 5, he, _ => cases he
  · match i, hv with
    | 0, hv => cases hv; exact ⟨_, rfl, a1, ha1, rfl⟩
    | 1, hv => cases hv; exact ⟨_, rfl, x1, rfl, rfl⟩
    | 2, hv => cases hv; exact ⟨_, rfl, x2, rfl, rfl⟩
    | 3, hv => cases hv; exact ⟨_, rfl, x3, rfl, rfl⟩
    | 4, hv => cases hv
    | 5, hv => cases hv
    | 6, hv => cases hv
    | i + 7, hv => cases hv
  · have hq2 : q ∈ [(1, 1, fcon ((1 : Nat) : Int), 3), (1, 1, fcon ((5066 : Nat) : Int), 4)] := hq
    simp only [List.mem_cons, List.not_mem_nil, or_false] at hq2
    rcases hq2 with rfl | rfl
    · exact ⟨((1 : Nat) : Int), a1, _, c0.toInt, fcon_ok, ha1, ec0, ⟨by decide, congrArg Int32.toInt pc0⟩, rfl⟩
    · exact ⟨((5066 : Nat) : Int), a1, _, c1.toInt, fcon_ok, ha1, ec1, ⟨by decide, congrArg Int32.toInt pc1⟩, rfl⟩
set_option maxRecDepth 16384 in
theorem lc_2 (hlow : ∀ (k : Nat) (K : aK), KTx[k]? = some K → kOK TTs g (EIm n) l K) {b0 b1 : Nat} {bk : aB} {h : jH} (hI : lwI g n b0 b1 bk h) (hn : n ≤ 30000) {i : Int32} (hi : 0 ≤ i.toInt ∧ i.toInt + 6 ≤ (jsN g : Int)) (hN : jsN g ≤ 3072) {kc ks : Nat} {Q : Option Value → jH → Prop}
    (kk : ∀ bk' h', lwI g (n + 40) b0 b1 bk' h' → (∀ b, bk 6 = some b → bk' 6 = some b) → J l g 315 100 1983 (lwL g b0 b1 i) [] h' kc ks Q) : J l g 315 100 334 (lwL g b0 b1 i) [] h (kc) (ks) Q := by
  refine j_aload_n (k4 := 1) (by decide +kernel) rfl ?_
  refine j_aload_n (k4 := 0) (by decide +kernel) rfl ?_
  refine j_iload_n (k4 := 3) (by decide +kernel) rfl ?_
  refine j_iconst (n := 1) (by decide +kernel) ?_
  refine j_iadd (by decide +kernel) ?_
  refine j_sld (lw_at hi hN (by decide) (by decide)) (by decide +kernel) ?_
  refine j_aload_n (k4 := 0) (by decide +kernel) rfl ?_
  refine j_iload_n (k4 := 3) (by decide +kernel) rfl ?_
  refine j_iconst (n := 2) (by decide +kernel) ?_
  refine j_iadd (by decide +kernel) ?_
  refine j_sld (lw_at hi hN (by decide) (by decide)) (by decide +kernel) ?_
  refine j_aload_n (k4 := 0) (by decide +kernel) rfl ?_
  refine j_iload_n (k4 := 3) (by decide +kernel) rfl ?_
  refine j_iconst (n := 3) (by decide +kernel) ?_
  refine j_iadd (by decide +kernel) ?_
  refine j_sld (lw_at hi hN (by decide) (by decide)) (by decide +kernel) ?_
  obtain ⟨fsx, hcx⟩ := lw_x hI
  refine J.room (kc := 0 + kc) (ks := 0 + ks) (j_callV (own := 13) (i := 22) (y2 := 20) (d2 := 6) (mc := 0) (ms := 0) (kc := kc) (ks := ks) (a := b0 + 0) (As := [.int (jsX g (i + Int32.ofInt 1).toNatClampNeg), .int (jsX g (i + Int32.ofInt 2).toNatClampNeg), .int (jsX g (i + Int32.ofInt 3).toNatClampNeg)]) (st := []) (by decide +kernel) lw_cls (by decide +kernel) (by decide) (by decide +kernel) (by decide +kernel) (by decide +kernel) (by decide +kernel) (by decide +kernel) (show 3 = jnp 20 by decide +kernel) (by decide) (by decide) hcx (fun r hr => by cases hr; decide +kernel) (lu_462 (hlow 462 _ rfl) (hI.ok []) hI.2.2.2.1 ⟨i32_lo _, i32_hi _⟩ ⟨i32_lo _, i32_hi _⟩ ⟨i32_lo _, i32_hi _⟩) (fun v h1 hq => ?_)) (by omega) (by omega)
  obtain ⟨x1, rfl, bk1, hI1, h61⟩ := lwP hI hq (by decide +kernel) (by decide +kernel) (by decide +kernel) (Int.le_refl n)
  refine j_pop (by decide +kernel) rfl ?_
  obtain ⟨fr, er, ⟨r1, r2⟩, r3, r4⟩ := hI1.row
  refine j_aload_n (k4 := 2) (by decide +kernel) rfl ?_
  refine j_aload_n (k4 := 0) (by decide +kernel) rfl ?_
  refine j_iload_n (k4 := 3) (by decide +kernel) rfl ?_
  refine j_iconst (n := 1) (by decide +kernel) ?_
  refine j_iadd (by decide +kernel) ?_
  refine j_sld (lw_at hi hN (by decide) (by decide)) (by decide +kernel) ?_
  refine j_aload_n (k4 := 0) (by decide +kernel) rfl ?_
  refine j_iload_n (k4 := 3) (by decide +kernel) rfl ?_
  refine j_iconst (n := 2) (by decide +kernel) ?_
  refine j_iadd (by decide +kernel) ?_
  refine j_sld (lw_at hi hN (by decide) (by decide)) (by decide +kernel) ?_
  refine j_aload_n (k4 := 0) (by decide +kernel) rfl ?_
  refine j_iload_n (k4 := 3) (by decide +kernel) rfl ?_
  refine j_iconst (n := 3) (by decide +kernel) ?_
  refine j_iadd (by decide +kernel) ?_
  refine j_sld (lw_at hi hN (by decide) (by decide)) (by decide +kernel) ?_
  obtain ⟨fsm, hcm⟩ := lw_m hI1
  refine J.room (kc := 0 + kc) (ks := 0 + ks) (j_callV (own := 13) (i := 26) (y2 := 237) (d2 := 6) (mc := 0) (ms := 0) (kc := kc) (ks := ks) (a := b1 + 0) (As := [.int (jsX g (i + Int32.ofInt 1).toNatClampNeg), .int (jsX g (i + Int32.ofInt 2).toNatClampNeg), .int (jsX g (i + Int32.ofInt 3).toNatClampNeg)]) (st := []) (by decide +kernel) lw_cls (by decide +kernel) (by decide) (by decide +kernel) (by decide +kernel) (by decide +kernel) (by decide +kernel) (by decide +kernel) (show 3 = jnp 237 by decide +kernel) (by decide) (by decide) hcm (fun r hr => by cases hr; decide +kernel) (lu_610 (c0 := fr 1) (c1 := fr 5066) (hlow 610 _ rfl) (hI1.ok []) hI1.2.2.2.2.1 ⟨i32_lo _, i32_hi _⟩ ⟨i32_lo _, i32_hi _⟩ ⟨i32_lo _, i32_hi _⟩ ⟨r1, by omega⟩ er rfl ⟨r3, by omega⟩ er rfl) (fun v h2 hq => ?_)) (by omega) (by omega)
  obtain ⟨x2, rfl, bk2, hI2, h62⟩ := lwP2 (r := 3) hI1 hq rfl rfl rfl rfl rfl r2 r4 (by decide) (by decide) (by decide +kernel)
  refine j_pop (by decide +kernel) rfl ?_
  refine j_goto (off := 1609) (tgt := 1983) (by decide +kernel) (by decide) ?_
  exact kk bk2 h2 hI2 (fun b hb => h62 b (h61 b hb))
theorem lu_471 (hk : kOK TTs g (EIm n) l Kx_471) {W0 : List aR} {bk0 bk : aB} {h0 h : jH} (hO : hOK TTs g (EIm n) W0 bk0 h0 bk h) {a0 : Nat} (ha0 : bk 0 = some a0) {x1 : Int32} (hx1 : (-2147483648 : Int) ≤ x1.toInt ∧ x1.toInt ≤ 2147483647) {x2 : Int32} (hx2 : (-2147483648 : Int) ≤ x2.toInt ∧ x2.toInt ≤ 2147483647) {x3 : Int32} (hx3 : (-2147483648 : Int) ≤ x3.toInt ∧ x3.toInt ≤ 2147483647) :
    jCal l g 33 4 [.ref (g.2.2 + (a0 + 0)), .int x1, .int x2, .int x3] h 0 0 (kPost TTs g (EIm n) Kx_471 bk h [x1.toInt, x2.toInt, x3.toInt]) := by
  refine hk bk h [.ref (g.2.2 + (a0 + 0)), .int x1, .int x2, .int x3] [x1.toInt, x2.toInt, x3.toInt] hO.1 hO.2.1 hO.2.2.1 hO.2.2.2.2.2 (show 4 ≤ jmx 33 by decide +kernel) rfl (fun q hq => ?_) ⟨⟨rfl, fun i e z he hz => ?_⟩, eFm_plain (plain_app (spEnv_plain _) clEnv_plain), fun F hF => absurd hF List.not_mem_nil, fun i v hv => ?_, trivial, fun q hq => ?_, fun B hB => absurd hB List.not_mem_nil⟩
  · have hq : q ∈ ([] : List (Nat × Int × Nat)) := hq
    exact absurd hq List.not_mem_nil
  · match i, he, hz with
    | 0, he, hz => cases he; cases hz; exact hx1
    | 1, he, hz => cases he; cases hz; exact hx2
    | 2, he, hz => cases he; cases hz; exact hx3
    | i + 3, he, _ => cases he
  · match i, hv with
    | 0, hv => cases hv; exact ⟨_, rfl, a0, ha0, rfl⟩
    | 1, hv => cases hv; exact ⟨_, rfl, x1, rfl, rfl⟩
    | 2, hv => cases hv; exact ⟨_, rfl, x2, rfl, rfl⟩
    | 3, hv => cases hv; exact ⟨_, rfl, x3, rfl, rfl⟩
    | i + 4, hv => cases hv
  · exact absurd hq List.not_mem_nil
theorem lu_625 (hk : kOK TTs g (EIm n) l Kx_625) {W0 : List aR} {bk0 bk : aB} {h0 h : jH} (hO : hOK TTs g (EIm n) W0 bk0 h0 bk h) {a1 : Nat} (ha1 : bk 1 = some a1) {x1 : Int32} (hx1 : (-2147483648 : Int) ≤ x1.toInt ∧ x1.toInt ≤ 2147483647) {x2 : Int32} (hx2 : (-2147483648 : Int) ≤ x2.toInt ∧ x2.toInt ≤ 2147483647) {x3 : Int32} (hx3 : (-2147483648 : Int) ≤ x3.toInt ∧ x3.toInt ≤ 2147483647) {c0 : Int32} (hc0 : (0 : Int) ≤ c0.toInt ∧ c0.toInt ≤ 1073741822) {fc0 : Nat → Int32} (ec0 : h[a1 + 1]? = some (.inl (0, 5270, fc0))) (pc0 : fc0 1 = c0) :
    jCal l g 248 5 [.ref (g.2.2 + (a1 + 0)), .int x1, .int x2, .int x3] h 0 0 (kPost TTs g (EIm n) Kx_625 bk h [x1.toInt, x2.toInt, x3.toInt, c0.toInt]) := by
  refine hk bk h [.ref (g.2.2 + (a1 + 0)), .int x1, .int x2, .int x3] [x1.toInt, x2.toInt, x3.toInt, c0.toInt] hO.1 hO.2.1 hO.2.2.1 hO.2.2.2.2.2 (show 4 ≤ jmx 248 by decide +kernel) rfl (fun q hq => ?_) ⟨⟨rfl, fun i e z he hz => ?_⟩, eFm_plain (plain_app (spEnv_plain _) clEnv_plain), fun F hF => absurd hF List.not_mem_nil, fun i v hv => ?_, trivial, fun q hq => ?_, fun B hB => absurd hB List.not_mem_nil⟩
  · have hq : q ∈ ([] : List (Nat × Int × Nat)) := hq
    exact absurd hq List.not_mem_nil
  · match i, he, hz with
    | 0, he, hz => cases he; cases hz; exact hx1
    | 1, he, hz => cases he; cases hz; exact hx2
    | 2, he, hz => cases he; cases hz; exact hx3
    | 3, he, hz => cases he; cases hz; exact hc0
    | i + 4, he, _ => cases he
  · match i, hv with
    | 0, hv => cases hv; exact ⟨_, rfl, a1, ha1, rfl⟩
    | 1, hv => cases hv; exact ⟨_, rfl, x1, rfl, rfl⟩
    | 2, hv => cases hv; exact ⟨_, rfl, x2, rfl, rfl⟩
    | 3, hv => cases hv; exact ⟨_, rfl, x3, rfl, rfl⟩
    | i + 4, hv => cases hv
  · have hq2 : q = (1, 1, fcon ((1 : Nat) : Int), 3) := List.mem_singleton.mp hq
    subst hq2
    exact ⟨((1 : Nat) : Int), a1, _, c0.toInt, fcon_ok, ha1, ec0, ⟨by decide, congrArg Int32.toInt pc0⟩, rfl⟩
set_option maxRecDepth 16384 in
theorem lc_3 (hlow : ∀ (k : Nat) (K : aK), KTx[k]? = some K → kOK TTs g (EIm n) l K) {b0 b1 : Nat} {bk : aB} {h : jH} (hI : lwI g n b0 b1 bk h) (hn : n ≤ 30000) {i : Int32} (hi : 0 ≤ i.toInt ∧ i.toInt + 6 ≤ (jsN g : Int)) (hN : jsN g ≤ 3072) {kc ks : Nat} {Q : Option Value → jH → Prop}
    (kk : ∀ bk' h', lwI g (n + 40) b0 b1 bk' h' → (∀ b, bk 6 = some b → bk' 6 = some b) → J l g 315 100 1983 (lwL g b0 b1 i) [] h' kc ks Q) : J l g 315 100 377 (lwL g b0 b1 i) [] h (kc) (ks) Q := by
  refine j_aload_n (k4 := 1) (by decide +kernel) rfl ?_
  refine j_aload_n (k4 := 0) (by decide +kernel) rfl ?_
  refine j_iload_n (k4 := 3) (by decide +kernel) rfl ?_
  refine j_iconst (n := 1) (by decide +kernel) ?_
  refine j_iadd (by decide +kernel) ?_
  refine j_sld (lw_at hi hN (by decide) (by decide)) (by decide +kernel) ?_
  refine j_aload_n (k4 := 0) (by decide +kernel) rfl ?_
  refine j_iload_n (k4 := 3) (by decide +kernel) rfl ?_
  refine j_iconst (n := 2) (by decide +kernel) ?_
  refine j_iadd (by decide +kernel) ?_
  refine j_sld (lw_at hi hN (by decide) (by decide)) (by decide +kernel) ?_
  refine j_aload_n (k4 := 0) (by decide +kernel) rfl ?_
  refine j_iload_n (k4 := 3) (by decide +kernel) rfl ?_
  refine j_iconst (n := 3) (by decide +kernel) ?_
  refine j_iadd (by decide +kernel) ?_
  refine j_sld (lw_at hi hN (by decide) (by decide)) (by decide +kernel) ?_
  obtain ⟨fsx, hcx⟩ := lw_x hI
  refine J.room (kc := 0 + kc) (ks := 0 + ks) (j_callV (own := 13) (i := 27) (y2 := 33) (d2 := 4) (mc := 0) (ms := 0) (kc := kc) (ks := ks) (a := b0 + 0) (As := [.int (jsX g (i + Int32.ofInt 1).toNatClampNeg), .int (jsX g (i + Int32.ofInt 2).toNatClampNeg), .int (jsX g (i + Int32.ofInt 3).toNatClampNeg)]) (st := []) (by decide +kernel) lw_cls (by decide +kernel) (by decide) (by decide +kernel) (by decide +kernel) (by decide +kernel) (by decide +kernel) (by decide +kernel) (show 3 = jnp 33 by decide +kernel) (by decide) (by decide) hcx (fun r hr => by cases hr; decide +kernel) (lu_471 (hlow 471 _ rfl) (hI.ok []) hI.2.2.2.1 ⟨i32_lo _, i32_hi _⟩ ⟨i32_lo _, i32_hi _⟩ ⟨i32_lo _, i32_hi _⟩) (fun v h1 hq => ?_)) (by omega) (by omega)
  obtain ⟨x1, rfl, bk1, hI1, h61⟩ := lwP hI hq (by decide +kernel) (by decide +kernel) (by decide +kernel) (Int.le_refl n)
  refine j_pop (by decide +kernel) rfl ?_
  obtain ⟨fr, er, ⟨r1, r2⟩, r3, r4⟩ := hI1.row
  refine j_aload_n (k4 := 2) (by decide +kernel) rfl ?_
  refine j_aload_n (k4 := 0) (by decide +kernel) rfl ?_
  refine j_iload_n (k4 := 3) (by decide +kernel) rfl ?_
  refine j_iconst (n := 1) (by decide +kernel) ?_
  refine j_iadd (by decide +kernel) ?_
  refine j_sld (lw_at hi hN (by decide) (by decide)) (by decide +kernel) ?_
  refine j_aload_n (k4 := 0) (by decide +kernel) rfl ?_
  refine j_iload_n (k4 := 3) (by decide +kernel) rfl ?_
  refine j_iconst (n := 2) (by decide +kernel) ?_
  refine j_iadd (by decide +kernel) ?_
  refine j_sld (lw_at hi hN (by decide) (by decide)) (by decide +kernel) ?_
  refine j_aload_n (k4 := 0) (by decide +kernel) rfl ?_
  refine j_iload_n (k4 := 3) (by decide +kernel) rfl ?_
  refine j_iconst (n := 3) (by decide +kernel) ?_
  refine j_iadd (by decide +kernel) ?_
  refine j_sld (lw_at hi hN (by decide) (by decide)) (by decide +kernel) ?_
  obtain ⟨fsm, hcm⟩ := lw_m hI1
  refine J.room (kc := 0 + kc) (ks := 0 + ks) (j_callV (own := 13) (i := 30) (y2 := 248) (d2 := 5) (mc := 0) (ms := 0) (kc := kc) (ks := ks) (a := b1 + 0) (As := [.int (jsX g (i + Int32.ofInt 1).toNatClampNeg), .int (jsX g (i + Int32.ofInt 2).toNatClampNeg), .int (jsX g (i + Int32.ofInt 3).toNatClampNeg)]) (st := []) (by decide +kernel) lw_cls (by decide +kernel) (by decide) (by decide +kernel) (by decide +kernel) (by decide +kernel) (by decide +kernel) (by decide +kernel) (show 3 = jnp 248 by decide +kernel) (by decide) (by decide) hcm (fun r hr => by cases hr; decide +kernel) (lu_625 (c0 := fr 1) (hlow 625 _ rfl) (hI1.ok []) hI1.2.2.2.2.1 ⟨i32_lo _, i32_hi _⟩ ⟨i32_lo _, i32_hi _⟩ ⟨i32_lo _, i32_hi _⟩ ⟨r1, by omega⟩ er rfl) (fun v h2 hq => ?_)) (by omega) (by omega)
  obtain ⟨x2, rfl, bk2, hI2, h62⟩ := lwP1 (r := 3) hI1 hq rfl rfl rfl rfl r2 (by decide) (by decide +kernel) (by decide +kernel)
  refine j_pop (by decide +kernel) rfl ?_
  refine j_goto (off := 1566) (tgt := 1983) (by decide +kernel) (by decide) ?_
  exact kk bk2 h2 hI2 (fun b hb => h62 b (h61 b hb))
theorem lu_446 (hk : kOK TTs g (EIm n) l Kx_446) {W0 : List aR} {bk0 bk : aB} {h0 h : jH} (hO : hOK TTs g (EIm n) W0 bk0 h0 bk h) {a0 : Nat} (ha0 : bk 0 = some a0) {x1 : Int32} (hx1 : (-2147483648 : Int) ≤ x1.toInt ∧ x1.toInt ≤ 2147483647) {x2 : Int32} (hx2 : (-2147483648 : Int) ≤ x2.toInt ∧ x2.toInt ≤ 2147483647) :
    jCal l g 36 3 [.ref (g.2.2 + (a0 + 0)), .int x1, .int x2] h 0 0 (kPost TTs g (EIm n) Kx_446 bk h [x1.toInt, x2.toInt]) := by
  refine hk bk h [.ref (g.2.2 + (a0 + 0)), .int x1, .int x2] [x1.toInt, x2.toInt] hO.1 hO.2.1 hO.2.2.1 hO.2.2.2.2.2 (show 3 ≤ jmx 36 by decide +kernel) rfl (fun q hq => ?_) ⟨⟨rfl, fun i e z he hz => ?_⟩, eFm_plain (plain_app (spEnv_plain _) clEnv_plain), fun F hF => absurd hF List.not_mem_nil, fun i v hv => ?_, trivial, fun q hq => ?_, fun B hB => absurd hB List.not_mem_nil⟩
  · have hq : q ∈ ([] : List (Nat × Int × Nat)) := hq
    exact absurd hq List.not_mem_nil
  · match i, he, hz with
    | 0, he, hz => cases he; cases hz; exact hx1
    | 1, he, hz => cases he; cases hz; exact hx2
    | i + 2, he, _ => cases he
  · match i, hv with
    | 0, hv => cases hv; exact ⟨_, rfl, a0, ha0, rfl⟩
    | 1, hv => cases hv; exact ⟨_, rfl, x1, rfl, rfl⟩
    | 2, hv => cases hv; exact ⟨_, rfl, x2, rfl, rfl⟩
    | 3, hv => cases hv
    | i + 4, hv => cases hv
  · exact absurd hq List.not_mem_nil
theorem lu_519 (hk : kOK TTs g (EIm n) l Kx_519) {W0 : List aR} {bk0 bk : aB} {h0 h : jH} (hO : hOK TTs g (EIm n) W0 bk0 h0 bk h) {a1 : Nat} (ha1 : bk 1 = some a1) {x1 : Int32} (hx1 : (-2147483648 : Int) ≤ x1.toInt ∧ x1.toInt ≤ 2147483647) {x2 : Int32} (hx2 : (-2147483648 : Int) ≤ x2.toInt ∧ x2.toInt ≤ 2147483647) {c0 : Int32} (hc0 : (0 : Int) ≤ c0.toInt ∧ c0.toInt ≤ 1073741823) {fc0 : Nat → Int32} (ec0 : h[a1 + 1]? = some (.inl (0, 5270, fc0))) (pc0 : fc0 1 = c0) :
    jCal l g 251 3 [.ref (g.2.2 + (a1 + 0)), .int x1, .int x2] h 0 0 (kPost TTs g (EIm n) Kx_519 bk h [x1.toInt, x2.toInt, c0.toInt]) := by
  refine hk bk h [.ref (g.2.2 + (a1 + 0)), .int x1, .int x2] [x1.toInt, x2.toInt, c0.toInt] hO.1 hO.2.1 hO.2.2.1 hO.2.2.2.2.2 (show 3 ≤ jmx 251 by decide +kernel) rfl (fun q hq => ?_) ⟨⟨rfl, fun i e z he hz => ?_⟩, eFm_plain (plain_app (spEnv_plain _) clEnv_plain), fun F hF => absurd hF List.not_mem_nil, fun i v hv => ?_, trivial, fun q hq => ?_, fun B hB => absurd hB List.not_mem_nil⟩
  · have hq : q ∈ ([] : List (Nat × Int × Nat)) := hq
    exact absurd hq List.not_mem_nil
  · match i, he, hz with
    | 0, he, hz => cases he; cases hz; exact hx1
    | 1, he, hz => cases he; cases hz; exact hx2
    | 2, he, hz => cases he; cases hz; exact hc0
    | i + 3, he, _ => cases he
  · match i, hv with
    | 0, hv => cases hv; exact ⟨_, rfl, a1, ha1, rfl⟩
    | 1, hv => cases hv; exact ⟨_, rfl, x1, rfl, rfl⟩
    | 2, hv => cases hv; exact ⟨_, rfl, x2, rfl, rfl⟩
    | 3, hv => cases hv
    | i + 4, hv => cases hv
  · have hq2 : q = (1, 1, fcon ((1 : Nat) : Int), 2) := List.mem_singleton.mp hq
    subst hq2
    exact ⟨((1 : Nat) : Int), a1, _, c0.toInt, fcon_ok, ha1, ec0, ⟨by decide, congrArg Int32.toInt pc0⟩, rfl⟩
set_option maxRecDepth 16384 in
theorem lc_4 (hlow : ∀ (k : Nat) (K : aK), KTx[k]? = some K → kOK TTs g (EIm n) l K) {b0 b1 : Nat} {bk : aB} {h : jH} (hI : lwI g n b0 b1 bk h) (hn : n ≤ 30000) {i : Int32} (hi : 0 ≤ i.toInt ∧ i.toInt + 6 ≤ (jsN g : Int)) (hN : jsN g ≤ 3072) {kc ks : Nat} {Q : Option Value → jH → Prop}
    (kk : ∀ bk' h', lwI g (n + 40) b0 b1 bk' h' → (∀ b, bk 6 = some b → bk' 6 = some b) → J l g 315 100 1983 (lwL g b0 b1 i) [] h' kc ks Q) : J l g 315 100 420 (lwL g b0 b1 i) [] h (kc) (ks) Q := by
  refine j_aload_n (k4 := 1) (by decide +kernel) rfl ?_
  refine j_aload_n (k4 := 0) (by decide +kernel) rfl ?_
  refine j_iload_n (k4 := 3) (by decide +kernel) rfl ?_
  refine j_iconst (n := 1) (by decide +kernel) ?_
  refine j_iadd (by decide +kernel) ?_
  refine j_sld (lw_at hi hN (by decide) (by decide)) (by decide +kernel) ?_
  refine j_aload_n (k4 := 0) (by decide +kernel) rfl ?_
  refine j_iload_n (k4 := 3) (by decide +kernel) rfl ?_
  refine j_iconst (n := 2) (by decide +kernel) ?_
  refine j_iadd (by decide +kernel) ?_
  refine j_sld (lw_at hi hN (by decide) (by decide)) (by decide +kernel) ?_
  obtain ⟨fsx, hcx⟩ := lw_x hI
  refine J.room (kc := 0 + kc) (ks := 0 + ks) (j_callV (own := 13) (i := 31) (y2 := 36) (d2 := 3) (mc := 0) (ms := 0) (kc := kc) (ks := ks) (a := b0 + 0) (As := [.int (jsX g (i + Int32.ofInt 1).toNatClampNeg), .int (jsX g (i + Int32.ofInt 2).toNatClampNeg)]) (st := []) (by decide +kernel) lw_cls (by decide +kernel) (by decide) (by decide +kernel) (by decide +kernel) (by decide +kernel) (by decide +kernel) (by decide +kernel) (show 2 = jnp 36 by decide +kernel) (by decide) (by decide) hcx (fun r hr => by cases hr; decide +kernel) (lu_446 (hlow 446 _ rfl) (hI.ok []) hI.2.2.2.1 ⟨i32_lo _, i32_hi _⟩ ⟨i32_lo _, i32_hi _⟩) (fun v h1 hq => ?_)) (by omega) (by omega)
  obtain ⟨x1, rfl, bk1, hI1, h61⟩ := lwP hI hq (by decide +kernel) (by decide +kernel) (by decide +kernel) (Int.le_refl n)
  refine j_pop (by decide +kernel) rfl ?_
  obtain ⟨fr, er, ⟨r1, r2⟩, r3, r4⟩ := hI1.row
  refine j_aload_n (k4 := 2) (by decide +kernel) rfl ?_
  refine j_aload_n (k4 := 0) (by decide +kernel) rfl ?_
  refine j_iload_n (k4 := 3) (by decide +kernel) rfl ?_
  refine j_iconst (n := 1) (by decide +kernel) ?_
  refine j_iadd (by decide +kernel) ?_
  refine j_sld (lw_at hi hN (by decide) (by decide)) (by decide +kernel) ?_
  refine j_aload_n (k4 := 0) (by decide +kernel) rfl ?_
  refine j_iload_n (k4 := 3) (by decide +kernel) rfl ?_
  refine j_iconst (n := 2) (by decide +kernel) ?_
  refine j_iadd (by decide +kernel) ?_
  refine j_sld (lw_at hi hN (by decide) (by decide)) (by decide +kernel) ?_
  obtain ⟨fsm, hcm⟩ := lw_m hI1
  refine J.room (kc := 0 + kc) (ks := 0 + ks) (j_callV (own := 13) (i := 34) (y2 := 251) (d2 := 3) (mc := 0) (ms := 0) (kc := kc) (ks := ks) (a := b1 + 0) (As := [.int (jsX g (i + Int32.ofInt 1).toNatClampNeg), .int (jsX g (i + Int32.ofInt 2).toNatClampNeg)]) (st := []) (by decide +kernel) lw_cls (by decide +kernel) (by decide) (by decide +kernel) (by decide +kernel) (by decide +kernel) (by decide +kernel) (by decide +kernel) (show 2 = jnp 251 by decide +kernel) (by decide) (by decide) hcm (fun r hr => by cases hr; decide +kernel) (lu_519 (c0 := fr 1) (hlow 519 _ rfl) (hI1.ok []) hI1.2.2.2.2.1 ⟨i32_lo _, i32_hi _⟩ ⟨i32_lo _, i32_hi _⟩ ⟨r1, by omega⟩ er rfl) (fun v h2 hq => ?_)) (by omega) (by omega)
  obtain ⟨x2, rfl, bk2, hI2, h62⟩ := lwP1 (r := 2) hI1 hq rfl rfl rfl rfl r2 (by decide) (by decide +kernel) (by decide +kernel)
  refine j_pop (by decide +kernel) rfl ?_
  refine j_goto (off := 1533) (tgt := 1983) (by decide +kernel) (by decide) ?_
  exact kk bk2 h2 hI2 (fun b hb => h62 b (h61 b hb))
theorem lu_491 (hk : kOK TTs g (EIm n) l Kx_491) {W0 : List aR} {bk0 bk : aB} {h0 h : jH} (hO : hOK TTs g (EIm n) W0 bk0 h0 bk h) {a0 : Nat} (ha0 : bk 0 = some a0) {x1 : Int32} (hx1 : (-2147483648 : Int) ≤ x1.toInt ∧ x1.toInt ≤ 2147483647) {x2 : Int32} (hx2 : (-2147483648 : Int) ≤ x2.toInt ∧ x2.toInt ≤ 2147483647) {x3 : Int32} (hx3 : (-2147483648 : Int) ≤ x3.toInt ∧ x3.toInt ≤ 2147483647) {x4 : Int32} (hx4 : (-2147483648 : Int) ≤ x4.toInt ∧ x4.toInt ≤ 2147483647) :
    jCal l g 37 3 [.ref (g.2.2 + (a0 + 0)), .int x1, .int x2, .int x3, .int x4] h 0 0 (kPost TTs g (EIm n) Kx_491 bk h [x1.toInt, x2.toInt, x3.toInt, x4.toInt]) := by
  refine hk bk h [.ref (g.2.2 + (a0 + 0)), .int x1, .int x2, .int x3, .int x4] [x1.toInt, x2.toInt, x3.toInt, x4.toInt] hO.1 hO.2.1 hO.2.2.1 hO.2.2.2.2.2 (show 5 ≤ jmx 37 by decide +kernel) rfl (fun q hq => ?_) ⟨⟨rfl, fun i e z he hz => ?_⟩, eFm_plain (plain_app (spEnv_plain _) clEnv_plain), fun F hF => absurd hF List.not_mem_nil, fun i v hv => ?_, trivial, fun q hq => ?_, fun B hB => absurd hB List.not_mem_nil⟩
  · have hq : q ∈ ([] : List (Nat × Int × Nat)) := hq
    exact absurd hq List.not_mem_nil
  · match i, he, hz with
    | 0, he, hz => cases he; cases hz; exact hx1
    | 1, he, hz => cases he; cases hz; exact hx2
    | 2, he, hz => cases he; cases hz; exact hx3
    | 3, he, hz => cases he; cases hz; exact hx4
    | i + 4, he, _ => cases he
  · match i, hv with
    | 0, hv => cases hv; exact ⟨_, rfl, a0, ha0, rfl⟩
    | 1, hv => cases hv; exact ⟨_, rfl, x1, rfl, rfl⟩
    | 2, hv => cases hv; exact ⟨_, rfl, x2, rfl, rfl⟩
    | 3, hv => cases hv; exact ⟨_, rfl, x3, rfl, rfl⟩
    | 4, hv => cases hv; exact ⟨_, rfl, x4, rfl, rfl⟩
    | 5, hv => cases hv
    | i + 6, hv => cases hv
  · exact absurd hq List.not_mem_nil
theorem lu_652 (hk : kOK TTs g (EIm n) l Kx_652) {W0 : List aR} {bk0 bk : aB} {h0 h : jH} (hO : hOK TTs g (EIm n) W0 bk0 h0 bk h) {a1 : Nat} (ha1 : bk 1 = some a1) {x1 : Int32} (hx1 : (-2147483648 : Int) ≤ x1.toInt ∧ x1.toInt ≤ 2147483647) {x2 : Int32} (hx2 : (-2147483648 : Int) ≤ x2.toInt ∧ x2.toInt ≤ 2147483647) {x3 : Int32} (hx3 : (-2147483648 : Int) ≤ x3.toInt ∧ x3.toInt ≤ 2147483647) {x4 : Int32} (hx4 : (-2147483648 : Int) ≤ x4.toInt ∧ x4.toInt ≤ 2147483647) {c0 : Int32} (hc0 : (0 : Int) ≤ c0.toInt ∧ c0.toInt ≤ 1073741823) {fc0 : Nat → Int32} (ec0 : h[a1 + 1]? = some (.inl (0, 5270, fc0))) (pc0 : fc0 1 = c0) :
    jCal l g 252 4 [.ref (g.2.2 + (a1 + 0)), .int x1, .int x2, .int x3, .int x4] h 0 0 (kPost TTs g (EIm n) Kx_652 bk h [x1.toInt, x2.toInt, x3.toInt, x4.toInt, c0.toInt]) := by
  refine hk bk h [.ref (g.2.2 + (a1 + 0)), .int x1, .int x2, .int x3, .int x4] [x1.toInt, x2.toInt, x3.toInt, x4.toInt, c0.toInt] hO.1 hO.2.1 hO.2.2.1 hO.2.2.2.2.2 (show 5 ≤ jmx 252 by decide +kernel) rfl (fun q hq => ?_) ⟨⟨rfl, fun i e z he hz => ?_⟩, eFm_plain (plain_app (spEnv_plain _) clEnv_plain), fun F hF => absurd hF List.not_mem_nil, fun i v hv => ?_, trivial, fun q hq => ?_, fun B hB => absurd hB List.not_mem_nil⟩
  · have hq : q ∈ ([] : List (Nat × Int × Nat)) := hq
    exact absurd hq List.not_mem_nil
  · match i, he, hz with
    | 0, he, hz => cases he; cases hz; exact hx1
    | 1, he, hz => cases he; cases hz; exact hx2
    | 2, he, hz => cases he; cases hz; exact hx3
    | 3, he, hz => cases he; cases hz; exact hx4
    | 4, he, hz => cases he; cases hz; exact hc0
    | i + 5, he, _ => cases he
  · match i, hv with
    | 0, hv => cases hv; exact ⟨_, rfl, a1, ha1, rfl⟩
    | 1, hv => cases hv; exact ⟨_, rfl, x1, rfl, rfl⟩
    | 2, hv => cases hv; exact ⟨_, rfl, x2, rfl, rfl⟩
    | 3, hv => cases hv; exact ⟨_, rfl, x3, rfl, rfl⟩
    | 4, hv => cases hv; exact ⟨_, rfl, x4, rfl, rfl⟩
    | i + 5, hv => cases hv
  · have hq2 : q = (1, 1, fcon ((1 : Nat) : Int), 4) := List.mem_singleton.mp hq
    subst hq2
    exact ⟨((1 : Nat) : Int), a1, _, c0.toInt, fcon_ok, ha1, ec0, ⟨by decide, congrArg Int32.toInt pc0⟩, rfl⟩
set_option maxRecDepth 16384 in
theorem lc_5 (hlow : ∀ (k : Nat) (K : aK), KTx[k]? = some K → kOK TTs g (EIm n) l K) {b0 b1 : Nat} {bk : aB} {h : jH} (hI : lwI g n b0 b1 bk h) (hn : n ≤ 30000) {i : Int32} (hi : 0 ≤ i.toInt ∧ i.toInt + 6 ≤ (jsN g : Int)) (hN : jsN g ≤ 3072) {kc ks : Nat} {Q : Option Value → jH → Prop}
    (kk : ∀ bk' h', lwI g (n + 40) b0 b1 bk' h' → (∀ b, bk 6 = some b → bk' 6 = some b) → J l g 315 100 1983 (lwL g b0 b1 i) [] h' kc ks Q) : J l g 315 100 453 (lwL g b0 b1 i) [] h (kc) (ks) Q := by
  refine j_aload_n (k4 := 1) (by decide +kernel) rfl ?_
  refine j_aload_n (k4 := 0) (by decide +kernel) rfl ?_
  refine j_iload_n (k4 := 3) (by decide +kernel) rfl ?_
  refine j_iconst (n := 1) (by decide +kernel) ?_
  refine j_iadd (by decide +kernel) ?_
  refine j_sld (lw_at hi hN (by decide) (by decide)) (by decide +kernel) ?_
  refine j_aload_n (k4 := 0) (by decide +kernel) rfl ?_
  refine j_iload_n (k4 := 3) (by decide +kernel) rfl ?_
  refine j_iconst (n := 2) (by decide +kernel) ?_
  refine j_iadd (by decide +kernel) ?_
  refine j_sld (lw_at hi hN (by decide) (by decide)) (by decide +kernel) ?_
  refine j_aload_n (k4 := 0) (by decide +kernel) rfl ?_
  refine j_iload_n (k4 := 3) (by decide +kernel) rfl ?_
  refine j_iconst (n := 3) (by decide +kernel) ?_
  refine j_iadd (by decide +kernel) ?_
  refine j_sld (lw_at hi hN (by decide) (by decide)) (by decide +kernel) ?_
  refine j_aload_n (k4 := 0) (by decide +kernel) rfl ?_
  refine j_iload_n (k4 := 3) (by decide +kernel) rfl ?_
  refine j_iconst (n := 4) (by decide +kernel) ?_
  refine j_iadd (by decide +kernel) ?_
  refine j_sld (lw_at hi hN (by decide) (by decide)) (by decide +kernel) ?_
  obtain ⟨fsx, hcx⟩ := lw_x hI
  refine J.room (kc := 0 + kc) (ks := 0 + ks) (j_callV (own := 13) (i := 35) (y2 := 37) (d2 := 3) (mc := 0) (ms := 0) (kc := kc) (ks := ks) (a := b0 + 0) (As := [.int (jsX g (i + Int32.ofInt 1).toNatClampNeg), .int (jsX g (i + Int32.ofInt 2).toNatClampNeg), .int (jsX g (i + Int32.ofInt 3).toNatClampNeg), .int (jsX g (i + Int32.ofInt 4).toNatClampNeg)]) (st := []) (by decide +kernel) lw_cls (by decide +kernel) (by decide) (by decide +kernel) (by decide +kernel) (by decide +kernel) (by decide +kernel) (by decide +kernel) (show 4 = jnp 37 by decide +kernel) (by decide) (by decide) hcx (fun r hr => by cases hr; decide +kernel) (lu_491 (hlow 491 _ rfl) (hI.ok []) hI.2.2.2.1 ⟨i32_lo _, i32_hi _⟩ ⟨i32_lo _, i32_hi _⟩ ⟨i32_lo _, i32_hi _⟩ ⟨i32_lo _, i32_hi _⟩) (fun v h1 hq => ?_)) (by omega) (by omega)
  obtain ⟨x1, rfl, bk1, hI1, h61⟩ := lwP hI hq (by decide +kernel) (by decide +kernel) (by decide +kernel) (Int.le_refl n)
  refine j_pop (by decide +kernel) rfl ?_
  obtain ⟨fr, er, ⟨r1, r2⟩, r3, r4⟩ := hI1.row
  refine j_aload_n (k4 := 2) (by decide +kernel) rfl ?_
  refine j_aload_n (k4 := 0) (by decide +kernel) rfl ?_
  refine j_iload_n (k4 := 3) (by decide +kernel) rfl ?_
  refine j_iconst (n := 1) (by decide +kernel) ?_
  refine j_iadd (by decide +kernel) ?_
  refine j_sld (lw_at hi hN (by decide) (by decide)) (by decide +kernel) ?_
  refine j_aload_n (k4 := 0) (by decide +kernel) rfl ?_
  refine j_iload_n (k4 := 3) (by decide +kernel) rfl ?_
  refine j_iconst (n := 2) (by decide +kernel) ?_
  refine j_iadd (by decide +kernel) ?_
  refine j_sld (lw_at hi hN (by decide) (by decide)) (by decide +kernel) ?_
  refine j_aload_n (k4 := 0) (by decide +kernel) rfl ?_
  refine j_iload_n (k4 := 3) (by decide +kernel) rfl ?_
  refine j_iconst (n := 3) (by decide +kernel) ?_
  refine j_iadd (by decide +kernel) ?_
  refine j_sld (lw_at hi hN (by decide) (by decide)) (by decide +kernel) ?_
  refine j_aload_n (k4 := 0) (by decide +kernel) rfl ?_
  refine j_iload_n (k4 := 3) (by decide +kernel) rfl ?_
  refine j_iconst (n := 4) (by decide +kernel) ?_
  refine j_iadd (by decide +kernel) ?_
  refine j_sld (lw_at hi hN (by decide) (by decide)) (by decide +kernel) ?_
  obtain ⟨fsm, hcm⟩ := lw_m hI1
  refine J.room (kc := 0 + kc) (ks := 0 + ks) (j_callV (own := 13) (i := 39) (y2 := 252) (d2 := 4) (mc := 0) (ms := 0) (kc := kc) (ks := ks) (a := b1 + 0) (As := [.int (jsX g (i + Int32.ofInt 1).toNatClampNeg), .int (jsX g (i + Int32.ofInt 2).toNatClampNeg), .int (jsX g (i + Int32.ofInt 3).toNatClampNeg), .int (jsX g (i + Int32.ofInt 4).toNatClampNeg)]) (st := []) (by decide +kernel) lw_cls (by decide +kernel) (by decide) (by decide +kernel) (by decide +kernel) (by decide +kernel) (by decide +kernel) (by decide +kernel) (show 4 = jnp 252 by decide +kernel) (by decide) (by decide) hcm (fun r hr => by cases hr; decide +kernel) (lu_652 (c0 := fr 1) (hlow 652 _ rfl) (hI1.ok []) hI1.2.2.2.2.1 ⟨i32_lo _, i32_hi _⟩ ⟨i32_lo _, i32_hi _⟩ ⟨i32_lo _, i32_hi _⟩ ⟨i32_lo _, i32_hi _⟩ ⟨r1, by omega⟩ er rfl) (fun v h2 hq => ?_)) (by omega) (by omega)
  obtain ⟨x2, rfl, bk2, hI2, h62⟩ := lwP1 (r := 4) hI1 hq rfl rfl rfl rfl r2 (by decide) (by decide +kernel) (by decide +kernel)
  refine j_pop (by decide +kernel) rfl ?_
  refine j_goto (off := 1480) (tgt := 1983) (by decide +kernel) (by decide) ?_
  exact kk bk2 h2 hI2 (fun b hb => h62 b (h61 b hb))
theorem lu_472 (hk : kOK TTs g (EIm n) l Kx_472) {W0 : List aR} {bk0 bk : aB} {h0 h : jH} (hO : hOK TTs g (EIm n) W0 bk0 h0 bk h) {a0 : Nat} (ha0 : bk 0 = some a0) {x1 : Int32} (hx1 : (-2147483648 : Int) ≤ x1.toInt ∧ x1.toInt ≤ 2147483647) {x2 : Int32} (hx2 : (-2147483648 : Int) ≤ x2.toInt ∧ x2.toInt ≤ 2147483647) {x3 : Int32} (hx3 : (-2147483648 : Int) ≤ x3.toInt ∧ x3.toInt ≤ 2147483647) :
    jCal l g 38 3 [.ref (g.2.2 + (a0 + 0)), .int x1, .int x2, .int x3] h 0 0 (kPost TTs g (EIm n) Kx_472 bk h [x1.toInt, x2.toInt, x3.toInt]) := by
  refine hk bk h [.ref (g.2.2 + (a0 + 0)), .int x1, .int x2, .int x3] [x1.toInt, x2.toInt, x3.toInt] hO.1 hO.2.1 hO.2.2.1 hO.2.2.2.2.2 (show 4 ≤ jmx 38 by decide +kernel) rfl (fun q hq => ?_) ⟨⟨rfl, fun i e z he hz => ?_⟩, eFm_plain (plain_app (spEnv_plain _) clEnv_plain), fun F hF => absurd hF List.not_mem_nil, fun i v hv => ?_, trivial, fun q hq => ?_, fun B hB => absurd hB List.not_mem_nil⟩
  · have hq : q ∈ ([] : List (Nat × Int × Nat)) := hq
    exact absurd hq List.not_mem_nil
  · match i, he, hz with
    | 0, he, hz => cases he; cases hz; exact hx1
    | 1, he, hz => cases he; cases hz; exact hx2
    | 2, he, hz => cases he; cases hz; exact hx3
    | i + 3, he, _ => cases he
  · match i, hv with
    | 0, hv => cases hv; exact ⟨_, rfl, a0, ha0, rfl⟩
    | 1, hv => cases hv; exact ⟨_, rfl, x1, rfl, rfl⟩
    | 2, hv => cases hv; exact ⟨_, rfl, x2, rfl, rfl⟩
    | 3, hv => cases hv; exact ⟨_, rfl, x3, rfl, rfl⟩
    | 4, hv => cases hv
    | 5, hv => cases hv
    | i + 6, hv => cases hv
  · exact absurd hq List.not_mem_nil
theorem lu_627 (hk : kOK TTs g (EIm n) l Kx_627) {W0 : List aR} {bk0 bk : aB} {h0 h : jH} (hO : hOK TTs g (EIm n) W0 bk0 h0 bk h) {a1 : Nat} (ha1 : bk 1 = some a1) {x1 : Int32} (hx1 : (-2147483648 : Int) ≤ x1.toInt ∧ x1.toInt ≤ 2147483647) {x2 : Int32} (hx2 : (-2147483648 : Int) ≤ x2.toInt ∧ x2.toInt ≤ 2147483647) {x3 : Int32} (hx3 : (-2147483648 : Int) ≤ x3.toInt ∧ x3.toInt ≤ 2147483647) {c0 : Int32} (hc0 : (0 : Int) ≤ c0.toInt ∧ c0.toInt ≤ 1073741823) {fc0 : Nat → Int32} (ec0 : h[a1 + 1]? = some (.inl (0, 5270, fc0))) (pc0 : fc0 1 = c0) :
    jCal l g 253 3 [.ref (g.2.2 + (a1 + 0)), .int x1, .int x2, .int x3] h 0 0 (kPost TTs g (EIm n) Kx_627 bk h [x1.toInt, x2.toInt, x3.toInt, c0.toInt]) := by
  refine hk bk h [.ref (g.2.2 + (a1 + 0)), .int x1, .int x2, .int x3] [x1.toInt, x2.toInt, x3.toInt, c0.toInt] hO.1 hO.2.1 hO.2.2.1 hO.2.2.2.2.2 (show 4 ≤ jmx 253 by decide +kernel) rfl (fun q hq => ?_) ⟨⟨rfl, fun i e z he hz => ?_⟩, eFm_plain (plain_app (spEnv_plain _) clEnv_plain), fun F hF => absurd hF List.not_mem_nil, fun i v hv => ?_, trivial, fun q hq => ?_, fun B hB => absurd hB List.not_mem_nil⟩
  · have hq : q ∈ ([] : List (Nat × Int × Nat)) := hq
    exact absurd hq List.not_mem_nil
  · match i, he, hz with
    | 0, he, hz => cases he; cases hz; exact hx1
    | 1, he, hz => cases he; cases hz; exact hx2
    | 2, he, hz => cases he; cases hz; exact hx3
    | 3, he, hz => cases he; cases hz; exact hc0
    | i + 4, he, _ => cases he
  · match i, hv with
    | 0, hv => cases hv; exact ⟨_, rfl, a1, ha1, rfl⟩
    | 1, hv => cases hv; exact ⟨_, rfl, x1, rfl, rfl⟩
    | 2, hv => cases hv; exact ⟨_, rfl, x2, rfl, rfl⟩
    | 3, hv => cases hv; exact ⟨_, rfl, x3, rfl, rfl⟩
    | 4, hv => cases hv
    | i + 5, hv => cases hv
  · have hq2 : q = (1, 1, fcon ((1 : Nat) : Int), 3) := List.mem_singleton.mp hq
    subst hq2
    exact ⟨((1 : Nat) : Int), a1, _, c0.toInt, fcon_ok, ha1, ec0, ⟨by decide, congrArg Int32.toInt pc0⟩, rfl⟩
set_option maxRecDepth 16384 in
theorem lc_6 (hlow : ∀ (k : Nat) (K : aK), KTx[k]? = some K → kOK TTs g (EIm n) l K) {b0 b1 : Nat} {bk : aB} {h : jH} (hI : lwI g n b0 b1 bk h) (hn : n ≤ 30000) {i : Int32} (hi : 0 ≤ i.toInt ∧ i.toInt + 6 ≤ (jsN g : Int)) (hN : jsN g ≤ 3072) {kc ks : Nat} {Q : Option Value → jH → Prop}
    (kk : ∀ bk' h', lwI g (n + 40) b0 b1 bk' h' → (∀ b, bk 6 = some b → bk' 6 = some b) → J l g 315 100 1983 (lwL g b0 b1 i) [] h' kc ks Q) : J l g 315 100 506 (lwL g b0 b1 i) [] h (kc) (ks) Q := by
  refine j_aload_n (k4 := 1) (by decide +kernel) rfl ?_
  refine j_aload_n (k4 := 0) (by decide +kernel) rfl ?_
  refine j_iload_n (k4 := 3) (by decide +kernel) rfl ?_
  refine j_iconst (n := 1) (by decide +kernel) ?_
  refine j_iadd (by decide +kernel) ?_
  refine j_sld (lw_at hi hN (by decide) (by decide)) (by decide +kernel) ?_
  refine j_aload_n (k4 := 0) (by decide +kernel) rfl ?_
  refine j_iload_n (k4 := 3) (by decide +kernel) rfl ?_
  refine j_iconst (n := 2) (by decide +kernel) ?_
  refine j_iadd (by decide +kernel) ?_
  refine j_sld (lw_at hi hN (by decide) (by decide)) (by decide +kernel) ?_
  refine j_aload_n (k4 := 0) (by decide +kernel) rfl ?_
  refine j_iload_n (k4 := 3) (by decide +kernel) rfl ?_
  refine j_iconst (n := 3) (by decide +kernel) ?_
  refine j_iadd (by decide +kernel) ?_
  refine j_sld (lw_at hi hN (by decide) (by decide)) (by decide +kernel) ?_
  obtain ⟨fsx, hcx⟩ := lw_x hI
  refine J.room (kc := 0 + kc) (ks := 0 + ks) (j_callV (own := 13) (i := 40) (y2 := 38) (d2 := 3) (mc := 0) (ms := 0) (kc := kc) (ks := ks) (a := b0 + 0) (As := [.int (jsX g (i + Int32.ofInt 1).toNatClampNeg), .int (jsX g (i + Int32.ofInt 2).toNatClampNeg), .int (jsX g (i + Int32.ofInt 3).toNatClampNeg)]) (st := []) (by decide +kernel) lw_cls (by decide +kernel) (by decide) (by decide +kernel) (by decide +kernel) (by decide +kernel) (by decide +kernel) (by decide +kernel) (show 3 = jnp 38 by decide +kernel) (by decide) (by decide) hcx (fun r hr => by cases hr; decide +kernel) (lu_472 (hlow 472 _ rfl) (hI.ok []) hI.2.2.2.1 ⟨i32_lo _, i32_hi _⟩ ⟨i32_lo _, i32_hi _⟩ ⟨i32_lo _, i32_hi _⟩) (fun v h1 hq => ?_)) (by omega) (by omega)
  obtain ⟨x1, rfl, bk1, hI1, h61⟩ := lwP hI hq (by decide +kernel) (by decide +kernel) (by decide +kernel) (Int.le_refl n)
  refine j_pop (by decide +kernel) rfl ?_
  obtain ⟨fr, er, ⟨r1, r2⟩, r3, r4⟩ := hI1.row
  refine j_aload_n (k4 := 2) (by decide +kernel) rfl ?_
  refine j_aload_n (k4 := 0) (by decide +kernel) rfl ?_
  refine j_iload_n (k4 := 3) (by decide +kernel) rfl ?_
  refine j_iconst (n := 1) (by decide +kernel) ?_
  refine j_iadd (by decide +kernel) ?_
  refine j_sld (lw_at hi hN (by decide) (by decide)) (by decide +kernel) ?_
  refine j_aload_n (k4 := 0) (by decide +kernel) rfl ?_
  refine j_iload_n (k4 := 3) (by decide +kernel) rfl ?_
  refine j_iconst (n := 2) (by decide +kernel) ?_
  refine j_iadd (by decide +kernel) ?_
  refine j_sld (lw_at hi hN (by decide) (by decide)) (by decide +kernel) ?_
  refine j_aload_n (k4 := 0) (by decide +kernel) rfl ?_
  refine j_iload_n (k4 := 3) (by decide +kernel) rfl ?_
  refine j_iconst (n := 3) (by decide +kernel) ?_
  refine j_iadd (by decide +kernel) ?_
  refine j_sld (lw_at hi hN (by decide) (by decide)) (by decide +kernel) ?_
  obtain ⟨fsm, hcm⟩ := lw_m hI1
  refine J.room (kc := 0 + kc) (ks := 0 + ks) (j_callV (own := 13) (i := 43) (y2 := 253) (d2 := 3) (mc := 0) (ms := 0) (kc := kc) (ks := ks) (a := b1 + 0) (As := [.int (jsX g (i + Int32.ofInt 1).toNatClampNeg), .int (jsX g (i + Int32.ofInt 2).toNatClampNeg), .int (jsX g (i + Int32.ofInt 3).toNatClampNeg)]) (st := []) (by decide +kernel) lw_cls (by decide +kernel) (by decide) (by decide +kernel) (by decide +kernel) (by decide +kernel) (by decide +kernel) (by decide +kernel) (show 3 = jnp 253 by decide +kernel) (by decide) (by decide) hcm (fun r hr => by cases hr; decide +kernel) (lu_627 (c0 := fr 1) (hlow 627 _ rfl) (hI1.ok []) hI1.2.2.2.2.1 ⟨i32_lo _, i32_hi _⟩ ⟨i32_lo _, i32_hi _⟩ ⟨i32_lo _, i32_hi _⟩ ⟨r1, by omega⟩ er rfl) (fun v h2 hq => ?_)) (by omega) (by omega)
  obtain ⟨x2, rfl, bk2, hI2, h62⟩ := lwP1 (r := 3) hI1 hq rfl rfl rfl rfl r2 (by decide) (by decide +kernel) (by decide +kernel)
  refine j_pop (by decide +kernel) rfl ?_
  refine j_goto (off := 1437) (tgt := 1983) (by decide +kernel) (by decide) ?_
  exact kk bk2 h2 hI2 (fun b hb => h62 b (h61 b hb))
theorem lu_503 (hk : kOK TTs g (EIm n) l Kx_503) {W0 : List aR} {bk0 bk : aB} {h0 h : jH} (hO : hOK TTs g (EIm n) W0 bk0 h0 bk h) {a0 : Nat} (ha0 : bk 0 = some a0) {x1 : Int32} (hx1 : (-2147483648 : Int) ≤ x1.toInt ∧ x1.toInt ≤ 2147483647) {x2 : Int32} (hx2 : (-2147483648 : Int) ≤ x2.toInt ∧ x2.toInt ≤ 2147483647) {x3 : Int32} (hx3 : (-2147483648 : Int) ≤ x3.toInt ∧ x3.toInt ≤ 2147483647) {x4 : Int32} (hx4 : (-2147483648 : Int) ≤ x4.toInt ∧ x4.toInt ≤ 2147483647) :
    jCal l g 182 4 [.ref (g.2.2 + (a0 + 0)), .int x1, .int x2, .int x3, .int x4] h 0 0 (kPost TTs g (EIm n) Kx_503 bk h [x1.toInt, x2.toInt, x3.toInt, x4.toInt]) := by
  refine hk bk h [.ref (g.2.2 + (a0 + 0)), .int x1, .int x2, .int x3, .int x4] [x1.toInt, x2.toInt, x3.toInt, x4.toInt] hO.1 hO.2.1 hO.2.2.1 hO.2.2.2.2.2 (show 5 ≤ jmx 182 by decide +kernel) rfl (fun q hq => ?_) ⟨⟨rfl, fun i e z he hz => ?_⟩, eFm_plain (plain_app (spEnv_plain _) clEnv_plain), fun F hF => absurd hF List.not_mem_nil, fun i v hv => ?_, trivial, fun q hq => ?_, fun B hB => absurd hB List.not_mem_nil⟩
  · have hq : q ∈ ([] : List (Nat × Int × Nat)) := hq
    exact absurd hq List.not_mem_nil
  · match i, he, hz with
    | 0, he, hz => cases he; cases hz; exact hx1
    | 1, he, hz => cases he; cases hz; exact hx2
    | 2, he, hz => cases he; cases hz; exact hx3
    | 3, he, hz => cases he; cases hz; exact hx4
    | i + 4, he, _ => cases he
  · match i, hv with
    | 0, hv => cases hv; exact ⟨_, rfl, a0, ha0, rfl⟩
    | 1, hv => cases hv; exact ⟨_, rfl, x1, rfl, rfl⟩
    | 2, hv => cases hv; exact ⟨_, rfl, x2, rfl, rfl⟩
    | 3, hv => cases hv; exact ⟨_, rfl, x3, rfl, rfl⟩
    | 4, hv => cases hv; exact ⟨_, rfl, x4, rfl, rfl⟩
    | 5, hv => cases hv
    | 6, hv => cases hv
    | i + 7, hv => cases hv
  · exact absurd hq List.not_mem_nil
theorem lu_664 (hk : kOK TTs g (EIm n) l Kx_664) {W0 : List aR} {bk0 bk : aB} {h0 h : jH} (hO : hOK TTs g (EIm n) W0 bk0 h0 bk h) {a1 : Nat} (ha1 : bk 1 = some a1) {x1 : Int32} (hx1 : (-2147483648 : Int) ≤ x1.toInt ∧ x1.toInt ≤ 2147483647) {x2 : Int32} (hx2 : (-2147483648 : Int) ≤ x2.toInt ∧ x2.toInt ≤ 2147483647) {x3 : Int32} (hx3 : (-2147483648 : Int) ≤ x3.toInt ∧ x3.toInt ≤ 2147483647) {x4 : Int32} (hx4 : (-2147483648 : Int) ≤ x4.toInt ∧ x4.toInt ≤ 2147483647) {c0 : Int32} (hc0 : (0 : Int) ≤ c0.toInt ∧ c0.toInt ≤ 1073741822) {fc0 : Nat → Int32} (ec0 : h[a1 + 1]? = some (.inl (0, 5270, fc0))) (pc0 : fc0 1 = c0) :
    jCal l g 308 5 [.ref (g.2.2 + (a1 + 0)), .int x1, .int x2, .int x3, .int x4] h 0 0 (kPost TTs g (EIm n) Kx_664 bk h [x1.toInt, x2.toInt, x3.toInt, x4.toInt, c0.toInt]) := by
  refine hk bk h [.ref (g.2.2 + (a1 + 0)), .int x1, .int x2, .int x3, .int x4] [x1.toInt, x2.toInt, x3.toInt, x4.toInt, c0.toInt] hO.1 hO.2.1 hO.2.2.1 hO.2.2.2.2.2 (show 5 ≤ jmx 308 by decide +kernel) rfl (fun q hq => ?_) ⟨⟨rfl, fun i e z he hz => ?_⟩, eFm_plain (plain_app (spEnv_plain _) clEnv_plain), fun F hF => absurd hF List.not_mem_nil, fun i v hv => ?_, trivial, fun q hq => ?_, fun B hB => absurd hB List.not_mem_nil⟩
  · have hq : q ∈ ([] : List (Nat × Int × Nat)) := hq
    exact absurd hq List.not_mem_nil
  · match i, he, hz with
    | 0, he, hz => cases he; cases hz; exact hx1
    | 1, he, hz => cases he; cases hz; exact hx2
    | 2, he, hz => cases he; cases hz; exact hx3
    | 3, he, hz => cases he; cases hz; exact hx4
    | 4, he, hz => cases he; cases hz; exact hc0
    | i + 5, he, _ => cases he
  · match i, hv with
    | 0, hv => cases hv; exact ⟨_, rfl, a1, ha1, rfl⟩
    | 1, hv => cases hv; exact ⟨_, rfl, x1, rfl, rfl⟩
    | 2, hv => cases hv; exact ⟨_, rfl, x2, rfl, rfl⟩
    | 3, hv => cases hv; exact ⟨_, rfl, x3, rfl, rfl⟩
    | 4, hv => cases hv; exact ⟨_, rfl, x4, rfl, rfl⟩
    | 5, hv => cases hv
    | 6, hv => cases hv
    | 7, hv => cases hv
    | 8, hv => cases hv
    | i + 9, hv => cases hv
  · have hq2 : q = (1, 1, fcon ((1 : Nat) : Int), 4) := List.mem_singleton.mp hq
    subst hq2
    exact ⟨((1 : Nat) : Int), a1, _, c0.toInt, fcon_ok, ha1, ec0, ⟨by decide, congrArg Int32.toInt pc0⟩, rfl⟩
set_option maxRecDepth 16384 in
theorem lc_46 (hlow : ∀ (k : Nat) (K : aK), KTx[k]? = some K → kOK TTs g (EIm n) l K) {b0 b1 : Nat} {bk : aB} {h : jH} (hI : lwI g n b0 b1 bk h) (hn : n ≤ 30000) {i : Int32} (hi : 0 ≤ i.toInt ∧ i.toInt + 6 ≤ (jsN g : Int)) (hN : jsN g ≤ 3072) {kc ks : Nat} {Q : Option Value → jH → Prop}
    (kk : ∀ bk' h', lwI g (n + 40) b0 b1 bk' h' → (∀ b, bk 6 = some b → bk' 6 = some b) → J l g 315 100 1983 (lwL g b0 b1 i) [] h' kc ks Q) : J l g 315 100 1726 (lwL g b0 b1 i) [] h (kc) (ks) Q := by
  refine j_aload_n (k4 := 1) (by decide +kernel) rfl ?_
  refine j_aload_n (k4 := 0) (by decide +kernel) rfl ?_
  refine j_iload_n (k4 := 3) (by decide +kernel) rfl ?_
  refine j_iconst (n := 1) (by decide +kernel) ?_
  refine j_iadd (by decide +kernel) ?_
  refine j_sld (lw_at hi hN (by decide) (by decide)) (by decide +kernel) ?_
  refine j_aload_n (k4 := 0) (by decide +kernel) rfl ?_
  refine j_iload_n (k4 := 3) (by decide +kernel) rfl ?_
  refine j_iconst (n := 2) (by decide +kernel) ?_
  refine j_iadd (by decide +kernel) ?_
  refine j_sld (lw_at hi hN (by decide) (by decide)) (by decide +kernel) ?_
  refine j_aload_n (k4 := 0) (by decide +kernel) rfl ?_
  refine j_iload_n (k4 := 3) (by decide +kernel) rfl ?_
  refine j_iconst (n := 3) (by decide +kernel) ?_
  refine j_iadd (by decide +kernel) ?_
  refine j_sld (lw_at hi hN (by decide) (by decide)) (by decide +kernel) ?_
  refine j_aload_n (k4 := 0) (by decide +kernel) rfl ?_
  refine j_iload_n (k4 := 3) (by decide +kernel) rfl ?_
  refine j_iconst (n := 4) (by decide +kernel) ?_
  refine j_iadd (by decide +kernel) ?_
  refine j_sld (lw_at hi hN (by decide) (by decide)) (by decide +kernel) ?_
  obtain ⟨fsx, hcx⟩ := lw_x hI
  refine J.room (kc := 0 + kc) (ks := 0 + ks) (j_callV (own := 13) (i := 203) (y2 := 182) (d2 := 4) (mc := 0) (ms := 0) (kc := kc) (ks := ks) (a := b0 + 0) (As := [.int (jsX g (i + Int32.ofInt 1).toNatClampNeg), .int (jsX g (i + Int32.ofInt 2).toNatClampNeg), .int (jsX g (i + Int32.ofInt 3).toNatClampNeg), .int (jsX g (i + Int32.ofInt 4).toNatClampNeg)]) (st := []) (by decide +kernel) lw_cls (by decide +kernel) (by decide) (by decide +kernel) (by decide +kernel) (by decide +kernel) (by decide +kernel) (by decide +kernel) (show 4 = jnp 182 by decide +kernel) (by decide) (by decide) hcx (fun r hr => by cases hr; decide +kernel) (lu_503 (hlow 503 _ rfl) (hI.ok []) hI.2.2.2.1 ⟨i32_lo _, i32_hi _⟩ ⟨i32_lo _, i32_hi _⟩ ⟨i32_lo _, i32_hi _⟩ ⟨i32_lo _, i32_hi _⟩) (fun v h1 hq => ?_)) (by omega) (by omega)
  obtain ⟨x1, rfl, bk1, hI1, h61⟩ := lwP hI hq (by decide +kernel) (by decide +kernel) (by decide +kernel) (Int.le_refl n)
  refine j_pop (by decide +kernel) rfl ?_
  obtain ⟨fr, er, ⟨r1, r2⟩, r3, r4⟩ := hI1.row
  refine j_aload_n (k4 := 2) (by decide +kernel) rfl ?_
  refine j_aload_n (k4 := 0) (by decide +kernel) rfl ?_
  refine j_iload_n (k4 := 3) (by decide +kernel) rfl ?_
  refine j_iconst (n := 1) (by decide +kernel) ?_
  refine j_iadd (by decide +kernel) ?_
  refine j_sld (lw_at hi hN (by decide) (by decide)) (by decide +kernel) ?_
  refine j_aload_n (k4 := 0) (by decide +kernel) rfl ?_
  refine j_iload_n (k4 := 3) (by decide +kernel) rfl ?_
  refine j_iconst (n := 2) (by decide +kernel) ?_
  refine j_iadd (by decide +kernel) ?_
  refine j_sld (lw_at hi hN (by decide) (by decide)) (by decide +kernel) ?_
  refine j_aload_n (k4 := 0) (by decide +kernel) rfl ?_
  refine j_iload_n (k4 := 3) (by decide +kernel) rfl ?_
  refine j_iconst (n := 3) (by decide +kernel) ?_
  refine j_iadd (by decide +kernel) ?_
  refine j_sld (lw_at hi hN (by decide) (by decide)) (by decide +kernel) ?_
  refine j_aload_n (k4 := 0) (by decide +kernel) rfl ?_
  refine j_iload_n (k4 := 3) (by decide +kernel) rfl ?_
  refine j_iconst (n := 4) (by decide +kernel) ?_
  refine j_iadd (by decide +kernel) ?_
  refine j_sld (lw_at hi hN (by decide) (by decide)) (by decide +kernel) ?_
  obtain ⟨fsm, hcm⟩ := lw_m hI1
  refine J.room (kc := 0 + kc) (ks := 0 + ks) (j_callV (own := 13) (i := 206) (y2 := 308) (d2 := 5) (mc := 0) (ms := 0) (kc := kc) (ks := ks) (a := b1 + 0) (As := [.int (jsX g (i + Int32.ofInt 1).toNatClampNeg), .int (jsX g (i + Int32.ofInt 2).toNatClampNeg), .int (jsX g (i + Int32.ofInt 3).toNatClampNeg), .int (jsX g (i + Int32.ofInt 4).toNatClampNeg)]) (st := []) (by decide +kernel) lw_cls (by decide +kernel) (by decide) (by decide +kernel) (by decide +kernel) (by decide +kernel) (by decide +kernel) (by decide +kernel) (show 4 = jnp 308 by decide +kernel) (by decide) (by decide) hcm (fun r hr => by cases hr; decide +kernel) (lu_664 (c0 := fr 1) (hlow 664 _ rfl) (hI1.ok []) hI1.2.2.2.2.1 ⟨i32_lo _, i32_hi _⟩ ⟨i32_lo _, i32_hi _⟩ ⟨i32_lo _, i32_hi _⟩ ⟨i32_lo _, i32_hi _⟩ ⟨r1, by omega⟩ er rfl) (fun v h2 hq => ?_)) (by omega) (by omega)
  obtain ⟨x2, rfl, bk2, hI2, h62⟩ := lwP1 (r := 4) hI1 hq rfl rfl rfl rfl r2 (by decide) (by decide +kernel) (by decide +kernel)
  refine j_pop (by decide +kernel) rfl ?_
  refine j_goto (off := 207) (tgt := 1983) (by decide +kernel) (by decide) ?_
  exact kk bk2 h2 hI2 (fun b hb => h62 b (h61 b hb))
theorem lu_468 (hk : kOK TTs g (EIm n) l Kx_468) {W0 : List aR} {bk0 bk : aB} {h0 h : jH} (hO : hOK TTs g (EIm n) W0 bk0 h0 bk h) {a0 : Nat} (ha0 : bk 0 = some a0) {x1 : Int32} (hx1 : (-2147483648 : Int) ≤ x1.toInt ∧ x1.toInt ≤ 2147483647) :
    jCal l g 184 4 [.ref (g.2.2 + (a0 + 0)), .int x1] h 0 0 (kPost TTs g (EIm n) Kx_468 bk h [x1.toInt]) := by
  refine hk bk h [.ref (g.2.2 + (a0 + 0)), .int x1] [x1.toInt] hO.1 hO.2.1 hO.2.2.1 hO.2.2.2.2.2 (show 2 ≤ jmx 184 by decide +kernel) rfl (fun q hq => ?_) ⟨⟨rfl, fun i e z he hz => ?_⟩, eFm_plain (plain_app (spEnv_plain _) clEnv_plain), fun F hF => absurd hF List.not_mem_nil, fun i v hv => ?_, trivial, fun q hq => ?_, fun B hB => absurd hB List.not_mem_nil⟩
  · have hq : q ∈ ([] : List (Nat × Int × Nat)) := hq
    exact absurd hq List.not_mem_nil
  · match i, he, hz with
    | 0, he, hz => cases he; cases hz; exact hx1
    | i + 1, he, _ => cases he
  · match i, hv with
    | 0, hv => cases hv; exact ⟨_, rfl, a0, ha0, rfl⟩
    | 1, hv => cases hv; exact ⟨_, rfl, x1, rfl, rfl⟩
    | i + 2, hv => cases hv
  · exact absurd hq List.not_mem_nil
theorem lu_620 (hk : kOK TTs g (EIm n) l Kx_620) {W0 : List aR} {bk0 bk : aB} {h0 h : jH} (hO : hOK TTs g (EIm n) W0 bk0 h0 bk h) {a1 : Nat} (ha1 : bk 1 = some a1) {x1 : Int32} (hx1 : (-2147483648 : Int) ≤ x1.toInt ∧ x1.toInt ≤ 2147483647) {c0 : Int32} (hc0 : (0 : Int) ≤ c0.toInt ∧ c0.toInt ≤ 1073741812) {fc0 : Nat → Int32} (ec0 : h[a1 + 1]? = some (.inl (0, 5270, fc0))) (pc0 : fc0 1 = c0) :
    jCal l g 310 3 [.ref (g.2.2 + (a1 + 0)), .int x1] h 0 0 (kPost TTs g (EIm n) Kx_620 bk h [x1.toInt, c0.toInt]) := by
  refine hk bk h [.ref (g.2.2 + (a1 + 0)), .int x1] [x1.toInt, c0.toInt] hO.1 hO.2.1 hO.2.2.1 hO.2.2.2.2.2 (show 2 ≤ jmx 310 by decide +kernel) rfl (fun q hq => ?_) ⟨⟨rfl, fun i e z he hz => ?_⟩, eFm_plain (plain_app (spEnv_plain _) clEnv_plain), fun F hF => absurd hF List.not_mem_nil, fun i v hv => ?_, trivial, fun q hq => ?_, fun B hB => absurd hB List.not_mem_nil⟩
  · have hq : q ∈ ([] : List (Nat × Int × Nat)) := hq
    exact absurd hq List.not_mem_nil
  · match i, he, hz with
    | 0, he, hz => cases he; cases hz; exact hx1
    | 1, he, hz => cases he; cases hz; exact hc0
    | i + 2, he, _ => cases he
  · match i, hv with
    | 0, hv => cases hv; exact ⟨_, rfl, a1, ha1, rfl⟩
    | 1, hv => cases hv; exact ⟨_, rfl, x1, rfl, rfl⟩
    | 2, hv => cases hv
    | 3, hv => cases hv
    | 4, hv => cases hv
    | 5, hv => cases hv
    | i + 6, hv => cases hv
  · have hq2 : q = (1, 1, fcon ((1 : Nat) : Int), 1) := List.mem_singleton.mp hq
    subst hq2
    exact ⟨((1 : Nat) : Int), a1, _, c0.toInt, fcon_ok, ha1, ec0, ⟨by decide, congrArg Int32.toInt pc0⟩, rfl⟩
set_option maxRecDepth 16384 in
theorem lc_48 (hlow : ∀ (k : Nat) (K : aK), KTx[k]? = some K → kOK TTs g (EIm n) l K) {b0 b1 : Nat} {bk : aB} {h : jH} (hI : lwI g n b0 b1 bk h) (hn : n ≤ 30000) {i : Int32} (hi : 0 ≤ i.toInt ∧ i.toInt + 6 ≤ (jsN g : Int)) (hN : jsN g ≤ 3072) {kc ks : Nat} {Q : Option Value → jH → Prop}
    (kk : ∀ bk' h', lwI g (n + 40) b0 b1 bk' h' → (∀ b, bk 6 = some b → bk' 6 = some b) → J l g 315 100 1983 (lwL g b0 b1 i) [] h' kc ks Q) : J l g 315 100 1812 (lwL g b0 b1 i) [] h (kc) (ks) Q := by
  refine j_aload_n (k4 := 1) (by decide +kernel) rfl ?_
  refine j_aload_n (k4 := 0) (by decide +kernel) rfl ?_
  refine j_iload_n (k4 := 3) (by decide +kernel) rfl ?_
  refine j_iconst (n := 1) (by decide +kernel) ?_
  refine j_iadd (by decide +kernel) ?_
  refine j_sld (lw_at hi hN (by decide) (by decide)) (by decide +kernel) ?_
  obtain ⟨fsx, hcx⟩ := lw_x hI
  refine J.room (kc := 0 + kc) (ks := 0 + ks) (j_callV (own := 13) (i := 211) (y2 := 184) (d2 := 4) (mc := 0) (ms := 0) (kc := kc) (ks := ks) (a := b0 + 0) (As := [.int (jsX g (i + Int32.ofInt 1).toNatClampNeg)]) (st := []) (by decide +kernel) lw_cls (by decide +kernel) (by decide) (by decide +kernel) (by decide +kernel) (by decide +kernel) (by decide +kernel) (by decide +kernel) (show 1 = jnp 184 by decide +kernel) (by decide) (by decide) hcx (fun r hr => by cases hr; decide +kernel) (lu_468 (hlow 468 _ rfl) (hI.ok []) hI.2.2.2.1 ⟨i32_lo _, i32_hi _⟩) (fun v h1 hq => ?_)) (by omega) (by omega)
  obtain ⟨x1, rfl, bk1, hI1, h61⟩ := lwP hI hq (by decide +kernel) (by decide +kernel) (by decide +kernel) (Int.le_refl n)
  refine j_pop (by decide +kernel) rfl ?_
  obtain ⟨fr, er, ⟨r1, r2⟩, r3, r4⟩ := hI1.row
  refine j_aload_n (k4 := 2) (by decide +kernel) rfl ?_
  refine j_aload_n (k4 := 0) (by decide +kernel) rfl ?_
  refine j_iload_n (k4 := 3) (by decide +kernel) rfl ?_
  refine j_iconst (n := 1) (by decide +kernel) ?_
  refine j_iadd (by decide +kernel) ?_
  refine j_sld (lw_at hi hN (by decide) (by decide)) (by decide +kernel) ?_
  obtain ⟨fsm, hcm⟩ := lw_m hI1
  refine J.room (kc := 0 + kc) (ks := 0 + ks) (j_callV (own := 13) (i := 214) (y2 := 310) (d2 := 3) (mc := 0) (ms := 0) (kc := kc) (ks := ks) (a := b1 + 0) (As := [.int (jsX g (i + Int32.ofInt 1).toNatClampNeg)]) (st := []) (by decide +kernel) lw_cls (by decide +kernel) (by decide) (by decide +kernel) (by decide +kernel) (by decide +kernel) (by decide +kernel) (by decide +kernel) (show 1 = jnp 310 by decide +kernel) (by decide) (by decide) hcm (fun r hr => by cases hr; decide +kernel) (lu_620 (c0 := fr 1) (hlow 620 _ rfl) (hI1.ok []) hI1.2.2.2.2.1 ⟨i32_lo _, i32_hi _⟩ ⟨r1, by omega⟩ er rfl) (fun v h2 hq => ?_)) (by omega) (by omega)
  obtain ⟨x2, rfl, bk2, hI2, h62⟩ := lwP1 (r := 1) hI1 hq rfl rfl rfl rfl r2 (by decide) (by decide +kernel) (by decide +kernel)
  refine j_pop (by decide +kernel) rfl ?_
  refine j_goto (off := 151) (tgt := 1983) (by decide +kernel) (by decide) ?_
  exact kk bk2 h2 hI2 (fun b hb => h62 b (h61 b hb))
theorem lu_487 (hk : kOK TTs g (EIm n) l Kx_487) {W0 : List aR} {bk0 bk : aB} {h0 h : jH} (hO : hOK TTs g (EIm n) W0 bk0 h0 bk h) {a0 : Nat} (ha0 : bk 0 = some a0)  :
    jCal l g 58 40 [.ref (g.2.2 + (a0 + 0))] h 0 0 (kPost TTs g (EIm n) Kx_487 bk h []) := by
  refine hk bk h [.ref (g.2.2 + (a0 + 0))] [] hO.1 hO.2.1 hO.2.2.1 hO.2.2.2.2.2 (show 1 ≤ jmx 58 by decide +kernel) rfl (fun q hq => ?_) ⟨⟨rfl, fun i e z he hz => ?_⟩, eFm_plain (plain_app (spEnv_plain _) clEnv_plain), fun F hF => absurd hF List.not_mem_nil, fun i v hv => ?_, trivial, fun q hq => ?_, fun B hB => absurd hB List.not_mem_nil⟩
  · have hq : q ∈ ([] : List (Nat × Int × Nat)) := hq
    exact absurd hq List.not_mem_nil
  · match i, he, hz with
    | i + 0, he, _ => cases he
  · match i, hv with
    | 0, hv => cases hv; exact ⟨_, rfl, a0, ha0, rfl⟩
    | 1, hv => cases hv
    | i + 2, hv => cases hv
  · exact absurd hq List.not_mem_nil
set_option maxRecDepth 16384 in
theorem lc_19 (hlow : ∀ (k : Nat) (K : aK), KTx[k]? = some K → kOK TTs g (EIm n) l K) {b0 b1 : Nat} {bk : aB} {h : jH} (hI : lwI g n b0 b1 bk h) (hn : n ≤ 30000) {i : Int32} (hi : 0 ≤ i.toInt ∧ i.toInt + 6 ≤ (jsN g : Int)) (hN : jsN g ≤ 3072) {kc ks : Nat} {Q : Option Value → jH → Prop}
    (kk : ∀ bk' h', lwI g (n + 40) b0 b1 bk' h' → (∀ b, bk 6 = some b → bk' 6 = some b) → J l g 315 100 1983 (lwL g b0 b1 i) [] h' kc ks Q) : J l g 315 100 955 (lwL g b0 b1 i) [] h (kc) (ks) Q := by
  refine j_aload_n (k4 := 1) (by decide +kernel) rfl ?_
  obtain ⟨fsx, hcx⟩ := lw_x hI
  refine J.room (kc := 0 + kc) (ks := 0 + ks) (j_callV (own := 13) (i := 94) (y2 := 58) (d2 := 40) (mc := 0) (ms := 0) (kc := kc) (ks := ks) (a := b0 + 0) (As := []) (st := []) (by decide +kernel) lw_cls (by decide +kernel) (by decide) (by decide +kernel) (by decide +kernel) (by decide +kernel) (by decide +kernel) (by decide +kernel) (show 0 = jnp 58 by decide +kernel) (by decide) (by decide) hcx (fun r hr => by cases hr; decide +kernel) (lu_487 (hlow 487 _ rfl) (hI.ok []) hI.2.2.2.1) (fun v h1 hq => ?_)) (by omega) (by omega)
  obtain ⟨x1, rfl, bk1, hI1, h61⟩ := lwP hI hq (by decide +kernel) (by decide +kernel) (by decide +kernel) (Int.le_refl n)
  refine j_pop (by decide +kernel) rfl ?_
  refine j_aload_n (k4 := 2) (by decide +kernel) rfl ?_
  obtain ⟨fsm, hcm⟩ := lw_m hI1
  refine J.room (kc := 0 + kc) (ks := 0 + ks) (j_callV (own := 13) (i := 98) (y2 := 217) (d2 := 9) (mc := 0) (ms := 0) (kc := kc) (ks := ks) (a := b1 + 0) (As := []) (st := []) (by decide +kernel) lw_cls (by decide +kernel) (by decide) (by decide +kernel) (by decide +kernel) (by decide +kernel) (by decide +kernel) (by decide +kernel) (show 0 = jnp 217 by decide +kernel) (by decide) (by decide) hcm (fun r hr => by cases hr; decide +kernel) (mrules_ok hlow hI1.1 hI1.2.1 hI1.2.2.1 hI1.b01 hI1.2.2.2.2.1) (fun v h2 hq => ?_)) (by omega) (by omega)
  obtain ⟨x2, rfl, bk2, hI2, h62⟩ := lwP hI1 hq (by decide +kernel) (by decide +kernel) (by decide +kernel) (show n ≤ n + 40 by omega)
  refine j_pop (by decide +kernel) rfl ?_
  refine j_goto (off := 1018) (tgt := 1983) (by decide +kernel) (by decide) ?_
  exact kk bk2 h2 hI2 (fun b hb => h62 b (h61 b hb))
set_option maxRecDepth 16384 in
theorem lc_21 (hlow : ∀ (k : Nat) (K : aK), KTx[k]? = some K → kOK TTs g (EIm n) l K) {b0 b1 : Nat} {bk : aB} {h : jH} (hI : lwI g n b0 b1 bk h) (hn : n ≤ 30000) {i : Int32} (hi : 0 ≤ i.toInt ∧ i.toInt + 6 ≤ (jsN g : Int)) (hN : jsN g ≤ 3072) {kc ks : Nat} {Q : Option Value → jH → Prop}
    (kk : ∀ bk' h', lwI g (n + 40) b0 b1 bk' h' → (∀ b, bk 6 = some b → bk' 6 = some b) → J l g 315 100 1983 (lwL g b0 b1 i) [] h' kc ks Q) : J l g 315 100 981 (lwL g b0 b1 i) [] h (42 + kc) (3498 + ks) Q := by
  refine j_aload_n (k4 := 1) (by decide +kernel) rfl ?_
  obtain ⟨fsx, hcx⟩ := lw_x hI
  refine (j_callV (own := 13) (i := 103) (y2 := 94) (d2 := 9) (mc := 42) (ms := 3498) (kc := kc) (ks := ks) (a := b0 + 0) (As := []) (st := []) (by decide +kernel) lw_cls (by decide +kernel) (by decide) (by decide +kernel) (by decide +kernel) (by decide +kernel) (by decide +kernel) (by decide +kernel) (show 0 = jnp 94 by decide +kernel) (by decide) (by decide) hcx (fun r hr => by cases hr; decide +kernel) (rnC_ok hlow hI.1 hI.2.1 hI.2.2.1 hI.b01 hI.2.2.2.1) (fun v h1 hq => ?_))
  obtain ⟨x1, rfl, bk1, hI1, h61⟩ := lwP hI hq (by decide +kernel) (by decide +kernel) (by decide +kernel) (Int.le_refl n)
  refine j_pop (by decide +kernel) rfl ?_
  refine j_aload_n (k4 := 2) (by decide +kernel) rfl ?_
  obtain ⟨fsm, hcm⟩ := lw_m hI1
  refine J.room (kc := 0 + kc) (ks := 0 + ks) (j_callV (own := 13) (i := 106) (y2 := 262) (d2 := 6) (mc := 0) (ms := 0) (kc := kc) (ks := ks) (a := b1 + 0) (As := []) (st := []) (by decide +kernel) lw_cls (by decide +kernel) (by decide) (by decide +kernel) (by decide +kernel) (by decide +kernel) (by decide +kernel) (by decide +kernel) (show 0 = jnp 262 by decide +kernel) (by decide) (by decide) hcm (fun r hr => by cases hr; decide +kernel) (mrun_ok hlow hI1.1 hI1.2.1 hI1.2.2.1 hI1.b01 hI1.2.2.2.2.1) (fun v h2 hq => ?_)) (by omega) (by omega)
  obtain ⟨x2, rfl, bk2, hI2, h62⟩ := lwP hI1 hq (by decide +kernel) (by decide +kernel) (by decide +kernel) (show n ≤ n + 40 by omega)
  refine j_pop (by decide +kernel) rfl ?_
  refine j_goto (off := 992) (tgt := 1983) (by decide +kernel) (by decide) ?_
  exact kk bk2 h2 hI2 (fun b hb => h62 b (h61 b hb))
end LU
