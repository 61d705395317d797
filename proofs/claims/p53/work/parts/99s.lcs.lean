/-! the law's regular cases -/
section LS
variable {l : Launch} {g : jG} {n : Int}
theorem lu_474 (hk : kOK TTs g (EIm n) l Kx_474) {W0 : List aR} {bk0 bk : aB} {h0 h : jH} (hO : hOK TTs g (EIm n) W0 bk0 h0 bk h) {a0 : Nat} (ha0 : bk 0 = some a0) {x1 : Int32} (hx1 : (-2147483648 : Int) ≤ x1.toInt ∧ x1.toInt ≤ 2147483647) {x2 : Int32} (hx2 : (-2147483648 : Int) ≤ x2.toInt ∧ x2.toInt ≤ 2147483647) :
    jCal l g 13 2 [.ref (g.2.2 + (a0 + 0)), .int x1, .int x2] h 0 0 (kPost TTs g (EIm n) Kx_474 bk h [x1.toInt, x2.toInt]) := by
  refine hk bk h [.ref (g.2.2 + (a0 + 0)), .int x1, .int x2] [x1.toInt, x2.toInt] hO.1 hO.2.1 hO.2.2.1 hO.2.2.2.2.2 (show 3 ≤ jmx 13 by decide +kernel) rfl (fun q hq => ?_) ⟨⟨rfl, fun i e z he hz => ?_⟩, eFm_plain (plain_app (spEnv_plain _) clEnv_plain), fun F hF => absurd hF List.not_mem_nil, fun i v hv => ?_, trivial, fun q hq => ?_, fun B hB => absurd hB List.not_mem_nil⟩
  · have hq : q ∈ ([] : List (Nat × Int × Nat)) := hq
    exact absurd hq List.not_mem_nil
  · match i, he, hz with
    | 0, he, hz => cases he; cases hz; exact hx1
    | 1, he, hz => cases he; cases hz; exact hx2
    | i + 2, he, _ => cases he
  · match i, hv with
    | 0, hv => cases hv; exact ⟨_, rfl, a0, ha0, rfl⟩
    | 1, hv => cases hv; exact ⟨_, rfl, x1, rfl, rfl⟩
    | 2, hv => cases hv; exact ⟨_, rfl, x2, rfl, rfl⟩
    | 3, hv => cases hv
    | i + 4, hv => cases hv
  · exact absurd hq List.not_mem_nil
theorem lu_632 (hk : kOK TTs g (EIm n) l Kx_632) {W0 : List aR} {bk0 bk : aB} {h0 h : jH} (hO : hOK TTs g (EIm n) W0 bk0 h0 bk h) {a1 : Nat} (ha1 : bk 1 = some a1) {x1 : Int32} (hx1 : (-2147483648 : Int) ≤ x1.toInt ∧ x1.toInt ≤ 2147483647) {x2 : Int32} (hx2 : (-2147483648 : Int) ≤ x2.toInt ∧ x2.toInt ≤ 2147483647) :
    jCal l g 234 3 [.ref (g.2.2 + (a1 + 0)), .int x1, .int x2] h 0 0 (kPost TTs g (EIm n) Kx_632 bk h [x1.toInt, x2.toInt]) := by
  refine hk bk h [.ref (g.2.2 + (a1 + 0)), .int x1, .int x2] [x1.toInt, x2.toInt] hO.1 hO.2.1 hO.2.2.1 hO.2.2.2.2.2 (show 3 ≤ jmx 234 by decide +kernel) rfl (fun q hq => ?_) ⟨⟨rfl, fun i e z he hz => ?_⟩, eFm_plain (plain_app (spEnv_plain _) clEnv_plain), fun F hF => absurd hF List.not_mem_nil, fun i v hv => ?_, trivial, fun q hq => ?_, fun B hB => absurd hB List.not_mem_nil⟩
  · have hq : q ∈ ([] : List (Nat × Int × Nat)) := hq
    exact absurd hq List.not_mem_nil
  · match i, he, hz with
    | 0, he, hz => cases he; cases hz; exact hx1
    | 1, he, hz => cases he; cases hz; exact hx2
    | i + 2, he, _ => cases he
  · match i, hv with
    | 0, hv => cases hv; exact ⟨_, rfl, a1, ha1, rfl⟩
    | 1, hv => cases hv; exact ⟨_, rfl, x1, rfl, rfl⟩
    | 2, hv => cases hv; exact ⟨_, rfl, x2, rfl, rfl⟩
    | 3, hv => cases hv
    | i + 4, hv => cases hv
  · exact absurd hq List.not_mem_nil
set_option maxRecDepth 16384 in
theorem lc_0 (hlow : ∀ (k : Nat) (K : aK), KTx[k]? = some K → kOK TTs g (EIm n) l K) {b0 b1 : Nat} {bk : aB} {h : jH} (hI : lwI g n b0 b1 bk h) {i : Int32} (hi : 0 ≤ i.toInt ∧ i.toInt + 6 ≤ (jsN g : Int)) (hN : jsN g ≤ 3072) {kc ks : Nat} {Q : Option Value → jH → Prop}
    (kk : ∀ bk' h', lwI g (n + 40) b0 b1 bk' h' → (∀ b, bk 6 = some b → bk' 6 = some b) → J l g 315 100 1983 (lwL g b0 b1 i) [] h' kc ks Q) : J l g 315 100 268 (lwL g b0 b1 i) [] h kc ks Q := by
  refine j_aload_n (k4 := 1) (by decide +kernel) rfl ?_
  refine j_aload_n (k4 := 0) (by decide +kernel) rfl ?_
  refine j_iload_n (k4 := 3) (by decide +kernel) rfl ?_
  refine j_iconst (n := 1) (by decide +kernel) ?_
  refine j_iadd (by decide +kernel) ?_
  refine j_sld (lw_at hi hN (by decide) (by decide)) (by decide +kernel) ?_
  refine j_aload_n (k4 := 0) (by decide +kernel) rfl ?_
  refine j_iload_n (k4 := 3) (by decide +kernel) rfl ?_
  refine j_iconst (n := 2) (by decide +kernel) ?_
  refine j_iadd (by decide +kernel) ?_
  refine j_sld (lw_at hi hN (by decide) (by decide)) (by decide +kernel) ?_
  obtain ⟨fsx, hcx⟩ := lw_x hI
  refine J.room (kc := 0 + kc) (ks := 0 + ks) (j_callV (own := 13) (i := 13) (y2 := 13) (d2 := 2) (mc := 0) (ms := 0) (a := b0 + 0) (As := [.int (jsX g (i + Int32.ofInt 1).toNatClampNeg), .int (jsX g (i + Int32.ofInt 2).toNatClampNeg)]) (st := []) (by decide +kernel) lw_cls (by decide +kernel) (by decide) (by decide +kernel) (by decide +kernel) (by decide +kernel) (by decide +kernel) (by decide +kernel) (show 2 = jnp 13 by decide +kernel) (by decide) (by decide) hcx (fun r hr => by cases hr; decide +kernel) (lu_474 (hlow 474 _ rfl) (hI.ok []) hI.2.2.2.1 ⟨i32_lo _, i32_hi _⟩ ⟨i32_lo _, i32_hi _⟩) (fun v h1 hq => ?_)) (by omega) (by omega)
  obtain ⟨x1, rfl, bk1, hI1, h61⟩ := lwP hI hq (by decide +kernel) (by decide +kernel) (by decide +kernel) (Int.le_refl n)
  refine j_pop (by decide +kernel) rfl ?_
  refine j_aload_n (k4 := 2) (by decide +kernel) rfl ?_
  refine j_aload_n (k4 := 0) (by decide +kernel) rfl ?_
  refine j_iload_n (k4 := 3) (by decide +kernel) rfl ?_
  refine j_iconst (n := 1) (by decide +kernel) ?_
  refine j_iadd (by decide +kernel) ?_
  refine j_sld (lw_at hi hN (by decide) (by decide)) (by decide +kernel) ?_
  refine j_aload_n (k4 := 0) (by decide +kernel) rfl ?_
  refine j_iload_n (k4 := 3) (by decide +kernel) rfl ?_
  refine j_iconst (n := 2) (by decide +kernel) ?_
  refine j_iadd (by decide +kernel) ?_
  refine j_sld (lw_at hi hN (by decide) (by decide)) (by decide +kernel) ?_
  obtain ⟨fsm, hcm⟩ := lw_m hI1
  refine J.room (kc := 0 + kc) (ks := 0 + ks) (j_callV (own := 13) (i := 17) (y2 := 234) (d2 := 3) (mc := 0) (ms := 0) (a := b1 + 0) (As := [.int (jsX g (i + Int32.ofInt 1).toNatClampNeg), .int (jsX g (i + Int32.ofInt 2).toNatClampNeg)]) (st := []) (by decide +kernel) lw_cls (by decide +kernel) (by decide) (by decide +kernel) (by decide +kernel) (by decide +kernel) (by decide +kernel) (by decide +kernel) (show 2 = jnp 234 by decide +kernel) (by decide) (by decide) hcm (fun r hr => by cases hr; decide +kernel) (lu_632 (hlow 632 _ rfl) (hI1.ok []) hI1.2.2.2.2.1 ⟨i32_lo _, i32_hi _⟩ ⟨i32_lo _, i32_hi _⟩) (fun v h2 hq => ?_)) (by omega) (by omega)
  obtain ⟨x2, rfl, bk2, hI2, h62⟩ := lwP hI1 hq (by decide +kernel) (by decide +kernel) (by decide +kernel) (show n ≤ n + 40 by omega)
  refine j_pop (by decide +kernel) rfl ?_
  refine j_goto (off := 1685) (tgt := 1983) (by decide +kernel) (by decide) ?_
  exact kk bk2 h2 hI2 (fun b hb => h62 b (h61 b hb))
theorem lu_489 (hk : kOK TTs g (EIm n) l Kx_489) {W0 : List aR} {bk0 bk : aB} {h0 h : jH} (hO : hOK TTs g (EIm n) W0 bk0 h0 bk h) {a0 : Nat} (ha0 : bk 0 = some a0) {x1 : Int32} (hx1 : (-2147483648 : Int) ≤ x1.toInt ∧ x1.toInt ≤ 2147483647) {x2 : Int32} (hx2 : (-2147483648 : Int) ≤ x2.toInt ∧ x2.toInt ≤ 2147483647) :
    jCal l g 18 2 [.ref (g.2.2 + (a0 + 0)), .int x1, .int x2] h 0 0 (kPost TTs g (EIm n) Kx_489 bk h [x1.toInt, x2.toInt]) := by
  refine hk bk h [.ref (g.2.2 + (a0 + 0)), .int x1, .int x2] [x1.toInt, x2.toInt] hO.1 hO.2.1 hO.2.2.1 hO.2.2.2.2.2 (show 3 ≤ jmx 18 by decide +kernel) rfl (fun q hq => ?_) ⟨⟨rfl, fun i e z he hz => ?_⟩, eFm_plain (plain_app (spEnv_plain _) clEnv_plain), fun F hF => absurd hF List.not_mem_nil, fun i v hv => ?_, trivial, fun q hq => ?_, fun B hB => absurd hB List.not_mem_nil⟩
  · have hq : q ∈ ([] : List (Nat × Int × Nat)) := hq
    exact absurd hq List.not_mem_nil
  · match i, he, hz with
    | 0, he, hz => cases he; cases hz; exact hx1
    | 1, he, hz => cases he; cases hz; exact hx2
    | i + 2, he, _ => cases he
  · match i, hv with
    | 0, hv => cases hv; exact ⟨_, rfl, a0, ha0, rfl⟩
    | 1, hv => cases hv; exact ⟨_, rfl, x1, rfl, rfl⟩
    | 2, hv => cases hv; exact ⟨_, rfl, x2, rfl, rfl⟩
    | 3, hv => cases hv
    | i + 4, hv => cases hv
  · exact absurd hq List.not_mem_nil
theorem lu_650 (hk : kOK TTs g (EIm n) l Kx_650) {W0 : List aR} {bk0 bk : aB} {h0 h : jH} (hO : hOK TTs g (EIm n) W0 bk0 h0 bk h) {a1 : Nat} (ha1 : bk 1 = some a1) {x1 : Int32} (hx1 : (-2147483648 : Int) ≤ x1.toInt ∧ x1.toInt ≤ 2147483647) {x2 : Int32} (hx2 : (-2147483648 : Int) ≤ x2.toInt ∧ x2.toInt ≤ 2147483647) :
    jCal l g 236 2 [.ref (g.2.2 + (a1 + 0)), .int x1, .int x2] h 0 0 (kPost TTs g (EIm n) Kx_650 bk h [x1.toInt, x2.toInt]) := by
  refine hk bk h [.ref (g.2.2 + (a1 + 0)), .int x1, .int x2] [x1.toInt, x2.toInt] hO.1 hO.2.1 hO.2.2.1 hO.2.2.2.2.2 (show 3 ≤ jmx 236 by decide +kernel) rfl (fun q hq => ?_) ⟨⟨rfl, fun i e z he hz => ?_⟩, eFm_plain (plain_app (spEnv_plain _) clEnv_plain), fun F hF => absurd hF List.not_mem_nil, fun i v hv => ?_, trivial, fun q hq => ?_, fun B hB => absurd hB List.not_mem_nil⟩
  · have hq : q ∈ ([] : List (Nat × Int × Nat)) := hq
    exact absurd hq List.not_mem_nil
  · match i, he, hz with
    | 0, he, hz => cases he; cases hz; exact hx1
    | 1, he, hz => cases he; cases hz; exact hx2
    | i + 2, he, _ => cases he
  · match i, hv with
    | 0, hv => cases hv; exact ⟨_, rfl, a1, ha1, rfl⟩
    | 1, hv => cases hv; exact ⟨_, rfl, x1, rfl, rfl⟩
    | 2, hv => cases hv; exact ⟨_, rfl, x2, rfl, rfl⟩
    | 3, hv => cases hv
    | i + 4, hv => cases hv
  · exact absurd hq List.not_mem_nil
set_option maxRecDepth 16384 in
theorem lc_1 (hlow : ∀ (k : Nat) (K : aK), KTx[k]? = some K → kOK TTs g (EIm n) l K) {b0 b1 : Nat} {bk : aB} {h : jH} (hI : lwI g n b0 b1 bk h) {i : Int32} (hi : 0 ≤ i.toInt ∧ i.toInt + 6 ≤ (jsN g : Int)) (hN : jsN g ≤ 3072) {kc ks : Nat} {Q : Option Value → jH → Prop}
    (kk : ∀ bk' h', lwI g (n + 40) b0 b1 bk' h' → (∀ b, bk 6 = some b → bk' 6 = some b) → J l g 315 100 1983 (lwL g b0 b1 i) [] h' kc ks Q) : J l g 315 100 301 (lwL g b0 b1 i) [] h kc ks Q := by
  refine j_aload_n (k4 := 1) (by decide +kernel) rfl ?_
  refine j_aload_n (k4 := 0) (by decide +kernel) rfl ?_
  refine j_iload_n (k4 := 3) (by decide +kernel) rfl ?_
  refine j_iconst (n := 1) (by decide +kernel) ?_
  refine j_iadd (by decide +kernel) ?_
  refine j_sld (lw_at hi hN (by decide) (by decide)) (by decide +kernel) ?_
  refine j_aload_n (k4 := 0) (by decide +kernel) rfl ?_
  refine j_iload_n (k4 := 3) (by decide +kernel) rfl ?_
  refine j_iconst (n := 2) (by decide +kernel) ?_
  refine j_iadd (by decide +kernel) ?_
  refine j_sld (lw_at hi hN (by decide) (by decide)) (by decide +kernel) ?_
  obtain ⟨fsx, hcx⟩ := lw_x hI
  refine J.room (kc := 0 + kc) (ks := 0 + ks) (j_callV (own := 13) (i := 18) (y2 := 18) (d2 := 2) (mc := 0) (ms := 0) (a := b0 + 0) (As := [.int (jsX g (i + Int32.ofInt 1).toNatClampNeg), .int (jsX g (i + Int32.ofInt 2).toNatClampNeg)]) (st := []) (by decide +kernel) lw_cls (by decide +kernel) (by decide) (by decide +kernel) (by decide +kernel) (by decide +kernel) (by decide +kernel) (by decide +kernel) (show 2 = jnp 18 by decide +kernel) (by decide) (by decide) hcx (fun r hr => by cases hr; decide +kernel) (lu_489 (hlow 489 _ rfl) (hI.ok []) hI.2.2.2.1 ⟨i32_lo _, i32_hi _⟩ ⟨i32_lo _, i32_hi _⟩) (fun v h1 hq => ?_)) (by omega) (by omega)
  obtain ⟨x1, rfl, bk1, hI1, h61⟩ := lwP hI hq (by decide +kernel) (by decide +kernel) (by decide +kernel) (Int.le_refl n)
  refine j_pop (by decide +kernel) rfl ?_
  refine j_aload_n (k4 := 2) (by decide +kernel) rfl ?_
  refine j_aload_n (k4 := 0) (by decide +kernel) rfl ?_
  refine j_iload_n (k4 := 3) (by decide +kernel) rfl ?_
  refine j_iconst (n := 1) (by decide +kernel) ?_
  refine j_iadd (by decide +kernel) ?_
  refine j_sld (lw_at hi hN (by decide) (by decide)) (by decide +kernel) ?_
  refine j_aload_n (k4 := 0) (by decide +kernel) rfl ?_
  refine j_iload_n (k4 := 3) (by decide +kernel) rfl ?_
  refine j_iconst (n := 2) (by decide +kernel) ?_
  refine j_iadd (by decide +kernel) ?_
  refine j_sld (lw_at hi hN (by decide) (by decide)) (by decide +kernel) ?_
  obtain ⟨fsm, hcm⟩ := lw_m hI1
  refine J.room (kc := 0 + kc) (ks := 0 + ks) (j_callV (own := 13) (i := 21) (y2 := 236) (d2 := 2) (mc := 0) (ms := 0) (a := b1 + 0) (As := [.int (jsX g (i + Int32.ofInt 1).toNatClampNeg), .int (jsX g (i + Int32.ofInt 2).toNatClampNeg)]) (st := []) (by decide +kernel) lw_cls (by decide +kernel) (by decide) (by decide +kernel) (by decide +kernel) (by decide +kernel) (by decide +kernel) (by decide +kernel) (show 2 = jnp 236 by decide +kernel) (by decide) (by decide) hcm (fun r hr => by cases hr; decide +kernel) (lu_650 (hlow 650 _ rfl) (hI1.ok []) hI1.2.2.2.2.1 ⟨i32_lo _, i32_hi _⟩ ⟨i32_lo _, i32_hi _⟩) (fun v h2 hq => ?_)) (by omega) (by omega)
  obtain ⟨x2, rfl, bk2, hI2, h62⟩ := lwP hI1 hq (by decide +kernel) (by decide +kernel) (by decide +kernel) (show n ≤ n + 40 by omega)
  refine j_pop (by decide +kernel) rfl ?_
  refine j_goto (off := 1652) (tgt := 1983) (by decide +kernel) (by decide) ?_
  exact kk bk2 h2 hI2 (fun b hb => h62 b (h61 b hb))
theorem lu_473 (hk : kOK TTs g (EIm n) l Kx_473) {W0 : List aR} {bk0 bk : aB} {h0 h : jH} (hO : hOK TTs g (EIm n) W0 bk0 h0 bk h) {a0 : Nat} (ha0 : bk 0 = some a0) {x1 : Int32} (hx1 : (-2147483648 : Int) ≤ x1.toInt ∧ x1.toInt ≤ 2147483647) {x2 : Int32} (hx2 : (-2147483648 : Int) ≤ x2.toInt ∧ x2.toInt ≤ 2147483647) :
    jCal l g 39 2 [.ref (g.2.2 + (a0 + 0)), .int x1, .int x2] h 0 0 (kPost TTs g (EIm n) Kx_473 bk h [x1.toInt, x2.toInt]) := by
  refine hk bk h [.ref (g.2.2 + (a0 + 0)), .int x1, .int x2] [x1.toInt, x2.toInt] hO.1 hO.2.1 hO.2.2.1 hO.2.2.2.2.2 (show 3 ≤ jmx 39 by decide +kernel) rfl (fun q hq => ?_) ⟨⟨rfl, fun i e z he hz => ?_⟩, eFm_plain (plain_app (spEnv_plain _) clEnv_plain), fun F hF => absurd hF List.not_mem_nil, fun i v hv => ?_, trivial, fun q hq => ?_, fun B hB => absurd hB List.not_mem_nil⟩
  · have hq : q ∈ ([] : List (Nat × Int × Nat)) := hq
    exact absurd hq List.not_mem_nil
  · match i, he, hz with
    | 0, he, hz => cases he; cases hz; exact hx1
    | 1, he, hz => cases he; cases hz; exact hx2
    | i + 2, he, _ => cases he
  · match i, hv with
    | 0, hv => cases hv; exact ⟨_, rfl, a0, ha0, rfl⟩
    | 1, hv => cases hv; exact ⟨_, rfl, x1, rfl, rfl⟩
    | 2, hv => cases hv; exact ⟨_, rfl, x2, rfl, rfl⟩
    | i + 3, hv => cases hv
  · exact absurd hq List.not_mem_nil
theorem lu_631 (hk : kOK TTs g (EIm n) l Kx_631) {W0 : List aR} {bk0 bk : aB} {h0 h : jH} (hO : hOK TTs g (EIm n) W0 bk0 h0 bk h) {a1 : Nat} (ha1 : bk 1 = some a1) {x1 : Int32} (hx1 : (-2147483648 : Int) ≤ x1.toInt ∧ x1.toInt ≤ 2147483647) {x2 : Int32} (hx2 : (-2147483648 : Int) ≤ x2.toInt ∧ x2.toInt ≤ 2147483647) :
    jCal l g 254 3 [.ref (g.2.2 + (a1 + 0)), .int x1, .int x2] h 0 0 (kPost TTs g (EIm n) Kx_631 bk h [x1.toInt, x2.toInt]) := by
  refine hk bk h [.ref (g.2.2 + (a1 + 0)), .int x1, .int x2] [x1.toInt, x2.toInt] hO.1 hO.2.1 hO.2.2.1 hO.2.2.2.2.2 (show 3 ≤ jmx 254 by decide +kernel) rfl (fun q hq => ?_) ⟨⟨rfl, fun i e z he hz => ?_⟩, eFm_plain (plain_app (spEnv_plain _) clEnv_plain), fun F hF => absurd hF List.not_mem_nil, fun i v hv => ?_, trivial, fun q hq => ?_, fun B hB => absurd hB List.not_mem_nil⟩
  · have hq : q ∈ ([] : List (Nat × Int × Nat)) := hq
    exact absurd hq List.not_mem_nil
  · match i, he, hz with
    | 0, he, hz => cases he; cases hz; exact hx1
    | 1, he, hz => cases he; cases hz; exact hx2
    | i + 2, he, _ => cases he
  · match i, hv with
    | 0, hv => cases hv; exact ⟨_, rfl, a1, ha1, rfl⟩
    | 1, hv => cases hv; exact ⟨_, rfl, x1, rfl, rfl⟩
    | 2, hv => cases hv; exact ⟨_, rfl, x2, rfl, rfl⟩
    | i + 3, hv => cases hv
  · exact absurd hq List.not_mem_nil
set_option maxRecDepth 16384 in
theorem lc_7 (hlow : ∀ (k : Nat) (K : aK), KTx[k]? = some K → kOK TTs g (EIm n) l K) {b0 b1 : Nat} {bk : aB} {h : jH} (hI : lwI g n b0 b1 bk h) {i : Int32} (hi : 0 ≤ i.toInt ∧ i.toInt + 6 ≤ (jsN g : Int)) (hN : jsN g ≤ 3072) {kc ks : Nat} {Q : Option Value → jH → Prop}
    (kk : ∀ bk' h', lwI g (n + 40) b0 b1 bk' h' → (∀ b, bk 6 = some b → bk' 6 = some b) → J l g 315 100 1983 (lwL g b0 b1 i) [] h' kc ks Q) : J l g 315 100 549 (lwL g b0 b1 i) [] h kc ks Q := by
  refine j_aload_n (k4 := 1) (by decide +kernel) rfl ?_
  refine j_aload_n (k4 := 0) (by decide +kernel) rfl ?_
  refine j_iload_n (k4 := 3) (by decide +kernel) rfl ?_
  refine j_iconst (n := 1) (by decide +kernel) ?_
  refine j_iadd (by decide +kernel) ?_
  refine j_sld (lw_at hi hN (by decide) (by decide)) (by decide +kernel) ?_
  refine j_aload_n (k4 := 0) (by decide +kernel) rfl ?_
  refine j_iload_n (k4 := 3) (by decide +kernel) rfl ?_
  refine j_iconst (n := 2) (by decide +kernel) ?_
  refine j_iadd (by decide +kernel) ?_
  refine j_sld (lw_at hi hN (by decide) (by decide)) (by decide +kernel) ?_
  obtain ⟨fsx, hcx⟩ := lw_x hI
  refine J.room (kc := 0 + kc) (ks := 0 + ks) (j_callV (own := 13) (i := 44) (y2 := 39) (d2 := 2) (mc := 0) (ms := 0) (a := b0 + 0) (As := [.int (jsX g (i + Int32.ofInt 1).toNatClampNeg), .int (jsX g (i + Int32.ofInt 2).toNatClampNeg)]) (st := []) (by decide +kernel) lw_cls (by decide +kernel) (by decide) (by decide +kernel) (by decide +kernel) (by decide +kernel) (by decide +kernel) (by decide +kernel) (show 2 = jnp 39 by decide +kernel) (by decide) (by decide) hcx (fun r hr => by cases hr; decide +kernel) (lu_473 (hlow 473 _ rfl) (hI.ok []) hI.2.2.2.1 ⟨i32_lo _, i32_hi _⟩ ⟨i32_lo _, i32_hi _⟩) (fun v h1 hq => ?_)) (by omega) (by omega)
  obtain ⟨x1, rfl, bk1, hI1, h61⟩ := lwP hI hq (by decide +kernel) (by decide +kernel) (by decide +kernel) (Int.le_refl n)
  refine j_pop (by decide +kernel) rfl ?_
  refine j_aload_n (k4 := 2) (by decide +kernel) rfl ?_
  refine j_aload_n (k4 := 0) (by decide +kernel) rfl ?_
  refine j_iload_n (k4 := 3) (by decide +kernel) rfl ?_
  refine j_iconst (n := 1) (by decide +kernel) ?_
  refine j_iadd (by decide +kernel) ?_
  refine j_sld (lw_at hi hN (by decide) (by decide)) (by decide +kernel) ?_
  refine j_aload_n (k4 := 0) (by decide +kernel) rfl ?_
  refine j_iload_n (k4 := 3) (by decide +kernel) rfl ?_
  refine j_iconst (n := 2) (by decide +kernel) ?_
  refine j_iadd (by decide +kernel) ?_
  refine j_sld (lw_at hi hN (by decide) (by decide)) (by decide +kernel) ?_
  obtain ⟨fsm, hcm⟩ := lw_m hI1
  refine J.room (kc := 0 + kc) (ks := 0 + ks) (j_callV (own := 13) (i := 47) (y2 := 254) (d2 := 3) (mc := 0) (ms := 0) (a := b1 + 0) (As := [.int (jsX g (i + Int32.ofInt 1).toNatClampNeg), .int (jsX g (i + Int32.ofInt 2).toNatClampNeg)]) (st := []) (by decide +kernel) lw_cls (by decide +kernel) (by decide) (by decide +kernel) (by decide +kernel) (by decide +kernel) (by decide +kernel) (by decide +kernel) (show 2 = jnp 254 by decide +kernel) (by decide) (by decide) hcm (fun r hr => by cases hr; decide +kernel) (lu_631 (hlow 631 _ rfl) (hI1.ok []) hI1.2.2.2.2.1 ⟨i32_lo _, i32_hi _⟩ ⟨i32_lo _, i32_hi _⟩) (fun v h2 hq => ?_)) (by omega) (by omega)
  obtain ⟨x2, rfl, bk2, hI2, h62⟩ := lwP hI1 hq (by decide +kernel) (by decide +kernel) (by decide +kernel) (show n ≤ n + 40 by omega)
  refine j_pop (by decide +kernel) rfl ?_
  refine j_goto (off := 1404) (tgt := 1983) (by decide +kernel) (by decide) ?_
  exact kk bk2 h2 hI2 (fun b hb => h62 b (h61 b hb))
theorem lu_504 (hk : kOK TTs g (EIm n) l Kx_504) {W0 : List aR} {bk0 bk : aB} {h0 h : jH} (hO : hOK TTs g (EIm n) W0 bk0 h0 bk h) {a0 : Nat} (ha0 : bk 0 = some a0) {x1 : Int32} (hx1 : (-2147483648 : Int) ≤ x1.toInt ∧ x1.toInt ≤ 2147483647) {x2 : Int32} (hx2 : (-2147483648 : Int) ≤ x2.toInt ∧ x2.toInt ≤ 2147483647) {x3 : Int32} (hx3 : (-2147483648 : Int) ≤ x3.toInt ∧ x3.toInt ≤ 2147483647) :
    jCal l g 40 2 [.ref (g.2.2 + (a0 + 0)), .int x1, .int x2, .int x3] h 0 0 (kPost TTs g (EIm n) Kx_504 bk h [x1.toInt, x2.toInt, x3.toInt]) := by
  refine hk bk h [.ref (g.2.2 + (a0 + 0)), .int x1, .int x2, .int x3] [x1.toInt, x2.toInt, x3.toInt] hO.1 hO.2.1 hO.2.2.1 hO.2.2.2.2.2 (show 4 ≤ jmx 40 by decide +kernel) rfl (fun q hq => ?_) ⟨⟨rfl, fun i e z he hz => ?_⟩, eFm_plain (plain_app (spEnv_plain _) clEnv_plain), fun F hF => absurd hF List.not_mem_nil, fun i v hv => ?_, trivial, fun q hq => ?_, fun B hB => absurd hB List.not_mem_nil⟩
  · have hq : q ∈ ([] : List (Nat × Int × Nat)) := hq
    exact absurd hq List.not_mem_nil
  · match i, he, hz with
    | 0, he, hz => cases he; cases hz; exact hx1
    | 1, he, hz => cases he; cases hz; exact hx2
    | 2, he, hz => cases he; cases hz; exact hx3
    | i + 3, he, _ => cases he
  · match i, hv with
    | 0, hv => cases hv; exact ⟨_, rfl, a0, ha0, rfl⟩
    | 1, hv => cases hv; exact ⟨_, rfl, x1, rfl, rfl⟩
    | 2, hv => cases hv; exact ⟨_, rfl, x2, rfl, rfl⟩
    | 3, hv => cases hv; exact ⟨_, rfl, x3, rfl, rfl⟩
    | i + 4, hv => cases hv
  · exact absurd hq List.not_mem_nil
theorem lu_665 (hk : kOK TTs g (EIm n) l Kx_665) {W0 : List aR} {bk0 bk : aB} {h0 h : jH} (hO : hOK TTs g (EIm n) W0 bk0 h0 bk h) {a1 : Nat} (ha1 : bk 1 = some a1) {x1 : Int32} (hx1 : (-2147483648 : Int) ≤ x1.toInt ∧ x1.toInt ≤ 2147483647) {x2 : Int32} (hx2 : (-2147483648 : Int) ≤ x2.toInt ∧ x2.toInt ≤ 2147483647) {x3 : Int32} (hx3 : (-2147483648 : Int) ≤ x3.toInt ∧ x3.toInt ≤ 2147483647) :
    jCal l g 255 3 [.ref (g.2.2 + (a1 + 0)), .int x1, .int x2, .int x3] h 0 0 (kPost TTs g (EIm n) Kx_665 bk h [x1.toInt, x2.toInt, x3.toInt]) := by
  refine hk bk h [.ref (g.2.2 + (a1 + 0)), .int x1, .int x2, .int x3] [x1.toInt, x2.toInt, x3.toInt] hO.1 hO.2.1 hO.2.2.1 hO.2.2.2.2.2 (show 4 ≤ jmx 255 by decide +kernel) rfl (fun q hq => ?_) ⟨⟨rfl, fun i e z he hz => ?_⟩, eFm_plain (plain_app (spEnv_plain _) clEnv_plain), fun F hF => absurd hF List.not_mem_nil, fun i v hv => ?_, trivial, fun q hq => ?_, fun B hB => absurd hB List.not_mem_nil⟩
  · have hq : q ∈ ([] : List (Nat × Int × Nat)) := hq
    exact absurd hq List.not_mem_nil
  · match i, he, hz with
    | 0, he, hz => cases he; cases hz; exact hx1
    | 1, he, hz => cases he; cases hz; exact hx2
    | 2, he, hz => cases he; cases hz; exact hx3
    | i + 3, he, _ => cases he
  · match i, hv with
    | 0, hv => cases hv; exact ⟨_, rfl, a1, ha1, rfl⟩
    | 1, hv => cases hv; exact ⟨_, rfl, x1, rfl, rfl⟩
    | 2, hv => cases hv; exact ⟨_, rfl, x2, rfl, rfl⟩
    | 3, hv => cases hv; exact ⟨_, rfl, x3, rfl, rfl⟩
    | 4, hv => cases hv
    | i + 5, hv => cases hv
  · exact absurd hq List.not_mem_nil
set_option maxRecDepth 16384 in
theorem lc_8 (hlow : ∀ (k : Nat) (K : aK), KTx[k]? = some K → kOK TTs g (EIm n) l K) {b0 b1 : Nat} {bk : aB} {h : jH} (hI : lwI g n b0 b1 bk h) {i : Int32} (hi : 0 ≤ i.toInt ∧ i.toInt + 6 ≤ (jsN g : Int)) (hN : jsN g ≤ 3072) {kc ks : Nat} {Q : Option Value → jH → Prop}
    (kk : ∀ bk' h', lwI g (n + 40) b0 b1 bk' h' → (∀ b, bk 6 = some b → bk' 6 = some b) → J l g 315 100 1983 (lwL g b0 b1 i) [] h' kc ks Q) : J l g 315 100 582 (lwL g b0 b1 i) [] h kc ks Q := by
  refine j_aload_n (k4 := 1) (by decide +kernel) rfl ?_
  refine j_aload_n (k4 := 0) (by decide +kernel) rfl ?_
  refine j_iload_n (k4 := 3) (by decide +kernel) rfl ?_
  refine j_iconst (n := 1) (by decide +kernel) ?_
  refine j_iadd (by decide +kernel) ?_
  refine j_sld (lw_at hi hN (by decide) (by decide)) (by decide +kernel) ?_
  refine j_aload_n (k4 := 0) (by decide +kernel) rfl ?_
  refine j_iload_n (k4 := 3) (by decide +kernel) rfl ?_
  refine j_iconst (n := 2) (by decide +kernel) ?_
  refine j_iadd (by decide +kernel) ?_
  refine j_sld (lw_at hi hN (by decide) (by decide)) (by decide +kernel) ?_
  refine j_aload_n (k4 := 0) (by decide +kernel) rfl ?_
  refine j_iload_n (k4 := 3) (by decide +kernel) rfl ?_
  refine j_iconst (n := 3) (by decide +kernel) ?_
  refine j_iadd (by decide +kernel) ?_
  refine j_sld (lw_at hi hN (by decide) (by decide)) (by decide +kernel) ?_
  obtain ⟨fsx, hcx⟩ := lw_x hI
  refine J.room (kc := 0 + kc) (ks := 0 + ks) (j_callV (own := 13) (i := 48) (y2 := 40) (d2 := 2) (mc := 0) (ms := 0) (a := b0 + 0) (As := [.int (jsX g (i + Int32.ofInt 1).toNatClampNeg), .int (jsX g (i + Int32.ofInt 2).toNatClampNeg), .int (jsX g (i + Int32.ofInt 3).toNatClampNeg)]) (st := []) (by decide +kernel) lw_cls (by decide +kernel) (by decide) (by decide +kernel) (by decide +kernel) (by decide +kernel) (by decide +kernel) (by decide +kernel) (show 3 = jnp 40 by decide +kernel) (by decide) (by decide) hcx (fun r hr => by cases hr; decide +kernel) (lu_504 (hlow 504 _ rfl) (hI.ok []) hI.2.2.2.1 ⟨i32_lo _, i32_hi _⟩ ⟨i32_lo _, i32_hi _⟩ ⟨i32_lo _, i32_hi _⟩) (fun v h1 hq => ?_)) (by omega) (by omega)
  obtain ⟨x1, rfl, bk1, hI1, h61⟩ := lwP hI hq (by decide +kernel) (by decide +kernel) (by decide +kernel) (Int.le_refl n)
  refine j_pop (by decide +kernel) rfl ?_
  refine j_aload_n (k4 := 2) (by decide +kernel) rfl ?_
  refine j_aload_n (k4 := 0) (by decide +kernel) rfl ?_
  refine j_iload_n (k4 := 3) (by decide +kernel) rfl ?_
  refine j_iconst (n := 1) (by decide +kernel) ?_
  refine j_iadd (by decide +kernel) ?_
  refine j_sld (lw_at hi hN (by decide) (by decide)) (by decide +kernel) ?_
  refine j_aload_n (k4 := 0) (by decide +kernel) rfl ?_
  refine j_iload_n (k4 := 3) (by decide +kernel) rfl ?_
  refine j_iconst (n := 2) (by decide +kernel) ?_
  refine j_iadd (by decide +kernel) ?_
  refine j_sld (lw_at hi hN (by decide) (by decide)) (by decide +kernel) ?_
  refine j_aload_n (k4 := 0) (by decide +kernel) rfl ?_
  refine j_iload_n (k4 := 3) (by decide +kernel) rfl ?_
  refine j_iconst (n := 3) (by decide +kernel) ?_
  refine j_iadd (by decide +kernel) ?_
  refine j_sld (lw_at hi hN (by decide) (by decide)) (by decide +kernel) ?_
  obtain ⟨fsm, hcm⟩ := lw_m hI1
  refine J.room (kc := 0 + kc) (ks := 0 + ks) (j_callV (own := 13) (i := 51) (y2 := 255) (d2 := 3) (mc := 0) (ms := 0) (a := b1 + 0) (As := [.int (jsX g (i + Int32.ofInt 1).toNatClampNeg), .int (jsX g (i + Int32.ofInt 2).toNatClampNeg), .int (jsX g (i + Int32.ofInt 3).toNatClampNeg)]) (st := []) (by decide +kernel) lw_cls (by decide +kernel) (by decide) (by decide +kernel) (by decide +kernel) (by decide +kernel) (by decide +kernel) (by decide +kernel) (show 3 = jnp 255 by decide +kernel) (by decide) (by decide) hcm (fun r hr => by cases hr; decide +kernel) (lu_665 (hlow 665 _ rfl) (hI1.ok []) hI1.2.2.2.2.1 ⟨i32_lo _, i32_hi _⟩ ⟨i32_lo _, i32_hi _⟩ ⟨i32_lo _, i32_hi _⟩) (fun v h2 hq => ?_)) (by omega) (by omega)
  obtain ⟨x2, rfl, bk2, hI2, h62⟩ := lwP hI1 hq (by decide +kernel) (by decide +kernel) (by decide +kernel) (show n ≤ n + 40 by omega)
  refine j_pop (by decide +kernel) rfl ?_
  refine j_goto (off := 1361) (tgt := 1983) (by decide +kernel) (by decide) ?_
  exact kk bk2 h2 hI2 (fun b hb => h62 b (h61 b hb))
theorem lu_450 (hk : kOK TTs g (EIm n) l Kx_450) {W0 : List aR} {bk0 bk : aB} {h0 h : jH} (hO : hOK TTs g (EIm n) W0 bk0 h0 bk h) {a0 : Nat} (ha0 : bk 0 = some a0) {x1 : Int32} (hx1 : (-2147483648 : Int) ≤ x1.toInt ∧ x1.toInt ≤ 2147483647) {x2 : Int32} (hx2 : (-2147483648 : Int) ≤ x2.toInt ∧ x2.toInt ≤ 2147483647) :
    jCal l g 42 2 [.ref (g.2.2 + (a0 + 0)), .int x1, .int x2] h 0 0 (kPost TTs g (EIm n) Kx_450 bk h [x1.toInt, x2.toInt]) := by
  refine hk bk h [.ref (g.2.2 + (a0 + 0)), .int x1, .int x2] [x1.toInt, x2.toInt] hO.1 hO.2.1 hO.2.2.1 hO.2.2.2.2.2 (show 3 ≤ jmx 42 by decide +kernel) rfl (fun q hq => ?_) ⟨⟨rfl, fun i e z he hz => ?_⟩, eFm_plain (plain_app (spEnv_plain _) clEnv_plain), fun F hF => absurd hF List.not_mem_nil, fun i v hv => ?_, trivial, fun q hq => ?_, fun B hB => absurd hB List.not_mem_nil⟩
  · have hq : q ∈ ([] : List (Nat × Int × Nat)) := hq
    exact absurd hq List.not_mem_nil
  · match i, he, hz with
    | 0, he, hz => cases he; cases hz; exact hx1
    | 1, he, hz => cases he; cases hz; exact hx2
    | i + 2, he, _ => cases he
  · match i, hv with
    | 0, hv => cases hv; exact ⟨_, rfl, a0, ha0, rfl⟩
    | 1, hv => cases hv; exact ⟨_, rfl, x1, rfl, rfl⟩
    | 2, hv => cases hv; exact ⟨_, rfl, x2, rfl, rfl⟩
    | i + 3, hv => cases hv
  · exact absurd hq List.not_mem_nil
theorem lu_523 (hk : kOK TTs g (EIm n) l Kx_523) {W0 : List aR} {bk0 bk : aB} {h0 h : jH} (hO : hOK TTs g (EIm n) W0 bk0 h0 bk h) {a1 : Nat} (ha1 : bk 1 = some a1) {x1 : Int32} (hx1 : (-2147483648 : Int) ≤ x1.toInt ∧ x1.toInt ≤ 2147483647) {x2 : Int32} (hx2 : (-2147483648 : Int) ≤ x2.toInt ∧ x2.toInt ≤ 2147483647) :
    jCal l g 256 3 [.ref (g.2.2 + (a1 + 0)), .int x1, .int x2] h 0 0 (kPost TTs g (EIm n) Kx_523 bk h [x1.toInt, x2.toInt]) := by
  refine hk bk h [.ref (g.2.2 + (a1 + 0)), .int x1, .int x2] [x1.toInt, x2.toInt] hO.1 hO.2.1 hO.2.2.1 hO.2.2.2.2.2 (show 3 ≤ jmx 256 by decide +kernel) rfl (fun q hq => ?_) ⟨⟨rfl, fun i e z he hz => ?_⟩, eFm_plain (plain_app (spEnv_plain _) clEnv_plain), fun F hF => absurd hF List.not_mem_nil, fun i v hv => ?_, trivial, fun q hq => ?_, fun B hB => absurd hB List.not_mem_nil⟩
  · have hq : q ∈ ([] : List (Nat × Int × Nat)) := hq
    exact absurd hq List.not_mem_nil
  · match i, he, hz with
    | 0, he, hz => cases he; cases hz; exact hx1
    | 1, he, hz => cases he; cases hz; exact hx2
    | i + 2, he, _ => cases he
  · match i, hv with
    | 0, hv => cases hv; exact ⟨_, rfl, a1, ha1, rfl⟩
    | 1, hv => cases hv; exact ⟨_, rfl, x1, rfl, rfl⟩
    | 2, hv => cases hv; exact ⟨_, rfl, x2, rfl, rfl⟩
    | i + 3, hv => cases hv
  · exact absurd hq List.not_mem_nil
set_option maxRecDepth 16384 in
theorem lc_9 (hlow : ∀ (k : Nat) (K : aK), KTx[k]? = some K → kOK TTs g (EIm n) l K) {b0 b1 : Nat} {bk : aB} {h : jH} (hI : lwI g n b0 b1 bk h) {i : Int32} (hi : 0 ≤ i.toInt ∧ i.toInt + 6 ≤ (jsN g : Int)) (hN : jsN g ≤ 3072) {kc ks : Nat} {Q : Option Value → jH → Prop}
    (kk : ∀ bk' h', lwI g (n + 40) b0 b1 bk' h' → (∀ b, bk 6 = some b → bk' 6 = some b) → J l g 315 100 1983 (lwL g b0 b1 i) [] h' kc ks Q) : J l g 315 100 625 (lwL g b0 b1 i) [] h kc ks Q := by
  refine j_aload_n (k4 := 1) (by decide +kernel) rfl ?_
  refine j_aload_n (k4 := 0) (by decide +kernel) rfl ?_
  refine j_iload_n (k4 := 3) (by decide +kernel) rfl ?_
  refine j_iconst (n := 1) (by decide +kernel) ?_
  refine j_iadd (by decide +kernel) ?_
  refine j_sld (lw_at hi hN (by decide) (by decide)) (by decide +kernel) ?_
  refine j_aload_n (k4 := 0) (by decide +kernel) rfl ?_
  refine j_iload_n (k4 := 3) (by decide +kernel) rfl ?_
  refine j_iconst (n := 2) (by decide +kernel) ?_
  refine j_iadd (by decide +kernel) ?_
  refine j_sld (lw_at hi hN (by decide) (by decide)) (by decide +kernel) ?_
  obtain ⟨fsx, hcx⟩ := lw_x hI
  refine J.room (kc := 0 + kc) (ks := 0 + ks) (j_callV (own := 13) (i := 52) (y2 := 42) (d2 := 2) (mc := 0) (ms := 0) (a := b0 + 0) (As := [.int (jsX g (i + Int32.ofInt 1).toNatClampNeg), .int (jsX g (i + Int32.ofInt 2).toNatClampNeg)]) (st := []) (by decide +kernel) lw_cls (by decide +kernel) (by decide) (by decide +kernel) (by decide +kernel) (by decide +kernel) (by decide +kernel) (by decide +kernel) (show 2 = jnp 42 by decide +kernel) (by decide) (by decide) hcx (fun r hr => by cases hr; decide +kernel) (lu_450 (hlow 450 _ rfl) (hI.ok []) hI.2.2.2.1 ⟨i32_lo _, i32_hi _⟩ ⟨i32_lo _, i32_hi _⟩) (fun v h1 hq => ?_)) (by omega) (by omega)
  obtain ⟨x1, rfl, bk1, hI1, h61⟩ := lwP hI hq (by decide +kernel) (by decide +kernel) (by decide +kernel) (Int.le_refl n)
  refine j_pop (by decide +kernel) rfl ?_
  refine j_aload_n (k4 := 2) (by decide +kernel) rfl ?_
  refine j_aload_n (k4 := 0) (by decide +kernel) rfl ?_
  refine j_iload_n (k4 := 3) (by decide +kernel) rfl ?_
  refine j_iconst (n := 1) (by decide +kernel) ?_
  refine j_iadd (by decide +kernel) ?_
  refine j_sld (lw_at hi hN (by decide) (by decide)) (by decide +kernel) ?_
  refine j_aload_n (k4 := 0) (by decide +kernel) rfl ?_
  refine j_iload_n (k4 := 3) (by decide +kernel) rfl ?_
  refine j_iconst (n := 2) (by decide +kernel) ?_
  refine j_iadd (by decide +kernel) ?_
  refine j_sld (lw_at hi hN (by decide) (by decide)) (by decide +kernel) ?_
  obtain ⟨fsm, hcm⟩ := lw_m hI1
  refine J.room (kc := 0 + kc) (ks := 0 + ks) (j_callV (own := 13) (i := 55) (y2 := 256) (d2 := 3) (mc := 0) (ms := 0) (a := b1 + 0) (As := [.int (jsX g (i + Int32.ofInt 1).toNatClampNeg), .int (jsX g (i + Int32.ofInt 2).toNatClampNeg)]) (st := []) (by decide +kernel) lw_cls (by decide +kernel) (by decide) (by decide +kernel) (by decide +kernel) (by decide +kernel) (by decide +kernel) (by decide +kernel) (show 2 = jnp 256 by decide +kernel) (by decide) (by decide) hcm (fun r hr => by cases hr; decide +kernel) (lu_523 (hlow 523 _ rfl) (hI1.ok []) hI1.2.2.2.2.1 ⟨i32_lo _, i32_hi _⟩ ⟨i32_lo _, i32_hi _⟩) (fun v h2 hq => ?_)) (by omega) (by omega)
  obtain ⟨x2, rfl, bk2, hI2, h62⟩ := lwP hI1 hq (by decide +kernel) (by decide +kernel) (by decide +kernel) (show n ≤ n + 40 by omega)
  refine j_pop (by decide +kernel) rfl ?_
  refine j_goto (off := 1328) (tgt := 1983) (by decide +kernel) (by decide) ?_
  exact kk bk2 h2 hI2 (fun b hb => h62 b (h61 b hb))
theorem lu_443 (hk : kOK TTs g (EIm n) l Kx_443) {W0 : List aR} {bk0 bk : aB} {h0 h : jH} (hO : hOK TTs g (EIm n) W0 bk0 h0 bk h) {a0 : Nat} (ha0 : bk 0 = some a0) {x1 : Int32} (hx1 : (-2147483648 : Int) ≤ x1.toInt ∧ x1.toInt ≤ 2147483647) {x2 : Int32} (hx2 : (-2147483648 : Int) ≤ x2.toInt ∧ x2.toInt ≤ 2147483647) :
    jCal l g 43 2 [.ref (g.2.2 + (a0 + 0)), .int x1, .int x2] h 0 0 (kPost TTs g (EIm n) Kx_443 bk h [x1.toInt, x2.toInt]) := by
  refine hk bk h [.ref (g.2.2 + (a0 + 0)), .int x1, .int x2] [x1.toInt, x2.toInt] hO.1 hO.2.1 hO.2.2.1 hO.2.2.2.2.2 (show 3 ≤ jmx 43 by decide +kernel) rfl (fun q hq => ?_) ⟨⟨rfl, fun i e z he hz => ?_⟩, eFm_plain (plain_app (spEnv_plain _) clEnv_plain), fun F hF => absurd hF List.not_mem_nil, fun i v hv => ?_, trivial, fun q hq => ?_, fun B hB => absurd hB List.not_mem_nil⟩
  · have hq : q ∈ ([] : List (Nat × Int × Nat)) := hq
    exact absurd hq List.not_mem_nil
  · match i, he, hz with
    | 0, he, hz => cases he; cases hz; exact hx1
    | 1, he, hz => cases he; cases hz; exact hx2
    | i + 2, he, _ => cases he
  · match i, hv with
    | 0, hv => cases hv; exact ⟨_, rfl, a0, ha0, rfl⟩
    | 1, hv => cases hv; exact ⟨_, rfl, x1, rfl, rfl⟩
    | 2, hv => cases hv; exact ⟨_, rfl, x2, rfl, rfl⟩
    | i + 3, hv => cases hv
  · exact absurd hq List.not_mem_nil
theorem lu_512 (hk : kOK TTs g (EIm n) l Kx_512) {W0 : List aR} {bk0 bk : aB} {h0 h : jH} (hO : hOK TTs g (EIm n) W0 bk0 h0 bk h) {a1 : Nat} (ha1 : bk 1 = some a1) {x1 : Int32} (hx1 : (-2147483648 : Int) ≤ x1.toInt ∧ x1.toInt ≤ 2147483647) {x2 : Int32} (hx2 : (-2147483648 : Int) ≤ x2.toInt ∧ x2.toInt ≤ 2147483647) :
    jCal l g 257 3 [.ref (g.2.2 + (a1 + 0)), .int x1, .int x2] h 0 0 (kPost TTs g (EIm n) Kx_512 bk h [x1.toInt, x2.toInt]) := by
  refine hk bk h [.ref (g.2.2 + (a1 + 0)), .int x1, .int x2] [x1.toInt, x2.toInt] hO.1 hO.2.1 hO.2.2.1 hO.2.2.2.2.2 (show 3 ≤ jmx 257 by decide +kernel) rfl (fun q hq => ?_) ⟨⟨rfl, fun i e z he hz => ?_⟩, eFm_plain (plain_app (spEnv_plain _) clEnv_plain), fun F hF => absurd hF List.not_mem_nil, fun i v hv => ?_, trivial, fun q hq => ?_, fun B hB => absurd hB List.not_mem_nil⟩
  · have hq : q ∈ ([] : List (Nat × Int × Nat)) := hq
    exact absurd hq List.not_mem_nil
  · match i, he, hz with
    | 0, he, hz => cases he; cases hz; exact hx1
    | 1, he, hz => cases he; cases hz; exact hx2
    | i + 2, he, _ => cases he
  · match i, hv with
    | 0, hv => cases hv; exact ⟨_, rfl, a1, ha1, rfl⟩
    | 1, hv => cases hv; exact ⟨_, rfl, x1, rfl, rfl⟩
    | 2, hv => cases hv; exact ⟨_, rfl, x2, rfl, rfl⟩
    | i + 3, hv => cases hv
  · exact absurd hq List.not_mem_nil
set_option maxRecDepth 16384 in
theorem lc_10 (hlow : ∀ (k : Nat) (K : aK), KTx[k]? = some K → kOK TTs g (EIm n) l K) {b0 b1 : Nat} {bk : aB} {h : jH} (hI : lwI g n b0 b1 bk h) {i : Int32} (hi : 0 ≤ i.toInt ∧ i.toInt + 6 ≤ (jsN g : Int)) (hN : jsN g ≤ 3072) {kc ks : Nat} {Q : Option Value → jH → Prop}
    (kk : ∀ bk' h', lwI g (n + 40) b0 b1 bk' h' → (∀ b, bk 6 = some b → bk' 6 = some b) → J l g 315 100 1983 (lwL g b0 b1 i) [] h' kc ks Q) : J l g 315 100 658 (lwL g b0 b1 i) [] h kc ks Q := by
  refine j_aload_n (k4 := 1) (by decide +kernel) rfl ?_
  refine j_aload_n (k4 := 0) (by decide +kernel) rfl ?_
  refine j_iload_n (k4 := 3) (by decide +kernel) rfl ?_
  refine j_iconst (n := 1) (by decide +kernel) ?_
  refine j_iadd (by decide +kernel) ?_
  refine j_sld (lw_at hi hN (by decide) (by decide)) (by decide +kernel) ?_
  refine j_aload_n (k4 := 0) (by decide +kernel) rfl ?_
  refine j_iload_n (k4 := 3) (by decide +kernel) rfl ?_
  refine j_iconst (n := 2) (by decide +kernel) ?_
  refine j_iadd (by decide +kernel) ?_
  refine j_sld (lw_at hi hN (by decide) (by decide)) (by decide +kernel) ?_
  obtain ⟨fsx, hcx⟩ := lw_x hI
  refine J.room (kc := 0 + kc) (ks := 0 + ks) (j_callV (own := 13) (i := 56) (y2 := 43) (d2 := 2) (mc := 0) (ms := 0) (a := b0 + 0) (As := [.int (jsX g (i + Int32.ofInt 1).toNatClampNeg), .int (jsX g (i + Int32.ofInt 2).toNatClampNeg)]) (st := []) (by decide +kernel) lw_cls (by decide +kernel) (by decide) (by decide +kernel) (by decide +kernel) (by decide +kernel) (by decide +kernel) (by decide +kernel) (show 2 = jnp 43 by decide +kernel) (by decide) (by decide) hcx (fun r hr => by cases hr; decide +kernel) (lu_443 (hlow 443 _ rfl) (hI.ok []) hI.2.2.2.1 ⟨i32_lo _, i32_hi _⟩ ⟨i32_lo _, i32_hi _⟩) (fun v h1 hq => ?_)) (by omega) (by omega)
  obtain ⟨x1, rfl, bk1, hI1, h61⟩ := lwP hI hq (by decide +kernel) (by decide +kernel) (by decide +kernel) (Int.le_refl n)
  refine j_pop (by decide +kernel) rfl ?_
  refine j_aload_n (k4 := 2) (by decide +kernel) rfl ?_
  refine j_aload_n (k4 := 0) (by decide +kernel) rfl ?_
  refine j_iload_n (k4 := 3) (by decide +kernel) rfl ?_
  refine j_iconst (n := 1) (by decide +kernel) ?_
  refine j_iadd (by decide +kernel) ?_
  refine j_sld (lw_at hi hN (by decide) (by decide)) (by decide +kernel) ?_
  refine j_aload_n (k4 := 0) (by decide +kernel) rfl ?_
  refine j_iload_n (k4 := 3) (by decide +kernel) rfl ?_
  refine j_iconst (n := 2) (by decide +kernel) ?_
  refine j_iadd (by decide +kernel) ?_
  refine j_sld (lw_at hi hN (by decide) (by decide)) (by decide +kernel) ?_
  obtain ⟨fsm, hcm⟩ := lw_m hI1
  refine J.room (kc := 0 + kc) (ks := 0 + ks) (j_callV (own := 13) (i := 59) (y2 := 257) (d2 := 3) (mc := 0) (ms := 0) (a := b1 + 0) (As := [.int (jsX g (i + Int32.ofInt 1).toNatClampNeg), .int (jsX g (i + Int32.ofInt 2).toNatClampNeg)]) (st := []) (by decide +kernel) lw_cls (by decide +kernel) (by decide) (by decide +kernel) (by decide +kernel) (by decide +kernel) (by decide +kernel) (by decide +kernel) (show 2 = jnp 257 by decide +kernel) (by decide) (by decide) hcm (fun r hr => by cases hr; decide +kernel) (lu_512 (hlow 512 _ rfl) (hI1.ok []) hI1.2.2.2.2.1 ⟨i32_lo _, i32_hi _⟩ ⟨i32_lo _, i32_hi _⟩) (fun v h2 hq => ?_)) (by omega) (by omega)
  obtain ⟨x2, rfl, bk2, hI2, h62⟩ := lwP hI1 hq (by decide +kernel) (by decide +kernel) (by decide +kernel) (show n ≤ n + 40 by omega)
  refine j_pop (by decide +kernel) rfl ?_
  refine j_goto (off := 1295) (tgt := 1983) (by decide +kernel) (by decide) ?_
  exact kk bk2 h2 hI2 (fun b hb => h62 b (h61 b hb))
theorem lu_496 (hk : kOK TTs g (EIm n) l Kx_496) {W0 : List aR} {bk0 bk : aB} {h0 h : jH} (hO : hOK TTs g (EIm n) W0 bk0 h0 bk h) {a0 : Nat} (ha0 : bk 0 = some a0) {x1 : Int32} (hx1 : (-2147483648 : Int) ≤ x1.toInt ∧ x1.toInt ≤ 2147483647) :
    jCal l g 44 2 [.ref (g.2.2 + (a0 + 0)), .int x1] h 0 0 (kPost TTs g (EIm n) Kx_496 bk h [x1.toInt]) := by
  refine hk bk h [.ref (g.2.2 + (a0 + 0)), .int x1] [x1.toInt] hO.1 hO.2.1 hO.2.2.1 hO.2.2.2.2.2 (show 2 ≤ jmx 44 by decide +kernel) rfl (fun q hq => ?_) ⟨⟨rfl, fun i e z he hz => ?_⟩, eFm_plain (plain_app (spEnv_plain _) clEnv_plain), fun F hF => absurd hF List.not_mem_nil, fun i v hv => ?_, trivial, fun q hq => ?_, fun B hB => absurd hB List.not_mem_nil⟩
  · have hq : q ∈ ([] : List (Nat × Int × Nat)) := hq
    exact absurd hq List.not_mem_nil
  · match i, he, hz with
    | 0, he, hz => cases he; cases hz; exact hx1
    | i + 1, he, _ => cases he
  · match i, hv with
    | 0, hv => cases hv; exact ⟨_, rfl, a0, ha0, rfl⟩
    | 1, hv => cases hv; exact ⟨_, rfl, x1, rfl, rfl⟩
    | i + 2, hv => cases hv
  · exact absurd hq List.not_mem_nil
theorem lu_657 (hk : kOK TTs g (EIm n) l Kx_657) {W0 : List aR} {bk0 bk : aB} {h0 h : jH} (hO : hOK TTs g (EIm n) W0 bk0 h0 bk h) {a1 : Nat} (ha1 : bk 1 = some a1) {x1 : Int32} (hx1 : (-2147483648 : Int) ≤ x1.toInt ∧ x1.toInt ≤ 2147483647) :
    jCal l g 258 3 [.ref (g.2.2 + (a1 + 0)), .int x1] h 0 0 (kPost TTs g (EIm n) Kx_657 bk h [x1.toInt]) := by
  refine hk bk h [.ref (g.2.2 + (a1 + 0)), .int x1] [x1.toInt] hO.1 hO.2.1 hO.2.2.1 hO.2.2.2.2.2 (show 2 ≤ jmx 258 by decide +kernel) rfl (fun q hq => ?_) ⟨⟨rfl, fun i e z he hz => ?_⟩, eFm_plain (plain_app (spEnv_plain _) clEnv_plain), fun F hF => absurd hF List.not_mem_nil, fun i v hv => ?_, trivial, fun q hq => ?_, fun B hB => absurd hB List.not_mem_nil⟩
  · have hq : q ∈ ([] : List (Nat × Int × Nat)) := hq
    exact absurd hq List.not_mem_nil
  · match i, he, hz with
    | 0, he, hz => cases he; cases hz; exact hx1
    | i + 1, he, _ => cases he
  · match i, hv with
    | 0, hv => cases hv; exact ⟨_, rfl, a1, ha1, rfl⟩
    | 1, hv => cases hv; exact ⟨_, rfl, x1, rfl, rfl⟩
    | i + 2, hv => cases hv
  · exact absurd hq List.not_mem_nil
set_option maxRecDepth 16384 in
theorem lc_11 (hlow : ∀ (k : Nat) (K : aK), KTx[k]? = some K → kOK TTs g (EIm n) l K) {b0 b1 : Nat} {bk : aB} {h : jH} (hI : lwI g n b0 b1 bk h) {i : Int32} (hi : 0 ≤ i.toInt ∧ i.toInt + 6 ≤ (jsN g : Int)) (hN : jsN g ≤ 3072) {kc ks : Nat} {Q : Option Value → jH → Prop}
    (kk : ∀ bk' h', lwI g (n + 40) b0 b1 bk' h' → (∀ b, bk 6 = some b → bk' 6 = some b) → J l g 315 100 1983 (lwL g b0 b1 i) [] h' kc ks Q) : J l g 315 100 691 (lwL g b0 b1 i) [] h kc ks Q := by
  refine j_aload_n (k4 := 1) (by decide +kernel) rfl ?_
  refine j_aload_n (k4 := 0) (by decide +kernel) rfl ?_
  refine j_iload_n (k4 := 3) (by decide +kernel) rfl ?_
  refine j_iconst (n := 1) (by decide +kernel) ?_
  refine j_iadd (by decide +kernel) ?_
  refine j_sld (lw_at hi hN (by decide) (by decide)) (by decide +kernel) ?_
  obtain ⟨fsx, hcx⟩ := lw_x hI
  refine J.room (kc := 0 + kc) (ks := 0 + ks) (j_callV (own := 13) (i := 60) (y2 := 44) (d2 := 2) (mc := 0) (ms := 0) (a := b0 + 0) (As := [.int (jsX g (i + Int32.ofInt 1).toNatClampNeg)]) (st := []) (by decide +kernel) lw_cls (by decide +kernel) (by decide) (by decide +kernel) (by decide +kernel) (by decide +kernel) (by decide +kernel) (by decide +kernel) (show 1 = jnp 44 by decide +kernel) (by decide) (by decide) hcx (fun r hr => by cases hr; decide +kernel) (lu_496 (hlow 496 _ rfl) (hI.ok []) hI.2.2.2.1 ⟨i32_lo _, i32_hi _⟩) (fun v h1 hq => ?_)) (by omega) (by omega)
  obtain ⟨x1, rfl, bk1, hI1, h61⟩ := lwP hI hq (by decide +kernel) (by decide +kernel) (by decide +kernel) (Int.le_refl n)
  refine j_pop (by decide +kernel) rfl ?_
  refine j_aload_n (k4 := 2) (by decide +kernel) rfl ?_
  refine j_aload_n (k4 := 0) (by decide +kernel) rfl ?_
  refine j_iload_n (k4 := 3) (by decide +kernel) rfl ?_
  refine j_iconst (n := 1) (by decide +kernel) ?_
  refine j_iadd (by decide +kernel) ?_
  refine j_sld (lw_at hi hN (by decide) (by decide)) (by decide +kernel) ?_
  obtain ⟨fsm, hcm⟩ := lw_m hI1
  refine J.room (kc := 0 + kc) (ks := 0 + ks) (j_callV (own := 13) (i := 64) (y2 := 258) (d2 := 3) (mc := 0) (ms := 0) (a := b1 + 0) (As := [.int (jsX g (i + Int32.ofInt 1).toNatClampNeg)]) (st := []) (by decide +kernel) lw_cls (by decide +kernel) (by decide) (by decide +kernel) (by decide +kernel) (by decide +kernel) (by decide +kernel) (by decide +kernel) (show 1 = jnp 258 by decide +kernel) (by decide) (by decide) hcm (fun r hr => by cases hr; decide +kernel) (lu_657 (hlow 657 _ rfl) (hI1.ok []) hI1.2.2.2.2.1 ⟨i32_lo _, i32_hi _⟩) (fun v h2 hq => ?_)) (by omega) (by omega)
  obtain ⟨x2, rfl, bk2, hI2, h62⟩ := lwP hI1 hq (by decide +kernel) (by decide +kernel) (by decide +kernel) (show n ≤ n + 40 by omega)
  refine j_pop (by decide +kernel) rfl ?_
  refine j_goto (off := 1272) (tgt := 1983) (by decide +kernel) (by decide) ?_
  exact kk bk2 h2 hI2 (fun b hb => h62 b (h61 b hb))
theorem lu_490 (hk : kOK TTs g (EIm n) l Kx_490) {W0 : List aR} {bk0 bk : aB} {h0 h : jH} (hO : hOK TTs g (EIm n) W0 bk0 h0 bk h) {a0 : Nat} (ha0 : bk 0 = some a0) {x1 : Int32} (hx1 : (-2147483648 : Int) ≤ x1.toInt ∧ x1.toInt ≤ 2147483647) :
    jCal l g 45 2 [.ref (g.2.2 + (a0 + 0)), .int x1] h 0 0 (kPost TTs g (EIm n) Kx_490 bk h [x1.toInt]) := by
  refine hk bk h [.ref (g.2.2 + (a0 + 0)), .int x1] [x1.toInt] hO.1 hO.2.1 hO.2.2.1 hO.2.2.2.2.2 (show 2 ≤ jmx 45 by decide +kernel) rfl (fun q hq => ?_) ⟨⟨rfl, fun i e z he hz => ?_⟩, eFm_plain (plain_app (spEnv_plain _) clEnv_plain), fun F hF => absurd hF List.not_mem_nil, fun i v hv => ?_, trivial, fun q hq => ?_, fun B hB => absurd hB List.not_mem_nil⟩
  · have hq : q ∈ ([] : List (Nat × Int × Nat)) := hq
    exact absurd hq List.not_mem_nil
  · match i, he, hz with
    | 0, he, hz => cases he; cases hz; exact hx1
    | i + 1, he, _ => cases he
  · match i, hv with
    | 0, hv => cases hv; exact ⟨_, rfl, a0, ha0, rfl⟩
    | 1, hv => cases hv; exact ⟨_, rfl, x1, rfl, rfl⟩
    | i + 2, hv => cases hv
  · exact absurd hq List.not_mem_nil
theorem lu_651 (hk : kOK TTs g (EIm n) l Kx_651) {W0 : List aR} {bk0 bk : aB} {h0 h : jH} (hO : hOK TTs g (EIm n) W0 bk0 h0 bk h) {a1 : Nat} (ha1 : bk 1 = some a1) {x1 : Int32} (hx1 : (-2147483648 : Int) ≤ x1.toInt ∧ x1.toInt ≤ 2147483647) :
    jCal l g 259 3 [.ref (g.2.2 + (a1 + 0)), .int x1] h 0 0 (kPost TTs g (EIm n) Kx_651 bk h [x1.toInt]) := by
  refine hk bk h [.ref (g.2.2 + (a1 + 0)), .int x1] [x1.toInt] hO.1 hO.2.1 hO.2.2.1 hO.2.2.2.2.2 (show 2 ≤ jmx 259 by decide +kernel) rfl (fun q hq => ?_) ⟨⟨rfl, fun i e z he hz => ?_⟩, eFm_plain (plain_app (spEnv_plain _) clEnv_plain), fun F hF => absurd hF List.not_mem_nil, fun i v hv => ?_, trivial, fun q hq => ?_, fun B hB => absurd hB List.not_mem_nil⟩
  · have hq : q ∈ ([] : List (Nat × Int × Nat)) := hq
    exact absurd hq List.not_mem_nil
  · match i, he, hz with
    | 0, he, hz => cases he; cases hz; exact hx1
    | i + 1, he, _ => cases he
  · match i, hv with
    | 0, hv => cases hv; exact ⟨_, rfl, a1, ha1, rfl⟩
    | 1, hv => cases hv; exact ⟨_, rfl, x1, rfl, rfl⟩
    | i + 2, hv => cases hv
  · exact absurd hq List.not_mem_nil
set_option maxRecDepth 16384 in
theorem lc_12 (hlow : ∀ (k : Nat) (K : aK), KTx[k]? = some K → kOK TTs g (EIm n) l K) {b0 b1 : Nat} {bk : aB} {h : jH} (hI : lwI g n b0 b1 bk h) {i : Int32} (hi : 0 ≤ i.toInt ∧ i.toInt + 6 ≤ (jsN g : Int)) (hN : jsN g ≤ 3072) {kc ks : Nat} {Q : Option Value → jH → Prop}
    (kk : ∀ bk' h', lwI g (n + 40) b0 b1 bk' h' → (∀ b, bk 6 = some b → bk' 6 = some b) → J l g 315 100 1983 (lwL g b0 b1 i) [] h' kc ks Q) : J l g 315 100 714 (lwL g b0 b1 i) [] h kc ks Q := by
  refine j_aload_n (k4 := 1) (by decide +kernel) rfl ?_
  refine j_aload_n (k4 := 0) (by decide +kernel) rfl ?_
  refine j_iload_n (k4 := 3) (by decide +kernel) rfl ?_
  refine j_iconst (n := 1) (by decide +kernel) ?_
  refine j_iadd (by decide +kernel) ?_
  refine j_sld (lw_at hi hN (by decide) (by decide)) (by decide +kernel) ?_
  obtain ⟨fsx, hcx⟩ := lw_x hI
  refine J.room (kc := 0 + kc) (ks := 0 + ks) (j_callV (own := 13) (i := 65) (y2 := 45) (d2 := 2) (mc := 0) (ms := 0) (a := b0 + 0) (As := [.int (jsX g (i + Int32.ofInt 1).toNatClampNeg)]) (st := []) (by decide +kernel) lw_cls (by decide +kernel) (by decide) (by decide +kernel) (by decide +kernel) (by decide +kernel) (by decide +kernel) (by decide +kernel) (show 1 = jnp 45 by decide +kernel) (by decide) (by decide) hcx (fun r hr => by cases hr; decide +kernel) (lu_490 (hlow 490 _ rfl) (hI.ok []) hI.2.2.2.1 ⟨i32_lo _, i32_hi _⟩) (fun v h1 hq => ?_)) (by omega) (by omega)
  obtain ⟨x1, rfl, bk1, hI1, h61⟩ := lwP hI hq (by decide +kernel) (by decide +kernel) (by decide +kernel) (Int.le_refl n)
  refine j_pop (by decide +kernel) rfl ?_
  refine j_aload_n (k4 := 2) (by decide +kernel) rfl ?_
  refine j_aload_n (k4 := 0) (by decide +kernel) rfl ?_
  refine j_iload_n (k4 := 3) (by decide +kernel) rfl ?_
  refine j_iconst (n := 1) (by decide +kernel) ?_
  refine j_iadd (by decide +kernel) ?_
  refine j_sld (lw_at hi hN (by decide) (by decide)) (by decide +kernel) ?_
  obtain ⟨fsm, hcm⟩ := lw_m hI1
  refine J.room (kc := 0 + kc) (ks := 0 + ks) (j_callV (own := 13) (i := 68) (y2 := 259) (d2 := 3) (mc := 0) (ms := 0) (a := b1 + 0) (As := [.int (jsX g (i + Int32.ofInt 1).toNatClampNeg)]) (st := []) (by decide +kernel) lw_cls (by decide +kernel) (by decide) (by decide +kernel) (by decide +kernel) (by decide +kernel) (by decide +kernel) (by decide +kernel) (show 1 = jnp 259 by decide +kernel) (by decide) (by decide) hcm (fun r hr => by cases hr; decide +kernel) (lu_651 (hlow 651 _ rfl) (hI1.ok []) hI1.2.2.2.2.1 ⟨i32_lo _, i32_hi _⟩) (fun v h2 hq => ?_)) (by omega) (by omega)
  obtain ⟨x2, rfl, bk2, hI2, h62⟩ := lwP hI1 hq (by decide +kernel) (by decide +kernel) (by decide +kernel) (show n ≤ n + 40 by omega)
  refine j_pop (by decide +kernel) rfl ?_
  refine j_goto (off := 1249) (tgt := 1983) (by decide +kernel) (by decide) ?_
  exact kk bk2 h2 hI2 (fun b hb => h62 b (h61 b hb))
theorem lu_444 (hk : kOK TTs g (EIm n) l Kx_444) {W0 : List aR} {bk0 bk : aB} {h0 h : jH} (hO : hOK TTs g (EIm n) W0 bk0 h0 bk h) {a0 : Nat} (ha0 : bk 0 = some a0) {x1 : Int32} (hx1 : (-2147483648 : Int) ≤ x1.toInt ∧ x1.toInt ≤ 2147483647) {x2 : Int32} (hx2 : (-2147483648 : Int) ≤ x2.toInt ∧ x2.toInt ≤ 2147483647) :
    jCal l g 46 3 [.ref (g.2.2 + (a0 + 0)), .int x1, .int x2] h 0 0 (kPost TTs g (EIm n) Kx_444 bk h [x1.toInt, x2.toInt]) := by
  refine hk bk h [.ref (g.2.2 + (a0 + 0)), .int x1, .int x2] [x1.toInt, x2.toInt] hO.1 hO.2.1 hO.2.2.1 hO.2.2.2.2.2 (show 3 ≤ jmx 46 by decide +kernel) rfl (fun q hq => ?_) ⟨⟨rfl, fun i e z he hz => ?_⟩, eFm_plain (plain_app (spEnv_plain _) clEnv_plain), fun F hF => absurd hF List.not_mem_nil, fun i v hv => ?_, trivial, fun q hq => ?_, fun B hB => absurd hB List.not_mem_nil⟩
  · have hq : q ∈ ([] : List (Nat × Int × Nat)) := hq
    exact absurd hq List.not_mem_nil
  · match i, he, hz with
    | 0, he, hz => cases he; cases hz; exact hx1
    | 1, he, hz => cases he; cases hz; exact hx2
    | i + 2, he, _ => cases he
  · match i, hv with
    | 0, hv => cases hv; exact ⟨_, rfl, a0, ha0, rfl⟩
    | 1, hv => cases hv; exact ⟨_, rfl, x1, rfl, rfl⟩
    | 2, hv => cases hv; exact ⟨_, rfl, x2, rfl, rfl⟩
    | i + 3, hv => cases hv
  · exact absurd hq List.not_mem_nil
theorem lu_514 (hk : kOK TTs g (EIm n) l Kx_514) {W0 : List aR} {bk0 bk : aB} {h0 h : jH} (hO : hOK TTs g (EIm n) W0 bk0 h0 bk h) {a1 : Nat} (ha1 : bk 1 = some a1) {x1 : Int32} (hx1 : (-2147483648 : Int) ≤ x1.toInt ∧ x1.toInt ≤ 2147483647) {x2 : Int32} (hx2 : (-2147483648 : Int) ≤ x2.toInt ∧ x2.toInt ≤ 2147483647) :
    jCal l g 260 2 [.ref (g.2.2 + (a1 + 0)), .int x1, .int x2] h 0 0 (kPost TTs g (EIm n) Kx_514 bk h [x1.toInt, x2.toInt]) := by
  refine hk bk h [.ref (g.2.2 + (a1 + 0)), .int x1, .int x2] [x1.toInt, x2.toInt] hO.1 hO.2.1 hO.2.2.1 hO.2.2.2.2.2 (show 3 ≤ jmx 260 by decide +kernel) rfl (fun q hq => ?_) ⟨⟨rfl, fun i e z he hz => ?_⟩, eFm_plain (plain_app (spEnv_plain _) clEnv_plain), fun F hF => absurd hF List.not_mem_nil, fun i v hv => ?_, trivial, fun q hq => ?_, fun B hB => absurd hB List.not_mem_nil⟩
  · have hq : q ∈ ([] : List (Nat × Int × Nat)) := hq
    exact absurd hq List.not_mem_nil
  · match i, he, hz with
    | 0, he, hz => cases he; cases hz; exact hx1
    | 1, he, hz => cases he; cases hz; exact hx2
    | i + 2, he, _ => cases he
  · match i, hv with
    | 0, hv => cases hv; exact ⟨_, rfl, a1, ha1, rfl⟩
    | 1, hv => cases hv; exact ⟨_, rfl, x1, rfl, rfl⟩
    | 2, hv => cases hv; exact ⟨_, rfl, x2, rfl, rfl⟩
    | 3, hv => cases hv
    | i + 4, hv => cases hv
  · exact absurd hq List.not_mem_nil
set_option maxRecDepth 16384 in
theorem lc_13 (hlow : ∀ (k : Nat) (K : aK), KTx[k]? = some K → kOK TTs g (EIm n) l K) {b0 b1 : Nat} {bk : aB} {h : jH} (hI : lwI g n b0 b1 bk h) {i : Int32} (hi : 0 ≤ i.toInt ∧ i.toInt + 6 ≤ (jsN g : Int)) (hN : jsN g ≤ 3072) {kc ks : Nat} {Q : Option Value → jH → Prop}
    (kk : ∀ bk' h', lwI g (n + 40) b0 b1 bk' h' → (∀ b, bk 6 = some b → bk' 6 = some b) → J l g 315 100 1983 (lwL g b0 b1 i) [] h' kc ks Q) : J l g 315 100 737 (lwL g b0 b1 i) [] h kc ks Q := by
  refine j_aload_n (k4 := 1) (by decide +kernel) rfl ?_
  refine j_aload_n (k4 := 0) (by decide +kernel) rfl ?_
  refine j_iload_n (k4 := 3) (by decide +kernel) rfl ?_
  refine j_iconst (n := 1) (by decide +kernel) ?_
  refine j_iadd (by decide +kernel) ?_
  refine j_sld (lw_at hi hN (by decide) (by decide)) (by decide +kernel) ?_
  refine j_aload_n (k4 := 0) (by decide +kernel) rfl ?_
  refine j_iload_n (k4 := 3) (by decide +kernel) rfl ?_
  refine j_iconst (n := 2) (by decide +kernel) ?_
  refine j_iadd (by decide +kernel) ?_
  refine j_sld (lw_at hi hN (by decide) (by decide)) (by decide +kernel) ?_
  obtain ⟨fsx, hcx⟩ := lw_x hI
  refine J.room (kc := 0 + kc) (ks := 0 + ks) (j_callV (own := 13) (i := 69) (y2 := 46) (d2 := 3) (mc := 0) (ms := 0) (a := b0 + 0) (As := [.int (jsX g (i + Int32.ofInt 1).toNatClampNeg), .int (jsX g (i + Int32.ofInt 2).toNatClampNeg)]) (st := []) (by decide +kernel) lw_cls (by decide +kernel) (by decide) (by decide +kernel) (by decide +kernel) (by decide +kernel) (by decide +kernel) (by decide +kernel) (show 2 = jnp 46 by decide +kernel) (by decide) (by decide) hcx (fun r hr => by cases hr; decide +kernel) (lu_444 (hlow 444 _ rfl) (hI.ok []) hI.2.2.2.1 ⟨i32_lo _, i32_hi _⟩ ⟨i32_lo _, i32_hi _⟩) (fun v h1 hq => ?_)) (by omega) (by omega)
  obtain ⟨x1, rfl, bk1, hI1, h61⟩ := lwP hI hq (by decide +kernel) (by decide +kernel) (by decide +kernel) (Int.le_refl n)
  refine j_pop (by decide +kernel) rfl ?_
  refine j_aload_n (k4 := 2) (by decide +kernel) rfl ?_
  refine j_aload_n (k4 := 0) (by decide +kernel) rfl ?_
  refine j_iload_n (k4 := 3) (by decide +kernel) rfl ?_
  refine j_iconst (n := 1) (by decide +kernel) ?_
  refine j_iadd (by decide +kernel) ?_
  refine j_sld (lw_at hi hN (by decide) (by decide)) (by decide +kernel) ?_
  refine j_aload_n (k4 := 0) (by decide +kernel) rfl ?_
  refine j_iload_n (k4 := 3) (by decide +kernel) rfl ?_
  refine j_iconst (n := 2) (by decide +kernel) ?_
  refine j_iadd (by decide +kernel) ?_
  refine j_sld (lw_at hi hN (by decide) (by decide)) (by decide +kernel) ?_
  obtain ⟨fsm, hcm⟩ := lw_m hI1
  refine J.room (kc := 0 + kc) (ks := 0 + ks) (j_callV (own := 13) (i := 72) (y2 := 260) (d2 := 2) (mc := 0) (ms := 0) (a := b1 + 0) (As := [.int (jsX g (i + Int32.ofInt 1).toNatClampNeg), .int (jsX g (i + Int32.ofInt 2).toNatClampNeg)]) (st := []) (by decide +kernel) lw_cls (by decide +kernel) (by decide) (by decide +kernel) (by decide +kernel) (by decide +kernel) (by decide +kernel) (by decide +kernel) (show 2 = jnp 260 by decide +kernel) (by decide) (by decide) hcm (fun r hr => by cases hr; decide +kernel) (lu_514 (hlow 514 _ rfl) (hI1.ok []) hI1.2.2.2.2.1 ⟨i32_lo _, i32_hi _⟩ ⟨i32_lo _, i32_hi _⟩) (fun v h2 hq => ?_)) (by omega) (by omega)
  obtain ⟨x2, rfl, bk2, hI2, h62⟩ := lwP hI1 hq (by decide +kernel) (by decide +kernel) (by decide +kernel) (show n ≤ n + 40 by omega)
  refine j_pop (by decide +kernel) rfl ?_
  refine j_goto (off := 1216) (tgt := 1983) (by decide +kernel) (by decide) ?_
  exact kk bk2 h2 hI2 (fun b hb => h62 b (h61 b hb))
theorem lu_470 (hk : kOK TTs g (EIm n) l Kx_470) {W0 : List aR} {bk0 bk : aB} {h0 h : jH} (hO : hOK TTs g (EIm n) W0 bk0 h0 bk h) {a0 : Nat} (ha0 : bk 0 = some a0) {x1 : Int32} (hx1 : (-2147483648 : Int) ≤ x1.toInt ∧ x1.toInt ≤ 2147483647) {x2 : Int32} (hx2 : (-2147483648 : Int) ≤ x2.toInt ∧ x2.toInt ≤ 2147483647) {x3 : Int32} (hx3 : (-2147483648 : Int) ≤ x3.toInt ∧ x3.toInt ≤ 2147483647) :
    jCal l g 50 3 [.ref (g.2.2 + (a0 + 0)), .int x1, .int x2, .int x3] h 0 0 (kPost TTs g (EIm n) Kx_470 bk h [x1.toInt, x2.toInt, x3.toInt]) := by
  refine hk bk h [.ref (g.2.2 + (a0 + 0)), .int x1, .int x2, .int x3] [x1.toInt, x2.toInt, x3.toInt] hO.1 hO.2.1 hO.2.2.1 hO.2.2.2.2.2 (show 4 ≤ jmx 50 by decide +kernel) rfl (fun q hq => ?_) ⟨⟨rfl, fun i e z he hz => ?_⟩, eFm_plain (plain_app (spEnv_plain _) clEnv_plain), fun F hF => absurd hF List.not_mem_nil, fun i v hv => ?_, trivial, fun q hq => ?_, fun B hB => absurd hB List.not_mem_nil⟩
  · have hq : q ∈ ([] : List (Nat × Int × Nat)) := hq
    exact absurd hq List.not_mem_nil
  · match i, he, hz with
    | 0, he, hz => cases he; cases hz; exact hx1
    | 1, he, hz => cases he; cases hz; exact hx2
    | 2, he, hz => cases he; cases hz; exact hx3
    | i + 3, he, _ => cases he
  · match i, hv with
    | 0, hv => cases hv; exact ⟨_, rfl, a0, ha0, rfl⟩
    | 1, hv => cases hv; exact ⟨_, rfl, x1, rfl, rfl⟩
    | 2, hv => cases hv; exact ⟨_, rfl, x2, rfl, rfl⟩
    | 3, hv => cases hv; exact ⟨_, rfl, x3, rfl, rfl⟩
    | i + 4, hv => cases hv
  · exact absurd hq List.not_mem_nil
theorem lu_623 (hk : kOK TTs g (EIm n) l Kx_623) {W0 : List aR} {bk0 bk : aB} {h0 h : jH} (hO : hOK TTs g (EIm n) W0 bk0 h0 bk h) {a1 : Nat} (ha1 : bk 1 = some a1) {x1 : Int32} (hx1 : (-2147483648 : Int) ≤ x1.toInt ∧ x1.toInt ≤ 2147483647) {x2 : Int32} (hx2 : (-2147483648 : Int) ≤ x2.toInt ∧ x2.toInt ≤ 2147483647) {x3 : Int32} (hx3 : (-2147483648 : Int) ≤ x3.toInt ∧ x3.toInt ≤ 2147483647) :
    jCal l g 261 3 [.ref (g.2.2 + (a1 + 0)), .int x1, .int x2, .int x3] h 0 0 (kPost TTs g (EIm n) Kx_623 bk h [x1.toInt, x2.toInt, x3.toInt]) := by
  refine hk bk h [.ref (g.2.2 + (a1 + 0)), .int x1, .int x2, .int x3] [x1.toInt, x2.toInt, x3.toInt] hO.1 hO.2.1 hO.2.2.1 hO.2.2.2.2.2 (show 4 ≤ jmx 261 by decide +kernel) rfl (fun q hq => ?_) ⟨⟨rfl, fun i e z he hz => ?_⟩, eFm_plain (plain_app (spEnv_plain _) clEnv_plain), fun F hF => absurd hF List.not_mem_nil, fun i v hv => ?_, trivial, fun q hq => ?_, fun B hB => absurd hB List.not_mem_nil⟩
  · have hq : q ∈ ([] : List (Nat × Int × Nat)) := hq
    exact absurd hq List.not_mem_nil
  · match i, he, hz with
    | 0, he, hz => cases he; cases hz; exact hx1
    | 1, he, hz => cases he; cases hz; exact hx2
    | 2, he, hz => cases he; cases hz; exact hx3
    | i + 3, he, _ => cases he
  · match i, hv with
    | 0, hv => cases hv; exact ⟨_, rfl, a1, ha1, rfl⟩
    | 1, hv => cases hv; exact ⟨_, rfl, x1, rfl, rfl⟩
    | 2, hv => cases hv; exact ⟨_, rfl, x2, rfl, rfl⟩
    | 3, hv => cases hv; exact ⟨_, rfl, x3, rfl, rfl⟩
    | 4, hv => cases hv
    | 5, hv => cases hv
    | 6, hv => cases hv
    | i + 7, hv => cases hv
  · exact absurd hq List.not_mem_nil
set_option maxRecDepth 16384 in
theorem lc_14 (hlow : ∀ (k : Nat) (K : aK), KTx[k]? = some K → kOK TTs g (EIm n) l K) {b0 b1 : Nat} {bk : aB} {h : jH} (hI : lwI g n b0 b1 bk h) {i : Int32} (hi : 0 ≤ i.toInt ∧ i.toInt + 6 ≤ (jsN g : Int)) (hN : jsN g ≤ 3072) {kc ks : Nat} {Q : Option Value → jH → Prop}
    (kk : ∀ bk' h', lwI g (n + 40) b0 b1 bk' h' → (∀ b, bk 6 = some b → bk' 6 = some b) → J l g 315 100 1983 (lwL g b0 b1 i) [] h' kc ks Q) : J l g 315 100 770 (lwL g b0 b1 i) [] h kc ks Q := by
  refine j_aload_n (k4 := 1) (by decide +kernel) rfl ?_
  refine j_aload_n (k4 := 0) (by decide +kernel) rfl ?_
  refine j_iload_n (k4 := 3) (by decide +kernel) rfl ?_
  refine j_iconst (n := 1) (by decide +kernel) ?_
  refine j_iadd (by decide +kernel) ?_
  refine j_sld (lw_at hi hN (by decide) (by decide)) (by decide +kernel) ?_
  refine j_aload_n (k4 := 0) (by decide +kernel) rfl ?_
  refine j_iload_n (k4 := 3) (by decide +kernel) rfl ?_
  refine j_iconst (n := 2) (by decide +kernel) ?_
  refine j_iadd (by decide +kernel) ?_
  refine j_sld (lw_at hi hN (by decide) (by decide)) (by decide +kernel) ?_
  refine j_aload_n (k4 := 0) (by decide +kernel) rfl ?_
  refine j_iload_n (k4 := 3) (by decide +kernel) rfl ?_
  refine j_iconst (n := 3) (by decide +kernel) ?_
  refine j_iadd (by decide +kernel) ?_
  refine j_sld (lw_at hi hN (by decide) (by decide)) (by decide +kernel) ?_
  obtain ⟨fsx, hcx⟩ := lw_x hI
  refine J.room (kc := 0 + kc) (ks := 0 + ks) (j_callV (own := 13) (i := 73) (y2 := 50) (d2 := 3) (mc := 0) (ms := 0) (a := b0 + 0) (As := [.int (jsX g (i + Int32.ofInt 1).toNatClampNeg), .int (jsX g (i + Int32.ofInt 2).toNatClampNeg), .int (jsX g (i + Int32.ofInt 3).toNatClampNeg)]) (st := []) (by decide +kernel) lw_cls (by decide +kernel) (by decide) (by decide +kernel) (by decide +kernel) (by decide +kernel) (by decide +kernel) (by decide +kernel) (show 3 = jnp 50 by decide +kernel) (by decide) (by decide) hcx (fun r hr => by cases hr; decide +kernel) (lu_470 (hlow 470 _ rfl) (hI.ok []) hI.2.2.2.1 ⟨i32_lo _, i32_hi _⟩ ⟨i32_lo _, i32_hi _⟩ ⟨i32_lo _, i32_hi _⟩) (fun v h1 hq => ?_)) (by omega) (by omega)
  obtain ⟨x1, rfl, bk1, hI1, h61⟩ := lwP hI hq (by decide +kernel) (by decide +kernel) (by decide +kernel) (Int.le_refl n)
  refine j_pop (by decide +kernel) rfl ?_
  refine j_aload_n (k4 := 2) (by decide +kernel) rfl ?_
  refine j_aload_n (k4 := 0) (by decide +kernel) rfl ?_
  refine j_iload_n (k4 := 3) (by decide +kernel) rfl ?_
  refine j_iconst (n := 1) (by decide +kernel) ?_
  refine j_iadd (by decide +kernel) ?_
  refine j_sld (lw_at hi hN (by decide) (by decide)) (by decide +kernel) ?_
  refine j_aload_n (k4 := 0) (by decide +kernel) rfl ?_
  refine j_iload_n (k4 := 3) (by decide +kernel) rfl ?_
  refine j_iconst (n := 2) (by decide +kernel) ?_
  refine j_iadd (by decide +kernel) ?_
  refine j_sld (lw_at hi hN (by decide) (by decide)) (by decide +kernel) ?_
  refine j_aload_n (k4 := 0) (by decide +kernel) rfl ?_
  refine j_iload_n (k4 := 3) (by decide +kernel) rfl ?_
  refine j_iconst (n := 3) (by decide +kernel) ?_
  refine j_iadd (by decide +kernel) ?_
  refine j_sld (lw_at hi hN (by decide) (by decide)) (by decide +kernel) ?_
  obtain ⟨fsm, hcm⟩ := lw_m hI1
  refine J.room (kc := 0 + kc) (ks := 0 + ks) (j_callV (own := 13) (i := 76) (y2 := 261) (d2 := 3) (mc := 0) (ms := 0) (a := b1 + 0) (As := [.int (jsX g (i + Int32.ofInt 1).toNatClampNeg), .int (jsX g (i + Int32.ofInt 2).toNatClampNeg), .int (jsX g (i + Int32.ofInt 3).toNatClampNeg)]) (st := []) (by decide +kernel) lw_cls (by decide +kernel) (by decide) (by decide +kernel) (by decide +kernel) (by decide +kernel) (by decide +kernel) (by decide +kernel) (show 3 = jnp 261 by decide +kernel) (by decide) (by decide) hcm (fun r hr => by cases hr; decide +kernel) (lu_623 (hlow 623 _ rfl) (hI1.ok []) hI1.2.2.2.2.1 ⟨i32_lo _, i32_hi _⟩ ⟨i32_lo _, i32_hi _⟩ ⟨i32_lo _, i32_hi _⟩) (fun v h2 hq => ?_)) (by omega) (by omega)
  obtain ⟨x2, rfl, bk2, hI2, h62⟩ := lwP hI1 hq (by decide +kernel) (by decide +kernel) (by decide +kernel) (show n ≤ n + 40 by omega)
  refine j_pop (by decide +kernel) rfl ?_
  refine j_goto (off := 1173) (tgt := 1983) (by decide +kernel) (by decide) ?_
  exact kk bk2 h2 hI2 (fun b hb => h62 b (h61 b hb))
theorem lu_476 (hk : kOK TTs g (EIm n) l Kx_476) {W0 : List aR} {bk0 bk : aB} {h0 h : jH} (hO : hOK TTs g (EIm n) W0 bk0 h0 bk h) {a0 : Nat} (ha0 : bk 0 = some a0) {x1 : Int32} (hx1 : (-2147483648 : Int) ≤ x1.toInt ∧ x1.toInt ≤ 2147483647) {x2 : Int32} (hx2 : (-2147483648 : Int) ≤ x2.toInt ∧ x2.toInt ≤ 2147483647) :
    jCal l g 53 3 [.ref (g.2.2 + (a0 + 0)), .int x1, .int x2] h 0 0 (kPost TTs g (EIm n) Kx_476 bk h [x1.toInt, x2.toInt]) := by
  refine hk bk h [.ref (g.2.2 + (a0 + 0)), .int x1, .int x2] [x1.toInt, x2.toInt] hO.1 hO.2.1 hO.2.2.1 hO.2.2.2.2.2 (show 3 ≤ jmx 53 by decide +kernel) rfl (fun q hq => ?_) ⟨⟨rfl, fun i e z he hz => ?_⟩, eFm_plain (plain_app (spEnv_plain _) clEnv_plain), fun F hF => absurd hF List.not_mem_nil, fun i v hv => ?_, trivial, fun q hq => ?_, fun B hB => absurd hB List.not_mem_nil⟩
  · have hq : q ∈ ([] : List (Nat × Int × Nat)) := hq
    exact absurd hq List.not_mem_nil
  · match i, he, hz with
    | 0, he, hz => cases he; cases hz; exact hx1
    | 1, he, hz => cases he; cases hz; exact hx2
    | i + 2, he, _ => cases he
  · match i, hv with
    | 0, hv => cases hv; exact ⟨_, rfl, a0, ha0, rfl⟩
    | 1, hv => cases hv; exact ⟨_, rfl, x1, rfl, rfl⟩
    | 2, hv => cases hv; exact ⟨_, rfl, x2, rfl, rfl⟩
    | i + 3, hv => cases hv
  · exact absurd hq List.not_mem_nil
theorem lu_634 (hk : kOK TTs g (EIm n) l Kx_634) {W0 : List aR} {bk0 bk : aB} {h0 h : jH} (hO : hOK TTs g (EIm n) W0 bk0 h0 bk h) {a1 : Nat} (ha1 : bk 1 = some a1) {x1 : Int32} (hx1 : (-2147483648 : Int) ≤ x1.toInt ∧ x1.toInt ≤ 2147483647) {x2 : Int32} (hx2 : (-2147483648 : Int) ≤ x2.toInt ∧ x2.toInt ≤ 2147483647) :
    jCal l g 208 2 [.ref (g.2.2 + (a1 + 0)), .int x1, .int x2] h 0 0 (kPost TTs g (EIm n) Kx_634 bk h [x1.toInt, x2.toInt]) := by
  refine hk bk h [.ref (g.2.2 + (a1 + 0)), .int x1, .int x2] [x1.toInt, x2.toInt] hO.1 hO.2.1 hO.2.2.1 hO.2.2.2.2.2 (show 3 ≤ jmx 208 by decide +kernel) rfl (fun q hq => ?_) ⟨⟨rfl, fun i e z he hz => ?_⟩, eFm_plain (plain_app (spEnv_plain _) clEnv_plain), fun F hF => absurd hF List.not_mem_nil, fun i v hv => ?_, trivial, fun q hq => ?_, fun B hB => absurd hB List.not_mem_nil⟩
  · have hq : q ∈ ([] : List (Nat × Int × Nat)) := hq
    exact absurd hq List.not_mem_nil
  · match i, he, hz with
    | 0, he, hz => cases he; cases hz; exact hx1
    | 1, he, hz => cases he; cases hz; exact hx2
    | i + 2, he, _ => cases he
  · match i, hv with
    | 0, hv => cases hv; exact ⟨_, rfl, a1, ha1, rfl⟩
    | 1, hv => cases hv; exact ⟨_, rfl, x1, rfl, rfl⟩
    | 2, hv => cases hv; exact ⟨_, rfl, x2, rfl, rfl⟩
    | i + 3, hv => cases hv
  · exact absurd hq List.not_mem_nil
set_option maxRecDepth 16384 in
theorem lc_15 (hlow : ∀ (k : Nat) (K : aK), KTx[k]? = some K → kOK TTs g (EIm n) l K) {b0 b1 : Nat} {bk : aB} {h : jH} (hI : lwI g n b0 b1 bk h) {i : Int32} (hi : 0 ≤ i.toInt ∧ i.toInt + 6 ≤ (jsN g : Int)) (hN : jsN g ≤ 3072) {kc ks : Nat} {Q : Option Value → jH → Prop}
    (kk : ∀ bk' h', lwI g (n + 40) b0 b1 bk' h' → (∀ b, bk 6 = some b → bk' 6 = some b) → J l g 315 100 1983 (lwL g b0 b1 i) [] h' kc ks Q) : J l g 315 100 813 (lwL g b0 b1 i) [] h kc ks Q := by
  refine j_aload_n (k4 := 1) (by decide +kernel) rfl ?_
  refine j_aload_n (k4 := 0) (by decide +kernel) rfl ?_
  refine j_iload_n (k4 := 3) (by decide +kernel) rfl ?_
  refine j_iconst (n := 1) (by decide +kernel) ?_
  refine j_iadd (by decide +kernel) ?_
  refine j_sld (lw_at hi hN (by decide) (by decide)) (by decide +kernel) ?_
  refine j_aload_n (k4 := 0) (by decide +kernel) rfl ?_
  refine j_iload_n (k4 := 3) (by decide +kernel) rfl ?_
  refine j_iconst (n := 2) (by decide +kernel) ?_
  refine j_iadd (by decide +kernel) ?_
  refine j_sld (lw_at hi hN (by decide) (by decide)) (by decide +kernel) ?_
  obtain ⟨fsx, hcx⟩ := lw_x hI
  refine J.room (kc := 0 + kc) (ks := 0 + ks) (j_callV (own := 13) (i := 77) (y2 := 53) (d2 := 3) (mc := 0) (ms := 0) (a := b0 + 0) (As := [.int (jsX g (i + Int32.ofInt 1).toNatClampNeg), .int (jsX g (i + Int32.ofInt 2).toNatClampNeg)]) (st := []) (by decide +kernel) lw_cls (by decide +kernel) (by decide) (by decide +kernel) (by decide +kernel) (by decide +kernel) (by decide +kernel) (by decide +kernel) (show 2 = jnp 53 by decide +kernel) (by decide) (by decide) hcx (fun r hr => by cases hr; decide +kernel) (lu_476 (hlow 476 _ rfl) (hI.ok []) hI.2.2.2.1 ⟨i32_lo _, i32_hi _⟩ ⟨i32_lo _, i32_hi _⟩) (fun v h1 hq => ?_)) (by omega) (by omega)
  obtain ⟨x1, rfl, bk1, hI1, h61⟩ := lwP hI hq (by decide +kernel) (by decide +kernel) (by decide +kernel) (Int.le_refl n)
  refine j_pop (by decide +kernel) rfl ?_
  refine j_aload_n (k4 := 2) (by decide +kernel) rfl ?_
  refine j_aload_n (k4 := 0) (by decide +kernel) rfl ?_
  refine j_iload_n (k4 := 3) (by decide +kernel) rfl ?_
  refine j_iconst (n := 1) (by decide +kernel) ?_
  refine j_iadd (by decide +kernel) ?_
  refine j_sld (lw_at hi hN (by decide) (by decide)) (by decide +kernel) ?_
  refine j_aload_n (k4 := 0) (by decide +kernel) rfl ?_
  refine j_iload_n (k4 := 3) (by decide +kernel) rfl ?_
  refine j_iconst (n := 2) (by decide +kernel) ?_
  refine j_iadd (by decide +kernel) ?_
  refine j_sld (lw_at hi hN (by decide) (by decide)) (by decide +kernel) ?_
  obtain ⟨fsm, hcm⟩ := lw_m hI1
  refine J.room (kc := 0 + kc) (ks := 0 + ks) (j_callV (own := 13) (i := 80) (y2 := 208) (d2 := 2) (mc := 0) (ms := 0) (a := b1 + 0) (As := [.int (jsX g (i + Int32.ofInt 1).toNatClampNeg), .int (jsX g (i + Int32.ofInt 2).toNatClampNeg)]) (st := []) (by decide +kernel) lw_cls (by decide +kernel) (by decide) (by decide +kernel) (by decide +kernel) (by decide +kernel) (by decide +kernel) (by decide +kernel) (show 2 = jnp 208 by decide +kernel) (by decide) (by decide) hcm (fun r hr => by cases hr; decide +kernel) (lu_634 (hlow 634 _ rfl) (hI1.ok []) hI1.2.2.2.2.1 ⟨i32_lo _, i32_hi _⟩ ⟨i32_lo _, i32_hi _⟩) (fun v h2 hq => ?_)) (by omega) (by omega)
  obtain ⟨x2, rfl, bk2, hI2, h62⟩ := lwP hI1 hq (by decide +kernel) (by decide +kernel) (by decide +kernel) (show n ≤ n + 40 by omega)
  refine j_pop (by decide +kernel) rfl ?_
  refine j_goto (off := 1140) (tgt := 1983) (by decide +kernel) (by decide) ?_
  exact kk bk2 h2 hI2 (fun b hb => h62 b (h61 b hb))
theorem lu_467 (hk : kOK TTs g (EIm n) l Kx_467) {W0 : List aR} {bk0 bk : aB} {h0 h : jH} (hO : hOK TTs g (EIm n) W0 bk0 h0 bk h) {a0 : Nat} (ha0 : bk 0 = some a0) {x1 : Int32} (hx1 : (-2147483648 : Int) ≤ x1.toInt ∧ x1.toInt ≤ 2147483647) {x2 : Int32} (hx2 : (-2147483648 : Int) ≤ x2.toInt ∧ x2.toInt ≤ 2147483647) {x3 : Int32} (hx3 : (-2147483648 : Int) ≤ x3.toInt ∧ x3.toInt ≤ 2147483647) {x4 : Int32} (hx4 : (-2147483648 : Int) ≤ x4.toInt ∧ x4.toInt ≤ 2147483647) {x5 : Int32} (hx5 : (-2147483648 : Int) ≤ x5.toInt ∧ x5.toInt ≤ 2147483647) :
    jCal l g 54 2 [.ref (g.2.2 + (a0 + 0)), .int x1, .int x2, .int x3, .int x4, .int x5] h 0 0 (kPost TTs g (EIm n) Kx_467 bk h [x1.toInt, x2.toInt, x3.toInt, x4.toInt, x5.toInt]) := by
  refine hk bk h [.ref (g.2.2 + (a0 + 0)), .int x1, .int x2, .int x3, .int x4, .int x5] [x1.toInt, x2.toInt, x3.toInt, x4.toInt, x5.toInt] hO.1 hO.2.1 hO.2.2.1 hO.2.2.2.2.2 (show 6 ≤ jmx 54 by decide +kernel) rfl (fun q hq => ?_) ⟨⟨rfl, fun i e z he hz => ?_⟩, eFm_plain (plain_app (spEnv_plain _) clEnv_plain), fun F hF => absurd hF List.not_mem_nil, fun i v hv => ?_, trivial, fun q hq => ?_, fun B hB => absurd hB List.not_mem_nil⟩
  · have hq : q ∈ ([] : List (Nat × Int × Nat)) := hq
    exact absurd hq List.not_mem_nil
  · match i, he, hz with
    | 0, he, hz => cases he; cases hz; exact hx1
    | 1, he, hz => cases he; cases hz; exact hx2
    | 2, he, hz => cases he; cases hz; exact hx3
    | 3, he, hz => cases he; cases hz; exact hx4
    | 4, he, hz => cases he; cases hz; exact hx5
    | i + 5, he, _ => cases he
  · match i, hv with
    | 0, hv => cases hv; exact ⟨_, rfl, a0, ha0, rfl⟩
    | 1, hv => cases hv; exact ⟨_, rfl, x1, rfl, rfl⟩
    | 2, hv => cases hv; exact ⟨_, rfl, x2, rfl, rfl⟩
    | 3, hv => cases hv; exact ⟨_, rfl, x3, rfl, rfl⟩
    | 4, hv => cases hv; exact ⟨_, rfl, x4, rfl, rfl⟩
    | 5, hv => cases hv; exact ⟨_, rfl, x5, rfl, rfl⟩
    | i + 6, hv => cases hv
  · exact absurd hq List.not_mem_nil
theorem lu_618 (hk : kOK TTs g (EIm n) l Kx_618) {W0 : List aR} {bk0 bk : aB} {h0 h : jH} (hO : hOK TTs g (EIm n) W0 bk0 h0 bk h) {a1 : Nat} (ha1 : bk 1 = some a1) {x1 : Int32} (hx1 : (-2147483648 : Int) ≤ x1.toInt ∧ x1.toInt ≤ 2147483647) {x2 : Int32} (hx2 : (-2147483648 : Int) ≤ x2.toInt ∧ x2.toInt ≤ 2147483647) {x3 : Int32} (hx3 : (-2147483648 : Int) ≤ x3.toInt ∧ x3.toInt ≤ 2147483647) {x4 : Int32} (hx4 : (-2147483648 : Int) ≤ x4.toInt ∧ x4.toInt ≤ 2147483647) {x5 : Int32} (hx5 : (-2147483648 : Int) ≤ x5.toInt ∧ x5.toInt ≤ 2147483647) :
    jCal l g 211 2 [.ref (g.2.2 + (a1 + 0)), .int x1, .int x2, .int x3, .int x4, .int x5] h 0 0 (kPost TTs g (EIm n) Kx_618 bk h [x1.toInt, x2.toInt, x3.toInt, x4.toInt, x5.toInt]) := by
  refine hk bk h [.ref (g.2.2 + (a1 + 0)), .int x1, .int x2, .int x3, .int x4, .int x5] [x1.toInt, x2.toInt, x3.toInt, x4.toInt, x5.toInt] hO.1 hO.2.1 hO.2.2.1 hO.2.2.2.2.2 (show 6 ≤ jmx 211 by decide +kernel) rfl (fun q hq => ?_) ⟨⟨rfl, fun i e z he hz => ?_⟩, eFm_plain (plain_app (spEnv_plain _) clEnv_plain), fun F hF => absurd hF List.not_mem_nil, fun i v hv => ?_, trivial, fun q hq => ?_, fun B hB => absurd hB List.not_mem_nil⟩
  · have hq : q ∈ ([] : List (Nat × Int × Nat)) := hq
    exact absurd hq List.not_mem_nil
  · match i, he, hz with
    | 0, he, hz => cases he; cases hz; exact hx1
    | 1, he, hz => cases he; cases hz; exact hx2
    | 2, he, hz => cases he; cases hz; exact hx3
    | 3, he, hz => cases he; cases hz; exact hx4
    | 4, he, hz => cases he; cases hz; exact hx5
    | i + 5, he, _ => cases he
  · match i, hv with
    | 0, hv => cases hv; exact ⟨_, rfl, a1, ha1, rfl⟩
    | 1, hv => cases hv; exact ⟨_, rfl, x1, rfl, rfl⟩
    | 2, hv => cases hv; exact ⟨_, rfl, x2, rfl, rfl⟩
    | 3, hv => cases hv; exact ⟨_, rfl, x3, rfl, rfl⟩
    | 4, hv => cases hv; exact ⟨_, rfl, x4, rfl, rfl⟩
    | 5, hv => cases hv; exact ⟨_, rfl, x5, rfl, rfl⟩
    | i + 6, hv => cases hv
  · exact absurd hq List.not_mem_nil
set_option maxRecDepth 16384 in
theorem lc_16 (hlow : ∀ (k : Nat) (K : aK), KTx[k]? = some K → kOK TTs g (EIm n) l K) {b0 b1 : Nat} {bk : aB} {h : jH} (hI : lwI g n b0 b1 bk h) {i : Int32} (hi : 0 ≤ i.toInt ∧ i.toInt + 6 ≤ (jsN g : Int)) (hN : jsN g ≤ 3072) {kc ks : Nat} {Q : Option Value → jH → Prop}
    (kk : ∀ bk' h', lwI g (n + 40) b0 b1 bk' h' → (∀ b, bk 6 = some b → bk' 6 = some b) → J l g 315 100 1983 (lwL g b0 b1 i) [] h' kc ks Q) : J l g 315 100 846 (lwL g b0 b1 i) [] h kc ks Q := by
  refine j_aload_n (k4 := 1) (by decide +kernel) rfl ?_
  refine j_aload_n (k4 := 0) (by decide +kernel) rfl ?_
  refine j_iload_n (k4 := 3) (by decide +kernel) rfl ?_
  refine j_iconst (n := 1) (by decide +kernel) ?_
  refine j_iadd (by decide +kernel) ?_
  refine j_sld (lw_at hi hN (by decide) (by decide)) (by decide +kernel) ?_
  refine j_aload_n (k4 := 0) (by decide +kernel) rfl ?_
  refine j_iload_n (k4 := 3) (by decide +kernel) rfl ?_
  refine j_iconst (n := 2) (by decide +kernel) ?_
  refine j_iadd (by decide +kernel) ?_
  refine j_sld (lw_at hi hN (by decide) (by decide)) (by decide +kernel) ?_
  refine j_aload_n (k4 := 0) (by decide +kernel) rfl ?_
  refine j_iload_n (k4 := 3) (by decide +kernel) rfl ?_
  refine j_iconst (n := 3) (by decide +kernel) ?_
  refine j_iadd (by decide +kernel) ?_
  refine j_sld (lw_at hi hN (by decide) (by decide)) (by decide +kernel) ?_
  refine j_aload_n (k4 := 0) (by decide +kernel) rfl ?_
  refine j_iload_n (k4 := 3) (by decide +kernel) rfl ?_
  refine j_iconst (n := 4) (by decide +kernel) ?_
  refine j_iadd (by decide +kernel) ?_
  refine j_sld (lw_at hi hN (by decide) (by decide)) (by decide +kernel) ?_
  refine j_aload_n (k4 := 0) (by decide +kernel) rfl ?_
  refine j_iload_n (k4 := 3) (by decide +kernel) rfl ?_
  refine j_iconst (n := 5) (by decide +kernel) ?_
  refine j_iadd (by decide +kernel) ?_
  refine j_sld (lw_at hi hN (by decide) (by decide)) (by decide +kernel) ?_
  obtain ⟨fsx, hcx⟩ := lw_x hI
  refine J.room (kc := 0 + kc) (ks := 0 + ks) (j_callV (own := 13) (i := 81) (y2 := 54) (d2 := 2) (mc := 0) (ms := 0) (a := b0 + 0) (As := [.int (jsX g (i + Int32.ofInt 1).toNatClampNeg), .int (jsX g (i + Int32.ofInt 2).toNatClampNeg), .int (jsX g (i + Int32.ofInt 3).toNatClampNeg), .int (jsX g (i + Int32.ofInt 4).toNatClampNeg), .int (jsX g (i + Int32.ofInt 5).toNatClampNeg)]) (st := []) (by decide +kernel) lw_cls (by decide +kernel) (by decide) (by decide +kernel) (by decide +kernel) (by decide +kernel) (by decide +kernel) (by decide +kernel) (show 5 = jnp 54 by decide +kernel) (by decide) (by decide) hcx (fun r hr => by cases hr; decide +kernel) (lu_467 (hlow 467 _ rfl) (hI.ok []) hI.2.2.2.1 ⟨i32_lo _, i32_hi _⟩ ⟨i32_lo _, i32_hi _⟩ ⟨i32_lo _, i32_hi _⟩ ⟨i32_lo _, i32_hi _⟩ ⟨i32_lo _, i32_hi _⟩) (fun v h1 hq => ?_)) (by omega) (by omega)
  obtain ⟨x1, rfl, bk1, hI1, h61⟩ := lwP hI hq (by decide +kernel) (by decide +kernel) (by decide +kernel) (Int.le_refl n)
  refine j_pop (by decide +kernel) rfl ?_
  refine j_aload_n (k4 := 2) (by decide +kernel) rfl ?_
  refine j_aload_n (k4 := 0) (by decide +kernel) rfl ?_
  refine j_iload_n (k4 := 3) (by decide +kernel) rfl ?_
  refine j_iconst (n := 1) (by decide +kernel) ?_
  refine j_iadd (by decide +kernel) ?_
  refine j_sld (lw_at hi hN (by decide) (by decide)) (by decide +kernel) ?_
  refine j_aload_n (k4 := 0) (by decide +kernel) rfl ?_
  refine j_iload_n (k4 := 3) (by decide +kernel) rfl ?_
  refine j_iconst (n := 2) (by decide +kernel) ?_
  refine j_iadd (by decide +kernel) ?_
  refine j_sld (lw_at hi hN (by decide) (by decide)) (by decide +kernel) ?_
  refine j_aload_n (k4 := 0) (by decide +kernel) rfl ?_
  refine j_iload_n (k4 := 3) (by decide +kernel) rfl ?_
  refine j_iconst (n := 3) (by decide +kernel) ?_
  refine j_iadd (by decide +kernel) ?_
  refine j_sld (lw_at hi hN (by decide) (by decide)) (by decide +kernel) ?_
  refine j_aload_n (k4 := 0) (by decide +kernel) rfl ?_
  refine j_iload_n (k4 := 3) (by decide +kernel) rfl ?_
  refine j_iconst (n := 4) (by decide +kernel) ?_
  refine j_iadd (by decide +kernel) ?_
  refine j_sld (lw_at hi hN (by decide) (by decide)) (by decide +kernel) ?_
  refine j_aload_n (k4 := 0) (by decide +kernel) rfl ?_
  refine j_iload_n (k4 := 3) (by decide +kernel) rfl ?_
  refine j_iconst (n := 5) (by decide +kernel) ?_
  refine j_iadd (by decide +kernel) ?_
  refine j_sld (lw_at hi hN (by decide) (by decide)) (by decide +kernel) ?_
  obtain ⟨fsm, hcm⟩ := lw_m hI1
  refine J.room (kc := 0 + kc) (ks := 0 + ks) (j_callV (own := 13) (i := 85) (y2 := 211) (d2 := 2) (mc := 0) (ms := 0) (a := b1 + 0) (As := [.int (jsX g (i + Int32.ofInt 1).toNatClampNeg), .int (jsX g (i + Int32.ofInt 2).toNatClampNeg), .int (jsX g (i + Int32.ofInt 3).toNatClampNeg), .int (jsX g (i + Int32.ofInt 4).toNatClampNeg), .int (jsX g (i + Int32.ofInt 5).toNatClampNeg)]) (st := []) (by decide +kernel) lw_cls (by decide +kernel) (by decide) (by decide +kernel) (by decide +kernel) (by decide +kernel) (by decide +kernel) (by decide +kernel) (show 5 = jnp 211 by decide +kernel) (by decide) (by decide) hcm (fun r hr => by cases hr; decide +kernel) (lu_618 (hlow 618 _ rfl) (hI1.ok []) hI1.2.2.2.2.1 ⟨i32_lo _, i32_hi _⟩ ⟨i32_lo _, i32_hi _⟩ ⟨i32_lo _, i32_hi _⟩ ⟨i32_lo _, i32_hi _⟩ ⟨i32_lo _, i32_hi _⟩) (fun v h2 hq => ?_)) (by omega) (by omega)
  obtain ⟨x2, rfl, bk2, hI2, h62⟩ := lwP hI1 hq (by decide +kernel) (by decide +kernel) (by decide +kernel) (show n ≤ n + 40 by omega)
  refine j_pop (by decide +kernel) rfl ?_
  refine j_goto (off := 1077) (tgt := 1983) (by decide +kernel) (by decide) ?_
  exact kk bk2 h2 hI2 (fun b hb => h62 b (h61 b hb))
theorem lu_459 (hk : kOK TTs g (EIm n) l Kx_459) {W0 : List aR} {bk0 bk : aB} {h0 h : jH} (hO : hOK TTs g (EIm n) W0 bk0 h0 bk h) {a0 : Nat} (ha0 : bk 0 = some a0) {x1 : Int32} (hx1 : (-2147483648 : Int) ≤ x1.toInt ∧ x1.toInt ≤ 2147483647) :
    jCal l g 56 1 [.ref (g.2.2 + (a0 + 0)), .int x1] h 0 0 (kPost TTs g (EIm n) Kx_459 bk h [x1.toInt]) := by
  refine hk bk h [.ref (g.2.2 + (a0 + 0)), .int x1] [x1.toInt] hO.1 hO.2.1 hO.2.2.1 hO.2.2.2.2.2 (show 2 ≤ jmx 56 by decide +kernel) rfl (fun q hq => ?_) ⟨⟨rfl, fun i e z he hz => ?_⟩, eFm_plain (plain_app (spEnv_plain _) clEnv_plain), fun F hF => absurd hF List.not_mem_nil, fun i v hv => ?_, trivial, fun q hq => ?_, fun B hB => absurd hB List.not_mem_nil⟩
  · have hq : q ∈ ([] : List (Nat × Int × Nat)) := hq
    exact absurd hq List.not_mem_nil
  · match i, he, hz with
    | 0, he, hz => cases he; cases hz; exact hx1
    | i + 1, he, _ => cases he
  · match i, hv with
    | 0, hv => cases hv; exact ⟨_, rfl, a0, ha0, rfl⟩
    | 1, hv => cases hv; exact ⟨_, rfl, x1, rfl, rfl⟩
    | i + 2, hv => cases hv
  · exact absurd hq List.not_mem_nil
theorem lu_536 (hk : kOK TTs g (EIm n) l Kx_536) {W0 : List aR} {bk0 bk : aB} {h0 h : jH} (hO : hOK TTs g (EIm n) W0 bk0 h0 bk h) {a1 : Nat} (ha1 : bk 1 = some a1) {x1 : Int32} (hx1 : (-2147483648 : Int) ≤ x1.toInt ∧ x1.toInt ≤ 2147483647) :
    jCal l g 213 1 [.ref (g.2.2 + (a1 + 0)), .int x1] h 0 0 (kPost TTs g (EIm n) Kx_536 bk h [x1.toInt]) := by
  refine hk bk h [.ref (g.2.2 + (a1 + 0)), .int x1] [x1.toInt] hO.1 hO.2.1 hO.2.2.1 hO.2.2.2.2.2 (show 2 ≤ jmx 213 by decide +kernel) rfl (fun q hq => ?_) ⟨⟨rfl, fun i e z he hz => ?_⟩, eFm_plain (plain_app (spEnv_plain _) clEnv_plain), fun F hF => absurd hF List.not_mem_nil, fun i v hv => ?_, trivial, fun q hq => ?_, fun B hB => absurd hB List.not_mem_nil⟩
  · have hq : q ∈ ([] : List (Nat × Int × Nat)) := hq
    exact absurd hq List.not_mem_nil
  · match i, he, hz with
    | 0, he, hz => cases he; cases hz; exact hx1
    | i + 1, he, _ => cases he
  · match i, hv with
    | 0, hv => cases hv; exact ⟨_, rfl, a1, ha1, rfl⟩
    | 1, hv => cases hv; exact ⟨_, rfl, x1, rfl, rfl⟩
    | i + 2, hv => cases hv
  · exact absurd hq List.not_mem_nil
set_option maxRecDepth 16384 in
theorem lc_17 (hlow : ∀ (k : Nat) (K : aK), KTx[k]? = some K → kOK TTs g (EIm n) l K) {b0 b1 : Nat} {bk : aB} {h : jH} (hI : lwI g n b0 b1 bk h) {i : Int32} (hi : 0 ≤ i.toInt ∧ i.toInt + 6 ≤ (jsN g : Int)) (hN : jsN g ≤ 3072) {kc ks : Nat} {Q : Option Value → jH → Prop}
    (kk : ∀ bk' h', lwI g (n + 40) b0 b1 bk' h' → (∀ b, bk 6 = some b → bk' 6 = some b) → J l g 315 100 1983 (lwL g b0 b1 i) [] h' kc ks Q) : J l g 315 100 909 (lwL g b0 b1 i) [] h kc ks Q := by
  refine j_aload_n (k4 := 1) (by decide +kernel) rfl ?_
  refine j_aload_n (k4 := 0) (by decide +kernel) rfl ?_
  refine j_iload_n (k4 := 3) (by decide +kernel) rfl ?_
  refine j_iconst (n := 1) (by decide +kernel) ?_
  refine j_iadd (by decide +kernel) ?_
  refine j_sld (lw_at hi hN (by decide) (by decide)) (by decide +kernel) ?_
  obtain ⟨fsx, hcx⟩ := lw_x hI
  refine J.room (kc := 0 + kc) (ks := 0 + ks) (j_callV (own := 13) (i := 86) (y2 := 56) (d2 := 1) (mc := 0) (ms := 0) (a := b0 + 0) (As := [.int (jsX g (i + Int32.ofInt 1).toNatClampNeg)]) (st := []) (by decide +kernel) lw_cls (by decide +kernel) (by decide) (by decide +kernel) (by decide +kernel) (by decide +kernel) (by decide +kernel) (by decide +kernel) (show 1 = jnp 56 by decide +kernel) (by decide) (by decide) hcx (fun r hr => by cases hr; decide +kernel) (lu_459 (hlow 459 _ rfl) (hI.ok []) hI.2.2.2.1 ⟨i32_lo _, i32_hi _⟩) (fun v h1 hq => ?_)) (by omega) (by omega)
  obtain ⟨x1, rfl, bk1, hI1, h61⟩ := lwP hI hq (by decide +kernel) (by decide +kernel) (by decide +kernel) (Int.le_refl n)
  refine j_pop (by decide +kernel) rfl ?_
  refine j_aload_n (k4 := 2) (by decide +kernel) rfl ?_
  refine j_aload_n (k4 := 0) (by decide +kernel) rfl ?_
  refine j_iload_n (k4 := 3) (by decide +kernel) rfl ?_
  refine j_iconst (n := 1) (by decide +kernel) ?_
  refine j_iadd (by decide +kernel) ?_
  refine j_sld (lw_at hi hN (by decide) (by decide)) (by decide +kernel) ?_
  obtain ⟨fsm, hcm⟩ := lw_m hI1
  refine J.room (kc := 0 + kc) (ks := 0 + ks) (j_callV (own := 13) (i := 89) (y2 := 213) (d2 := 1) (mc := 0) (ms := 0) (a := b1 + 0) (As := [.int (jsX g (i + Int32.ofInt 1).toNatClampNeg)]) (st := []) (by decide +kernel) lw_cls (by decide +kernel) (by decide) (by decide +kernel) (by decide +kernel) (by decide +kernel) (by decide +kernel) (by decide +kernel) (show 1 = jnp 213 by decide +kernel) (by decide) (by decide) hcm (fun r hr => by cases hr; decide +kernel) (lu_536 (hlow 536 _ rfl) (hI1.ok []) hI1.2.2.2.2.1 ⟨i32_lo _, i32_hi _⟩) (fun v h2 hq => ?_)) (by omega) (by omega)
  obtain ⟨x2, rfl, bk2, hI2, h62⟩ := lwP hI1 hq (by decide +kernel) (by decide +kernel) (by decide +kernel) (show n ≤ n + 40 by omega)
  refine j_pop (by decide +kernel) rfl ?_
  refine j_goto (off := 1054) (tgt := 1983) (by decide +kernel) (by decide) ?_
  exact kk bk2 h2 hI2 (fun b hb => h62 b (h61 b hb))
theorem lu_500 (hk : kOK TTs g (EIm n) l Kx_500) {W0 : List aR} {bk0 bk : aB} {h0 h : jH} (hO : hOK TTs g (EIm n) W0 bk0 h0 bk h) {a0 : Nat} (ha0 : bk 0 = some a0) {x1 : Int32} (hx1 : (-2147483648 : Int) ≤ x1.toInt ∧ x1.toInt ≤ 2147483647) :
    jCal l g 57 2 [.ref (g.2.2 + (a0 + 0)), .int x1] h 0 0 (kPost TTs g (EIm n) Kx_500 bk h [x1.toInt]) := by
  refine hk bk h [.ref (g.2.2 + (a0 + 0)), .int x1] [x1.toInt] hO.1 hO.2.1 hO.2.2.1 hO.2.2.2.2.2 (show 2 ≤ jmx 57 by decide +kernel) rfl (fun q hq => ?_) ⟨⟨rfl, fun i e z he hz => ?_⟩, eFm_plain (plain_app (spEnv_plain _) clEnv_plain), fun F hF => absurd hF List.not_mem_nil, fun i v hv => ?_, trivial, fun q hq => ?_, fun B hB => absurd hB List.not_mem_nil⟩
  · have hq : q ∈ ([] : List (Nat × Int × Nat)) := hq
    exact absurd hq List.not_mem_nil
  · match i, he, hz with
    | 0, he, hz => cases he; cases hz; exact hx1
    | i + 1, he, _ => cases he
  · match i, hv with
    | 0, hv => cases hv; exact ⟨_, rfl, a0, ha0, rfl⟩
    | 1, hv => cases hv; exact ⟨_, rfl, x1, rfl, rfl⟩
    | 2, hv => cases hv
    | i + 3, hv => cases hv
  · exact absurd hq List.not_mem_nil
theorem lu_661 (hk : kOK TTs g (EIm n) l Kx_661) {W0 : List aR} {bk0 bk : aB} {h0 h : jH} (hO : hOK TTs g (EIm n) W0 bk0 h0 bk h) {a1 : Nat} (ha1 : bk 1 = some a1) {x1 : Int32} (hx1 : (-2147483648 : Int) ≤ x1.toInt ∧ x1.toInt ≤ 2147483647) :
    jCal l g 215 2 [.ref (g.2.2 + (a1 + 0)), .int x1] h 0 0 (kPost TTs g (EIm n) Kx_661 bk h [x1.toInt]) := by
  refine hk bk h [.ref (g.2.2 + (a1 + 0)), .int x1] [x1.toInt] hO.1 hO.2.1 hO.2.2.1 hO.2.2.2.2.2 (show 2 ≤ jmx 215 by decide +kernel) rfl (fun q hq => ?_) ⟨⟨rfl, fun i e z he hz => ?_⟩, eFm_plain (plain_app (spEnv_plain _) clEnv_plain), fun F hF => absurd hF List.not_mem_nil, fun i v hv => ?_, trivial, fun q hq => ?_, fun B hB => absurd hB List.not_mem_nil⟩
  · have hq : q ∈ ([] : List (Nat × Int × Nat)) := hq
    exact absurd hq List.not_mem_nil
  · match i, he, hz with
    | 0, he, hz => cases he; cases hz; exact hx1
    | i + 1, he, _ => cases he
  · match i, hv with
    | 0, hv => cases hv; exact ⟨_, rfl, a1, ha1, rfl⟩
    | 1, hv => cases hv; exact ⟨_, rfl, x1, rfl, rfl⟩
    | 2, hv => cases hv
    | i + 3, hv => cases hv
  · exact absurd hq List.not_mem_nil
set_option maxRecDepth 16384 in
theorem lc_18 (hlow : ∀ (k : Nat) (K : aK), KTx[k]? = some K → kOK TTs g (EIm n) l K) {b0 b1 : Nat} {bk : aB} {h : jH} (hI : lwI g n b0 b1 bk h) {i : Int32} (hi : 0 ≤ i.toInt ∧ i.toInt + 6 ≤ (jsN g : Int)) (hN : jsN g ≤ 3072) {kc ks : Nat} {Q : Option Value → jH → Prop}
    (kk : ∀ bk' h', lwI g (n + 40) b0 b1 bk' h' → (∀ b, bk 6 = some b → bk' 6 = some b) → J l g 315 100 1983 (lwL g b0 b1 i) [] h' kc ks Q) : J l g 315 100 932 (lwL g b0 b1 i) [] h kc ks Q := by
  refine j_aload_n (k4 := 1) (by decide +kernel) rfl ?_
  refine j_aload_n (k4 := 0) (by decide +kernel) rfl ?_
  refine j_iload_n (k4 := 3) (by decide +kernel) rfl ?_
  refine j_iconst (n := 1) (by decide +kernel) ?_
  refine j_iadd (by decide +kernel) ?_
  refine j_sld (lw_at hi hN (by decide) (by decide)) (by decide +kernel) ?_
  obtain ⟨fsx, hcx⟩ := lw_x hI
  refine J.room (kc := 0 + kc) (ks := 0 + ks) (j_callV (own := 13) (i := 90) (y2 := 57) (d2 := 2) (mc := 0) (ms := 0) (a := b0 + 0) (As := [.int (jsX g (i + Int32.ofInt 1).toNatClampNeg)]) (st := []) (by decide +kernel) lw_cls (by decide +kernel) (by decide) (by decide +kernel) (by decide +kernel) (by decide +kernel) (by decide +kernel) (by decide +kernel) (show 1 = jnp 57 by decide +kernel) (by decide) (by decide) hcx (fun r hr => by cases hr; decide +kernel) (lu_500 (hlow 500 _ rfl) (hI.ok []) hI.2.2.2.1 ⟨i32_lo _, i32_hi _⟩) (fun v h1 hq => ?_)) (by omega) (by omega)
  obtain ⟨x1, rfl, bk1, hI1, h61⟩ := lwP hI hq (by decide +kernel) (by decide +kernel) (by decide +kernel) (Int.le_refl n)
  refine j_pop (by decide +kernel) rfl ?_
  refine j_aload_n (k4 := 2) (by decide +kernel) rfl ?_
  refine j_aload_n (k4 := 0) (by decide +kernel) rfl ?_
  refine j_iload_n (k4 := 3) (by decide +kernel) rfl ?_
  refine j_iconst (n := 1) (by decide +kernel) ?_
  refine j_iadd (by decide +kernel) ?_
  refine j_sld (lw_at hi hN (by decide) (by decide)) (by decide +kernel) ?_
  obtain ⟨fsm, hcm⟩ := lw_m hI1
  refine J.room (kc := 0 + kc) (ks := 0 + ks) (j_callV (own := 13) (i := 93) (y2 := 215) (d2 := 2) (mc := 0) (ms := 0) (a := b1 + 0) (As := [.int (jsX g (i + Int32.ofInt 1).toNatClampNeg)]) (st := []) (by decide +kernel) lw_cls (by decide +kernel) (by decide) (by decide +kernel) (by decide +kernel) (by decide +kernel) (by decide +kernel) (by decide +kernel) (show 1 = jnp 215 by decide +kernel) (by decide) (by decide) hcm (fun r hr => by cases hr; decide +kernel) (lu_661 (hlow 661 _ rfl) (hI1.ok []) hI1.2.2.2.2.1 ⟨i32_lo _, i32_hi _⟩) (fun v h2 hq => ?_)) (by omega) (by omega)
  obtain ⟨x2, rfl, bk2, hI2, h62⟩ := lwP hI1 hq (by decide +kernel) (by decide +kernel) (by decide +kernel) (show n ≤ n + 40 by omega)
  refine j_pop (by decide +kernel) rfl ?_
  refine j_goto (off := 1031) (tgt := 1983) (by decide +kernel) (by decide) ?_
  exact kk bk2 h2 hI2 (fun b hb => h62 b (h61 b hb))
theorem lu_465 (hk : kOK TTs g (EIm n) l Kx_465) {W0 : List aR} {bk0 bk : aB} {h0 h : jH} (hO : hOK TTs g (EIm n) W0 bk0 h0 bk h) {a0 : Nat} (ha0 : bk 0 = some a0)  :
    jCal l g 93 1 [.ref (g.2.2 + (a0 + 0))] h 0 0 (kPost TTs g (EIm n) Kx_465 bk h []) := by
  refine hk bk h [.ref (g.2.2 + (a0 + 0))] [] hO.1 hO.2.1 hO.2.2.1 hO.2.2.2.2.2 (show 1 ≤ jmx 93 by decide +kernel) rfl (fun q hq => ?_) ⟨⟨rfl, fun i e z he hz => ?_⟩, eFm_plain (plain_app (spEnv_plain _) clEnv_plain), fun F hF => absurd hF List.not_mem_nil, fun i v hv => ?_, trivial, fun q hq => ?_, fun B hB => absurd hB List.not_mem_nil⟩
  · have hq : q ∈ ([] : List (Nat × Int × Nat)) := hq
    exact absurd hq List.not_mem_nil
  · match i, he, hz with
    | i + 0, he, _ => cases he
  · match i, hv with
    | 0, hv => cases hv; exact ⟨_, rfl, a0, ha0, rfl⟩
    | i + 1, hv => cases hv
  · exact absurd hq List.not_mem_nil
theorem lu_612 (hk : kOK TTs g (EIm n) l Kx_612) {W0 : List aR} {bk0 bk : aB} {h0 h : jH} (hO : hOK TTs g (EIm n) W0 bk0 h0 bk h) {a1 : Nat} (ha1 : bk 1 = some a1)  :
    jCal l g 214 1 [.ref (g.2.2 + (a1 + 0))] h 0 0 (kPost TTs g (EIm n) Kx_612 bk h []) := by
  refine hk bk h [.ref (g.2.2 + (a1 + 0))] [] hO.1 hO.2.1 hO.2.2.1 hO.2.2.2.2.2 (show 1 ≤ jmx 214 by decide +kernel) rfl (fun q hq => ?_) ⟨⟨rfl, fun i e z he hz => ?_⟩, eFm_plain (plain_app (spEnv_plain _) clEnv_plain), fun F hF => absurd hF List.not_mem_nil, fun i v hv => ?_, trivial, fun q hq => ?_, fun B hB => absurd hB List.not_mem_nil⟩
  · have hq : q ∈ ([] : List (Nat × Int × Nat)) := hq
    exact absurd hq List.not_mem_nil
  · match i, he, hz with
    | i + 0, he, _ => cases he
  · match i, hv with
    | 0, hv => cases hv; exact ⟨_, rfl, a1, ha1, rfl⟩
    | i + 1, hv => cases hv
  · exact absurd hq List.not_mem_nil
set_option maxRecDepth 16384 in
theorem lc_20 (hlow : ∀ (k : Nat) (K : aK), KTx[k]? = some K → kOK TTs g (EIm n) l K) {b0 b1 : Nat} {bk : aB} {h : jH} (hI : lwI g n b0 b1 bk h) {i : Int32} (hi : 0 ≤ i.toInt ∧ i.toInt + 6 ≤ (jsN g : Int)) (hN : jsN g ≤ 3072) {kc ks : Nat} {Q : Option Value → jH → Prop}
    (kk : ∀ bk' h', lwI g (n + 40) b0 b1 bk' h' → (∀ b, bk 6 = some b → bk' 6 = some b) → J l g 315 100 1983 (lwL g b0 b1 i) [] h' kc ks Q) : J l g 315 100 968 (lwL g b0 b1 i) [] h kc ks Q := by
  refine j_aload_n (k4 := 1) (by decide +kernel) rfl ?_
  obtain ⟨fsx, hcx⟩ := lw_x hI
  refine J.room (kc := 0 + kc) (ks := 0 + ks) (j_callV (own := 13) (i := 99) (y2 := 93) (d2 := 1) (mc := 0) (ms := 0) (a := b0 + 0) (As := []) (st := []) (by decide +kernel) lw_cls (by decide +kernel) (by decide) (by decide +kernel) (by decide +kernel) (by decide +kernel) (by decide +kernel) (by decide +kernel) (show 0 = jnp 93 by decide +kernel) (by decide) (by decide) hcx (fun r hr => by cases hr; decide +kernel) (lu_465 (hlow 465 _ rfl) (hI.ok []) hI.2.2.2.1) (fun v h1 hq => ?_)) (by omega) (by omega)
  obtain ⟨x1, rfl, bk1, hI1, h61⟩ := lwP hI hq (by decide +kernel) (by decide +kernel) (by decide +kernel) (Int.le_refl n)
  refine j_pop (by decide +kernel) rfl ?_
  refine j_aload_n (k4 := 2) (by decide +kernel) rfl ?_
  obtain ⟨fsm, hcm⟩ := lw_m hI1
  refine J.room (kc := 0 + kc) (ks := 0 + ks) (j_callV (own := 13) (i := 102) (y2 := 214) (d2 := 1) (mc := 0) (ms := 0) (a := b1 + 0) (As := []) (st := []) (by decide +kernel) lw_cls (by decide +kernel) (by decide) (by decide +kernel) (by decide +kernel) (by decide +kernel) (by decide +kernel) (by decide +kernel) (show 0 = jnp 214 by decide +kernel) (by decide) (by decide) hcm (fun r hr => by cases hr; decide +kernel) (lu_612 (hlow 612 _ rfl) (hI1.ok []) hI1.2.2.2.2.1) (fun v h2 hq => ?_)) (by omega) (by omega)
  obtain ⟨x2, rfl, bk2, hI2, h62⟩ := lwP hI1 hq (by decide +kernel) (by decide +kernel) (by decide +kernel) (show n ≤ n + 40 by omega)
  refine j_pop (by decide +kernel) rfl ?_
  refine j_goto (off := 1005) (tgt := 1983) (by decide +kernel) (by decide) ?_
  exact kk bk2 h2 hI2 (fun b hb => h62 b (h61 b hb))
theorem lu_460 (hk : kOK TTs g (EIm n) l Kx_460) {W0 : List aR} {bk0 bk : aB} {h0 h : jH} (hO : hOK TTs g (EIm n) W0 bk0 h0 bk h) {a0 : Nat} (ha0 : bk 0 = some a0) {x1 : Int32} (hx1 : (-2147483648 : Int) ≤ x1.toInt ∧ x1.toInt ≤ 2147483647) :
    jCal l g 109 2 [.ref (g.2.2 + (a0 + 0)), .int x1] h 0 0 (kPost TTs g (EIm n) Kx_460 bk h [x1.toInt]) := by
  refine hk bk h [.ref (g.2.2 + (a0 + 0)), .int x1] [x1.toInt] hO.1 hO.2.1 hO.2.2.1 hO.2.2.2.2.2 (show 2 ≤ jmx 109 by decide +kernel) rfl (fun q hq => ?_) ⟨⟨rfl, fun i e z he hz => ?_⟩, eFm_plain (plain_app (spEnv_plain _) clEnv_plain), fun F hF => absurd hF List.not_mem_nil, fun i v hv => ?_, trivial, fun q hq => ?_, fun B hB => absurd hB List.not_mem_nil⟩
  · have hq : q ∈ ([] : List (Nat × Int × Nat)) := hq
    exact absurd hq List.not_mem_nil
  · match i, he, hz with
    | 0, he, hz => cases he; cases hz; exact hx1
    | i + 1, he, _ => cases he
  · match i, hv with
    | 0, hv => cases hv; exact ⟨_, rfl, a0, ha0, rfl⟩
    | 1, hv => cases hv; exact ⟨_, rfl, x1, rfl, rfl⟩
    | i + 2, hv => cases hv
  · exact absurd hq List.not_mem_nil
theorem lu_537 (hk : kOK TTs g (EIm n) l Kx_537) {W0 : List aR} {bk0 bk : aB} {h0 h : jH} (hO : hOK TTs g (EIm n) W0 bk0 h0 bk h) {a1 : Nat} (ha1 : bk 1 = some a1) {x1 : Int32} (hx1 : (-2147483648 : Int) ≤ x1.toInt ∧ x1.toInt ≤ 2147483647) :
    jCal l g 275 3 [.ref (g.2.2 + (a1 + 0)), .int x1] h 0 0 (kPost TTs g (EIm n) Kx_537 bk h [x1.toInt]) := by
  refine hk bk h [.ref (g.2.2 + (a1 + 0)), .int x1] [x1.toInt] hO.1 hO.2.1 hO.2.2.1 hO.2.2.2.2.2 (show 2 ≤ jmx 275 by decide +kernel) rfl (fun q hq => ?_) ⟨⟨rfl, fun i e z he hz => ?_⟩, eFm_plain (plain_app (spEnv_plain _) clEnv_plain), fun F hF => absurd hF List.not_mem_nil, fun i v hv => ?_, trivial, fun q hq => ?_, fun B hB => absurd hB List.not_mem_nil⟩
  · have hq : q ∈ ([] : List (Nat × Int × Nat)) := hq
    exact absurd hq List.not_mem_nil
  · match i, he, hz with
    | 0, he, hz => cases he; cases hz; exact hx1
    | i + 1, he, _ => cases he
  · match i, hv with
    | 0, hv => cases hv; exact ⟨_, rfl, a1, ha1, rfl⟩
    | 1, hv => cases hv; exact ⟨_, rfl, x1, rfl, rfl⟩
    | i + 2, hv => cases hv
  · exact absurd hq List.not_mem_nil
set_option maxRecDepth 16384 in
theorem lc_22 (hlow : ∀ (k : Nat) (K : aK), KTx[k]? = some K → kOK TTs g (EIm n) l K) {b0 b1 : Nat} {bk : aB} {h : jH} (hI : lwI g n b0 b1 bk h) {i : Int32} (hi : 0 ≤ i.toInt ∧ i.toInt + 6 ≤ (jsN g : Int)) (hN : jsN g ≤ 3072) {kc ks : Nat} {Q : Option Value → jH → Prop}
    (kk : ∀ bk' h', lwI g (n + 40) b0 b1 bk' h' → (∀ b, bk 6 = some b → bk' 6 = some b) → J l g 315 100 1983 (lwL g b0 b1 i) [] h' kc ks Q) : J l g 315 100 994 (lwL g b0 b1 i) [] h kc ks Q := by
  refine j_aload_n (k4 := 1) (by decide +kernel) rfl ?_
  refine j_aload_n (k4 := 0) (by decide +kernel) rfl ?_
  refine j_iload_n (k4 := 3) (by decide +kernel) rfl ?_
  refine j_iconst (n := 1) (by decide +kernel) ?_
  refine j_iadd (by decide +kernel) ?_
  refine j_sld (lw_at hi hN (by decide) (by decide)) (by decide +kernel) ?_
  obtain ⟨fsx, hcx⟩ := lw_x hI
  refine J.room (kc := 0 + kc) (ks := 0 + ks) (j_callV (own := 13) (i := 107) (y2 := 109) (d2 := 2) (mc := 0) (ms := 0) (a := b0 + 0) (As := [.int (jsX g (i + Int32.ofInt 1).toNatClampNeg)]) (st := []) (by decide +kernel) lw_cls (by decide +kernel) (by decide) (by decide +kernel) (by decide +kernel) (by decide +kernel) (by decide +kernel) (by decide +kernel) (show 1 = jnp 109 by decide +kernel) (by decide) (by decide) hcx (fun r hr => by cases hr; decide +kernel) (lu_460 (hlow 460 _ rfl) (hI.ok []) hI.2.2.2.1 ⟨i32_lo _, i32_hi _⟩) (fun v h1 hq => ?_)) (by omega) (by omega)
  obtain ⟨x1, rfl, bk1, hI1, h61⟩ := lwP hI hq (by decide +kernel) (by decide +kernel) (by decide +kernel) (Int.le_refl n)
  refine j_pop (by decide +kernel) rfl ?_
  refine j_aload_n (k4 := 2) (by decide +kernel) rfl ?_
  refine j_aload_n (k4 := 0) (by decide +kernel) rfl ?_
  refine j_iload_n (k4 := 3) (by decide +kernel) rfl ?_
  refine j_iconst (n := 1) (by decide +kernel) ?_
  refine j_iadd (by decide +kernel) ?_
  refine j_sld (lw_at hi hN (by decide) (by decide)) (by decide +kernel) ?_
  obtain ⟨fsm, hcm⟩ := lw_m hI1
  refine J.room (kc := 0 + kc) (ks := 0 + ks) (j_callV (own := 13) (i := 110) (y2 := 275) (d2 := 3) (mc := 0) (ms := 0) (a := b1 + 0) (As := [.int (jsX g (i + Int32.ofInt 1).toNatClampNeg)]) (st := []) (by decide +kernel) lw_cls (by decide +kernel) (by decide) (by decide +kernel) (by decide +kernel) (by decide +kernel) (by decide +kernel) (by decide +kernel) (show 1 = jnp 275 by decide +kernel) (by decide) (by decide) hcm (fun r hr => by cases hr; decide +kernel) (lu_537 (hlow 537 _ rfl) (hI1.ok []) hI1.2.2.2.2.1 ⟨i32_lo _, i32_hi _⟩) (fun v h2 hq => ?_)) (by omega) (by omega)
  obtain ⟨x2, rfl, bk2, hI2, h62⟩ := lwP hI1 hq (by decide +kernel) (by decide +kernel) (by decide +kernel) (show n ≤ n + 40 by omega)
  refine j_pop (by decide +kernel) rfl ?_
  refine j_goto (off := 969) (tgt := 1983) (by decide +kernel) (by decide) ?_
  exact kk bk2 h2 hI2 (fun b hb => h62 b (h61 b hb))
theorem lu_485 (hk : kOK TTs g (EIm n) l Kx_485) {W0 : List aR} {bk0 bk : aB} {h0 h : jH} (hO : hOK TTs g (EIm n) W0 bk0 h0 bk h) {a0 : Nat} (ha0 : bk 0 = some a0) {x1 : Int32} (hx1 : (-2147483648 : Int) ≤ x1.toInt ∧ x1.toInt ≤ 2147483647) :
    jCal l g 110 3 [.ref (g.2.2 + (a0 + 0)), .int x1] h 0 0 (kPost TTs g (EIm n) Kx_485 bk h [x1.toInt]) := by
  refine hk bk h [.ref (g.2.2 + (a0 + 0)), .int x1] [x1.toInt] hO.1 hO.2.1 hO.2.2.1 hO.2.2.2.2.2 (show 2 ≤ jmx 110 by decide +kernel) rfl (fun q hq => ?_) ⟨⟨rfl, fun i e z he hz => ?_⟩, eFm_plain (plain_app (spEnv_plain _) clEnv_plain), fun F hF => absurd hF List.not_mem_nil, fun i v hv => ?_, trivial, fun q hq => ?_, fun B hB => absurd hB List.not_mem_nil⟩
  · have hq : q ∈ ([] : List (Nat × Int × Nat)) := hq
    exact absurd hq List.not_mem_nil
  · match i, he, hz with
    | 0, he, hz => cases he; cases hz; exact hx1
    | i + 1, he, _ => cases he
  · match i, hv with
    | 0, hv => cases hv; exact ⟨_, rfl, a0, ha0, rfl⟩
    | 1, hv => cases hv; exact ⟨_, rfl, x1, rfl, rfl⟩
    | i + 2, hv => cases hv
  · exact absurd hq List.not_mem_nil
theorem lu_648 (hk : kOK TTs g (EIm n) l Kx_648) {W0 : List aR} {bk0 bk : aB} {h0 h : jH} (hO : hOK TTs g (EIm n) W0 bk0 h0 bk h) {a1 : Nat} (ha1 : bk 1 = some a1) {x1 : Int32} (hx1 : (-2147483648 : Int) ≤ x1.toInt ∧ x1.toInt ≤ 2147483647) :
    jCal l g 276 2 [.ref (g.2.2 + (a1 + 0)), .int x1] h 0 0 (kPost TTs g (EIm n) Kx_648 bk h [x1.toInt]) := by
  refine hk bk h [.ref (g.2.2 + (a1 + 0)), .int x1] [x1.toInt] hO.1 hO.2.1 hO.2.2.1 hO.2.2.2.2.2 (show 2 ≤ jmx 276 by decide +kernel) rfl (fun q hq => ?_) ⟨⟨rfl, fun i e z he hz => ?_⟩, eFm_plain (plain_app (spEnv_plain _) clEnv_plain), fun F hF => absurd hF List.not_mem_nil, fun i v hv => ?_, trivial, fun q hq => ?_, fun B hB => absurd hB List.not_mem_nil⟩
  · have hq : q ∈ ([] : List (Nat × Int × Nat)) := hq
    exact absurd hq List.not_mem_nil
  · match i, he, hz with
    | 0, he, hz => cases he; cases hz; exact hx1
    | i + 1, he, _ => cases he
  · match i, hv with
    | 0, hv => cases hv; exact ⟨_, rfl, a1, ha1, rfl⟩
    | 1, hv => cases hv; exact ⟨_, rfl, x1, rfl, rfl⟩
    | 2, hv => cases hv
    | 3, hv => cases hv
    | 4, hv => cases hv
    | i + 5, hv => cases hv
  · exact absurd hq List.not_mem_nil
set_option maxRecDepth 16384 in
theorem lc_23 (hlow : ∀ (k : Nat) (K : aK), KTx[k]? = some K → kOK TTs g (EIm n) l K) {b0 b1 : Nat} {bk : aB} {h : jH} (hI : lwI g n b0 b1 bk h) {i : Int32} (hi : 0 ≤ i.toInt ∧ i.toInt + 6 ≤ (jsN g : Int)) (hN : jsN g ≤ 3072) {kc ks : Nat} {Q : Option Value → jH → Prop}
    (kk : ∀ bk' h', lwI g (n + 40) b0 b1 bk' h' → (∀ b, bk 6 = some b → bk' 6 = some b) → J l g 315 100 1983 (lwL g b0 b1 i) [] h' kc ks Q) : J l g 315 100 1017 (lwL g b0 b1 i) [] h kc ks Q := by
  refine j_aload_n (k4 := 1) (by decide +kernel) rfl ?_
  refine j_aload_n (k4 := 0) (by decide +kernel) rfl ?_
  refine j_iload_n (k4 := 3) (by decide +kernel) rfl ?_
  refine j_iconst (n := 1) (by decide +kernel) ?_
  refine j_iadd (by decide +kernel) ?_
  refine j_sld (lw_at hi hN (by decide) (by decide)) (by decide +kernel) ?_
  obtain ⟨fsx, hcx⟩ := lw_x hI
  refine J.room (kc := 0 + kc) (ks := 0 + ks) (j_callV (own := 13) (i := 111) (y2 := 110) (d2 := 3) (mc := 0) (ms := 0) (a := b0 + 0) (As := [.int (jsX g (i + Int32.ofInt 1).toNatClampNeg)]) (st := []) (by decide +kernel) lw_cls (by decide +kernel) (by decide) (by decide +kernel) (by decide +kernel) (by decide +kernel) (by decide +kernel) (by decide +kernel) (show 1 = jnp 110 by decide +kernel) (by decide) (by decide) hcx (fun r hr => by cases hr; decide +kernel) (lu_485 (hlow 485 _ rfl) (hI.ok []) hI.2.2.2.1 ⟨i32_lo _, i32_hi _⟩) (fun v h1 hq => ?_)) (by omega) (by omega)
  obtain ⟨x1, rfl, bk1, hI1, h61⟩ := lwP hI hq (by decide +kernel) (by decide +kernel) (by decide +kernel) (Int.le_refl n)
  refine j_pop (by decide +kernel) rfl ?_
  refine j_aload_n (k4 := 2) (by decide +kernel) rfl ?_
  refine j_aload_n (k4 := 0) (by decide +kernel) rfl ?_
  refine j_iload_n (k4 := 3) (by decide +kernel) rfl ?_
  refine j_iconst (n := 1) (by decide +kernel) ?_
  refine j_iadd (by decide +kernel) ?_
  refine j_sld (lw_at hi hN (by decide) (by decide)) (by decide +kernel) ?_
  obtain ⟨fsm, hcm⟩ := lw_m hI1
  refine J.room (kc := 0 + kc) (ks := 0 + ks) (j_callV (own := 13) (i := 114) (y2 := 276) (d2 := 2) (mc := 0) (ms := 0) (a := b1 + 0) (As := [.int (jsX g (i + Int32.ofInt 1).toNatClampNeg)]) (st := []) (by decide +kernel) lw_cls (by decide +kernel) (by decide) (by decide +kernel) (by decide +kernel) (by decide +kernel) (by decide +kernel) (by decide +kernel) (show 1 = jnp 276 by decide +kernel) (by decide) (by decide) hcm (fun r hr => by cases hr; decide +kernel) (lu_648 (hlow 648 _ rfl) (hI1.ok []) hI1.2.2.2.2.1 ⟨i32_lo _, i32_hi _⟩) (fun v h2 hq => ?_)) (by omega) (by omega)
  obtain ⟨x2, rfl, bk2, hI2, h62⟩ := lwP hI1 hq (by decide +kernel) (by decide +kernel) (by decide +kernel) (show n ≤ n + 40 by omega)
  refine j_pop (by decide +kernel) rfl ?_
  refine j_goto (off := 946) (tgt := 1983) (by decide +kernel) (by decide) ?_
  exact kk bk2 h2 hI2 (fun b hb => h62 b (h61 b hb))
theorem lu_464 (hk : kOK TTs g (EIm n) l Kx_464) {W0 : List aR} {bk0 bk : aB} {h0 h : jH} (hO : hOK TTs g (EIm n) W0 bk0 h0 bk h) {a0 : Nat} (ha0 : bk 0 = some a0) {x1 : Int32} (hx1 : (-2147483648 : Int) ≤ x1.toInt ∧ x1.toInt ≤ 2147483647) {x2 : Int32} (hx2 : (-2147483648 : Int) ≤ x2.toInt ∧ x2.toInt ≤ 2147483647) :
    jCal l g 112 2 [.ref (g.2.2 + (a0 + 0)), .int x1, .int x2] h 0 0 (kPost TTs g (EIm n) Kx_464 bk h [x1.toInt, x2.toInt]) := by
  refine hk bk h [.ref (g.2.2 + (a0 + 0)), .int x1, .int x2] [x1.toInt, x2.toInt] hO.1 hO.2.1 hO.2.2.1 hO.2.2.2.2.2 (show 3 ≤ jmx 112 by decide +kernel) rfl (fun q hq => ?_) ⟨⟨rfl, fun i e z he hz => ?_⟩, eFm_plain (plain_app (spEnv_plain _) clEnv_plain), fun F hF => absurd hF List.not_mem_nil, fun i v hv => ?_, trivial, fun q hq => ?_, fun B hB => absurd hB List.not_mem_nil⟩
  · have hq : q ∈ ([] : List (Nat × Int × Nat)) := hq
    exact absurd hq List.not_mem_nil
  · match i, he, hz with
    | 0, he, hz => cases he; cases hz; exact hx1
    | 1, he, hz => cases he; cases hz; exact hx2
    | i + 2, he, _ => cases he
  · match i, hv with
    | 0, hv => cases hv; exact ⟨_, rfl, a0, ha0, rfl⟩
    | 1, hv => cases hv; exact ⟨_, rfl, x1, rfl, rfl⟩
    | 2, hv => cases hv; exact ⟨_, rfl, x2, rfl, rfl⟩
    | i + 3, hv => cases hv
  · exact absurd hq List.not_mem_nil
theorem lu_611 (hk : kOK TTs g (EIm n) l Kx_611) {W0 : List aR} {bk0 bk : aB} {h0 h : jH} (hO : hOK TTs g (EIm n) W0 bk0 h0 bk h) {a1 : Nat} (ha1 : bk 1 = some a1) {x1 : Int32} (hx1 : (-2147483648 : Int) ≤ x1.toInt ∧ x1.toInt ≤ 2147483647) {x2 : Int32} (hx2 : (-2147483648 : Int) ≤ x2.toInt ∧ x2.toInt ≤ 2147483647) :
    jCal l g 277 2 [.ref (g.2.2 + (a1 + 0)), .int x1, .int x2] h 0 0 (kPost TTs g (EIm n) Kx_611 bk h [x1.toInt, x2.toInt]) := by
  refine hk bk h [.ref (g.2.2 + (a1 + 0)), .int x1, .int x2] [x1.toInt, x2.toInt] hO.1 hO.2.1 hO.2.2.1 hO.2.2.2.2.2 (show 3 ≤ jmx 277 by decide +kernel) rfl (fun q hq => ?_) ⟨⟨rfl, fun i e z he hz => ?_⟩, eFm_plain (plain_app (spEnv_plain _) clEnv_plain), fun F hF => absurd hF List.not_mem_nil, fun i v hv => ?_, trivial, fun q hq => ?_, fun B hB => absurd hB List.not_mem_nil⟩
  · have hq : q ∈ ([] : List (Nat × Int × Nat)) := hq
    exact absurd hq List.not_mem_nil
  · match i, he, hz with
    | 0, he, hz => cases he; cases hz; exact hx1
    | 1, he, hz => cases he; cases hz; exact hx2
    | i + 2, he, _ => cases he
  · match i, hv with
    | 0, hv => cases hv; exact ⟨_, rfl, a1, ha1, rfl⟩
    | 1, hv => cases hv; exact ⟨_, rfl, x1, rfl, rfl⟩
    | 2, hv => cases hv; exact ⟨_, rfl, x2, rfl, rfl⟩
    | i + 3, hv => cases hv
  · exact absurd hq List.not_mem_nil
set_option maxRecDepth 16384 in
theorem lc_24 (hlow : ∀ (k : Nat) (K : aK), KTx[k]? = some K → kOK TTs g (EIm n) l K) {b0 b1 : Nat} {bk : aB} {h : jH} (hI : lwI g n b0 b1 bk h) {i : Int32} (hi : 0 ≤ i.toInt ∧ i.toInt + 6 ≤ (jsN g : Int)) (hN : jsN g ≤ 3072) {kc ks : Nat} {Q : Option Value → jH → Prop}
    (kk : ∀ bk' h', lwI g (n + 40) b0 b1 bk' h' → (∀ b, bk 6 = some b → bk' 6 = some b) → J l g 315 100 1983 (lwL g b0 b1 i) [] h' kc ks Q) : J l g 315 100 1040 (lwL g b0 b1 i) [] h kc ks Q := by
  refine j_aload_n (k4 := 1) (by decide +kernel) rfl ?_
  refine j_aload_n (k4 := 0) (by decide +kernel) rfl ?_
  refine j_iload_n (k4 := 3) (by decide +kernel) rfl ?_
  refine j_iconst (n := 1) (by decide +kernel) ?_
  refine j_iadd (by decide +kernel) ?_
  refine j_sld (lw_at hi hN (by decide) (by decide)) (by decide +kernel) ?_
  refine j_aload_n (k4 := 0) (by decide +kernel) rfl ?_
  refine j_iload_n (k4 := 3) (by decide +kernel) rfl ?_
  refine j_iconst (n := 2) (by decide +kernel) ?_
  refine j_iadd (by decide +kernel) ?_
  refine j_sld (lw_at hi hN (by decide) (by decide)) (by decide +kernel) ?_
  obtain ⟨fsx, hcx⟩ := lw_x hI
  refine J.room (kc := 0 + kc) (ks := 0 + ks) (j_callV (own := 13) (i := 115) (y2 := 112) (d2 := 2) (mc := 0) (ms := 0) (a := b0 + 0) (As := [.int (jsX g (i + Int32.ofInt 1).toNatClampNeg), .int (jsX g (i + Int32.ofInt 2).toNatClampNeg)]) (st := []) (by decide +kernel) lw_cls (by decide +kernel) (by decide) (by decide +kernel) (by decide +kernel) (by decide +kernel) (by decide +kernel) (by decide +kernel) (show 2 = jnp 112 by decide +kernel) (by decide) (by decide) hcx (fun r hr => by cases hr; decide +kernel) (lu_464 (hlow 464 _ rfl) (hI.ok []) hI.2.2.2.1 ⟨i32_lo _, i32_hi _⟩ ⟨i32_lo _, i32_hi _⟩) (fun v h1 hq => ?_)) (by omega) (by omega)
  obtain ⟨x1, rfl, bk1, hI1, h61⟩ := lwP hI hq (by decide +kernel) (by decide +kernel) (by decide +kernel) (Int.le_refl n)
  refine j_pop (by decide +kernel) rfl ?_
  refine j_aload_n (k4 := 2) (by decide +kernel) rfl ?_
  refine j_aload_n (k4 := 0) (by decide +kernel) rfl ?_
  refine j_iload_n (k4 := 3) (by decide +kernel) rfl ?_
  refine j_iconst (n := 1) (by decide +kernel) ?_
  refine j_iadd (by decide +kernel) ?_
  refine j_sld (lw_at hi hN (by decide) (by decide)) (by decide +kernel) ?_
  refine j_aload_n (k4 := 0) (by decide +kernel) rfl ?_
  refine j_iload_n (k4 := 3) (by decide +kernel) rfl ?_
  refine j_iconst (n := 2) (by decide +kernel) ?_
  refine j_iadd (by decide +kernel) ?_
  refine j_sld (lw_at hi hN (by decide) (by decide)) (by decide +kernel) ?_
  obtain ⟨fsm, hcm⟩ := lw_m hI1
  refine J.room (kc := 0 + kc) (ks := 0 + ks) (j_callV (own := 13) (i := 118) (y2 := 277) (d2 := 2) (mc := 0) (ms := 0) (a := b1 + 0) (As := [.int (jsX g (i + Int32.ofInt 1).toNatClampNeg), .int (jsX g (i + Int32.ofInt 2).toNatClampNeg)]) (st := []) (by decide +kernel) lw_cls (by decide +kernel) (by decide) (by decide +kernel) (by decide +kernel) (by decide +kernel) (by decide +kernel) (by decide +kernel) (show 2 = jnp 277 by decide +kernel) (by decide) (by decide) hcm (fun r hr => by cases hr; decide +kernel) (lu_611 (hlow 611 _ rfl) (hI1.ok []) hI1.2.2.2.2.1 ⟨i32_lo _, i32_hi _⟩ ⟨i32_lo _, i32_hi _⟩) (fun v h2 hq => ?_)) (by omega) (by omega)
  obtain ⟨x2, rfl, bk2, hI2, h62⟩ := lwP hI1 hq (by decide +kernel) (by decide +kernel) (by decide +kernel) (show n ≤ n + 40 by omega)
  refine j_pop (by decide +kernel) rfl ?_
  refine j_goto (off := 913) (tgt := 1983) (by decide +kernel) (by decide) ?_
  exact kk bk2 h2 hI2 (fun b hb => h62 b (h61 b hb))
theorem lu_495 (hk : kOK TTs g (EIm n) l Kx_495) {W0 : List aR} {bk0 bk : aB} {h0 h : jH} (hO : hOK TTs g (EIm n) W0 bk0 h0 bk h) {a0 : Nat} (ha0 : bk 0 = some a0) {x1 : Int32} (hx1 : (-2147483648 : Int) ≤ x1.toInt ∧ x1.toInt ≤ 2147483647) {x2 : Int32} (hx2 : (-2147483648 : Int) ≤ x2.toInt ∧ x2.toInt ≤ 2147483647) :
    jCal l g 114 3 [.ref (g.2.2 + (a0 + 0)), .int x1, .int x2] h 0 0 (kPost TTs g (EIm n) Kx_495 bk h [x1.toInt, x2.toInt]) := by
  refine hk bk h [.ref (g.2.2 + (a0 + 0)), .int x1, .int x2] [x1.toInt, x2.toInt] hO.1 hO.2.1 hO.2.2.1 hO.2.2.2.2.2 (show 3 ≤ jmx 114 by decide +kernel) rfl (fun q hq => ?_) ⟨⟨rfl, fun i e z he hz => ?_⟩, eFm_plain (plain_app (spEnv_plain _) clEnv_plain), fun F hF => absurd hF List.not_mem_nil, fun i v hv => ?_, trivial, fun q hq => ?_, fun B hB => absurd hB List.not_mem_nil⟩
  · have hq : q ∈ ([] : List (Nat × Int × Nat)) := hq
    exact absurd hq List.not_mem_nil
  · match i, he, hz with
    | 0, he, hz => cases he; cases hz; exact hx1
    | 1, he, hz => cases he; cases hz; exact hx2
    | i + 2, he, _ => cases he
  · match i, hv with
    | 0, hv => cases hv; exact ⟨_, rfl, a0, ha0, rfl⟩
    | 1, hv => cases hv; exact ⟨_, rfl, x1, rfl, rfl⟩
    | 2, hv => cases hv; exact ⟨_, rfl, x2, rfl, rfl⟩
    | i + 3, hv => cases hv
  · exact absurd hq List.not_mem_nil
theorem lu_656 (hk : kOK TTs g (EIm n) l Kx_656) {W0 : List aR} {bk0 bk : aB} {h0 h : jH} (hO : hOK TTs g (EIm n) W0 bk0 h0 bk h) {a1 : Nat} (ha1 : bk 1 = some a1) {x1 : Int32} (hx1 : (-2147483648 : Int) ≤ x1.toInt ∧ x1.toInt ≤ 2147483647) {x2 : Int32} (hx2 : (-2147483648 : Int) ≤ x2.toInt ∧ x2.toInt ≤ 2147483647) :
    jCal l g 270 2 [.ref (g.2.2 + (a1 + 0)), .int x1, .int x2] h 0 0 (kPost TTs g (EIm n) Kx_656 bk h [x1.toInt, x2.toInt]) := by
  refine hk bk h [.ref (g.2.2 + (a1 + 0)), .int x1, .int x2] [x1.toInt, x2.toInt] hO.1 hO.2.1 hO.2.2.1 hO.2.2.2.2.2 (show 3 ≤ jmx 270 by decide +kernel) rfl (fun q hq => ?_) ⟨⟨rfl, fun i e z he hz => ?_⟩, eFm_plain (plain_app (spEnv_plain _) clEnv_plain), fun F hF => absurd hF List.not_mem_nil, fun i v hv => ?_, trivial, fun q hq => ?_, fun B hB => absurd hB List.not_mem_nil⟩
  · have hq : q ∈ ([] : List (Nat × Int × Nat)) := hq
    exact absurd hq List.not_mem_nil
  · match i, he, hz with
    | 0, he, hz => cases he; cases hz; exact hx1
    | 1, he, hz => cases he; cases hz; exact hx2
    | i + 2, he, _ => cases he
  · match i, hv with
    | 0, hv => cases hv; exact ⟨_, rfl, a1, ha1, rfl⟩
    | 1, hv => cases hv; exact ⟨_, rfl, x1, rfl, rfl⟩
    | 2, hv => cases hv; exact ⟨_, rfl, x2, rfl, rfl⟩
    | 3, hv => cases hv
    | 4, hv => cases hv
    | 5, hv => cases hv
    | i + 6, hv => cases hv
  · exact absurd hq List.not_mem_nil
set_option maxRecDepth 16384 in
theorem lc_25 (hlow : ∀ (k : Nat) (K : aK), KTx[k]? = some K → kOK TTs g (EIm n) l K) {b0 b1 : Nat} {bk : aB} {h : jH} (hI : lwI g n b0 b1 bk h) {i : Int32} (hi : 0 ≤ i.toInt ∧ i.toInt + 6 ≤ (jsN g : Int)) (hN : jsN g ≤ 3072) {kc ks : Nat} {Q : Option Value → jH → Prop}
    (kk : ∀ bk' h', lwI g (n + 40) b0 b1 bk' h' → (∀ b, bk 6 = some b → bk' 6 = some b) → J l g 315 100 1983 (lwL g b0 b1 i) [] h' kc ks Q) : J l g 315 100 1073 (lwL g b0 b1 i) [] h kc ks Q := by
  refine j_aload_n (k4 := 1) (by decide +kernel) rfl ?_
  refine j_aload_n (k4 := 0) (by decide +kernel) rfl ?_
  refine j_iload_n (k4 := 3) (by decide +kernel) rfl ?_
  refine j_iconst (n := 1) (by decide +kernel) ?_
  refine j_iadd (by decide +kernel) ?_
  refine j_sld (lw_at hi hN (by decide) (by decide)) (by decide +kernel) ?_
  refine j_aload_n (k4 := 0) (by decide +kernel) rfl ?_
  refine j_iload_n (k4 := 3) (by decide +kernel) rfl ?_
  refine j_iconst (n := 2) (by decide +kernel) ?_
  refine j_iadd (by decide +kernel) ?_
  refine j_sld (lw_at hi hN (by decide) (by decide)) (by decide +kernel) ?_
  obtain ⟨fsx, hcx⟩ := lw_x hI
  refine J.room (kc := 0 + kc) (ks := 0 + ks) (j_callV (own := 13) (i := 119) (y2 := 114) (d2 := 3) (mc := 0) (ms := 0) (a := b0 + 0) (As := [.int (jsX g (i + Int32.ofInt 1).toNatClampNeg), .int (jsX g (i + Int32.ofInt 2).toNatClampNeg)]) (st := []) (by decide +kernel) lw_cls (by decide +kernel) (by decide) (by decide +kernel) (by decide +kernel) (by decide +kernel) (by decide +kernel) (by decide +kernel) (show 2 = jnp 114 by decide +kernel) (by decide) (by decide) hcx (fun r hr => by cases hr; decide +kernel) (lu_495 (hlow 495 _ rfl) (hI.ok []) hI.2.2.2.1 ⟨i32_lo _, i32_hi _⟩ ⟨i32_lo _, i32_hi _⟩) (fun v h1 hq => ?_)) (by omega) (by omega)
  obtain ⟨x1, rfl, bk1, hI1, h61⟩ := lwP hI hq (by decide +kernel) (by decide +kernel) (by decide +kernel) (Int.le_refl n)
  refine j_pop (by decide +kernel) rfl ?_
  refine j_aload_n (k4 := 2) (by decide +kernel) rfl ?_
  refine j_aload_n (k4 := 0) (by decide +kernel) rfl ?_
  refine j_iload_n (k4 := 3) (by decide +kernel) rfl ?_
  refine j_iconst (n := 1) (by decide +kernel) ?_
  refine j_iadd (by decide +kernel) ?_
  refine j_sld (lw_at hi hN (by decide) (by decide)) (by decide +kernel) ?_
  refine j_aload_n (k4 := 0) (by decide +kernel) rfl ?_
  refine j_iload_n (k4 := 3) (by decide +kernel) rfl ?_
  refine j_iconst (n := 2) (by decide +kernel) ?_
  refine j_iadd (by decide +kernel) ?_
  refine j_sld (lw_at hi hN (by decide) (by decide)) (by decide +kernel) ?_
  obtain ⟨fsm, hcm⟩ := lw_m hI1
  refine J.room (kc := 0 + kc) (ks := 0 + ks) (j_callV (own := 13) (i := 122) (y2 := 270) (d2 := 2) (mc := 0) (ms := 0) (a := b1 + 0) (As := [.int (jsX g (i + Int32.ofInt 1).toNatClampNeg), .int (jsX g (i + Int32.ofInt 2).toNatClampNeg)]) (st := []) (by decide +kernel) lw_cls (by decide +kernel) (by decide) (by decide +kernel) (by decide +kernel) (by decide +kernel) (by decide +kernel) (by decide +kernel) (show 2 = jnp 270 by decide +kernel) (by decide) (by decide) hcm (fun r hr => by cases hr; decide +kernel) (lu_656 (hlow 656 _ rfl) (hI1.ok []) hI1.2.2.2.2.1 ⟨i32_lo _, i32_hi _⟩ ⟨i32_lo _, i32_hi _⟩) (fun v h2 hq => ?_)) (by omega) (by omega)
  obtain ⟨x2, rfl, bk2, hI2, h62⟩ := lwP hI1 hq (by decide +kernel) (by decide +kernel) (by decide +kernel) (show n ≤ n + 40 by omega)
  refine j_pop (by decide +kernel) rfl ?_
  refine j_goto (off := 880) (tgt := 1983) (by decide +kernel) (by decide) ?_
  exact kk bk2 h2 hI2 (fun b hb => h62 b (h61 b hb))
theorem lu_499 (hk : kOK TTs g (EIm n) l Kx_499) {W0 : List aR} {bk0 bk : aB} {h0 h : jH} (hO : hOK TTs g (EIm n) W0 bk0 h0 bk h) {a0 : Nat} (ha0 : bk 0 = some a0) {x1 : Int32} (hx1 : (-2147483648 : Int) ≤ x1.toInt ∧ x1.toInt ≤ 2147483647) :
    jCal l g 116 6 [.ref (g.2.2 + (a0 + 0)), .int x1] h 0 0 (kPost TTs g (EIm n) Kx_499 bk h [x1.toInt]) := by
  refine hk bk h [.ref (g.2.2 + (a0 + 0)), .int x1] [x1.toInt] hO.1 hO.2.1 hO.2.2.1 hO.2.2.2.2.2 (show 2 ≤ jmx 116 by decide +kernel) rfl (fun q hq => ?_) ⟨⟨rfl, fun i e z he hz => ?_⟩, eFm_plain (plain_app (spEnv_plain _) clEnv_plain), fun F hF => absurd hF List.not_mem_nil, fun i v hv => ?_, trivial, fun q hq => ?_, fun B hB => absurd hB List.not_mem_nil⟩
  · have hq : q ∈ ([] : List (Nat × Int × Nat)) := hq
    exact absurd hq List.not_mem_nil
  · match i, he, hz with
    | 0, he, hz => cases he; cases hz; exact hx1
    | i + 1, he, _ => cases he
  · match i, hv with
    | 0, hv => cases hv; exact ⟨_, rfl, a0, ha0, rfl⟩
    | 1, hv => cases hv; exact ⟨_, rfl, x1, rfl, rfl⟩
    | i + 2, hv => cases hv
  · exact absurd hq List.not_mem_nil
theorem lu_660 (hk : kOK TTs g (EIm n) l Kx_660) {W0 : List aR} {bk0 bk : aB} {h0 h : jH} (hO : hOK TTs g (EIm n) W0 bk0 h0 bk h) {a1 : Nat} (ha1 : bk 1 = some a1) {x1 : Int32} (hx1 : (-2147483648 : Int) ≤ x1.toInt ∧ x1.toInt ≤ 2147483647) :
    jCal l g 271 2 [.ref (g.2.2 + (a1 + 0)), .int x1] h 0 0 (kPost TTs g (EIm n) Kx_660 bk h [x1.toInt]) := by
  refine hk bk h [.ref (g.2.2 + (a1 + 0)), .int x1] [x1.toInt] hO.1 hO.2.1 hO.2.2.1 hO.2.2.2.2.2 (show 2 ≤ jmx 271 by decide +kernel) rfl (fun q hq => ?_) ⟨⟨rfl, fun i e z he hz => ?_⟩, eFm_plain (plain_app (spEnv_plain _) clEnv_plain), fun F hF => absurd hF List.not_mem_nil, fun i v hv => ?_, trivial, fun q hq => ?_, fun B hB => absurd hB List.not_mem_nil⟩
  · have hq : q ∈ ([] : List (Nat × Int × Nat)) := hq
    exact absurd hq List.not_mem_nil
  · match i, he, hz with
    | 0, he, hz => cases he; cases hz; exact hx1
    | i + 1, he, _ => cases he
  · match i, hv with
    | 0, hv => cases hv; exact ⟨_, rfl, a1, ha1, rfl⟩
    | 1, hv => cases hv; exact ⟨_, rfl, x1, rfl, rfl⟩
    | i + 2, hv => cases hv
  · exact absurd hq List.not_mem_nil
set_option maxRecDepth 16384 in
theorem lc_26 (hlow : ∀ (k : Nat) (K : aK), KTx[k]? = some K → kOK TTs g (EIm n) l K) {b0 b1 : Nat} {bk : aB} {h : jH} (hI : lwI g n b0 b1 bk h) {i : Int32} (hi : 0 ≤ i.toInt ∧ i.toInt + 6 ≤ (jsN g : Int)) (hN : jsN g ≤ 3072) {kc ks : Nat} {Q : Option Value → jH → Prop}
    (kk : ∀ bk' h', lwI g (n + 40) b0 b1 bk' h' → (∀ b, bk 6 = some b → bk' 6 = some b) → J l g 315 100 1983 (lwL g b0 b1 i) [] h' kc ks Q) : J l g 315 100 1106 (lwL g b0 b1 i) [] h kc ks Q := by
  refine j_aload_n (k4 := 1) (by decide +kernel) rfl ?_
  refine j_aload_n (k4 := 0) (by decide +kernel) rfl ?_
  refine j_iload_n (k4 := 3) (by decide +kernel) rfl ?_
  refine j_iconst (n := 1) (by decide +kernel) ?_
  refine j_iadd (by decide +kernel) ?_
  refine j_sld (lw_at hi hN (by decide) (by decide)) (by decide +kernel) ?_
  obtain ⟨fsx, hcx⟩ := lw_x hI
  refine J.room (kc := 0 + kc) (ks := 0 + ks) (j_callV (own := 13) (i := 123) (y2 := 116) (d2 := 6) (mc := 0) (ms := 0) (a := b0 + 0) (As := [.int (jsX g (i + Int32.ofInt 1).toNatClampNeg)]) (st := []) (by decide +kernel) lw_cls (by decide +kernel) (by decide) (by decide +kernel) (by decide +kernel) (by decide +kernel) (by decide +kernel) (by decide +kernel) (show 1 = jnp 116 by decide +kernel) (by decide) (by decide) hcx (fun r hr => by cases hr; decide +kernel) (lu_499 (hlow 499 _ rfl) (hI.ok []) hI.2.2.2.1 ⟨i32_lo _, i32_hi _⟩) (fun v h1 hq => ?_)) (by omega) (by omega)
  obtain ⟨x1, rfl, bk1, hI1, h61⟩ := lwP hI hq (by decide +kernel) (by decide +kernel) (by decide +kernel) (Int.le_refl n)
  refine j_pop (by decide +kernel) rfl ?_
  refine j_aload_n (k4 := 2) (by decide +kernel) rfl ?_
  refine j_aload_n (k4 := 0) (by decide +kernel) rfl ?_
  refine j_iload_n (k4 := 3) (by decide +kernel) rfl ?_
  refine j_iconst (n := 1) (by decide +kernel) ?_
  refine j_iadd (by decide +kernel) ?_
  refine j_sld (lw_at hi hN (by decide) (by decide)) (by decide +kernel) ?_
  obtain ⟨fsm, hcm⟩ := lw_m hI1
  refine J.room (kc := 0 + kc) (ks := 0 + ks) (j_callV (own := 13) (i := 126) (y2 := 271) (d2 := 2) (mc := 0) (ms := 0) (a := b1 + 0) (As := [.int (jsX g (i + Int32.ofInt 1).toNatClampNeg)]) (st := []) (by decide +kernel) lw_cls (by decide +kernel) (by decide) (by decide +kernel) (by decide +kernel) (by decide +kernel) (by decide +kernel) (by decide +kernel) (show 1 = jnp 271 by decide +kernel) (by decide) (by decide) hcm (fun r hr => by cases hr; decide +kernel) (lu_660 (hlow 660 _ rfl) (hI1.ok []) hI1.2.2.2.2.1 ⟨i32_lo _, i32_hi _⟩) (fun v h2 hq => ?_)) (by omega) (by omega)
  obtain ⟨x2, rfl, bk2, hI2, h62⟩ := lwP hI1 hq (by decide +kernel) (by decide +kernel) (by decide +kernel) (show n ≤ n + 40 by omega)
  refine j_pop (by decide +kernel) rfl ?_
  refine j_goto (off := 857) (tgt := 1983) (by decide +kernel) (by decide) ?_
  exact kk bk2 h2 hI2 (fun b hb => h62 b (h61 b hb))
theorem lu_501 (hk : kOK TTs g (EIm n) l Kx_501) {W0 : List aR} {bk0 bk : aB} {h0 h : jH} (hO : hOK TTs g (EIm n) W0 bk0 h0 bk h) {a0 : Nat} (ha0 : bk 0 = some a0)  :
    jCal l g 119 4 [.ref (g.2.2 + (a0 + 0))] h 0 0 (kPost TTs g (EIm n) Kx_501 bk h []) := by
  refine hk bk h [.ref (g.2.2 + (a0 + 0))] [] hO.1 hO.2.1 hO.2.2.1 hO.2.2.2.2.2 (show 1 ≤ jmx 119 by decide +kernel) rfl (fun q hq => ?_) ⟨⟨rfl, fun i e z he hz => ?_⟩, eFm_plain (plain_app (spEnv_plain _) clEnv_plain), fun F hF => absurd hF List.not_mem_nil, fun i v hv => ?_, trivial, fun q hq => ?_, fun B hB => absurd hB List.not_mem_nil⟩
  · have hq : q ∈ ([] : List (Nat × Int × Nat)) := hq
    exact absurd hq List.not_mem_nil
  · match i, he, hz with
    | i + 0, he, _ => cases he
  · match i, hv with
    | 0, hv => cases hv; exact ⟨_, rfl, a0, ha0, rfl⟩
    | i + 1, hv => cases hv
  · exact absurd hq List.not_mem_nil
theorem lu_662 (hk : kOK TTs g (EIm n) l Kx_662) {W0 : List aR} {bk0 bk : aB} {h0 h : jH} (hO : hOK TTs g (EIm n) W0 bk0 h0 bk h) {a1 : Nat} (ha1 : bk 1 = some a1)  :
    jCal l g 272 2 [.ref (g.2.2 + (a1 + 0))] h 0 0 (kPost TTs g (EIm n) Kx_662 bk h []) := by
  refine hk bk h [.ref (g.2.2 + (a1 + 0))] [] hO.1 hO.2.1 hO.2.2.1 hO.2.2.2.2.2 (show 1 ≤ jmx 272 by decide +kernel) rfl (fun q hq => ?_) ⟨⟨rfl, fun i e z he hz => ?_⟩, eFm_plain (plain_app (spEnv_plain _) clEnv_plain), fun F hF => absurd hF List.not_mem_nil, fun i v hv => ?_, trivial, fun q hq => ?_, fun B hB => absurd hB List.not_mem_nil⟩
  · have hq : q ∈ ([] : List (Nat × Int × Nat)) := hq
    exact absurd hq List.not_mem_nil
  · match i, he, hz with
    | i + 0, he, _ => cases he
  · match i, hv with
    | 0, hv => cases hv; exact ⟨_, rfl, a1, ha1, rfl⟩
    | 1, hv => cases hv
    | 2, hv => cases hv
    | 3, hv => cases hv
    | 4, hv => cases hv
    | i + 5, hv => cases hv
  · exact absurd hq List.not_mem_nil
set_option maxRecDepth 16384 in
theorem lc_27 (hlow : ∀ (k : Nat) (K : aK), KTx[k]? = some K → kOK TTs g (EIm n) l K) {b0 b1 : Nat} {bk : aB} {h : jH} (hI : lwI g n b0 b1 bk h) {i : Int32} (hi : 0 ≤ i.toInt ∧ i.toInt + 6 ≤ (jsN g : Int)) (hN : jsN g ≤ 3072) {kc ks : Nat} {Q : Option Value → jH → Prop}
    (kk : ∀ bk' h', lwI g (n + 40) b0 b1 bk' h' → (∀ b, bk 6 = some b → bk' 6 = some b) → J l g 315 100 1983 (lwL g b0 b1 i) [] h' kc ks Q) : J l g 315 100 1129 (lwL g b0 b1 i) [] h kc ks Q := by
  refine j_aload_n (k4 := 1) (by decide +kernel) rfl ?_
  obtain ⟨fsx, hcx⟩ := lw_x hI
  refine J.room (kc := 0 + kc) (ks := 0 + ks) (j_callV (own := 13) (i := 127) (y2 := 119) (d2 := 4) (mc := 0) (ms := 0) (a := b0 + 0) (As := []) (st := []) (by decide +kernel) lw_cls (by decide +kernel) (by decide) (by decide +kernel) (by decide +kernel) (by decide +kernel) (by decide +kernel) (by decide +kernel) (show 0 = jnp 119 by decide +kernel) (by decide) (by decide) hcx (fun r hr => by cases hr; decide +kernel) (lu_501 (hlow 501 _ rfl) (hI.ok []) hI.2.2.2.1) (fun v h1 hq => ?_)) (by omega) (by omega)
  obtain ⟨x1, rfl, bk1, hI1, h61⟩ := lwP hI hq (by decide +kernel) (by decide +kernel) (by decide +kernel) (Int.le_refl n)
  refine j_pop (by decide +kernel) rfl ?_
  refine j_aload_n (k4 := 2) (by decide +kernel) rfl ?_
  obtain ⟨fsm, hcm⟩ := lw_m hI1
  refine J.room (kc := 0 + kc) (ks := 0 + ks) (j_callV (own := 13) (i := 130) (y2 := 272) (d2 := 2) (mc := 0) (ms := 0) (a := b1 + 0) (As := []) (st := []) (by decide +kernel) lw_cls (by decide +kernel) (by decide) (by decide +kernel) (by decide +kernel) (by decide +kernel) (by decide +kernel) (by decide +kernel) (show 0 = jnp 272 by decide +kernel) (by decide) (by decide) hcm (fun r hr => by cases hr; decide +kernel) (lu_662 (hlow 662 _ rfl) (hI1.ok []) hI1.2.2.2.2.1) (fun v h2 hq => ?_)) (by omega) (by omega)
  obtain ⟨x2, rfl, bk2, hI2, h62⟩ := lwP hI1 hq (by decide +kernel) (by decide +kernel) (by decide +kernel) (show n ≤ n + 40 by omega)
  refine j_pop (by decide +kernel) rfl ?_
  refine j_goto (off := 844) (tgt := 1983) (by decide +kernel) (by decide) ?_
  exact kk bk2 h2 hI2 (fun b hb => h62 b (h61 b hb))
theorem lu_483 (hk : kOK TTs g (EIm n) l Kx_483) {W0 : List aR} {bk0 bk : aB} {h0 h : jH} (hO : hOK TTs g (EIm n) W0 bk0 h0 bk h) {a0 : Nat} (ha0 : bk 0 = some a0) {x1 : Int32} (hx1 : (-2147483648 : Int) ≤ x1.toInt ∧ x1.toInt ≤ 2147483647) :
    jCal l g 122 3 [.ref (g.2.2 + (a0 + 0)), .int x1] h 0 0 (kPost TTs g (EIm n) Kx_483 bk h [x1.toInt]) := by
  refine hk bk h [.ref (g.2.2 + (a0 + 0)), .int x1] [x1.toInt] hO.1 hO.2.1 hO.2.2.1 hO.2.2.2.2.2 (show 2 ≤ jmx 122 by decide +kernel) rfl (fun q hq => ?_) ⟨⟨rfl, fun i e z he hz => ?_⟩, eFm_plain (plain_app (spEnv_plain _) clEnv_plain), fun F hF => absurd hF List.not_mem_nil, fun i v hv => ?_, trivial, fun q hq => ?_, fun B hB => absurd hB List.not_mem_nil⟩
  · have hq : q ∈ ([] : List (Nat × Int × Nat)) := hq
    exact absurd hq List.not_mem_nil
  · match i, he, hz with
    | 0, he, hz => cases he; cases hz; exact hx1
    | i + 1, he, _ => cases he
  · match i, hv with
    | 0, hv => cases hv; exact ⟨_, rfl, a0, ha0, rfl⟩
    | 1, hv => cases hv; exact ⟨_, rfl, x1, rfl, rfl⟩
    | i + 2, hv => cases hv
  · exact absurd hq List.not_mem_nil
theorem lu_646 (hk : kOK TTs g (EIm n) l Kx_646) {W0 : List aR} {bk0 bk : aB} {h0 h : jH} (hO : hOK TTs g (EIm n) W0 bk0 h0 bk h) {a1 : Nat} (ha1 : bk 1 = some a1) {x1 : Int32} (hx1 : (-2147483648 : Int) ≤ x1.toInt ∧ x1.toInt ≤ 2147483647) :
    jCal l g 274 2 [.ref (g.2.2 + (a1 + 0)), .int x1] h 0 0 (kPost TTs g (EIm n) Kx_646 bk h [x1.toInt]) := by
  refine hk bk h [.ref (g.2.2 + (a1 + 0)), .int x1] [x1.toInt] hO.1 hO.2.1 hO.2.2.1 hO.2.2.2.2.2 (show 2 ≤ jmx 274 by decide +kernel) rfl (fun q hq => ?_) ⟨⟨rfl, fun i e z he hz => ?_⟩, eFm_plain (plain_app (spEnv_plain _) clEnv_plain), fun F hF => absurd hF List.not_mem_nil, fun i v hv => ?_, trivial, fun q hq => ?_, fun B hB => absurd hB List.not_mem_nil⟩
  · have hq : q ∈ ([] : List (Nat × Int × Nat)) := hq
    exact absurd hq List.not_mem_nil
  · match i, he, hz with
    | 0, he, hz => cases he; cases hz; exact hx1
    | i + 1, he, _ => cases he
  · match i, hv with
    | 0, hv => cases hv; exact ⟨_, rfl, a1, ha1, rfl⟩
    | 1, hv => cases hv; exact ⟨_, rfl, x1, rfl, rfl⟩
    | i + 2, hv => cases hv
  · exact absurd hq List.not_mem_nil
set_option maxRecDepth 16384 in
theorem lc_28 (hlow : ∀ (k : Nat) (K : aK), KTx[k]? = some K → kOK TTs g (EIm n) l K) {b0 b1 : Nat} {bk : aB} {h : jH} (hI : lwI g n b0 b1 bk h) {i : Int32} (hi : 0 ≤ i.toInt ∧ i.toInt + 6 ≤ (jsN g : Int)) (hN : jsN g ≤ 3072) {kc ks : Nat} {Q : Option Value → jH → Prop}
    (kk : ∀ bk' h', lwI g (n + 40) b0 b1 bk' h' → (∀ b, bk 6 = some b → bk' 6 = some b) → J l g 315 100 1983 (lwL g b0 b1 i) [] h' kc ks Q) : J l g 315 100 1142 (lwL g b0 b1 i) [] h kc ks Q := by
  refine j_aload_n (k4 := 1) (by decide +kernel) rfl ?_
  refine j_aload_n (k4 := 0) (by decide +kernel) rfl ?_
  refine j_iload_n (k4 := 3) (by decide +kernel) rfl ?_
  refine j_iconst (n := 1) (by decide +kernel) ?_
  refine j_iadd (by decide +kernel) ?_
  refine j_sld (lw_at hi hN (by decide) (by decide)) (by decide +kernel) ?_
  obtain ⟨fsx, hcx⟩ := lw_x hI
  refine J.room (kc := 0 + kc) (ks := 0 + ks) (j_callV (own := 13) (i := 131) (y2 := 122) (d2 := 3) (mc := 0) (ms := 0) (a := b0 + 0) (As := [.int (jsX g (i + Int32.ofInt 1).toNatClampNeg)]) (st := []) (by decide +kernel) lw_cls (by decide +kernel) (by decide) (by decide +kernel) (by decide +kernel) (by decide +kernel) (by decide +kernel) (by decide +kernel) (show 1 = jnp 122 by decide +kernel) (by decide) (by decide) hcx (fun r hr => by cases hr; decide +kernel) (lu_483 (hlow 483 _ rfl) (hI.ok []) hI.2.2.2.1 ⟨i32_lo _, i32_hi _⟩) (fun v h1 hq => ?_)) (by omega) (by omega)
  obtain ⟨x1, rfl, bk1, hI1, h61⟩ := lwP hI hq (by decide +kernel) (by decide +kernel) (by decide +kernel) (Int.le_refl n)
  refine j_pop (by decide +kernel) rfl ?_
  refine j_aload_n (k4 := 2) (by decide +kernel) rfl ?_
  refine j_aload_n (k4 := 0) (by decide +kernel) rfl ?_
  refine j_iload_n (k4 := 3) (by decide +kernel) rfl ?_
  refine j_iconst (n := 1) (by decide +kernel) ?_
  refine j_iadd (by decide +kernel) ?_
  refine j_sld (lw_at hi hN (by decide) (by decide)) (by decide +kernel) ?_
  obtain ⟨fsm, hcm⟩ := lw_m hI1
  refine J.room (kc := 0 + kc) (ks := 0 + ks) (j_callV (own := 13) (i := 134) (y2 := 274) (d2 := 2) (mc := 0) (ms := 0) (a := b1 + 0) (As := [.int (jsX g (i + Int32.ofInt 1).toNatClampNeg)]) (st := []) (by decide +kernel) lw_cls (by decide +kernel) (by decide) (by decide +kernel) (by decide +kernel) (by decide +kernel) (by decide +kernel) (by decide +kernel) (show 1 = jnp 274 by decide +kernel) (by decide) (by decide) hcm (fun r hr => by cases hr; decide +kernel) (lu_646 (hlow 646 _ rfl) (hI1.ok []) hI1.2.2.2.2.1 ⟨i32_lo _, i32_hi _⟩) (fun v h2 hq => ?_)) (by omega) (by omega)
  obtain ⟨x2, rfl, bk2, hI2, h62⟩ := lwP hI1 hq (by decide +kernel) (by decide +kernel) (by decide +kernel) (show n ≤ n + 40 by omega)
  refine j_pop (by decide +kernel) rfl ?_
  refine j_goto (off := 821) (tgt := 1983) (by decide +kernel) (by decide) ?_
  exact kk bk2 h2 hI2 (fun b hb => h62 b (h61 b hb))
theorem lu_475 (hk : kOK TTs g (EIm n) l Kx_475) {W0 : List aR} {bk0 bk : aB} {h0 h : jH} (hO : hOK TTs g (EIm n) W0 bk0 h0 bk h) {a0 : Nat} (ha0 : bk 0 = some a0) {x1 : Int32} (hx1 : (-2147483648 : Int) ≤ x1.toInt ∧ x1.toInt ≤ 2147483647) {x2 : Int32} (hx2 : (-2147483648 : Int) ≤ x2.toInt ∧ x2.toInt ≤ 2147483647) {x3 : Int32} (hx3 : (-2147483648 : Int) ≤ x3.toInt ∧ x3.toInt ≤ 2147483647) :
    jCal l g 125 2 [.ref (g.2.2 + (a0 + 0)), .int x1, .int x2, .int x3] h 0 0 (kPost TTs g (EIm n) Kx_475 bk h [x1.toInt, x2.toInt, x3.toInt]) := by
  refine hk bk h [.ref (g.2.2 + (a0 + 0)), .int x1, .int x2, .int x3] [x1.toInt, x2.toInt, x3.toInt] hO.1 hO.2.1 hO.2.2.1 hO.2.2.2.2.2 (show 4 ≤ jmx 125 by decide +kernel) rfl (fun q hq => ?_) ⟨⟨rfl, fun i e z he hz => ?_⟩, eFm_plain (plain_app (spEnv_plain _) clEnv_plain), fun F hF => absurd hF List.not_mem_nil, fun i v hv => ?_, trivial, fun q hq => ?_, fun B hB => absurd hB List.not_mem_nil⟩
  · have hq : q ∈ ([] : List (Nat × Int × Nat)) := hq
    exact absurd hq List.not_mem_nil
  · match i, he, hz with
    | 0, he, hz => cases he; cases hz; exact hx1
    | 1, he, hz => cases he; cases hz; exact hx2
    | 2, he, hz => cases he; cases hz; exact hx3
    | i + 3, he, _ => cases he
  · match i, hv with
    | 0, hv => cases hv; exact ⟨_, rfl, a0, ha0, rfl⟩
    | 1, hv => cases hv; exact ⟨_, rfl, x1, rfl, rfl⟩
    | 2, hv => cases hv; exact ⟨_, rfl, x2, rfl, rfl⟩
    | 3, hv => cases hv; exact ⟨_, rfl, x3, rfl, rfl⟩
    | i + 4, hv => cases hv
  · exact absurd hq List.not_mem_nil
theorem lu_633 (hk : kOK TTs g (EIm n) l Kx_633) {W0 : List aR} {bk0 bk : aB} {h0 h : jH} (hO : hOK TTs g (EIm n) W0 bk0 h0 bk h) {a1 : Nat} (ha1 : bk 1 = some a1) {x1 : Int32} (hx1 : (-2147483648 : Int) ≤ x1.toInt ∧ x1.toInt ≤ 2147483647) {x2 : Int32} (hx2 : (-2147483648 : Int) ≤ x2.toInt ∧ x2.toInt ≤ 2147483647) {x3 : Int32} (hx3 : (-2147483648 : Int) ≤ x3.toInt ∧ x3.toInt ≤ 2147483647) :
    jCal l g 278 3 [.ref (g.2.2 + (a1 + 0)), .int x1, .int x2, .int x3] h 0 0 (kPost TTs g (EIm n) Kx_633 bk h [x1.toInt, x2.toInt, x3.toInt]) := by
  refine hk bk h [.ref (g.2.2 + (a1 + 0)), .int x1, .int x2, .int x3] [x1.toInt, x2.toInt, x3.toInt] hO.1 hO.2.1 hO.2.2.1 hO.2.2.2.2.2 (show 4 ≤ jmx 278 by decide +kernel) rfl (fun q hq => ?_) ⟨⟨rfl, fun i e z he hz => ?_⟩, eFm_plain (plain_app (spEnv_plain _) clEnv_plain), fun F hF => absurd hF List.not_mem_nil, fun i v hv => ?_, trivial, fun q hq => ?_, fun B hB => absurd hB List.not_mem_nil⟩
  · have hq : q ∈ ([] : List (Nat × Int × Nat)) := hq
    exact absurd hq List.not_mem_nil
  · match i, he, hz with
    | 0, he, hz => cases he; cases hz; exact hx1
    | 1, he, hz => cases he; cases hz; exact hx2
    | 2, he, hz => cases he; cases hz; exact hx3
    | i + 3, he, _ => cases he
  · match i, hv with
    | 0, hv => cases hv; exact ⟨_, rfl, a1, ha1, rfl⟩
    | 1, hv => cases hv; exact ⟨_, rfl, x1, rfl, rfl⟩
    | 2, hv => cases hv; exact ⟨_, rfl, x2, rfl, rfl⟩
    | 3, hv => cases hv; exact ⟨_, rfl, x3, rfl, rfl⟩
    | 4, hv => cases hv
    | i + 5, hv => cases hv
  · exact absurd hq List.not_mem_nil
set_option maxRecDepth 16384 in
theorem lc_29 (hlow : ∀ (k : Nat) (K : aK), KTx[k]? = some K → kOK TTs g (EIm n) l K) {b0 b1 : Nat} {bk : aB} {h : jH} (hI : lwI g n b0 b1 bk h) {i : Int32} (hi : 0 ≤ i.toInt ∧ i.toInt + 6 ≤ (jsN g : Int)) (hN : jsN g ≤ 3072) {kc ks : Nat} {Q : Option Value → jH → Prop}
    (kk : ∀ bk' h', lwI g (n + 40) b0 b1 bk' h' → (∀ b, bk 6 = some b → bk' 6 = some b) → J l g 315 100 1983 (lwL g b0 b1 i) [] h' kc ks Q) : J l g 315 100 1165 (lwL g b0 b1 i) [] h kc ks Q := by
  refine j_aload_n (k4 := 1) (by decide +kernel) rfl ?_
  refine j_aload_n (k4 := 0) (by decide +kernel) rfl ?_
  refine j_iload_n (k4 := 3) (by decide +kernel) rfl ?_
  refine j_iconst (n := 1) (by decide +kernel) ?_
  refine j_iadd (by decide +kernel) ?_
  refine j_sld (lw_at hi hN (by decide) (by decide)) (by decide +kernel) ?_
  refine j_aload_n (k4 := 0) (by decide +kernel) rfl ?_
  refine j_iload_n (k4 := 3) (by decide +kernel) rfl ?_
  refine j_iconst (n := 2) (by decide +kernel) ?_
  refine j_iadd (by decide +kernel) ?_
  refine j_sld (lw_at hi hN (by decide) (by decide)) (by decide +kernel) ?_
  refine j_aload_n (k4 := 0) (by decide +kernel) rfl ?_
  refine j_iload_n (k4 := 3) (by decide +kernel) rfl ?_
  refine j_iconst (n := 3) (by decide +kernel) ?_
  refine j_iadd (by decide +kernel) ?_
  refine j_sld (lw_at hi hN (by decide) (by decide)) (by decide +kernel) ?_
  obtain ⟨fsx, hcx⟩ := lw_x hI
  refine J.room (kc := 0 + kc) (ks := 0 + ks) (j_callV (own := 13) (i := 135) (y2 := 125) (d2 := 2) (mc := 0) (ms := 0) (a := b0 + 0) (As := [.int (jsX g (i + Int32.ofInt 1).toNatClampNeg), .int (jsX g (i + Int32.ofInt 2).toNatClampNeg), .int (jsX g (i + Int32.ofInt 3).toNatClampNeg)]) (st := []) (by decide +kernel) lw_cls (by decide +kernel) (by decide) (by decide +kernel) (by decide +kernel) (by decide +kernel) (by decide +kernel) (by decide +kernel) (show 3 = jnp 125 by decide +kernel) (by decide) (by decide) hcx (fun r hr => by cases hr; decide +kernel) (lu_475 (hlow 475 _ rfl) (hI.ok []) hI.2.2.2.1 ⟨i32_lo _, i32_hi _⟩ ⟨i32_lo _, i32_hi _⟩ ⟨i32_lo _, i32_hi _⟩) (fun v h1 hq => ?_)) (by omega) (by omega)
  obtain ⟨x1, rfl, bk1, hI1, h61⟩ := lwP hI hq (by decide +kernel) (by decide +kernel) (by decide +kernel) (Int.le_refl n)
  refine j_pop (by decide +kernel) rfl ?_
  refine j_aload_n (k4 := 2) (by decide +kernel) rfl ?_
  refine j_aload_n (k4 := 0) (by decide +kernel) rfl ?_
  refine j_iload_n (k4 := 3) (by decide +kernel) rfl ?_
  refine j_iconst (n := 1) (by decide +kernel) ?_
  refine j_iadd (by decide +kernel) ?_
  refine j_sld (lw_at hi hN (by decide) (by decide)) (by decide +kernel) ?_
  refine j_aload_n (k4 := 0) (by decide +kernel) rfl ?_
  refine j_iload_n (k4 := 3) (by decide +kernel) rfl ?_
  refine j_iconst (n := 2) (by decide +kernel) ?_
  refine j_iadd (by decide +kernel) ?_
  refine j_sld (lw_at hi hN (by decide) (by decide)) (by decide +kernel) ?_
  refine j_aload_n (k4 := 0) (by decide +kernel) rfl ?_
  refine j_iload_n (k4 := 3) (by decide +kernel) rfl ?_
  refine j_iconst (n := 3) (by decide +kernel) ?_
  refine j_iadd (by decide +kernel) ?_
  refine j_sld (lw_at hi hN (by decide) (by decide)) (by decide +kernel) ?_
  obtain ⟨fsm, hcm⟩ := lw_m hI1
  refine J.room (kc := 0 + kc) (ks := 0 + ks) (j_callV (own := 13) (i := 138) (y2 := 278) (d2 := 3) (mc := 0) (ms := 0) (a := b1 + 0) (As := [.int (jsX g (i + Int32.ofInt 1).toNatClampNeg), .int (jsX g (i + Int32.ofInt 2).toNatClampNeg), .int (jsX g (i + Int32.ofInt 3).toNatClampNeg)]) (st := []) (by decide +kernel) lw_cls (by decide +kernel) (by decide) (by decide +kernel) (by decide +kernel) (by decide +kernel) (by decide +kernel) (by decide +kernel) (show 3 = jnp 278 by decide +kernel) (by decide) (by decide) hcm (fun r hr => by cases hr; decide +kernel) (lu_633 (hlow 633 _ rfl) (hI1.ok []) hI1.2.2.2.2.1 ⟨i32_lo _, i32_hi _⟩ ⟨i32_lo _, i32_hi _⟩ ⟨i32_lo _, i32_hi _⟩) (fun v h2 hq => ?_)) (by omega) (by omega)
  obtain ⟨x2, rfl, bk2, hI2, h62⟩ := lwP hI1 hq (by decide +kernel) (by decide +kernel) (by decide +kernel) (show n ≤ n + 40 by omega)
  refine j_pop (by decide +kernel) rfl ?_
  refine j_goto (off := 778) (tgt := 1983) (by decide +kernel) (by decide) ?_
  exact kk bk2 h2 hI2 (fun b hb => h62 b (h61 b hb))
theorem lu_497 (hk : kOK TTs g (EIm n) l Kx_497) {W0 : List aR} {bk0 bk : aB} {h0 h : jH} (hO : hOK TTs g (EIm n) W0 bk0 h0 bk h) {a0 : Nat} (ha0 : bk 0 = some a0) {x1 : Int32} (hx1 : (-2147483648 : Int) ≤ x1.toInt ∧ x1.toInt ≤ 2147483647) :
    jCal l g 128 2 [.ref (g.2.2 + (a0 + 0)), .int x1] h 0 0 (kPost TTs g (EIm n) Kx_497 bk h [x1.toInt]) := by
  refine hk bk h [.ref (g.2.2 + (a0 + 0)), .int x1] [x1.toInt] hO.1 hO.2.1 hO.2.2.1 hO.2.2.2.2.2 (show 2 ≤ jmx 128 by decide +kernel) rfl (fun q hq => ?_) ⟨⟨rfl, fun i e z he hz => ?_⟩, eFm_plain (plain_app (spEnv_plain _) clEnv_plain), fun F hF => absurd hF List.not_mem_nil, fun i v hv => ?_, trivial, fun q hq => ?_, fun B hB => absurd hB List.not_mem_nil⟩
  · have hq : q ∈ ([] : List (Nat × Int × Nat)) := hq
    exact absurd hq List.not_mem_nil
  · match i, he, hz with
    | 0, he, hz => cases he; cases hz; exact hx1
    | i + 1, he, _ => cases he
  · match i, hv with
    | 0, hv => cases hv; exact ⟨_, rfl, a0, ha0, rfl⟩
    | 1, hv => cases hv; exact ⟨_, rfl, x1, rfl, rfl⟩
    | 2, hv => cases hv
    | i + 3, hv => cases hv
  · exact absurd hq List.not_mem_nil
theorem lu_658 (hk : kOK TTs g (EIm n) l Kx_658) {W0 : List aR} {bk0 bk : aB} {h0 h : jH} (hO : hOK TTs g (EIm n) W0 bk0 h0 bk h) {a1 : Nat} (ha1 : bk 1 = some a1) {x1 : Int32} (hx1 : (-2147483648 : Int) ≤ x1.toInt ∧ x1.toInt ≤ 2147483647) :
    jCal l g 279 3 [.ref (g.2.2 + (a1 + 0)), .int x1] h 0 0 (kPost TTs g (EIm n) Kx_658 bk h [x1.toInt]) := by
  refine hk bk h [.ref (g.2.2 + (a1 + 0)), .int x1] [x1.toInt] hO.1 hO.2.1 hO.2.2.1 hO.2.2.2.2.2 (show 2 ≤ jmx 279 by decide +kernel) rfl (fun q hq => ?_) ⟨⟨rfl, fun i e z he hz => ?_⟩, eFm_plain (plain_app (spEnv_plain _) clEnv_plain), fun F hF => absurd hF List.not_mem_nil, fun i v hv => ?_, trivial, fun q hq => ?_, fun B hB => absurd hB List.not_mem_nil⟩
  · have hq : q ∈ ([] : List (Nat × Int × Nat)) := hq
    exact absurd hq List.not_mem_nil
  · match i, he, hz with
    | 0, he, hz => cases he; cases hz; exact hx1
    | i + 1, he, _ => cases he
  · match i, hv with
    | 0, hv => cases hv; exact ⟨_, rfl, a1, ha1, rfl⟩
    | 1, hv => cases hv; exact ⟨_, rfl, x1, rfl, rfl⟩
    | i + 2, hv => cases hv
  · exact absurd hq List.not_mem_nil
set_option maxRecDepth 16384 in
theorem lc_30 (hlow : ∀ (k : Nat) (K : aK), KTx[k]? = some K → kOK TTs g (EIm n) l K) {b0 b1 : Nat} {bk : aB} {h : jH} (hI : lwI g n b0 b1 bk h) {i : Int32} (hi : 0 ≤ i.toInt ∧ i.toInt + 6 ≤ (jsN g : Int)) (hN : jsN g ≤ 3072) {kc ks : Nat} {Q : Option Value → jH → Prop}
    (kk : ∀ bk' h', lwI g (n + 40) b0 b1 bk' h' → (∀ b, bk 6 = some b → bk' 6 = some b) → J l g 315 100 1983 (lwL g b0 b1 i) [] h' kc ks Q) : J l g 315 100 1208 (lwL g b0 b1 i) [] h kc ks Q := by
  refine j_aload_n (k4 := 1) (by decide +kernel) rfl ?_
  refine j_aload_n (k4 := 0) (by decide +kernel) rfl ?_
  refine j_iload_n (k4 := 3) (by decide +kernel) rfl ?_
  refine j_iconst (n := 1) (by decide +kernel) ?_
  refine j_iadd (by decide +kernel) ?_
  refine j_sld (lw_at hi hN (by decide) (by decide)) (by decide +kernel) ?_
  obtain ⟨fsx, hcx⟩ := lw_x hI
  refine J.room (kc := 0 + kc) (ks := 0 + ks) (j_callV (own := 13) (i := 139) (y2 := 128) (d2 := 2) (mc := 0) (ms := 0) (a := b0 + 0) (As := [.int (jsX g (i + Int32.ofInt 1).toNatClampNeg)]) (st := []) (by decide +kernel) lw_cls (by decide +kernel) (by decide) (by decide +kernel) (by decide +kernel) (by decide +kernel) (by decide +kernel) (by decide +kernel) (show 1 = jnp 128 by decide +kernel) (by decide) (by decide) hcx (fun r hr => by cases hr; decide +kernel) (lu_497 (hlow 497 _ rfl) (hI.ok []) hI.2.2.2.1 ⟨i32_lo _, i32_hi _⟩) (fun v h1 hq => ?_)) (by omega) (by omega)
  obtain ⟨x1, rfl, bk1, hI1, h61⟩ := lwP hI hq (by decide +kernel) (by decide +kernel) (by decide +kernel) (Int.le_refl n)
  refine j_pop (by decide +kernel) rfl ?_
  refine j_aload_n (k4 := 2) (by decide +kernel) rfl ?_
  refine j_aload_n (k4 := 0) (by decide +kernel) rfl ?_
  refine j_iload_n (k4 := 3) (by decide +kernel) rfl ?_
  refine j_iconst (n := 1) (by decide +kernel) ?_
  refine j_iadd (by decide +kernel) ?_
  refine j_sld (lw_at hi hN (by decide) (by decide)) (by decide +kernel) ?_
  obtain ⟨fsm, hcm⟩ := lw_m hI1
  refine J.room (kc := 0 + kc) (ks := 0 + ks) (j_callV (own := 13) (i := 142) (y2 := 279) (d2 := 3) (mc := 0) (ms := 0) (a := b1 + 0) (As := [.int (jsX g (i + Int32.ofInt 1).toNatClampNeg)]) (st := []) (by decide +kernel) lw_cls (by decide +kernel) (by decide) (by decide +kernel) (by decide +kernel) (by decide +kernel) (by decide +kernel) (by decide +kernel) (show 1 = jnp 279 by decide +kernel) (by decide) (by decide) hcm (fun r hr => by cases hr; decide +kernel) (lu_658 (hlow 658 _ rfl) (hI1.ok []) hI1.2.2.2.2.1 ⟨i32_lo _, i32_hi _⟩) (fun v h2 hq => ?_)) (by omega) (by omega)
  obtain ⟨x2, rfl, bk2, hI2, h62⟩ := lwP hI1 hq (by decide +kernel) (by decide +kernel) (by decide +kernel) (show n ≤ n + 40 by omega)
  refine j_pop (by decide +kernel) rfl ?_
  refine j_goto (off := 755) (tgt := 1983) (by decide +kernel) (by decide) ?_
  exact kk bk2 h2 hI2 (fun b hb => h62 b (h61 b hb))
theorem lu_492 (hk : kOK TTs g (EIm n) l Kx_492) {W0 : List aR} {bk0 bk : aB} {h0 h : jH} (hO : hOK TTs g (EIm n) W0 bk0 h0 bk h) {a0 : Nat} (ha0 : bk 0 = some a0) {x1 : Int32} (hx1 : (-2147483648 : Int) ≤ x1.toInt ∧ x1.toInt ≤ 2147483647) {x2 : Int32} (hx2 : (-2147483648 : Int) ≤ x2.toInt ∧ x2.toInt ≤ 2147483647) {x3 : Int32} (hx3 : (-2147483648 : Int) ≤ x3.toInt ∧ x3.toInt ≤ 2147483647) :
    jCal l g 130 2 [.ref (g.2.2 + (a0 + 0)), .int x1, .int x2, .int x3] h 0 0 (kPost TTs g (EIm n) Kx_492 bk h [x1.toInt, x2.toInt, x3.toInt]) := by
  refine hk bk h [.ref (g.2.2 + (a0 + 0)), .int x1, .int x2, .int x3] [x1.toInt, x2.toInt, x3.toInt] hO.1 hO.2.1 hO.2.2.1 hO.2.2.2.2.2 (show 4 ≤ jmx 130 by decide +kernel) rfl (fun q hq => ?_) ⟨⟨rfl, fun i e z he hz => ?_⟩, eFm_plain (plain_app (spEnv_plain _) clEnv_plain), fun F hF => absurd hF List.not_mem_nil, fun i v hv => ?_, trivial, fun q hq => ?_, fun B hB => absurd hB List.not_mem_nil⟩
  · have hq : q ∈ ([] : List (Nat × Int × Nat)) := hq
    exact absurd hq List.not_mem_nil
  · match i, he, hz with
    | 0, he, hz => cases he; cases hz; exact hx1
    | 1, he, hz => cases he; cases hz; exact hx2
    | 2, he, hz => cases he; cases hz; exact hx3
    | i + 3, he, _ => cases he
  · match i, hv with
    | 0, hv => cases hv; exact ⟨_, rfl, a0, ha0, rfl⟩
    | 1, hv => cases hv; exact ⟨_, rfl, x1, rfl, rfl⟩
    | 2, hv => cases hv; exact ⟨_, rfl, x2, rfl, rfl⟩
    | 3, hv => cases hv; exact ⟨_, rfl, x3, rfl, rfl⟩
    | i + 4, hv => cases hv
  · exact absurd hq List.not_mem_nil
theorem lu_653 (hk : kOK TTs g (EIm n) l Kx_653) {W0 : List aR} {bk0 bk : aB} {h0 h : jH} (hO : hOK TTs g (EIm n) W0 bk0 h0 bk h) {a1 : Nat} (ha1 : bk 1 = some a1) {x1 : Int32} (hx1 : (-2147483648 : Int) ≤ x1.toInt ∧ x1.toInt ≤ 2147483647) {x2 : Int32} (hx2 : (-2147483648 : Int) ≤ x2.toInt ∧ x2.toInt ≤ 2147483647) {x3 : Int32} (hx3 : (-2147483648 : Int) ≤ x3.toInt ∧ x3.toInt ≤ 2147483647) :
    jCal l g 280 3 [.ref (g.2.2 + (a1 + 0)), .int x1, .int x2, .int x3] h 0 0 (kPost TTs g (EIm n) Kx_653 bk h [x1.toInt, x2.toInt, x3.toInt]) := by
  refine hk bk h [.ref (g.2.2 + (a1 + 0)), .int x1, .int x2, .int x3] [x1.toInt, x2.toInt, x3.toInt] hO.1 hO.2.1 hO.2.2.1 hO.2.2.2.2.2 (show 4 ≤ jmx 280 by decide +kernel) rfl (fun q hq => ?_) ⟨⟨rfl, fun i e z he hz => ?_⟩, eFm_plain (plain_app (spEnv_plain _) clEnv_plain), fun F hF => absurd hF List.not_mem_nil, fun i v hv => ?_, trivial, fun q hq => ?_, fun B hB => absurd hB List.not_mem_nil⟩
  · have hq : q ∈ ([] : List (Nat × Int × Nat)) := hq
    exact absurd hq List.not_mem_nil
  · match i, he, hz with
    | 0, he, hz => cases he; cases hz; exact hx1
    | 1, he, hz => cases he; cases hz; exact hx2
    | 2, he, hz => cases he; cases hz; exact hx3
    | i + 3, he, _ => cases he
  · match i, hv with
    | 0, hv => cases hv; exact ⟨_, rfl, a1, ha1, rfl⟩
    | 1, hv => cases hv; exact ⟨_, rfl, x1, rfl, rfl⟩
    | 2, hv => cases hv; exact ⟨_, rfl, x2, rfl, rfl⟩
    | 3, hv => cases hv; exact ⟨_, rfl, x3, rfl, rfl⟩
    | i + 4, hv => cases hv
  · exact absurd hq List.not_mem_nil
set_option maxRecDepth 16384 in
theorem lc_31 (hlow : ∀ (k : Nat) (K : aK), KTx[k]? = some K → kOK TTs g (EIm n) l K) {b0 b1 : Nat} {bk : aB} {h : jH} (hI : lwI g n b0 b1 bk h) {i : Int32} (hi : 0 ≤ i.toInt ∧ i.toInt + 6 ≤ (jsN g : Int)) (hN : jsN g ≤ 3072) {kc ks : Nat} {Q : Option Value → jH → Prop}
    (kk : ∀ bk' h', lwI g (n + 40) b0 b1 bk' h' → (∀ b, bk 6 = some b → bk' 6 = some b) → J l g 315 100 1983 (lwL g b0 b1 i) [] h' kc ks Q) : J l g 315 100 1231 (lwL g b0 b1 i) [] h kc ks Q := by
  refine j_aload_n (k4 := 1) (by decide +kernel) rfl ?_
  refine j_aload_n (k4 := 0) (by decide +kernel) rfl ?_
  refine j_iload_n (k4 := 3) (by decide +kernel) rfl ?_
  refine j_iconst (n := 1) (by decide +kernel) ?_
  refine j_iadd (by decide +kernel) ?_
  refine j_sld (lw_at hi hN (by decide) (by decide)) (by decide +kernel) ?_
  refine j_aload_n (k4 := 0) (by decide +kernel) rfl ?_
  refine j_iload_n (k4 := 3) (by decide +kernel) rfl ?_
  refine j_iconst (n := 2) (by decide +kernel) ?_
  refine j_iadd (by decide +kernel) ?_
  refine j_sld (lw_at hi hN (by decide) (by decide)) (by decide +kernel) ?_
  refine j_aload_n (k4 := 0) (by decide +kernel) rfl ?_
  refine j_iload_n (k4 := 3) (by decide +kernel) rfl ?_
  refine j_iconst (n := 3) (by decide +kernel) ?_
  refine j_iadd (by decide +kernel) ?_
  refine j_sld (lw_at hi hN (by decide) (by decide)) (by decide +kernel) ?_
  obtain ⟨fsx, hcx⟩ := lw_x hI
  refine J.room (kc := 0 + kc) (ks := 0 + ks) (j_callV (own := 13) (i := 143) (y2 := 130) (d2 := 2) (mc := 0) (ms := 0) (a := b0 + 0) (As := [.int (jsX g (i + Int32.ofInt 1).toNatClampNeg), .int (jsX g (i + Int32.ofInt 2).toNatClampNeg), .int (jsX g (i + Int32.ofInt 3).toNatClampNeg)]) (st := []) (by decide +kernel) lw_cls (by decide +kernel) (by decide) (by decide +kernel) (by decide +kernel) (by decide +kernel) (by decide +kernel) (by decide +kernel) (show 3 = jnp 130 by decide +kernel) (by decide) (by decide) hcx (fun r hr => by cases hr; decide +kernel) (lu_492 (hlow 492 _ rfl) (hI.ok []) hI.2.2.2.1 ⟨i32_lo _, i32_hi _⟩ ⟨i32_lo _, i32_hi _⟩ ⟨i32_lo _, i32_hi _⟩) (fun v h1 hq => ?_)) (by omega) (by omega)
  obtain ⟨x1, rfl, bk1, hI1, h61⟩ := lwP hI hq (by decide +kernel) (by decide +kernel) (by decide +kernel) (Int.le_refl n)
  refine j_pop (by decide +kernel) rfl ?_
  refine j_aload_n (k4 := 2) (by decide +kernel) rfl ?_
  refine j_aload_n (k4 := 0) (by decide +kernel) rfl ?_
  refine j_iload_n (k4 := 3) (by decide +kernel) rfl ?_
  refine j_iconst (n := 1) (by decide +kernel) ?_
  refine j_iadd (by decide +kernel) ?_
  refine j_sld (lw_at hi hN (by decide) (by decide)) (by decide +kernel) ?_
  refine j_aload_n (k4 := 0) (by decide +kernel) rfl ?_
  refine j_iload_n (k4 := 3) (by decide +kernel) rfl ?_
  refine j_iconst (n := 2) (by decide +kernel) ?_
  refine j_iadd (by decide +kernel) ?_
  refine j_sld (lw_at hi hN (by decide) (by decide)) (by decide +kernel) ?_
  refine j_aload_n (k4 := 0) (by decide +kernel) rfl ?_
  refine j_iload_n (k4 := 3) (by decide +kernel) rfl ?_
  refine j_iconst (n := 3) (by decide +kernel) ?_
  refine j_iadd (by decide +kernel) ?_
  refine j_sld (lw_at hi hN (by decide) (by decide)) (by decide +kernel) ?_
  obtain ⟨fsm, hcm⟩ := lw_m hI1
  refine J.room (kc := 0 + kc) (ks := 0 + ks) (j_callV (own := 13) (i := 146) (y2 := 280) (d2 := 3) (mc := 0) (ms := 0) (a := b1 + 0) (As := [.int (jsX g (i + Int32.ofInt 1).toNatClampNeg), .int (jsX g (i + Int32.ofInt 2).toNatClampNeg), .int (jsX g (i + Int32.ofInt 3).toNatClampNeg)]) (st := []) (by decide +kernel) lw_cls (by decide +kernel) (by decide) (by decide +kernel) (by decide +kernel) (by decide +kernel) (by decide +kernel) (by decide +kernel) (show 3 = jnp 280 by decide +kernel) (by decide) (by decide) hcm (fun r hr => by cases hr; decide +kernel) (lu_653 (hlow 653 _ rfl) (hI1.ok []) hI1.2.2.2.2.1 ⟨i32_lo _, i32_hi _⟩ ⟨i32_lo _, i32_hi _⟩ ⟨i32_lo _, i32_hi _⟩) (fun v h2 hq => ?_)) (by omega) (by omega)
  obtain ⟨x2, rfl, bk2, hI2, h62⟩ := lwP hI1 hq (by decide +kernel) (by decide +kernel) (by decide +kernel) (show n ≤ n + 40 by omega)
  refine j_pop (by decide +kernel) rfl ?_
  refine j_goto (off := 712) (tgt := 1983) (by decide +kernel) (by decide) ?_
  exact kk bk2 h2 hI2 (fun b hb => h62 b (h61 b hb))
theorem lu_488 (hk : kOK TTs g (EIm n) l Kx_488) {W0 : List aR} {bk0 bk : aB} {h0 h : jH} (hO : hOK TTs g (EIm n) W0 bk0 h0 bk h) {a0 : Nat} (ha0 : bk 0 = some a0) {x1 : Int32} (hx1 : (-2147483648 : Int) ≤ x1.toInt ∧ x1.toInt ≤ 2147483647) {x2 : Int32} (hx2 : (-2147483648 : Int) ≤ x2.toInt ∧ x2.toInt ≤ 2147483647) {x3 : Int32} (hx3 : (-2147483648 : Int) ≤ x3.toInt ∧ x3.toInt ≤ 2147483647) :
    jCal l g 131 2 [.ref (g.2.2 + (a0 + 0)), .int x1, .int x2, .int x3] h 0 0 (kPost TTs g (EIm n) Kx_488 bk h [x1.toInt, x2.toInt, x3.toInt]) := by
  refine hk bk h [.ref (g.2.2 + (a0 + 0)), .int x1, .int x2, .int x3] [x1.toInt, x2.toInt, x3.toInt] hO.1 hO.2.1 hO.2.2.1 hO.2.2.2.2.2 (show 4 ≤ jmx 131 by decide +kernel) rfl (fun q hq => ?_) ⟨⟨rfl, fun i e z he hz => ?_⟩, eFm_plain (plain_app (spEnv_plain _) clEnv_plain), fun F hF => absurd hF List.not_mem_nil, fun i v hv => ?_, trivial, fun q hq => ?_, fun B hB => absurd hB List.not_mem_nil⟩
  · have hq : q ∈ ([] : List (Nat × Int × Nat)) := hq
    exact absurd hq List.not_mem_nil
  · match i, he, hz with
    | 0, he, hz => cases he; cases hz; exact hx1
    | 1, he, hz => cases he; cases hz; exact hx2
    | 2, he, hz => cases he; cases hz; exact hx3
    | i + 3, he, _ => cases he
  · match i, hv with
    | 0, hv => cases hv; exact ⟨_, rfl, a0, ha0, rfl⟩
    | 1, hv => cases hv; exact ⟨_, rfl, x1, rfl, rfl⟩
    | 2, hv => cases hv; exact ⟨_, rfl, x2, rfl, rfl⟩
    | 3, hv => cases hv; exact ⟨_, rfl, x3, rfl, rfl⟩
    | 4, hv => cases hv
    | i + 5, hv => cases hv
  · exact absurd hq List.not_mem_nil
theorem lu_649 (hk : kOK TTs g (EIm n) l Kx_649) {W0 : List aR} {bk0 bk : aB} {h0 h : jH} (hO : hOK TTs g (EIm n) W0 bk0 h0 bk h) {a1 : Nat} (ha1 : bk 1 = some a1) {x1 : Int32} (hx1 : (-2147483648 : Int) ≤ x1.toInt ∧ x1.toInt ≤ 2147483647) {x2 : Int32} (hx2 : (-2147483648 : Int) ≤ x2.toInt ∧ x2.toInt ≤ 2147483647) {x3 : Int32} (hx3 : (-2147483648 : Int) ≤ x3.toInt ∧ x3.toInt ≤ 2147483647) :
    jCal l g 281 3 [.ref (g.2.2 + (a1 + 0)), .int x1, .int x2, .int x3] h 0 0 (kPost TTs g (EIm n) Kx_649 bk h [x1.toInt, x2.toInt, x3.toInt]) := by
  refine hk bk h [.ref (g.2.2 + (a1 + 0)), .int x1, .int x2, .int x3] [x1.toInt, x2.toInt, x3.toInt] hO.1 hO.2.1 hO.2.2.1 hO.2.2.2.2.2 (show 4 ≤ jmx 281 by decide +kernel) rfl (fun q hq => ?_) ⟨⟨rfl, fun i e z he hz => ?_⟩, eFm_plain (plain_app (spEnv_plain _) clEnv_plain), fun F hF => absurd hF List.not_mem_nil, fun i v hv => ?_, trivial, fun q hq => ?_, fun B hB => absurd hB List.not_mem_nil⟩
  · have hq : q ∈ ([] : List (Nat × Int × Nat)) := hq
    exact absurd hq List.not_mem_nil
  · match i, he, hz with
    | 0, he, hz => cases he; cases hz; exact hx1
    | 1, he, hz => cases he; cases hz; exact hx2
    | 2, he, hz => cases he; cases hz; exact hx3
    | i + 3, he, _ => cases he
  · match i, hv with
    | 0, hv => cases hv; exact ⟨_, rfl, a1, ha1, rfl⟩
    | 1, hv => cases hv; exact ⟨_, rfl, x1, rfl, rfl⟩
    | 2, hv => cases hv; exact ⟨_, rfl, x2, rfl, rfl⟩
    | 3, hv => cases hv; exact ⟨_, rfl, x3, rfl, rfl⟩
    | 4, hv => cases hv
    | i + 5, hv => cases hv
  · exact absurd hq List.not_mem_nil
set_option maxRecDepth 16384 in
theorem lc_32 (hlow : ∀ (k : Nat) (K : aK), KTx[k]? = some K → kOK TTs g (EIm n) l K) {b0 b1 : Nat} {bk : aB} {h : jH} (hI : lwI g n b0 b1 bk h) {i : Int32} (hi : 0 ≤ i.toInt ∧ i.toInt + 6 ≤ (jsN g : Int)) (hN : jsN g ≤ 3072) {kc ks : Nat} {Q : Option Value → jH → Prop}
    (kk : ∀ bk' h', lwI g (n + 40) b0 b1 bk' h' → (∀ b, bk 6 = some b → bk' 6 = some b) → J l g 315 100 1983 (lwL g b0 b1 i) [] h' kc ks Q) : J l g 315 100 1274 (lwL g b0 b1 i) [] h kc ks Q := by
  refine j_aload_n (k4 := 1) (by decide +kernel) rfl ?_
  refine j_aload_n (k4 := 0) (by decide +kernel) rfl ?_
  refine j_iload_n (k4 := 3) (by decide +kernel) rfl ?_
  refine j_iconst (n := 1) (by decide +kernel) ?_
  refine j_iadd (by decide +kernel) ?_
  refine j_sld (lw_at hi hN (by decide) (by decide)) (by decide +kernel) ?_
  refine j_aload_n (k4 := 0) (by decide +kernel) rfl ?_
  refine j_iload_n (k4 := 3) (by decide +kernel) rfl ?_
  refine j_iconst (n := 2) (by decide +kernel) ?_
  refine j_iadd (by decide +kernel) ?_
  refine j_sld (lw_at hi hN (by decide) (by decide)) (by decide +kernel) ?_
  refine j_aload_n (k4 := 0) (by decide +kernel) rfl ?_
  refine j_iload_n (k4 := 3) (by decide +kernel) rfl ?_
  refine j_iconst (n := 3) (by decide +kernel) ?_
  refine j_iadd (by decide +kernel) ?_
  refine j_sld (lw_at hi hN (by decide) (by decide)) (by decide +kernel) ?_
  obtain ⟨fsx, hcx⟩ := lw_x hI
  refine J.room (kc := 0 + kc) (ks := 0 + ks) (j_callV (own := 13) (i := 147) (y2 := 131) (d2 := 2) (mc := 0) (ms := 0) (a := b0 + 0) (As := [.int (jsX g (i + Int32.ofInt 1).toNatClampNeg), .int (jsX g (i + Int32.ofInt 2).toNatClampNeg), .int (jsX g (i + Int32.ofInt 3).toNatClampNeg)]) (st := []) (by decide +kernel) lw_cls (by decide +kernel) (by decide) (by decide +kernel) (by decide +kernel) (by decide +kernel) (by decide +kernel) (by decide +kernel) (show 3 = jnp 131 by decide +kernel) (by decide) (by decide) hcx (fun r hr => by cases hr; decide +kernel) (lu_488 (hlow 488 _ rfl) (hI.ok []) hI.2.2.2.1 ⟨i32_lo _, i32_hi _⟩ ⟨i32_lo _, i32_hi _⟩ ⟨i32_lo _, i32_hi _⟩) (fun v h1 hq => ?_)) (by omega) (by omega)
  obtain ⟨x1, rfl, bk1, hI1, h61⟩ := lwP hI hq (by decide +kernel) (by decide +kernel) (by decide +kernel) (Int.le_refl n)
  refine j_pop (by decide +kernel) rfl ?_
  refine j_aload_n (k4 := 2) (by decide +kernel) rfl ?_
  refine j_aload_n (k4 := 0) (by decide +kernel) rfl ?_
  refine j_iload_n (k4 := 3) (by decide +kernel) rfl ?_
  refine j_iconst (n := 1) (by decide +kernel) ?_
  refine j_iadd (by decide +kernel) ?_
  refine j_sld (lw_at hi hN (by decide) (by decide)) (by decide +kernel) ?_
  refine j_aload_n (k4 := 0) (by decide +kernel) rfl ?_
  refine j_iload_n (k4 := 3) (by decide +kernel) rfl ?_
  refine j_iconst (n := 2) (by decide +kernel) ?_
  refine j_iadd (by decide +kernel) ?_
  refine j_sld (lw_at hi hN (by decide) (by decide)) (by decide +kernel) ?_
  refine j_aload_n (k4 := 0) (by decide +kernel) rfl ?_
  refine j_iload_n (k4 := 3) (by decide +kernel) rfl ?_
  refine j_iconst (n := 3) (by decide +kernel) ?_
  refine j_iadd (by decide +kernel) ?_
  refine j_sld (lw_at hi hN (by decide) (by decide)) (by decide +kernel) ?_
  obtain ⟨fsm, hcm⟩ := lw_m hI1
  refine J.room (kc := 0 + kc) (ks := 0 + ks) (j_callV (own := 13) (i := 150) (y2 := 281) (d2 := 3) (mc := 0) (ms := 0) (a := b1 + 0) (As := [.int (jsX g (i + Int32.ofInt 1).toNatClampNeg), .int (jsX g (i + Int32.ofInt 2).toNatClampNeg), .int (jsX g (i + Int32.ofInt 3).toNatClampNeg)]) (st := []) (by decide +kernel) lw_cls (by decide +kernel) (by decide) (by decide +kernel) (by decide +kernel) (by decide +kernel) (by decide +kernel) (by decide +kernel) (show 3 = jnp 281 by decide +kernel) (by decide) (by decide) hcm (fun r hr => by cases hr; decide +kernel) (lu_649 (hlow 649 _ rfl) (hI1.ok []) hI1.2.2.2.2.1 ⟨i32_lo _, i32_hi _⟩ ⟨i32_lo _, i32_hi _⟩ ⟨i32_lo _, i32_hi _⟩) (fun v h2 hq => ?_)) (by omega) (by omega)
  obtain ⟨x2, rfl, bk2, hI2, h62⟩ := lwP hI1 hq (by decide +kernel) (by decide +kernel) (by decide +kernel) (show n ≤ n + 40 by omega)
  refine j_pop (by decide +kernel) rfl ?_
  refine j_goto (off := 669) (tgt := 1983) (by decide +kernel) (by decide) ?_
  exact kk bk2 h2 hI2 (fun b hb => h62 b (h61 b hb))
theorem lu_447 (hk : kOK TTs g (EIm n) l Kx_447) {W0 : List aR} {bk0 bk : aB} {h0 h : jH} (hO : hOK TTs g (EIm n) W0 bk0 h0 bk h) {a0 : Nat} (ha0 : bk 0 = some a0)  :
    jCal l g 154 2 [.ref (g.2.2 + (a0 + 0))] h 0 0 (kPost TTs g (EIm n) Kx_447 bk h []) := by
  refine hk bk h [.ref (g.2.2 + (a0 + 0))] [] hO.1 hO.2.1 hO.2.2.1 hO.2.2.2.2.2 (show 1 ≤ jmx 154 by decide +kernel) rfl (fun q hq => ?_) ⟨⟨rfl, fun i e z he hz => ?_⟩, eFm_plain (plain_app (spEnv_plain _) clEnv_plain), fun F hF => absurd hF List.not_mem_nil, fun i v hv => ?_, trivial, fun q hq => ?_, fun B hB => absurd hB List.not_mem_nil⟩
  · have hq : q ∈ ([] : List (Nat × Int × Nat)) := hq
    exact absurd hq List.not_mem_nil
  · match i, he, hz with
    | i + 0, he, _ => cases he
  · match i, hv with
    | 0, hv => cases hv; exact ⟨_, rfl, a0, ha0, rfl⟩
    | 1, hv => cases hv
    | i + 2, hv => cases hv
  · exact absurd hq List.not_mem_nil
theorem lu_520 (hk : kOK TTs g (EIm n) l Kx_520) {W0 : List aR} {bk0 bk : aB} {h0 h : jH} (hO : hOK TTs g (EIm n) W0 bk0 h0 bk h) {a1 : Nat} (ha1 : bk 1 = some a1)  :
    jCal l g 282 1 [.ref (g.2.2 + (a1 + 0))] h 0 0 (kPost TTs g (EIm n) Kx_520 bk h []) := by
  refine hk bk h [.ref (g.2.2 + (a1 + 0))] [] hO.1 hO.2.1 hO.2.2.1 hO.2.2.2.2.2 (show 1 ≤ jmx 282 by decide +kernel) rfl (fun q hq => ?_) ⟨⟨rfl, fun i e z he hz => ?_⟩, eFm_plain (plain_app (spEnv_plain _) clEnv_plain), fun F hF => absurd hF List.not_mem_nil, fun i v hv => ?_, trivial, fun q hq => ?_, fun B hB => absurd hB List.not_mem_nil⟩
  · have hq : q ∈ ([] : List (Nat × Int × Nat)) := hq
    exact absurd hq List.not_mem_nil
  · match i, he, hz with
    | i + 0, he, _ => cases he
  · match i, hv with
    | 0, hv => cases hv; exact ⟨_, rfl, a1, ha1, rfl⟩
    | 1, hv => cases hv
    | i + 2, hv => cases hv
  · exact absurd hq List.not_mem_nil
set_option maxRecDepth 16384 in
theorem lc_35 (hlow : ∀ (k : Nat) (K : aK), KTx[k]? = some K → kOK TTs g (EIm n) l K) {b0 b1 : Nat} {bk : aB} {h : jH} (hI : lwI g n b0 b1 bk h) {i : Int32} (hi : 0 ≤ i.toInt ∧ i.toInt + 6 ≤ (jsN g : Int)) (hN : jsN g ≤ 3072) {kc ks : Nat} {Q : Option Value → jH → Prop}
    (kk : ∀ bk' h', lwI g (n + 40) b0 b1 bk' h' → (∀ b, bk 6 = some b → bk' 6 = some b) → J l g 315 100 1983 (lwL g b0 b1 i) [] h' kc ks Q) : J l g 315 100 1373 (lwL g b0 b1 i) [] h kc ks Q := by
  refine j_aload_n (k4 := 1) (by decide +kernel) rfl ?_
  obtain ⟨fsx, hcx⟩ := lw_x hI
  refine J.room (kc := 0 + kc) (ks := 0 + ks) (j_callV (own := 13) (i := 159) (y2 := 154) (d2 := 2) (mc := 0) (ms := 0) (a := b0 + 0) (As := []) (st := []) (by decide +kernel) lw_cls (by decide +kernel) (by decide) (by decide +kernel) (by decide +kernel) (by decide +kernel) (by decide +kernel) (by decide +kernel) (show 0 = jnp 154 by decide +kernel) (by decide) (by decide) hcx (fun r hr => by cases hr; decide +kernel) (lu_447 (hlow 447 _ rfl) (hI.ok []) hI.2.2.2.1) (fun v h1 hq => ?_)) (by omega) (by omega)
  obtain ⟨x1, rfl, bk1, hI1, h61⟩ := lwP hI hq (by decide +kernel) (by decide +kernel) (by decide +kernel) (Int.le_refl n)
  refine j_pop (by decide +kernel) rfl ?_
  refine j_aload_n (k4 := 2) (by decide +kernel) rfl ?_
  obtain ⟨fsm, hcm⟩ := lw_m hI1
  refine J.room (kc := 0 + kc) (ks := 0 + ks) (j_callV (own := 13) (i := 162) (y2 := 282) (d2 := 1) (mc := 0) (ms := 0) (a := b1 + 0) (As := []) (st := []) (by decide +kernel) lw_cls (by decide +kernel) (by decide) (by decide +kernel) (by decide +kernel) (by decide +kernel) (by decide +kernel) (by decide +kernel) (show 0 = jnp 282 by decide +kernel) (by decide) (by decide) hcm (fun r hr => by cases hr; decide +kernel) (lu_520 (hlow 520 _ rfl) (hI1.ok []) hI1.2.2.2.2.1) (fun v h2 hq => ?_)) (by omega) (by omega)
  obtain ⟨x2, rfl, bk2, hI2, h62⟩ := lwP hI1 hq (by decide +kernel) (by decide +kernel) (by decide +kernel) (show n ≤ n + 40 by omega)
  refine j_pop (by decide +kernel) rfl ?_
  refine j_goto (off := 600) (tgt := 1983) (by decide +kernel) (by decide) ?_
  exact kk bk2 h2 hI2 (fun b hb => h62 b (h61 b hb))
theorem lu_458 (hk : kOK TTs g (EIm n) l Kx_458) {W0 : List aR} {bk0 bk : aB} {h0 h : jH} (hO : hOK TTs g (EIm n) W0 bk0 h0 bk h) {a0 : Nat} (ha0 : bk 0 = some a0) {x1 : Int32} (hx1 : (-2147483648 : Int) ≤ x1.toInt ∧ x1.toInt ≤ 2147483647) {x2 : Int32} (hx2 : (-2147483648 : Int) ≤ x2.toInt ∧ x2.toInt ≤ 2147483647) {x3 : Int32} (hx3 : (-2147483648 : Int) ≤ x3.toInt ∧ x3.toInt ≤ 2147483647) :
    jCal l g 156 2 [.ref (g.2.2 + (a0 + 0)), .int x1, .int x2, .int x3] h 0 0 (kPost TTs g (EIm n) Kx_458 bk h [x1.toInt, x2.toInt, x3.toInt]) := by
  refine hk bk h [.ref (g.2.2 + (a0 + 0)), .int x1, .int x2, .int x3] [x1.toInt, x2.toInt, x3.toInt] hO.1 hO.2.1 hO.2.2.1 hO.2.2.2.2.2 (show 4 ≤ jmx 156 by decide +kernel) rfl (fun q hq => ?_) ⟨⟨rfl, fun i e z he hz => ?_⟩, eFm_plain (plain_app (spEnv_plain _) clEnv_plain), fun F hF => absurd hF List.not_mem_nil, fun i v hv => ?_, trivial, fun q hq => ?_, fun B hB => absurd hB List.not_mem_nil⟩
  · have hq : q ∈ ([] : List (Nat × Int × Nat)) := hq
    exact absurd hq List.not_mem_nil
  · match i, he, hz with
    | 0, he, hz => cases he; cases hz; exact hx1
    | 1, he, hz => cases he; cases hz; exact hx2
    | 2, he, hz => cases he; cases hz; exact hx3
    | i + 3, he, _ => cases he
  · match i, hv with
    | 0, hv => cases hv; exact ⟨_, rfl, a0, ha0, rfl⟩
    | 1, hv => cases hv; exact ⟨_, rfl, x1, rfl, rfl⟩
    | 2, hv => cases hv; exact ⟨_, rfl, x2, rfl, rfl⟩
    | 3, hv => cases hv; exact ⟨_, rfl, x3, rfl, rfl⟩
    | i + 4, hv => cases hv
  · exact absurd hq List.not_mem_nil
theorem lu_534 (hk : kOK TTs g (EIm n) l Kx_534) {W0 : List aR} {bk0 bk : aB} {h0 h : jH} (hO : hOK TTs g (EIm n) W0 bk0 h0 bk h) {a1 : Nat} (ha1 : bk 1 = some a1) {x1 : Int32} (hx1 : (-2147483648 : Int) ≤ x1.toInt ∧ x1.toInt ≤ 2147483647) {x2 : Int32} (hx2 : (-2147483648 : Int) ≤ x2.toInt ∧ x2.toInt ≤ 2147483647) {x3 : Int32} (hx3 : (-2147483648 : Int) ≤ x3.toInt ∧ x3.toInt ≤ 2147483647) :
    jCal l g 292 3 [.ref (g.2.2 + (a1 + 0)), .int x1, .int x2, .int x3] h 0 0 (kPost TTs g (EIm n) Kx_534 bk h [x1.toInt, x2.toInt, x3.toInt]) := by
  refine hk bk h [.ref (g.2.2 + (a1 + 0)), .int x1, .int x2, .int x3] [x1.toInt, x2.toInt, x3.toInt] hO.1 hO.2.1 hO.2.2.1 hO.2.2.2.2.2 (show 4 ≤ jmx 292 by decide +kernel) rfl (fun q hq => ?_) ⟨⟨rfl, fun i e z he hz => ?_⟩, eFm_plain (plain_app (spEnv_plain _) clEnv_plain), fun F hF => absurd hF List.not_mem_nil, fun i v hv => ?_, trivial, fun q hq => ?_, fun B hB => absurd hB List.not_mem_nil⟩
  · have hq : q ∈ ([] : List (Nat × Int × Nat)) := hq
    exact absurd hq List.not_mem_nil
  · match i, he, hz with
    | 0, he, hz => cases he; cases hz; exact hx1
    | 1, he, hz => cases he; cases hz; exact hx2
    | 2, he, hz => cases he; cases hz; exact hx3
    | i + 3, he, _ => cases he
  · match i, hv with
    | 0, hv => cases hv; exact ⟨_, rfl, a1, ha1, rfl⟩
    | 1, hv => cases hv; exact ⟨_, rfl, x1, rfl, rfl⟩
    | 2, hv => cases hv; exact ⟨_, rfl, x2, rfl, rfl⟩
    | 3, hv => cases hv; exact ⟨_, rfl, x3, rfl, rfl⟩
    | 4, hv => cases hv
    | i + 5, hv => cases hv
  · exact absurd hq List.not_mem_nil
set_option maxRecDepth 16384 in
theorem lc_36 (hlow : ∀ (k : Nat) (K : aK), KTx[k]? = some K → kOK TTs g (EIm n) l K) {b0 b1 : Nat} {bk : aB} {h : jH} (hI : lwI g n b0 b1 bk h) {i : Int32} (hi : 0 ≤ i.toInt ∧ i.toInt + 6 ≤ (jsN g : Int)) (hN : jsN g ≤ 3072) {kc ks : Nat} {Q : Option Value → jH → Prop}
    (kk : ∀ bk' h', lwI g (n + 40) b0 b1 bk' h' → (∀ b, bk 6 = some b → bk' 6 = some b) → J l g 315 100 1983 (lwL g b0 b1 i) [] h' kc ks Q) : J l g 315 100 1386 (lwL g b0 b1 i) [] h kc ks Q := by
  refine j_aload_n (k4 := 1) (by decide +kernel) rfl ?_
  refine j_aload_n (k4 := 0) (by decide +kernel) rfl ?_
  refine j_iload_n (k4 := 3) (by decide +kernel) rfl ?_
  refine j_iconst (n := 1) (by decide +kernel) ?_
  refine j_iadd (by decide +kernel) ?_
  refine j_sld (lw_at hi hN (by decide) (by decide)) (by decide +kernel) ?_
  refine j_aload_n (k4 := 0) (by decide +kernel) rfl ?_
  refine j_iload_n (k4 := 3) (by decide +kernel) rfl ?_
  refine j_iconst (n := 2) (by decide +kernel) ?_
  refine j_iadd (by decide +kernel) ?_
  refine j_sld (lw_at hi hN (by decide) (by decide)) (by decide +kernel) ?_
  refine j_aload_n (k4 := 0) (by decide +kernel) rfl ?_
  refine j_iload_n (k4 := 3) (by decide +kernel) rfl ?_
  refine j_iconst (n := 3) (by decide +kernel) ?_
  refine j_iadd (by decide +kernel) ?_
  refine j_sld (lw_at hi hN (by decide) (by decide)) (by decide +kernel) ?_
  obtain ⟨fsx, hcx⟩ := lw_x hI
  refine J.room (kc := 0 + kc) (ks := 0 + ks) (j_callV (own := 13) (i := 163) (y2 := 156) (d2 := 2) (mc := 0) (ms := 0) (a := b0 + 0) (As := [.int (jsX g (i + Int32.ofInt 1).toNatClampNeg), .int (jsX g (i + Int32.ofInt 2).toNatClampNeg), .int (jsX g (i + Int32.ofInt 3).toNatClampNeg)]) (st := []) (by decide +kernel) lw_cls (by decide +kernel) (by decide) (by decide +kernel) (by decide +kernel) (by decide +kernel) (by decide +kernel) (by decide +kernel) (show 3 = jnp 156 by decide +kernel) (by decide) (by decide) hcx (fun r hr => by cases hr; decide +kernel) (lu_458 (hlow 458 _ rfl) (hI.ok []) hI.2.2.2.1 ⟨i32_lo _, i32_hi _⟩ ⟨i32_lo _, i32_hi _⟩ ⟨i32_lo _, i32_hi _⟩) (fun v h1 hq => ?_)) (by omega) (by omega)
  obtain ⟨x1, rfl, bk1, hI1, h61⟩ := lwP hI hq (by decide +kernel) (by decide +kernel) (by decide +kernel) (Int.le_refl n)
  refine j_pop (by decide +kernel) rfl ?_
  refine j_aload_n (k4 := 2) (by decide +kernel) rfl ?_
  refine j_aload_n (k4 := 0) (by decide +kernel) rfl ?_
  refine j_iload_n (k4 := 3) (by decide +kernel) rfl ?_
  refine j_iconst (n := 1) (by decide +kernel) ?_
  refine j_iadd (by decide +kernel) ?_
  refine j_sld (lw_at hi hN (by decide) (by decide)) (by decide +kernel) ?_
  refine j_aload_n (k4 := 0) (by decide +kernel) rfl ?_
  refine j_iload_n (k4 := 3) (by decide +kernel) rfl ?_
  refine j_iconst (n := 2) (by decide +kernel) ?_
  refine j_iadd (by decide +kernel) ?_
  refine j_sld (lw_at hi hN (by decide) (by decide)) (by decide +kernel) ?_
  refine j_aload_n (k4 := 0) (by decide +kernel) rfl ?_
  refine j_iload_n (k4 := 3) (by decide +kernel) rfl ?_
  refine j_iconst (n := 3) (by decide +kernel) ?_
  refine j_iadd (by decide +kernel) ?_
  refine j_sld (lw_at hi hN (by decide) (by decide)) (by decide +kernel) ?_
  obtain ⟨fsm, hcm⟩ := lw_m hI1
  refine J.room (kc := 0 + kc) (ks := 0 + ks) (j_callV (own := 13) (i := 166) (y2 := 292) (d2 := 3) (mc := 0) (ms := 0) (a := b1 + 0) (As := [.int (jsX g (i + Int32.ofInt 1).toNatClampNeg), .int (jsX g (i + Int32.ofInt 2).toNatClampNeg), .int (jsX g (i + Int32.ofInt 3).toNatClampNeg)]) (st := []) (by decide +kernel) lw_cls (by decide +kernel) (by decide) (by decide +kernel) (by decide +kernel) (by decide +kernel) (by decide +kernel) (by decide +kernel) (show 3 = jnp 292 by decide +kernel) (by decide) (by decide) hcm (fun r hr => by cases hr; decide +kernel) (lu_534 (hlow 534 _ rfl) (hI1.ok []) hI1.2.2.2.2.1 ⟨i32_lo _, i32_hi _⟩ ⟨i32_lo _, i32_hi _⟩ ⟨i32_lo _, i32_hi _⟩) (fun v h2 hq => ?_)) (by omega) (by omega)
  obtain ⟨x2, rfl, bk2, hI2, h62⟩ := lwP hI1 hq (by decide +kernel) (by decide +kernel) (by decide +kernel) (show n ≤ n + 40 by omega)
  refine j_pop (by decide +kernel) rfl ?_
  refine j_goto (off := 557) (tgt := 1983) (by decide +kernel) (by decide) ?_
  exact kk bk2 h2 hI2 (fun b hb => h62 b (h61 b hb))
theorem lu_457 (hk : kOK TTs g (EIm n) l Kx_457) {W0 : List aR} {bk0 bk : aB} {h0 h : jH} (hO : hOK TTs g (EIm n) W0 bk0 h0 bk h) {a0 : Nat} (ha0 : bk 0 = some a0) {x1 : Int32} (hx1 : (-2147483648 : Int) ≤ x1.toInt ∧ x1.toInt ≤ 2147483647) :
    jCal l g 158 4 [.ref (g.2.2 + (a0 + 0)), .int x1] h 0 0 (kPost TTs g (EIm n) Kx_457 bk h [x1.toInt]) := by
  refine hk bk h [.ref (g.2.2 + (a0 + 0)), .int x1] [x1.toInt] hO.1 hO.2.1 hO.2.2.1 hO.2.2.2.2.2 (show 2 ≤ jmx 158 by decide +kernel) rfl (fun q hq => ?_) ⟨⟨rfl, fun i e z he hz => ?_⟩, eFm_plain (plain_app (spEnv_plain _) clEnv_plain), fun F hF => absurd hF List.not_mem_nil, fun i v hv => ?_, trivial, fun q hq => ?_, fun B hB => absurd hB List.not_mem_nil⟩
  · have hq : q ∈ ([] : List (Nat × Int × Nat)) := hq
    exact absurd hq List.not_mem_nil
  · match i, he, hz with
    | 0, he, hz => cases he; cases hz; exact hx1
    | i + 1, he, _ => cases he
  · match i, hv with
    | 0, hv => cases hv; exact ⟨_, rfl, a0, ha0, rfl⟩
    | 1, hv => cases hv; exact ⟨_, rfl, x1, rfl, rfl⟩
    | i + 2, hv => cases hv
  · exact absurd hq List.not_mem_nil
theorem lu_533 (hk : kOK TTs g (EIm n) l Kx_533) {W0 : List aR} {bk0 bk : aB} {h0 h : jH} (hO : hOK TTs g (EIm n) W0 bk0 h0 bk h) {a1 : Nat} (ha1 : bk 1 = some a1) {x1 : Int32} (hx1 : (-2147483648 : Int) ≤ x1.toInt ∧ x1.toInt ≤ 2147483647) :
    jCal l g 293 2 [.ref (g.2.2 + (a1 + 0)), .int x1] h 0 0 (kPost TTs g (EIm n) Kx_533 bk h [x1.toInt]) := by
  refine hk bk h [.ref (g.2.2 + (a1 + 0)), .int x1] [x1.toInt] hO.1 hO.2.1 hO.2.2.1 hO.2.2.2.2.2 (show 2 ≤ jmx 293 by decide +kernel) rfl (fun q hq => ?_) ⟨⟨rfl, fun i e z he hz => ?_⟩, eFm_plain (plain_app (spEnv_plain _) clEnv_plain), fun F hF => absurd hF List.not_mem_nil, fun i v hv => ?_, trivial, fun q hq => ?_, fun B hB => absurd hB List.not_mem_nil⟩
  · have hq : q ∈ ([] : List (Nat × Int × Nat)) := hq
    exact absurd hq List.not_mem_nil
  · match i, he, hz with
    | 0, he, hz => cases he; cases hz; exact hx1
    | i + 1, he, _ => cases he
  · match i, hv with
    | 0, hv => cases hv; exact ⟨_, rfl, a1, ha1, rfl⟩
    | 1, hv => cases hv; exact ⟨_, rfl, x1, rfl, rfl⟩
    | 2, hv => cases hv
    | 3, hv => cases hv
    | 4, hv => cases hv
    | i + 5, hv => cases hv
  · exact absurd hq List.not_mem_nil
set_option maxRecDepth 16384 in
theorem lc_37 (hlow : ∀ (k : Nat) (K : aK), KTx[k]? = some K → kOK TTs g (EIm n) l K) {b0 b1 : Nat} {bk : aB} {h : jH} (hI : lwI g n b0 b1 bk h) {i : Int32} (hi : 0 ≤ i.toInt ∧ i.toInt + 6 ≤ (jsN g : Int)) (hN : jsN g ≤ 3072) {kc ks : Nat} {Q : Option Value → jH → Prop}
    (kk : ∀ bk' h', lwI g (n + 40) b0 b1 bk' h' → (∀ b, bk 6 = some b → bk' 6 = some b) → J l g 315 100 1983 (lwL g b0 b1 i) [] h' kc ks Q) : J l g 315 100 1429 (lwL g b0 b1 i) [] h kc ks Q := by
  refine j_aload_n (k4 := 1) (by decide +kernel) rfl ?_
  refine j_aload_n (k4 := 0) (by decide +kernel) rfl ?_
  refine j_iload_n (k4 := 3) (by decide +kernel) rfl ?_
  refine j_iconst (n := 1) (by decide +kernel) ?_
  refine j_iadd (by decide +kernel) ?_
  refine j_sld (lw_at hi hN (by decide) (by decide)) (by decide +kernel) ?_
  obtain ⟨fsx, hcx⟩ := lw_x hI
  refine J.room (kc := 0 + kc) (ks := 0 + ks) (j_callV (own := 13) (i := 167) (y2 := 158) (d2 := 4) (mc := 0) (ms := 0) (a := b0 + 0) (As := [.int (jsX g (i + Int32.ofInt 1).toNatClampNeg)]) (st := []) (by decide +kernel) lw_cls (by decide +kernel) (by decide) (by decide +kernel) (by decide +kernel) (by decide +kernel) (by decide +kernel) (by decide +kernel) (show 1 = jnp 158 by decide +kernel) (by decide) (by decide) hcx (fun r hr => by cases hr; decide +kernel) (lu_457 (hlow 457 _ rfl) (hI.ok []) hI.2.2.2.1 ⟨i32_lo _, i32_hi _⟩) (fun v h1 hq => ?_)) (by omega) (by omega)
  obtain ⟨x1, rfl, bk1, hI1, h61⟩ := lwP hI hq (by decide +kernel) (by decide +kernel) (by decide +kernel) (Int.le_refl n)
  refine j_pop (by decide +kernel) rfl ?_
  refine j_aload_n (k4 := 2) (by decide +kernel) rfl ?_
  refine j_aload_n (k4 := 0) (by decide +kernel) rfl ?_
  refine j_iload_n (k4 := 3) (by decide +kernel) rfl ?_
  refine j_iconst (n := 1) (by decide +kernel) ?_
  refine j_iadd (by decide +kernel) ?_
  refine j_sld (lw_at hi hN (by decide) (by decide)) (by decide +kernel) ?_
  obtain ⟨fsm, hcm⟩ := lw_m hI1
  refine J.room (kc := 0 + kc) (ks := 0 + ks) (j_callV (own := 13) (i := 170) (y2 := 293) (d2 := 2) (mc := 0) (ms := 0) (a := b1 + 0) (As := [.int (jsX g (i + Int32.ofInt 1).toNatClampNeg)]) (st := []) (by decide +kernel) lw_cls (by decide +kernel) (by decide) (by decide +kernel) (by decide +kernel) (by decide +kernel) (by decide +kernel) (by decide +kernel) (show 1 = jnp 293 by decide +kernel) (by decide) (by decide) hcm (fun r hr => by cases hr; decide +kernel) (lu_533 (hlow 533 _ rfl) (hI1.ok []) hI1.2.2.2.2.1 ⟨i32_lo _, i32_hi _⟩) (fun v h2 hq => ?_)) (by omega) (by omega)
  obtain ⟨x2, rfl, bk2, hI2, h62⟩ := lwP hI1 hq (by decide +kernel) (by decide +kernel) (by decide +kernel) (show n ≤ n + 40 by omega)
  refine j_pop (by decide +kernel) rfl ?_
  refine j_goto (off := 534) (tgt := 1983) (by decide +kernel) (by decide) ?_
  exact kk bk2 h2 hI2 (fun b hb => h62 b (h61 b hb))
theorem lu_493 (hk : kOK TTs g (EIm n) l Kx_493) {W0 : List aR} {bk0 bk : aB} {h0 h : jH} (hO : hOK TTs g (EIm n) W0 bk0 h0 bk h) {a0 : Nat} (ha0 : bk 0 = some a0) {x1 : Int32} (hx1 : (-2147483648 : Int) ≤ x1.toInt ∧ x1.toInt ≤ 2147483647) {x2 : Int32} (hx2 : (-2147483648 : Int) ≤ x2.toInt ∧ x2.toInt ≤ 2147483647) :
    jCal l g 162 2 [.ref (g.2.2 + (a0 + 0)), .int x1, .int x2] h 0 0 (kPost TTs g (EIm n) Kx_493 bk h [x1.toInt, x2.toInt]) := by
  refine hk bk h [.ref (g.2.2 + (a0 + 0)), .int x1, .int x2] [x1.toInt, x2.toInt] hO.1 hO.2.1 hO.2.2.1 hO.2.2.2.2.2 (show 3 ≤ jmx 162 by decide +kernel) rfl (fun q hq => ?_) ⟨⟨rfl, fun i e z he hz => ?_⟩, eFm_plain (plain_app (spEnv_plain _) clEnv_plain), fun F hF => absurd hF List.not_mem_nil, fun i v hv => ?_, trivial, fun q hq => ?_, fun B hB => absurd hB List.not_mem_nil⟩
  · have hq : q ∈ ([] : List (Nat × Int × Nat)) := hq
    exact absurd hq List.not_mem_nil
  · match i, he, hz with
    | 0, he, hz => cases he; cases hz; exact hx1
    | 1, he, hz => cases he; cases hz; exact hx2
    | i + 2, he, _ => cases he
  · match i, hv with
    | 0, hv => cases hv; exact ⟨_, rfl, a0, ha0, rfl⟩
    | 1, hv => cases hv; exact ⟨_, rfl, x1, rfl, rfl⟩
    | 2, hv => cases hv; exact ⟨_, rfl, x2, rfl, rfl⟩
    | 3, hv => cases hv
    | i + 4, hv => cases hv
  · exact absurd hq List.not_mem_nil
theorem lu_654 (hk : kOK TTs g (EIm n) l Kx_654) {W0 : List aR} {bk0 bk : aB} {h0 h : jH} (hO : hOK TTs g (EIm n) W0 bk0 h0 bk h) {a1 : Nat} (ha1 : bk 1 = some a1) {x1 : Int32} (hx1 : (-2147483648 : Int) ≤ x1.toInt ∧ x1.toInt ≤ 2147483647) {x2 : Int32} (hx2 : (-2147483648 : Int) ≤ x2.toInt ∧ x2.toInt ≤ 2147483647) :
    jCal l g 295 3 [.ref (g.2.2 + (a1 + 0)), .int x1, .int x2] h 0 0 (kPost TTs g (EIm n) Kx_654 bk h [x1.toInt, x2.toInt]) := by
  refine hk bk h [.ref (g.2.2 + (a1 + 0)), .int x1, .int x2] [x1.toInt, x2.toInt] hO.1 hO.2.1 hO.2.2.1 hO.2.2.2.2.2 (show 3 ≤ jmx 295 by decide +kernel) rfl (fun q hq => ?_) ⟨⟨rfl, fun i e z he hz => ?_⟩, eFm_plain (plain_app (spEnv_plain _) clEnv_plain), fun F hF => absurd hF List.not_mem_nil, fun i v hv => ?_, trivial, fun q hq => ?_, fun B hB => absurd hB List.not_mem_nil⟩
  · have hq : q ∈ ([] : List (Nat × Int × Nat)) := hq
    exact absurd hq List.not_mem_nil
  · match i, he, hz with
    | 0, he, hz => cases he; cases hz; exact hx1
    | 1, he, hz => cases he; cases hz; exact hx2
    | i + 2, he, _ => cases he
  · match i, hv with
    | 0, hv => cases hv; exact ⟨_, rfl, a1, ha1, rfl⟩
    | 1, hv => cases hv; exact ⟨_, rfl, x1, rfl, rfl⟩
    | 2, hv => cases hv; exact ⟨_, rfl, x2, rfl, rfl⟩
    | 3, hv => cases hv
    | i + 4, hv => cases hv
  · exact absurd hq List.not_mem_nil
set_option maxRecDepth 16384 in
theorem lc_38 (hlow : ∀ (k : Nat) (K : aK), KTx[k]? = some K → kOK TTs g (EIm n) l K) {b0 b1 : Nat} {bk : aB} {h : jH} (hI : lwI g n b0 b1 bk h) {i : Int32} (hi : 0 ≤ i.toInt ∧ i.toInt + 6 ≤ (jsN g : Int)) (hN : jsN g ≤ 3072) {kc ks : Nat} {Q : Option Value → jH → Prop}
    (kk : ∀ bk' h', lwI g (n + 40) b0 b1 bk' h' → (∀ b, bk 6 = some b → bk' 6 = some b) → J l g 315 100 1983 (lwL g b0 b1 i) [] h' kc ks Q) : J l g 315 100 1452 (lwL g b0 b1 i) [] h kc ks Q := by
  refine j_aload_n (k4 := 1) (by decide +kernel) rfl ?_
  refine j_aload_n (k4 := 0) (by decide +kernel) rfl ?_
  refine j_iload_n (k4 := 3) (by decide +kernel) rfl ?_
  refine j_iconst (n := 1) (by decide +kernel) ?_
  refine j_iadd (by decide +kernel) ?_
  refine j_sld (lw_at hi hN (by decide) (by decide)) (by decide +kernel) ?_
  refine j_aload_n (k4 := 0) (by decide +kernel) rfl ?_
  refine j_iload_n (k4 := 3) (by decide +kernel) rfl ?_
  refine j_iconst (n := 2) (by decide +kernel) ?_
  refine j_iadd (by decide +kernel) ?_
  refine j_sld (lw_at hi hN (by decide) (by decide)) (by decide +kernel) ?_
  obtain ⟨fsx, hcx⟩ := lw_x hI
  refine J.room (kc := 0 + kc) (ks := 0 + ks) (j_callV (own := 13) (i := 171) (y2 := 162) (d2 := 2) (mc := 0) (ms := 0) (a := b0 + 0) (As := [.int (jsX g (i + Int32.ofInt 1).toNatClampNeg), .int (jsX g (i + Int32.ofInt 2).toNatClampNeg)]) (st := []) (by decide +kernel) lw_cls (by decide +kernel) (by decide) (by decide +kernel) (by decide +kernel) (by decide +kernel) (by decide +kernel) (by decide +kernel) (show 2 = jnp 162 by decide +kernel) (by decide) (by decide) hcx (fun r hr => by cases hr; decide +kernel) (lu_493 (hlow 493 _ rfl) (hI.ok []) hI.2.2.2.1 ⟨i32_lo _, i32_hi _⟩ ⟨i32_lo _, i32_hi _⟩) (fun v h1 hq => ?_)) (by omega) (by omega)
  obtain ⟨x1, rfl, bk1, hI1, h61⟩ := lwP hI hq (by decide +kernel) (by decide +kernel) (by decide +kernel) (Int.le_refl n)
  refine j_pop (by decide +kernel) rfl ?_
  refine j_aload_n (k4 := 2) (by decide +kernel) rfl ?_
  refine j_aload_n (k4 := 0) (by decide +kernel) rfl ?_
  refine j_iload_n (k4 := 3) (by decide +kernel) rfl ?_
  refine j_iconst (n := 1) (by decide +kernel) ?_
  refine j_iadd (by decide +kernel) ?_
  refine j_sld (lw_at hi hN (by decide) (by decide)) (by decide +kernel) ?_
  refine j_aload_n (k4 := 0) (by decide +kernel) rfl ?_
  refine j_iload_n (k4 := 3) (by decide +kernel) rfl ?_
  refine j_iconst (n := 2) (by decide +kernel) ?_
  refine j_iadd (by decide +kernel) ?_
  refine j_sld (lw_at hi hN (by decide) (by decide)) (by decide +kernel) ?_
  obtain ⟨fsm, hcm⟩ := lw_m hI1
  refine J.room (kc := 0 + kc) (ks := 0 + ks) (j_callV (own := 13) (i := 174) (y2 := 295) (d2 := 3) (mc := 0) (ms := 0) (a := b1 + 0) (As := [.int (jsX g (i + Int32.ofInt 1).toNatClampNeg), .int (jsX g (i + Int32.ofInt 2).toNatClampNeg)]) (st := []) (by decide +kernel) lw_cls (by decide +kernel) (by decide) (by decide +kernel) (by decide +kernel) (by decide +kernel) (by decide +kernel) (by decide +kernel) (show 2 = jnp 295 by decide +kernel) (by decide) (by decide) hcm (fun r hr => by cases hr; decide +kernel) (lu_654 (hlow 654 _ rfl) (hI1.ok []) hI1.2.2.2.2.1 ⟨i32_lo _, i32_hi _⟩ ⟨i32_lo _, i32_hi _⟩) (fun v h2 hq => ?_)) (by omega) (by omega)
  obtain ⟨x2, rfl, bk2, hI2, h62⟩ := lwP hI1 hq (by decide +kernel) (by decide +kernel) (by decide +kernel) (show n ≤ n + 40 by omega)
  refine j_pop (by decide +kernel) rfl ?_
  refine j_goto (off := 501) (tgt := 1983) (by decide +kernel) (by decide) ?_
  exact kk bk2 h2 hI2 (fun b hb => h62 b (h61 b hb))
theorem lu_484 (hk : kOK TTs g (EIm n) l Kx_484) {W0 : List aR} {bk0 bk : aB} {h0 h : jH} (hO : hOK TTs g (EIm n) W0 bk0 h0 bk h) {a0 : Nat} (ha0 : bk 0 = some a0) {x1 : Int32} (hx1 : (-2147483648 : Int) ≤ x1.toInt ∧ x1.toInt ≤ 2147483647) :
    jCal l g 163 4 [.ref (g.2.2 + (a0 + 0)), .int x1] h 0 0 (kPost TTs g (EIm n) Kx_484 bk h [x1.toInt]) := by
  refine hk bk h [.ref (g.2.2 + (a0 + 0)), .int x1] [x1.toInt] hO.1 hO.2.1 hO.2.2.1 hO.2.2.2.2.2 (show 2 ≤ jmx 163 by decide +kernel) rfl (fun q hq => ?_) ⟨⟨rfl, fun i e z he hz => ?_⟩, eFm_plain (plain_app (spEnv_plain _) clEnv_plain), fun F hF => absurd hF List.not_mem_nil, fun i v hv => ?_, trivial, fun q hq => ?_, fun B hB => absurd hB List.not_mem_nil⟩
  · have hq : q ∈ ([] : List (Nat × Int × Nat)) := hq
    exact absurd hq List.not_mem_nil
  · match i, he, hz with
    | 0, he, hz => cases he; cases hz; exact hx1
    | i + 1, he, _ => cases he
  · match i, hv with
    | 0, hv => cases hv; exact ⟨_, rfl, a0, ha0, rfl⟩
    | 1, hv => cases hv; exact ⟨_, rfl, x1, rfl, rfl⟩
    | i + 2, hv => cases hv
  · exact absurd hq List.not_mem_nil
theorem lu_647 (hk : kOK TTs g (EIm n) l Kx_647) {W0 : List aR} {bk0 bk : aB} {h0 h : jH} (hO : hOK TTs g (EIm n) W0 bk0 h0 bk h) {a1 : Nat} (ha1 : bk 1 = some a1) {x1 : Int32} (hx1 : (-2147483648 : Int) ≤ x1.toInt ∧ x1.toInt ≤ 2147483647) :
    jCal l g 296 2 [.ref (g.2.2 + (a1 + 0)), .int x1] h 0 0 (kPost TTs g (EIm n) Kx_647 bk h [x1.toInt]) := by
  refine hk bk h [.ref (g.2.2 + (a1 + 0)), .int x1] [x1.toInt] hO.1 hO.2.1 hO.2.2.1 hO.2.2.2.2.2 (show 2 ≤ jmx 296 by decide +kernel) rfl (fun q hq => ?_) ⟨⟨rfl, fun i e z he hz => ?_⟩, eFm_plain (plain_app (spEnv_plain _) clEnv_plain), fun F hF => absurd hF List.not_mem_nil, fun i v hv => ?_, trivial, fun q hq => ?_, fun B hB => absurd hB List.not_mem_nil⟩
  · have hq : q ∈ ([] : List (Nat × Int × Nat)) := hq
    exact absurd hq List.not_mem_nil
  · match i, he, hz with
    | 0, he, hz => cases he; cases hz; exact hx1
    | i + 1, he, _ => cases he
  · match i, hv with
    | 0, hv => cases hv; exact ⟨_, rfl, a1, ha1, rfl⟩
    | 1, hv => cases hv; exact ⟨_, rfl, x1, rfl, rfl⟩
    | 2, hv => cases hv
    | 3, hv => cases hv
    | 4, hv => cases hv
    | i + 5, hv => cases hv
  · exact absurd hq List.not_mem_nil
set_option maxRecDepth 16384 in
theorem lc_39 (hlow : ∀ (k : Nat) (K : aK), KTx[k]? = some K → kOK TTs g (EIm n) l K) {b0 b1 : Nat} {bk : aB} {h : jH} (hI : lwI g n b0 b1 bk h) {i : Int32} (hi : 0 ≤ i.toInt ∧ i.toInt + 6 ≤ (jsN g : Int)) (hN : jsN g ≤ 3072) {kc ks : Nat} {Q : Option Value → jH → Prop}
    (kk : ∀ bk' h', lwI g (n + 40) b0 b1 bk' h' → (∀ b, bk 6 = some b → bk' 6 = some b) → J l g 315 100 1983 (lwL g b0 b1 i) [] h' kc ks Q) : J l g 315 100 1485 (lwL g b0 b1 i) [] h kc ks Q := by
  refine j_aload_n (k4 := 1) (by decide +kernel) rfl ?_
  refine j_aload_n (k4 := 0) (by decide +kernel) rfl ?_
  refine j_iload_n (k4 := 3) (by decide +kernel) rfl ?_
  refine j_iconst (n := 1) (by decide +kernel) ?_
  refine j_iadd (by decide +kernel) ?_
  refine j_sld (lw_at hi hN (by decide) (by decide)) (by decide +kernel) ?_
  obtain ⟨fsx, hcx⟩ := lw_x hI
  refine J.room (kc := 0 + kc) (ks := 0 + ks) (j_callV (own := 13) (i := 175) (y2 := 163) (d2 := 4) (mc := 0) (ms := 0) (a := b0 + 0) (As := [.int (jsX g (i + Int32.ofInt 1).toNatClampNeg)]) (st := []) (by decide +kernel) lw_cls (by decide +kernel) (by decide) (by decide +kernel) (by decide +kernel) (by decide +kernel) (by decide +kernel) (by decide +kernel) (show 1 = jnp 163 by decide +kernel) (by decide) (by decide) hcx (fun r hr => by cases hr; decide +kernel) (lu_484 (hlow 484 _ rfl) (hI.ok []) hI.2.2.2.1 ⟨i32_lo _, i32_hi _⟩) (fun v h1 hq => ?_)) (by omega) (by omega)
  obtain ⟨x1, rfl, bk1, hI1, h61⟩ := lwP hI hq (by decide +kernel) (by decide +kernel) (by decide +kernel) (Int.le_refl n)
  refine j_pop (by decide +kernel) rfl ?_
  refine j_aload_n (k4 := 2) (by decide +kernel) rfl ?_
  refine j_aload_n (k4 := 0) (by decide +kernel) rfl ?_
  refine j_iload_n (k4 := 3) (by decide +kernel) rfl ?_
  refine j_iconst (n := 1) (by decide +kernel) ?_
  refine j_iadd (by decide +kernel) ?_
  refine j_sld (lw_at hi hN (by decide) (by decide)) (by decide +kernel) ?_
  obtain ⟨fsm, hcm⟩ := lw_m hI1
  refine J.room (kc := 0 + kc) (ks := 0 + ks) (j_callV (own := 13) (i := 178) (y2 := 296) (d2 := 2) (mc := 0) (ms := 0) (a := b1 + 0) (As := [.int (jsX g (i + Int32.ofInt 1).toNatClampNeg)]) (st := []) (by decide +kernel) lw_cls (by decide +kernel) (by decide) (by decide +kernel) (by decide +kernel) (by decide +kernel) (by decide +kernel) (by decide +kernel) (show 1 = jnp 296 by decide +kernel) (by decide) (by decide) hcm (fun r hr => by cases hr; decide +kernel) (lu_647 (hlow 647 _ rfl) (hI1.ok []) hI1.2.2.2.2.1 ⟨i32_lo _, i32_hi _⟩) (fun v h2 hq => ?_)) (by omega) (by omega)
  obtain ⟨x2, rfl, bk2, hI2, h62⟩ := lwP hI1 hq (by decide +kernel) (by decide +kernel) (by decide +kernel) (show n ≤ n + 40 by omega)
  refine j_pop (by decide +kernel) rfl ?_
  refine j_goto (off := 478) (tgt := 1983) (by decide +kernel) (by decide) ?_
  exact kk bk2 h2 hI2 (fun b hb => h62 b (h61 b hb))
theorem lu_502 (hk : kOK TTs g (EIm n) l Kx_502) {W0 : List aR} {bk0 bk : aB} {h0 h : jH} (hO : hOK TTs g (EIm n) W0 bk0 h0 bk h) {a0 : Nat} (ha0 : bk 0 = some a0) {x1 : Int32} (hx1 : (-2147483648 : Int) ≤ x1.toInt ∧ x1.toInt ≤ 2147483647) {x2 : Int32} (hx2 : (-2147483648 : Int) ≤ x2.toInt ∧ x2.toInt ≤ 2147483647) :
    jCal l g 166 4 [.ref (g.2.2 + (a0 + 0)), .int x1, .int x2] h 0 0 (kPost TTs g (EIm n) Kx_502 bk h [x1.toInt, x2.toInt]) := by
  refine hk bk h [.ref (g.2.2 + (a0 + 0)), .int x1, .int x2] [x1.toInt, x2.toInt] hO.1 hO.2.1 hO.2.2.1 hO.2.2.2.2.2 (show 3 ≤ jmx 166 by decide +kernel) rfl (fun q hq => ?_) ⟨⟨rfl, fun i e z he hz => ?_⟩, eFm_plain (plain_app (spEnv_plain _) clEnv_plain), fun F hF => absurd hF List.not_mem_nil, fun i v hv => ?_, trivial, fun q hq => ?_, fun B hB => absurd hB List.not_mem_nil⟩
  · have hq : q ∈ ([] : List (Nat × Int × Nat)) := hq
    exact absurd hq List.not_mem_nil
  · match i, he, hz with
    | 0, he, hz => cases he; cases hz; exact hx1
    | 1, he, hz => cases he; cases hz; exact hx2
    | i + 2, he, _ => cases he
  · match i, hv with
    | 0, hv => cases hv; exact ⟨_, rfl, a0, ha0, rfl⟩
    | 1, hv => cases hv; exact ⟨_, rfl, x1, rfl, rfl⟩
    | 2, hv => cases hv; exact ⟨_, rfl, x2, rfl, rfl⟩
    | i + 3, hv => cases hv
  · exact absurd hq List.not_mem_nil
theorem lu_663 (hk : kOK TTs g (EIm n) l Kx_663) {W0 : List aR} {bk0 bk : aB} {h0 h : jH} (hO : hOK TTs g (EIm n) W0 bk0 h0 bk h) {a1 : Nat} (ha1 : bk 1 = some a1) {x1 : Int32} (hx1 : (-2147483648 : Int) ≤ x1.toInt ∧ x1.toInt ≤ 2147483647) {x2 : Int32} (hx2 : (-2147483648 : Int) ≤ x2.toInt ∧ x2.toInt ≤ 2147483647) :
    jCal l g 299 3 [.ref (g.2.2 + (a1 + 0)), .int x1, .int x2] h 0 0 (kPost TTs g (EIm n) Kx_663 bk h [x1.toInt, x2.toInt]) := by
  refine hk bk h [.ref (g.2.2 + (a1 + 0)), .int x1, .int x2] [x1.toInt, x2.toInt] hO.1 hO.2.1 hO.2.2.1 hO.2.2.2.2.2 (show 3 ≤ jmx 299 by decide +kernel) rfl (fun q hq => ?_) ⟨⟨rfl, fun i e z he hz => ?_⟩, eFm_plain (plain_app (spEnv_plain _) clEnv_plain), fun F hF => absurd hF List.not_mem_nil, fun i v hv => ?_, trivial, fun q hq => ?_, fun B hB => absurd hB List.not_mem_nil⟩
  · have hq : q ∈ ([] : List (Nat × Int × Nat)) := hq
    exact absurd hq List.not_mem_nil
  · match i, he, hz with
    | 0, he, hz => cases he; cases hz; exact hx1
    | 1, he, hz => cases he; cases hz; exact hx2
    | i + 2, he, _ => cases he
  · match i, hv with
    | 0, hv => cases hv; exact ⟨_, rfl, a1, ha1, rfl⟩
    | 1, hv => cases hv; exact ⟨_, rfl, x1, rfl, rfl⟩
    | 2, hv => cases hv; exact ⟨_, rfl, x2, rfl, rfl⟩
    | 3, hv => cases hv
    | 4, hv => cases hv
    | 5, hv => cases hv
    | 6, hv => cases hv
    | i + 7, hv => cases hv
  · exact absurd hq List.not_mem_nil
set_option maxRecDepth 16384 in
theorem lc_40 (hlow : ∀ (k : Nat) (K : aK), KTx[k]? = some K → kOK TTs g (EIm n) l K) {b0 b1 : Nat} {bk : aB} {h : jH} (hI : lwI g n b0 b1 bk h) {i : Int32} (hi : 0 ≤ i.toInt ∧ i.toInt + 6 ≤ (jsN g : Int)) (hN : jsN g ≤ 3072) {kc ks : Nat} {Q : Option Value → jH → Prop}
    (kk : ∀ bk' h', lwI g (n + 40) b0 b1 bk' h' → (∀ b, bk 6 = some b → bk' 6 = some b) → J l g 315 100 1983 (lwL g b0 b1 i) [] h' kc ks Q) : J l g 315 100 1508 (lwL g b0 b1 i) [] h kc ks Q := by
  refine j_aload_n (k4 := 1) (by decide +kernel) rfl ?_
  refine j_aload_n (k4 := 0) (by decide +kernel) rfl ?_
  refine j_iload_n (k4 := 3) (by decide +kernel) rfl ?_
  refine j_iconst (n := 1) (by decide +kernel) ?_
  refine j_iadd (by decide +kernel) ?_
  refine j_sld (lw_at hi hN (by decide) (by decide)) (by decide +kernel) ?_
  refine j_aload_n (k4 := 0) (by decide +kernel) rfl ?_
  refine j_iload_n (k4 := 3) (by decide +kernel) rfl ?_
  refine j_iconst (n := 2) (by decide +kernel) ?_
  refine j_iadd (by decide +kernel) ?_
  refine j_sld (lw_at hi hN (by decide) (by decide)) (by decide +kernel) ?_
  obtain ⟨fsx, hcx⟩ := lw_x hI
  refine J.room (kc := 0 + kc) (ks := 0 + ks) (j_callV (own := 13) (i := 179) (y2 := 166) (d2 := 4) (mc := 0) (ms := 0) (a := b0 + 0) (As := [.int (jsX g (i + Int32.ofInt 1).toNatClampNeg), .int (jsX g (i + Int32.ofInt 2).toNatClampNeg)]) (st := []) (by decide +kernel) lw_cls (by decide +kernel) (by decide) (by decide +kernel) (by decide +kernel) (by decide +kernel) (by decide +kernel) (by decide +kernel) (show 2 = jnp 166 by decide +kernel) (by decide) (by decide) hcx (fun r hr => by cases hr; decide +kernel) (lu_502 (hlow 502 _ rfl) (hI.ok []) hI.2.2.2.1 ⟨i32_lo _, i32_hi _⟩ ⟨i32_lo _, i32_hi _⟩) (fun v h1 hq => ?_)) (by omega) (by omega)
  obtain ⟨x1, rfl, bk1, hI1, h61⟩ := lwP hI hq (by decide +kernel) (by decide +kernel) (by decide +kernel) (Int.le_refl n)
  refine j_pop (by decide +kernel) rfl ?_
  refine j_aload_n (k4 := 2) (by decide +kernel) rfl ?_
  refine j_aload_n (k4 := 0) (by decide +kernel) rfl ?_
  refine j_iload_n (k4 := 3) (by decide +kernel) rfl ?_
  refine j_iconst (n := 1) (by decide +kernel) ?_
  refine j_iadd (by decide +kernel) ?_
  refine j_sld (lw_at hi hN (by decide) (by decide)) (by decide +kernel) ?_
  refine j_aload_n (k4 := 0) (by decide +kernel) rfl ?_
  refine j_iload_n (k4 := 3) (by decide +kernel) rfl ?_
  refine j_iconst (n := 2) (by decide +kernel) ?_
  refine j_iadd (by decide +kernel) ?_
  refine j_sld (lw_at hi hN (by decide) (by decide)) (by decide +kernel) ?_
  obtain ⟨fsm, hcm⟩ := lw_m hI1
  refine J.room (kc := 0 + kc) (ks := 0 + ks) (j_callV (own := 13) (i := 182) (y2 := 299) (d2 := 3) (mc := 0) (ms := 0) (a := b1 + 0) (As := [.int (jsX g (i + Int32.ofInt 1).toNatClampNeg), .int (jsX g (i + Int32.ofInt 2).toNatClampNeg)]) (st := []) (by decide +kernel) lw_cls (by decide +kernel) (by decide) (by decide +kernel) (by decide +kernel) (by decide +kernel) (by decide +kernel) (by decide +kernel) (show 2 = jnp 299 by decide +kernel) (by decide) (by decide) hcm (fun r hr => by cases hr; decide +kernel) (lu_663 (hlow 663 _ rfl) (hI1.ok []) hI1.2.2.2.2.1 ⟨i32_lo _, i32_hi _⟩ ⟨i32_lo _, i32_hi _⟩) (fun v h2 hq => ?_)) (by omega) (by omega)
  obtain ⟨x2, rfl, bk2, hI2, h62⟩ := lwP hI1 hq (by decide +kernel) (by decide +kernel) (by decide +kernel) (show n ≤ n + 40 by omega)
  refine j_pop (by decide +kernel) rfl ?_
  refine j_goto (off := 445) (tgt := 1983) (by decide +kernel) (by decide) ?_
  exact kk bk2 h2 hI2 (fun b hb => h62 b (h61 b hb))
theorem lu_498 (hk : kOK TTs g (EIm n) l Kx_498) {W0 : List aR} {bk0 bk : aB} {h0 h : jH} (hO : hOK TTs g (EIm n) W0 bk0 h0 bk h) {a0 : Nat} (ha0 : bk 0 = some a0) {x1 : Int32} (hx1 : (-2147483648 : Int) ≤ x1.toInt ∧ x1.toInt ≤ 2147483647) {x2 : Int32} (hx2 : (-2147483648 : Int) ≤ x2.toInt ∧ x2.toInt ≤ 2147483647) :
    jCal l g 168 4 [.ref (g.2.2 + (a0 + 0)), .int x1, .int x2] h 0 0 (kPost TTs g (EIm n) Kx_498 bk h [x1.toInt, x2.toInt]) := by
  refine hk bk h [.ref (g.2.2 + (a0 + 0)), .int x1, .int x2] [x1.toInt, x2.toInt] hO.1 hO.2.1 hO.2.2.1 hO.2.2.2.2.2 (show 3 ≤ jmx 168 by decide +kernel) rfl (fun q hq => ?_) ⟨⟨rfl, fun i e z he hz => ?_⟩, eFm_plain (plain_app (spEnv_plain _) clEnv_plain), fun F hF => absurd hF List.not_mem_nil, fun i v hv => ?_, trivial, fun q hq => ?_, fun B hB => absurd hB List.not_mem_nil⟩
  · have hq : q ∈ ([] : List (Nat × Int × Nat)) := hq
    exact absurd hq List.not_mem_nil
  · match i, he, hz with
    | 0, he, hz => cases he; cases hz; exact hx1
    | 1, he, hz => cases he; cases hz; exact hx2
    | i + 2, he, _ => cases he
  · match i, hv with
    | 0, hv => cases hv; exact ⟨_, rfl, a0, ha0, rfl⟩
    | 1, hv => cases hv; exact ⟨_, rfl, x1, rfl, rfl⟩
    | 2, hv => cases hv; exact ⟨_, rfl, x2, rfl, rfl⟩
    | 3, hv => cases hv
    | i + 4, hv => cases hv
  · exact absurd hq List.not_mem_nil
theorem lu_659 (hk : kOK TTs g (EIm n) l Kx_659) {W0 : List aR} {bk0 bk : aB} {h0 h : jH} (hO : hOK TTs g (EIm n) W0 bk0 h0 bk h) {a1 : Nat} (ha1 : bk 1 = some a1) {x1 : Int32} (hx1 : (-2147483648 : Int) ≤ x1.toInt ∧ x1.toInt ≤ 2147483647) {x2 : Int32} (hx2 : (-2147483648 : Int) ≤ x2.toInt ∧ x2.toInt ≤ 2147483647) :
    jCal l g 300 3 [.ref (g.2.2 + (a1 + 0)), .int x1, .int x2] h 0 0 (kPost TTs g (EIm n) Kx_659 bk h [x1.toInt, x2.toInt]) := by
  refine hk bk h [.ref (g.2.2 + (a1 + 0)), .int x1, .int x2] [x1.toInt, x2.toInt] hO.1 hO.2.1 hO.2.2.1 hO.2.2.2.2.2 (show 3 ≤ jmx 300 by decide +kernel) rfl (fun q hq => ?_) ⟨⟨rfl, fun i e z he hz => ?_⟩, eFm_plain (plain_app (spEnv_plain _) clEnv_plain), fun F hF => absurd hF List.not_mem_nil, fun i v hv => ?_, trivial, fun q hq => ?_, fun B hB => absurd hB List.not_mem_nil⟩
  · have hq : q ∈ ([] : List (Nat × Int × Nat)) := hq
    exact absurd hq List.not_mem_nil
  · match i, he, hz with
    | 0, he, hz => cases he; cases hz; exact hx1
    | 1, he, hz => cases he; cases hz; exact hx2
    | i + 2, he, _ => cases he
  · match i, hv with
    | 0, hv => cases hv; exact ⟨_, rfl, a1, ha1, rfl⟩
    | 1, hv => cases hv; exact ⟨_, rfl, x1, rfl, rfl⟩
    | 2, hv => cases hv; exact ⟨_, rfl, x2, rfl, rfl⟩
    | 3, hv => cases hv
    | 4, hv => cases hv
    | i + 5, hv => cases hv
  · exact absurd hq List.not_mem_nil
set_option maxRecDepth 16384 in
theorem lc_41 (hlow : ∀ (k : Nat) (K : aK), KTx[k]? = some K → kOK TTs g (EIm n) l K) {b0 b1 : Nat} {bk : aB} {h : jH} (hI : lwI g n b0 b1 bk h) {i : Int32} (hi : 0 ≤ i.toInt ∧ i.toInt + 6 ≤ (jsN g : Int)) (hN : jsN g ≤ 3072) {kc ks : Nat} {Q : Option Value → jH → Prop}
    (kk : ∀ bk' h', lwI g (n + 40) b0 b1 bk' h' → (∀ b, bk 6 = some b → bk' 6 = some b) → J l g 315 100 1983 (lwL g b0 b1 i) [] h' kc ks Q) : J l g 315 100 1541 (lwL g b0 b1 i) [] h kc ks Q := by
  refine j_aload_n (k4 := 1) (by decide +kernel) rfl ?_
  refine j_aload_n (k4 := 0) (by decide +kernel) rfl ?_
  refine j_iload_n (k4 := 3) (by decide +kernel) rfl ?_
  refine j_iconst (n := 1) (by decide +kernel) ?_
  refine j_iadd (by decide +kernel) ?_
  refine j_sld (lw_at hi hN (by decide) (by decide)) (by decide +kernel) ?_
  refine j_aload_n (k4 := 0) (by decide +kernel) rfl ?_
  refine j_iload_n (k4 := 3) (by decide +kernel) rfl ?_
  refine j_iconst (n := 2) (by decide +kernel) ?_
  refine j_iadd (by decide +kernel) ?_
  refine j_sld (lw_at hi hN (by decide) (by decide)) (by decide +kernel) ?_
  obtain ⟨fsx, hcx⟩ := lw_x hI
  refine J.room (kc := 0 + kc) (ks := 0 + ks) (j_callV (own := 13) (i := 183) (y2 := 168) (d2 := 4) (mc := 0) (ms := 0) (a := b0 + 0) (As := [.int (jsX g (i + Int32.ofInt 1).toNatClampNeg), .int (jsX g (i + Int32.ofInt 2).toNatClampNeg)]) (st := []) (by decide +kernel) lw_cls (by decide +kernel) (by decide) (by decide +kernel) (by decide +kernel) (by decide +kernel) (by decide +kernel) (by decide +kernel) (show 2 = jnp 168 by decide +kernel) (by decide) (by decide) hcx (fun r hr => by cases hr; decide +kernel) (lu_498 (hlow 498 _ rfl) (hI.ok []) hI.2.2.2.1 ⟨i32_lo _, i32_hi _⟩ ⟨i32_lo _, i32_hi _⟩) (fun v h1 hq => ?_)) (by omega) (by omega)
  obtain ⟨x1, rfl, bk1, hI1, h61⟩ := lwP hI hq (by decide +kernel) (by decide +kernel) (by decide +kernel) (Int.le_refl n)
  refine j_pop (by decide +kernel) rfl ?_
  refine j_aload_n (k4 := 2) (by decide +kernel) rfl ?_
  refine j_aload_n (k4 := 0) (by decide +kernel) rfl ?_
  refine j_iload_n (k4 := 3) (by decide +kernel) rfl ?_
  refine j_iconst (n := 1) (by decide +kernel) ?_
  refine j_iadd (by decide +kernel) ?_
  refine j_sld (lw_at hi hN (by decide) (by decide)) (by decide +kernel) ?_
  refine j_aload_n (k4 := 0) (by decide +kernel) rfl ?_
  refine j_iload_n (k4 := 3) (by decide +kernel) rfl ?_
  refine j_iconst (n := 2) (by decide +kernel) ?_
  refine j_iadd (by decide +kernel) ?_
  refine j_sld (lw_at hi hN (by decide) (by decide)) (by decide +kernel) ?_
  obtain ⟨fsm, hcm⟩ := lw_m hI1
  refine J.room (kc := 0 + kc) (ks := 0 + ks) (j_callV (own := 13) (i := 186) (y2 := 300) (d2 := 3) (mc := 0) (ms := 0) (a := b1 + 0) (As := [.int (jsX g (i + Int32.ofInt 1).toNatClampNeg), .int (jsX g (i + Int32.ofInt 2).toNatClampNeg)]) (st := []) (by decide +kernel) lw_cls (by decide +kernel) (by decide) (by decide +kernel) (by decide +kernel) (by decide +kernel) (by decide +kernel) (by decide +kernel) (show 2 = jnp 300 by decide +kernel) (by decide) (by decide) hcm (fun r hr => by cases hr; decide +kernel) (lu_659 (hlow 659 _ rfl) (hI1.ok []) hI1.2.2.2.2.1 ⟨i32_lo _, i32_hi _⟩ ⟨i32_lo _, i32_hi _⟩) (fun v h2 hq => ?_)) (by omega) (by omega)
  obtain ⟨x2, rfl, bk2, hI2, h62⟩ := lwP hI1 hq (by decide +kernel) (by decide +kernel) (by decide +kernel) (show n ≤ n + 40 by omega)
  refine j_pop (by decide +kernel) rfl ?_
  refine j_goto (off := 412) (tgt := 1983) (by decide +kernel) (by decide) ?_
  exact kk bk2 h2 hI2 (fun b hb => h62 b (h61 b hb))
theorem lu_469 (hk : kOK TTs g (EIm n) l Kx_469) {W0 : List aR} {bk0 bk : aB} {h0 h : jH} (hO : hOK TTs g (EIm n) W0 bk0 h0 bk h) {a0 : Nat} (ha0 : bk 0 = some a0) {x1 : Int32} (hx1 : (-2147483648 : Int) ≤ x1.toInt ∧ x1.toInt ≤ 2147483647) {x2 : Int32} (hx2 : (-2147483648 : Int) ≤ x2.toInt ∧ x2.toInt ≤ 2147483647) :
    jCal l g 170 6 [.ref (g.2.2 + (a0 + 0)), .int x1, .int x2] h 0 0 (kPost TTs g (EIm n) Kx_469 bk h [x1.toInt, x2.toInt]) := by
  refine hk bk h [.ref (g.2.2 + (a0 + 0)), .int x1, .int x2] [x1.toInt, x2.toInt] hO.1 hO.2.1 hO.2.2.1 hO.2.2.2.2.2 (show 3 ≤ jmx 170 by decide +kernel) rfl (fun q hq => ?_) ⟨⟨rfl, fun i e z he hz => ?_⟩, eFm_plain (plain_app (spEnv_plain _) clEnv_plain), fun F hF => absurd hF List.not_mem_nil, fun i v hv => ?_, trivial, fun q hq => ?_, fun B hB => absurd hB List.not_mem_nil⟩
  · have hq : q ∈ ([] : List (Nat × Int × Nat)) := hq
    exact absurd hq List.not_mem_nil
  · match i, he, hz with
    | 0, he, hz => cases he; cases hz; exact hx1
    | 1, he, hz => cases he; cases hz; exact hx2
    | i + 2, he, _ => cases he
  · match i, hv with
    | 0, hv => cases hv; exact ⟨_, rfl, a0, ha0, rfl⟩
    | 1, hv => cases hv; exact ⟨_, rfl, x1, rfl, rfl⟩
    | 2, hv => cases hv; exact ⟨_, rfl, x2, rfl, rfl⟩
    | i + 3, hv => cases hv
  · exact absurd hq List.not_mem_nil
theorem lu_622 (hk : kOK TTs g (EIm n) l Kx_622) {W0 : List aR} {bk0 bk : aB} {h0 h : jH} (hO : hOK TTs g (EIm n) W0 bk0 h0 bk h) {a1 : Nat} (ha1 : bk 1 = some a1) {x1 : Int32} (hx1 : (-2147483648 : Int) ≤ x1.toInt ∧ x1.toInt ≤ 2147483647) {x2 : Int32} (hx2 : (-2147483648 : Int) ≤ x2.toInt ∧ x2.toInt ≤ 2147483647) :
    jCal l g 301 4 [.ref (g.2.2 + (a1 + 0)), .int x1, .int x2] h 0 0 (kPost TTs g (EIm n) Kx_622 bk h [x1.toInt, x2.toInt]) := by
  refine hk bk h [.ref (g.2.2 + (a1 + 0)), .int x1, .int x2] [x1.toInt, x2.toInt] hO.1 hO.2.1 hO.2.2.1 hO.2.2.2.2.2 (show 3 ≤ jmx 301 by decide +kernel) rfl (fun q hq => ?_) ⟨⟨rfl, fun i e z he hz => ?_⟩, eFm_plain (plain_app (spEnv_plain _) clEnv_plain), fun F hF => absurd hF List.not_mem_nil, fun i v hv => ?_, trivial, fun q hq => ?_, fun B hB => absurd hB List.not_mem_nil⟩
  · have hq : q ∈ ([] : List (Nat × Int × Nat)) := hq
    exact absurd hq List.not_mem_nil
  · match i, he, hz with
    | 0, he, hz => cases he; cases hz; exact hx1
    | 1, he, hz => cases he; cases hz; exact hx2
    | i + 2, he, _ => cases he
  · match i, hv with
    | 0, hv => cases hv; exact ⟨_, rfl, a1, ha1, rfl⟩
    | 1, hv => cases hv; exact ⟨_, rfl, x1, rfl, rfl⟩
    | 2, hv => cases hv; exact ⟨_, rfl, x2, rfl, rfl⟩
    | 3, hv => cases hv
    | 4, hv => cases hv
    | 5, hv => cases hv
    | i + 6, hv => cases hv
  · exact absurd hq List.not_mem_nil
set_option maxRecDepth 16384 in
theorem lc_42 (hlow : ∀ (k : Nat) (K : aK), KTx[k]? = some K → kOK TTs g (EIm n) l K) {b0 b1 : Nat} {bk : aB} {h : jH} (hI : lwI g n b0 b1 bk h) {i : Int32} (hi : 0 ≤ i.toInt ∧ i.toInt + 6 ≤ (jsN g : Int)) (hN : jsN g ≤ 3072) {kc ks : Nat} {Q : Option Value → jH → Prop}
    (kk : ∀ bk' h', lwI g (n + 40) b0 b1 bk' h' → (∀ b, bk 6 = some b → bk' 6 = some b) → J l g 315 100 1983 (lwL g b0 b1 i) [] h' kc ks Q) : J l g 315 100 1574 (lwL g b0 b1 i) [] h kc ks Q := by
  refine j_aload_n (k4 := 1) (by decide +kernel) rfl ?_
  refine j_aload_n (k4 := 0) (by decide +kernel) rfl ?_
  refine j_iload_n (k4 := 3) (by decide +kernel) rfl ?_
  refine j_iconst (n := 1) (by decide +kernel) ?_
  refine j_iadd (by decide +kernel) ?_
  refine j_sld (lw_at hi hN (by decide) (by decide)) (by decide +kernel) ?_
  refine j_aload_n (k4 := 0) (by decide +kernel) rfl ?_
  refine j_iload_n (k4 := 3) (by decide +kernel) rfl ?_
  refine j_iconst (n := 2) (by decide +kernel) ?_
  refine j_iadd (by decide +kernel) ?_
  refine j_sld (lw_at hi hN (by decide) (by decide)) (by decide +kernel) ?_
  obtain ⟨fsx, hcx⟩ := lw_x hI
  refine J.room (kc := 0 + kc) (ks := 0 + ks) (j_callV (own := 13) (i := 187) (y2 := 170) (d2 := 6) (mc := 0) (ms := 0) (a := b0 + 0) (As := [.int (jsX g (i + Int32.ofInt 1).toNatClampNeg), .int (jsX g (i + Int32.ofInt 2).toNatClampNeg)]) (st := []) (by decide +kernel) lw_cls (by decide +kernel) (by decide) (by decide +kernel) (by decide +kernel) (by decide +kernel) (by decide +kernel) (by decide +kernel) (show 2 = jnp 170 by decide +kernel) (by decide) (by decide) hcx (fun r hr => by cases hr; decide +kernel) (lu_469 (hlow 469 _ rfl) (hI.ok []) hI.2.2.2.1 ⟨i32_lo _, i32_hi _⟩ ⟨i32_lo _, i32_hi _⟩) (fun v h1 hq => ?_)) (by omega) (by omega)
  obtain ⟨x1, rfl, bk1, hI1, h61⟩ := lwP hI hq (by decide +kernel) (by decide +kernel) (by decide +kernel) (Int.le_refl n)
  refine j_pop (by decide +kernel) rfl ?_
  refine j_aload_n (k4 := 2) (by decide +kernel) rfl ?_
  refine j_aload_n (k4 := 0) (by decide +kernel) rfl ?_
  refine j_iload_n (k4 := 3) (by decide +kernel) rfl ?_
  refine j_iconst (n := 1) (by decide +kernel) ?_
  refine j_iadd (by decide +kernel) ?_
  refine j_sld (lw_at hi hN (by decide) (by decide)) (by decide +kernel) ?_
  refine j_aload_n (k4 := 0) (by decide +kernel) rfl ?_
  refine j_iload_n (k4 := 3) (by decide +kernel) rfl ?_
  refine j_iconst (n := 2) (by decide +kernel) ?_
  refine j_iadd (by decide +kernel) ?_
  refine j_sld (lw_at hi hN (by decide) (by decide)) (by decide +kernel) ?_
  obtain ⟨fsm, hcm⟩ := lw_m hI1
  refine J.room (kc := 0 + kc) (ks := 0 + ks) (j_callV (own := 13) (i := 190) (y2 := 301) (d2 := 4) (mc := 0) (ms := 0) (a := b1 + 0) (As := [.int (jsX g (i + Int32.ofInt 1).toNatClampNeg), .int (jsX g (i + Int32.ofInt 2).toNatClampNeg)]) (st := []) (by decide +kernel) lw_cls (by decide +kernel) (by decide) (by decide +kernel) (by decide +kernel) (by decide +kernel) (by decide +kernel) (by decide +kernel) (show 2 = jnp 301 by decide +kernel) (by decide) (by decide) hcm (fun r hr => by cases hr; decide +kernel) (lu_622 (hlow 622 _ rfl) (hI1.ok []) hI1.2.2.2.2.1 ⟨i32_lo _, i32_hi _⟩ ⟨i32_lo _, i32_hi _⟩) (fun v h2 hq => ?_)) (by omega) (by omega)
  obtain ⟨x2, rfl, bk2, hI2, h62⟩ := lwP hI1 hq (by decide +kernel) (by decide +kernel) (by decide +kernel) (show n ≤ n + 40 by omega)
  refine j_pop (by decide +kernel) rfl ?_
  refine j_goto (off := 379) (tgt := 1983) (by decide +kernel) (by decide) ?_
  exact kk bk2 h2 hI2 (fun b hb => h62 b (h61 b hb))
theorem lu_477 (hk : kOK TTs g (EIm n) l Kx_477) {W0 : List aR} {bk0 bk : aB} {h0 h : jH} (hO : hOK TTs g (EIm n) W0 bk0 h0 bk h) {a0 : Nat} (ha0 : bk 0 = some a0) {x1 : Int32} (hx1 : (-2147483648 : Int) ≤ x1.toInt ∧ x1.toInt ≤ 2147483647) {x2 : Int32} (hx2 : (-2147483648 : Int) ≤ x2.toInt ∧ x2.toInt ≤ 2147483647) {x3 : Int32} (hx3 : (-2147483648 : Int) ≤ x3.toInt ∧ x3.toInt ≤ 2147483647) :
    jCal l g 174 3 [.ref (g.2.2 + (a0 + 0)), .int x1, .int x2, .int x3] h 0 0 (kPost TTs g (EIm n) Kx_477 bk h [x1.toInt, x2.toInt, x3.toInt]) := by
  refine hk bk h [.ref (g.2.2 + (a0 + 0)), .int x1, .int x2, .int x3] [x1.toInt, x2.toInt, x3.toInt] hO.1 hO.2.1 hO.2.2.1 hO.2.2.2.2.2 (show 4 ≤ jmx 174 by decide +kernel) rfl (fun q hq => ?_) ⟨⟨rfl, fun i e z he hz => ?_⟩, eFm_plain (plain_app (spEnv_plain _) clEnv_plain), fun F hF => absurd hF List.not_mem_nil, fun i v hv => ?_, trivial, fun q hq => ?_, fun B hB => absurd hB List.not_mem_nil⟩
  · have hq : q ∈ ([] : List (Nat × Int × Nat)) := hq
    exact absurd hq List.not_mem_nil
  · match i, he, hz with
    | 0, he, hz => cases he; cases hz; exact hx1
    | 1, he, hz => cases he; cases hz; exact hx2
    | 2, he, hz => cases he; cases hz; exact hx3
    | i + 3, he, _ => cases he
  · match i, hv with
    | 0, hv => cases hv; exact ⟨_, rfl, a0, ha0, rfl⟩
    | 1, hv => cases hv; exact ⟨_, rfl, x1, rfl, rfl⟩
    | 2, hv => cases hv; exact ⟨_, rfl, x2, rfl, rfl⟩
    | 3, hv => cases hv; exact ⟨_, rfl, x3, rfl, rfl⟩
    | i + 4, hv => cases hv
  · exact absurd hq List.not_mem_nil
theorem lu_635 (hk : kOK TTs g (EIm n) l Kx_635) {W0 : List aR} {bk0 bk : aB} {h0 h : jH} (hO : hOK TTs g (EIm n) W0 bk0 h0 bk h) {a1 : Nat} (ha1 : bk 1 = some a1) {x1 : Int32} (hx1 : (-2147483648 : Int) ≤ x1.toInt ∧ x1.toInt ≤ 2147483647) {x2 : Int32} (hx2 : (-2147483648 : Int) ≤ x2.toInt ∧ x2.toInt ≤ 2147483647) {x3 : Int32} (hx3 : (-2147483648 : Int) ≤ x3.toInt ∧ x3.toInt ≤ 2147483647) :
    jCal l g 303 3 [.ref (g.2.2 + (a1 + 0)), .int x1, .int x2, .int x3] h 0 0 (kPost TTs g (EIm n) Kx_635 bk h [x1.toInt, x2.toInt, x3.toInt]) := by
  refine hk bk h [.ref (g.2.2 + (a1 + 0)), .int x1, .int x2, .int x3] [x1.toInt, x2.toInt, x3.toInt] hO.1 hO.2.1 hO.2.2.1 hO.2.2.2.2.2 (show 4 ≤ jmx 303 by decide +kernel) rfl (fun q hq => ?_) ⟨⟨rfl, fun i e z he hz => ?_⟩, eFm_plain (plain_app (spEnv_plain _) clEnv_plain), fun F hF => absurd hF List.not_mem_nil, fun i v hv => ?_, trivial, fun q hq => ?_, fun B hB => absurd hB List.not_mem_nil⟩
  · have hq : q ∈ ([] : List (Nat × Int × Nat)) := hq
    exact absurd hq List.not_mem_nil
  · match i, he, hz with
    | 0, he, hz => cases he; cases hz; exact hx1
    | 1, he, hz => cases he; cases hz; exact hx2
    | 2, he, hz => cases he; cases hz; exact hx3
    | i + 3, he, _ => cases he
  · match i, hv with
    | 0, hv => cases hv; exact ⟨_, rfl, a1, ha1, rfl⟩
    | 1, hv => cases hv; exact ⟨_, rfl, x1, rfl, rfl⟩
    | 2, hv => cases hv; exact ⟨_, rfl, x2, rfl, rfl⟩
    | 3, hv => cases hv; exact ⟨_, rfl, x3, rfl, rfl⟩
    | 4, hv => cases hv
    | 5, hv => cases hv
    | 6, hv => cases hv
    | i + 7, hv => cases hv
  · exact absurd hq List.not_mem_nil
set_option maxRecDepth 16384 in
theorem lc_43 (hlow : ∀ (k : Nat) (K : aK), KTx[k]? = some K → kOK TTs g (EIm n) l K) {b0 b1 : Nat} {bk : aB} {h : jH} (hI : lwI g n b0 b1 bk h) {i : Int32} (hi : 0 ≤ i.toInt ∧ i.toInt + 6 ≤ (jsN g : Int)) (hN : jsN g ≤ 3072) {kc ks : Nat} {Q : Option Value → jH → Prop}
    (kk : ∀ bk' h', lwI g (n + 40) b0 b1 bk' h' → (∀ b, bk 6 = some b → bk' 6 = some b) → J l g 315 100 1983 (lwL g b0 b1 i) [] h' kc ks Q) : J l g 315 100 1607 (lwL g b0 b1 i) [] h kc ks Q := by
  refine j_aload_n (k4 := 1) (by decide +kernel) rfl ?_
  refine j_aload_n (k4 := 0) (by decide +kernel) rfl ?_
  refine j_iload_n (k4 := 3) (by decide +kernel) rfl ?_
  refine j_iconst (n := 1) (by decide +kernel) ?_
  refine j_iadd (by decide +kernel) ?_
  refine j_sld (lw_at hi hN (by decide) (by decide)) (by decide +kernel) ?_
  refine j_aload_n (k4 := 0) (by decide +kernel) rfl ?_
  refine j_iload_n (k4 := 3) (by decide +kernel) rfl ?_
  refine j_iconst (n := 2) (by decide +kernel) ?_
  refine j_iadd (by decide +kernel) ?_
  refine j_sld (lw_at hi hN (by decide) (by decide)) (by decide +kernel) ?_
  refine j_aload_n (k4 := 0) (by decide +kernel) rfl ?_
  refine j_iload_n (k4 := 3) (by decide +kernel) rfl ?_
  refine j_iconst (n := 3) (by decide +kernel) ?_
  refine j_iadd (by decide +kernel) ?_
  refine j_sld (lw_at hi hN (by decide) (by decide)) (by decide +kernel) ?_
  obtain ⟨fsx, hcx⟩ := lw_x hI
  refine J.room (kc := 0 + kc) (ks := 0 + ks) (j_callV (own := 13) (i := 191) (y2 := 174) (d2 := 3) (mc := 0) (ms := 0) (a := b0 + 0) (As := [.int (jsX g (i + Int32.ofInt 1).toNatClampNeg), .int (jsX g (i + Int32.ofInt 2).toNatClampNeg), .int (jsX g (i + Int32.ofInt 3).toNatClampNeg)]) (st := []) (by decide +kernel) lw_cls (by decide +kernel) (by decide) (by decide +kernel) (by decide +kernel) (by decide +kernel) (by decide +kernel) (by decide +kernel) (show 3 = jnp 174 by decide +kernel) (by decide) (by decide) hcx (fun r hr => by cases hr; decide +kernel) (lu_477 (hlow 477 _ rfl) (hI.ok []) hI.2.2.2.1 ⟨i32_lo _, i32_hi _⟩ ⟨i32_lo _, i32_hi _⟩ ⟨i32_lo _, i32_hi _⟩) (fun v h1 hq => ?_)) (by omega) (by omega)
  obtain ⟨x1, rfl, bk1, hI1, h61⟩ := lwP hI hq (by decide +kernel) (by decide +kernel) (by decide +kernel) (Int.le_refl n)
  refine j_pop (by decide +kernel) rfl ?_
  refine j_aload_n (k4 := 2) (by decide +kernel) rfl ?_
  refine j_aload_n (k4 := 0) (by decide +kernel) rfl ?_
  refine j_iload_n (k4 := 3) (by decide +kernel) rfl ?_
  refine j_iconst (n := 1) (by decide +kernel) ?_
  refine j_iadd (by decide +kernel) ?_
  refine j_sld (lw_at hi hN (by decide) (by decide)) (by decide +kernel) ?_
  refine j_aload_n (k4 := 0) (by decide +kernel) rfl ?_
  refine j_iload_n (k4 := 3) (by decide +kernel) rfl ?_
  refine j_iconst (n := 2) (by decide +kernel) ?_
  refine j_iadd (by decide +kernel) ?_
  refine j_sld (lw_at hi hN (by decide) (by decide)) (by decide +kernel) ?_
  refine j_aload_n (k4 := 0) (by decide +kernel) rfl ?_
  refine j_iload_n (k4 := 3) (by decide +kernel) rfl ?_
  refine j_iconst (n := 3) (by decide +kernel) ?_
  refine j_iadd (by decide +kernel) ?_
  refine j_sld (lw_at hi hN (by decide) (by decide)) (by decide +kernel) ?_
  obtain ⟨fsm, hcm⟩ := lw_m hI1
  refine J.room (kc := 0 + kc) (ks := 0 + ks) (j_callV (own := 13) (i := 194) (y2 := 303) (d2 := 3) (mc := 0) (ms := 0) (a := b1 + 0) (As := [.int (jsX g (i + Int32.ofInt 1).toNatClampNeg), .int (jsX g (i + Int32.ofInt 2).toNatClampNeg), .int (jsX g (i + Int32.ofInt 3).toNatClampNeg)]) (st := []) (by decide +kernel) lw_cls (by decide +kernel) (by decide) (by decide +kernel) (by decide +kernel) (by decide +kernel) (by decide +kernel) (by decide +kernel) (show 3 = jnp 303 by decide +kernel) (by decide) (by decide) hcm (fun r hr => by cases hr; decide +kernel) (lu_635 (hlow 635 _ rfl) (hI1.ok []) hI1.2.2.2.2.1 ⟨i32_lo _, i32_hi _⟩ ⟨i32_lo _, i32_hi _⟩ ⟨i32_lo _, i32_hi _⟩) (fun v h2 hq => ?_)) (by omega) (by omega)
  obtain ⟨x2, rfl, bk2, hI2, h62⟩ := lwP hI1 hq (by decide +kernel) (by decide +kernel) (by decide +kernel) (show n ≤ n + 40 by omega)
  refine j_pop (by decide +kernel) rfl ?_
  refine j_goto (off := 336) (tgt := 1983) (by decide +kernel) (by decide) ?_
  exact kk bk2 h2 hI2 (fun b hb => h62 b (h61 b hb))
theorem lu_449 (hk : kOK TTs g (EIm n) l Kx_449) {W0 : List aR} {bk0 bk : aB} {h0 h : jH} (hO : hOK TTs g (EIm n) W0 bk0 h0 bk h) {a0 : Nat} (ha0 : bk 0 = some a0) {x1 : Int32} (hx1 : (-2147483648 : Int) ≤ x1.toInt ∧ x1.toInt ≤ 2147483647) {x2 : Int32} (hx2 : (-2147483648 : Int) ≤ x2.toInt ∧ x2.toInt ≤ 2147483647) :
    jCal l g 178 2 [.ref (g.2.2 + (a0 + 0)), .int x1, .int x2] h 0 0 (kPost TTs g (EIm n) Kx_449 bk h [x1.toInt, x2.toInt]) := by
  refine hk bk h [.ref (g.2.2 + (a0 + 0)), .int x1, .int x2] [x1.toInt, x2.toInt] hO.1 hO.2.1 hO.2.2.1 hO.2.2.2.2.2 (show 3 ≤ jmx 178 by decide +kernel) rfl (fun q hq => ?_) ⟨⟨rfl, fun i e z he hz => ?_⟩, eFm_plain (plain_app (spEnv_plain _) clEnv_plain), fun F hF => absurd hF List.not_mem_nil, fun i v hv => ?_, trivial, fun q hq => ?_, fun B hB => absurd hB List.not_mem_nil⟩
  · have hq : q ∈ ([] : List (Nat × Int × Nat)) := hq
    exact absurd hq List.not_mem_nil
  · match i, he, hz with
    | 0, he, hz => cases he; cases hz; exact hx1
    | 1, he, hz => cases he; cases hz; exact hx2
    | i + 2, he, _ => cases he
  · match i, hv with
    | 0, hv => cases hv; exact ⟨_, rfl, a0, ha0, rfl⟩
    | 1, hv => cases hv; exact ⟨_, rfl, x1, rfl, rfl⟩
    | 2, hv => cases hv; exact ⟨_, rfl, x2, rfl, rfl⟩
    | 3, hv => cases hv
    | i + 4, hv => cases hv
  · exact absurd hq List.not_mem_nil
theorem lu_521 (hk : kOK TTs g (EIm n) l Kx_521) {W0 : List aR} {bk0 bk : aB} {h0 h : jH} (hO : hOK TTs g (EIm n) W0 bk0 h0 bk h) {a1 : Nat} (ha1 : bk 1 = some a1) {x1 : Int32} (hx1 : (-2147483648 : Int) ≤ x1.toInt ∧ x1.toInt ≤ 2147483647) {x2 : Int32} (hx2 : (-2147483648 : Int) ≤ x2.toInt ∧ x2.toInt ≤ 2147483647) :
    jCal l g 306 2 [.ref (g.2.2 + (a1 + 0)), .int x1, .int x2] h 0 0 (kPost TTs g (EIm n) Kx_521 bk h [x1.toInt, x2.toInt]) := by
  refine hk bk h [.ref (g.2.2 + (a1 + 0)), .int x1, .int x2] [x1.toInt, x2.toInt] hO.1 hO.2.1 hO.2.2.1 hO.2.2.2.2.2 (show 3 ≤ jmx 306 by decide +kernel) rfl (fun q hq => ?_) ⟨⟨rfl, fun i e z he hz => ?_⟩, eFm_plain (plain_app (spEnv_plain _) clEnv_plain), fun F hF => absurd hF List.not_mem_nil, fun i v hv => ?_, trivial, fun q hq => ?_, fun B hB => absurd hB List.not_mem_nil⟩
  · have hq : q ∈ ([] : List (Nat × Int × Nat)) := hq
    exact absurd hq List.not_mem_nil
  · match i, he, hz with
    | 0, he, hz => cases he; cases hz; exact hx1
    | 1, he, hz => cases he; cases hz; exact hx2
    | i + 2, he, _ => cases he
  · match i, hv with
    | 0, hv => cases hv; exact ⟨_, rfl, a1, ha1, rfl⟩
    | 1, hv => cases hv; exact ⟨_, rfl, x1, rfl, rfl⟩
    | 2, hv => cases hv; exact ⟨_, rfl, x2, rfl, rfl⟩
    | 3, hv => cases hv
    | i + 4, hv => cases hv
  · exact absurd hq List.not_mem_nil
set_option maxRecDepth 16384 in
theorem lc_44 (hlow : ∀ (k : Nat) (K : aK), KTx[k]? = some K → kOK TTs g (EIm n) l K) {b0 b1 : Nat} {bk : aB} {h : jH} (hI : lwI g n b0 b1 bk h) {i : Int32} (hi : 0 ≤ i.toInt ∧ i.toInt + 6 ≤ (jsN g : Int)) (hN : jsN g ≤ 3072) {kc ks : Nat} {Q : Option Value → jH → Prop}
    (kk : ∀ bk' h', lwI g (n + 40) b0 b1 bk' h' → (∀ b, bk 6 = some b → bk' 6 = some b) → J l g 315 100 1983 (lwL g b0 b1 i) [] h' kc ks Q) : J l g 315 100 1650 (lwL g b0 b1 i) [] h kc ks Q := by
  refine j_aload_n (k4 := 1) (by decide +kernel) rfl ?_
  refine j_aload_n (k4 := 0) (by decide +kernel) rfl ?_
  refine j_iload_n (k4 := 3) (by decide +kernel) rfl ?_
  refine j_iconst (n := 1) (by decide +kernel) ?_
  refine j_iadd (by decide +kernel) ?_
  refine j_sld (lw_at hi hN (by decide) (by decide)) (by decide +kernel) ?_
  refine j_aload_n (k4 := 0) (by decide +kernel) rfl ?_
  refine j_iload_n (k4 := 3) (by decide +kernel) rfl ?_
  refine j_iconst (n := 2) (by decide +kernel) ?_
  refine j_iadd (by decide +kernel) ?_
  refine j_sld (lw_at hi hN (by decide) (by decide)) (by decide +kernel) ?_
  obtain ⟨fsx, hcx⟩ := lw_x hI
  refine J.room (kc := 0 + kc) (ks := 0 + ks) (j_callV (own := 13) (i := 195) (y2 := 178) (d2 := 2) (mc := 0) (ms := 0) (a := b0 + 0) (As := [.int (jsX g (i + Int32.ofInt 1).toNatClampNeg), .int (jsX g (i + Int32.ofInt 2).toNatClampNeg)]) (st := []) (by decide +kernel) lw_cls (by decide +kernel) (by decide) (by decide +kernel) (by decide +kernel) (by decide +kernel) (by decide +kernel) (by decide +kernel) (show 2 = jnp 178 by decide +kernel) (by decide) (by decide) hcx (fun r hr => by cases hr; decide +kernel) (lu_449 (hlow 449 _ rfl) (hI.ok []) hI.2.2.2.1 ⟨i32_lo _, i32_hi _⟩ ⟨i32_lo _, i32_hi _⟩) (fun v h1 hq => ?_)) (by omega) (by omega)
  obtain ⟨x1, rfl, bk1, hI1, h61⟩ := lwP hI hq (by decide +kernel) (by decide +kernel) (by decide +kernel) (Int.le_refl n)
  refine j_pop (by decide +kernel) rfl ?_
  refine j_aload_n (k4 := 2) (by decide +kernel) rfl ?_
  refine j_aload_n (k4 := 0) (by decide +kernel) rfl ?_
  refine j_iload_n (k4 := 3) (by decide +kernel) rfl ?_
  refine j_iconst (n := 1) (by decide +kernel) ?_
  refine j_iadd (by decide +kernel) ?_
  refine j_sld (lw_at hi hN (by decide) (by decide)) (by decide +kernel) ?_
  refine j_aload_n (k4 := 0) (by decide +kernel) rfl ?_
  refine j_iload_n (k4 := 3) (by decide +kernel) rfl ?_
  refine j_iconst (n := 2) (by decide +kernel) ?_
  refine j_iadd (by decide +kernel) ?_
  refine j_sld (lw_at hi hN (by decide) (by decide)) (by decide +kernel) ?_
  obtain ⟨fsm, hcm⟩ := lw_m hI1
  refine J.room (kc := 0 + kc) (ks := 0 + ks) (j_callV (own := 13) (i := 198) (y2 := 306) (d2 := 2) (mc := 0) (ms := 0) (a := b1 + 0) (As := [.int (jsX g (i + Int32.ofInt 1).toNatClampNeg), .int (jsX g (i + Int32.ofInt 2).toNatClampNeg)]) (st := []) (by decide +kernel) lw_cls (by decide +kernel) (by decide) (by decide +kernel) (by decide +kernel) (by decide +kernel) (by decide +kernel) (by decide +kernel) (show 2 = jnp 306 by decide +kernel) (by decide) (by decide) hcm (fun r hr => by cases hr; decide +kernel) (lu_521 (hlow 521 _ rfl) (hI1.ok []) hI1.2.2.2.2.1 ⟨i32_lo _, i32_hi _⟩ ⟨i32_lo _, i32_hi _⟩) (fun v h2 hq => ?_)) (by omega) (by omega)
  obtain ⟨x2, rfl, bk2, hI2, h62⟩ := lwP hI1 hq (by decide +kernel) (by decide +kernel) (by decide +kernel) (show n ≤ n + 40 by omega)
  refine j_pop (by decide +kernel) rfl ?_
  refine j_goto (off := 303) (tgt := 1983) (by decide +kernel) (by decide) ?_
  exact kk bk2 h2 hI2 (fun b hb => h62 b (h61 b hb))
theorem lu_453 (hk : kOK TTs g (EIm n) l Kx_453) {W0 : List aR} {bk0 bk : aB} {h0 h : jH} (hO : hOK TTs g (EIm n) W0 bk0 h0 bk h) {a0 : Nat} (ha0 : bk 0 = some a0) {x1 : Int32} (hx1 : (-2147483648 : Int) ≤ x1.toInt ∧ x1.toInt ≤ 2147483647) {x2 : Int32} (hx2 : (-2147483648 : Int) ≤ x2.toInt ∧ x2.toInt ≤ 2147483647) {x3 : Int32} (hx3 : (-2147483648 : Int) ≤ x3.toInt ∧ x3.toInt ≤ 2147483647) :
    jCal l g 180 2 [.ref (g.2.2 + (a0 + 0)), .int x1, .int x2, .int x3] h 0 0 (kPost TTs g (EIm n) Kx_453 bk h [x1.toInt, x2.toInt, x3.toInt]) := by
  refine hk bk h [.ref (g.2.2 + (a0 + 0)), .int x1, .int x2, .int x3] [x1.toInt, x2.toInt, x3.toInt] hO.1 hO.2.1 hO.2.2.1 hO.2.2.2.2.2 (show 4 ≤ jmx 180 by decide +kernel) rfl (fun q hq => ?_) ⟨⟨rfl, fun i e z he hz => ?_⟩, eFm_plain (plain_app (spEnv_plain _) clEnv_plain), fun F hF => absurd hF List.not_mem_nil, fun i v hv => ?_, trivial, fun q hq => ?_, fun B hB => absurd hB List.not_mem_nil⟩
  · have hq : q ∈ ([] : List (Nat × Int × Nat)) := hq
    exact absurd hq List.not_mem_nil
  · match i, he, hz with
    | 0, he, hz => cases he; cases hz; exact hx1
    | 1, he, hz => cases he; cases hz; exact hx2
    | 2, he, hz => cases he; cases hz; exact hx3
    | i + 3, he, _ => cases he
  · match i, hv with
    | 0, hv => cases hv; exact ⟨_, rfl, a0, ha0, rfl⟩
    | 1, hv => cases hv; exact ⟨_, rfl, x1, rfl, rfl⟩
    | 2, hv => cases hv; exact ⟨_, rfl, x2, rfl, rfl⟩
    | 3, hv => cases hv; exact ⟨_, rfl, x3, rfl, rfl⟩
    | 4, hv => cases hv
    | i + 5, hv => cases hv
  · exact absurd hq List.not_mem_nil
theorem lu_525 (hk : kOK TTs g (EIm n) l Kx_525) {W0 : List aR} {bk0 bk : aB} {h0 h : jH} (hO : hOK TTs g (EIm n) W0 bk0 h0 bk h) {a1 : Nat} (ha1 : bk 1 = some a1) {x1 : Int32} (hx1 : (-2147483648 : Int) ≤ x1.toInt ∧ x1.toInt ≤ 2147483647) {x2 : Int32} (hx2 : (-2147483648 : Int) ≤ x2.toInt ∧ x2.toInt ≤ 2147483647) {x3 : Int32} (hx3 : (-2147483648 : Int) ≤ x3.toInt ∧ x3.toInt ≤ 2147483647) :
    jCal l g 307 3 [.ref (g.2.2 + (a1 + 0)), .int x1, .int x2, .int x3] h 0 0 (kPost TTs g (EIm n) Kx_525 bk h [x1.toInt, x2.toInt, x3.toInt]) := by
  refine hk bk h [.ref (g.2.2 + (a1 + 0)), .int x1, .int x2, .int x3] [x1.toInt, x2.toInt, x3.toInt] hO.1 hO.2.1 hO.2.2.1 hO.2.2.2.2.2 (show 4 ≤ jmx 307 by decide +kernel) rfl (fun q hq => ?_) ⟨⟨rfl, fun i e z he hz => ?_⟩, eFm_plain (plain_app (spEnv_plain _) clEnv_plain), fun F hF => absurd hF List.not_mem_nil, fun i v hv => ?_, trivial, fun q hq => ?_, fun B hB => absurd hB List.not_mem_nil⟩
  · have hq : q ∈ ([] : List (Nat × Int × Nat)) := hq
    exact absurd hq List.not_mem_nil
  · match i, he, hz with
    | 0, he, hz => cases he; cases hz; exact hx1
    | 1, he, hz => cases he; cases hz; exact hx2
    | 2, he, hz => cases he; cases hz; exact hx3
    | i + 3, he, _ => cases he
  · match i, hv with
    | 0, hv => cases hv; exact ⟨_, rfl, a1, ha1, rfl⟩
    | 1, hv => cases hv; exact ⟨_, rfl, x1, rfl, rfl⟩
    | 2, hv => cases hv; exact ⟨_, rfl, x2, rfl, rfl⟩
    | 3, hv => cases hv; exact ⟨_, rfl, x3, rfl, rfl⟩
    | 4, hv => cases hv
    | i + 5, hv => cases hv
  · exact absurd hq List.not_mem_nil
set_option maxRecDepth 16384 in
theorem lc_45 (hlow : ∀ (k : Nat) (K : aK), KTx[k]? = some K → kOK TTs g (EIm n) l K) {b0 b1 : Nat} {bk : aB} {h : jH} (hI : lwI g n b0 b1 bk h) {i : Int32} (hi : 0 ≤ i.toInt ∧ i.toInt + 6 ≤ (jsN g : Int)) (hN : jsN g ≤ 3072) {kc ks : Nat} {Q : Option Value → jH → Prop}
    (kk : ∀ bk' h', lwI g (n + 40) b0 b1 bk' h' → (∀ b, bk 6 = some b → bk' 6 = some b) → J l g 315 100 1983 (lwL g b0 b1 i) [] h' kc ks Q) : J l g 315 100 1683 (lwL g b0 b1 i) [] h kc ks Q := by
  refine j_aload_n (k4 := 1) (by decide +kernel) rfl ?_
  refine j_aload_n (k4 := 0) (by decide +kernel) rfl ?_
  refine j_iload_n (k4 := 3) (by decide +kernel) rfl ?_
  refine j_iconst (n := 1) (by decide +kernel) ?_
  refine j_iadd (by decide +kernel) ?_
  refine j_sld (lw_at hi hN (by decide) (by decide)) (by decide +kernel) ?_
  refine j_aload_n (k4 := 0) (by decide +kernel) rfl ?_
  refine j_iload_n (k4 := 3) (by decide +kernel) rfl ?_
  refine j_iconst (n := 2) (by decide +kernel) ?_
  refine j_iadd (by decide +kernel) ?_
  refine j_sld (lw_at hi hN (by decide) (by decide)) (by decide +kernel) ?_
  refine j_aload_n (k4 := 0) (by decide +kernel) rfl ?_
  refine j_iload_n (k4 := 3) (by decide +kernel) rfl ?_
  refine j_iconst (n := 3) (by decide +kernel) ?_
  refine j_iadd (by decide +kernel) ?_
  refine j_sld (lw_at hi hN (by decide) (by decide)) (by decide +kernel) ?_
  obtain ⟨fsx, hcx⟩ := lw_x hI
  refine J.room (kc := 0 + kc) (ks := 0 + ks) (j_callV (own := 13) (i := 199) (y2 := 180) (d2 := 2) (mc := 0) (ms := 0) (a := b0 + 0) (As := [.int (jsX g (i + Int32.ofInt 1).toNatClampNeg), .int (jsX g (i + Int32.ofInt 2).toNatClampNeg), .int (jsX g (i + Int32.ofInt 3).toNatClampNeg)]) (st := []) (by decide +kernel) lw_cls (by decide +kernel) (by decide) (by decide +kernel) (by decide +kernel) (by decide +kernel) (by decide +kernel) (by decide +kernel) (show 3 = jnp 180 by decide +kernel) (by decide) (by decide) hcx (fun r hr => by cases hr; decide +kernel) (lu_453 (hlow 453 _ rfl) (hI.ok []) hI.2.2.2.1 ⟨i32_lo _, i32_hi _⟩ ⟨i32_lo _, i32_hi _⟩ ⟨i32_lo _, i32_hi _⟩) (fun v h1 hq => ?_)) (by omega) (by omega)
  obtain ⟨x1, rfl, bk1, hI1, h61⟩ := lwP hI hq (by decide +kernel) (by decide +kernel) (by decide +kernel) (Int.le_refl n)
  refine j_pop (by decide +kernel) rfl ?_
  refine j_aload_n (k4 := 2) (by decide +kernel) rfl ?_
  refine j_aload_n (k4 := 0) (by decide +kernel) rfl ?_
  refine j_iload_n (k4 := 3) (by decide +kernel) rfl ?_
  refine j_iconst (n := 1) (by decide +kernel) ?_
  refine j_iadd (by decide +kernel) ?_
  refine j_sld (lw_at hi hN (by decide) (by decide)) (by decide +kernel) ?_
  refine j_aload_n (k4 := 0) (by decide +kernel) rfl ?_
  refine j_iload_n (k4 := 3) (by decide +kernel) rfl ?_
  refine j_iconst (n := 2) (by decide +kernel) ?_
  refine j_iadd (by decide +kernel) ?_
  refine j_sld (lw_at hi hN (by decide) (by decide)) (by decide +kernel) ?_
  refine j_aload_n (k4 := 0) (by decide +kernel) rfl ?_
  refine j_iload_n (k4 := 3) (by decide +kernel) rfl ?_
  refine j_iconst (n := 3) (by decide +kernel) ?_
  refine j_iadd (by decide +kernel) ?_
  refine j_sld (lw_at hi hN (by decide) (by decide)) (by decide +kernel) ?_
  obtain ⟨fsm, hcm⟩ := lw_m hI1
  refine J.room (kc := 0 + kc) (ks := 0 + ks) (j_callV (own := 13) (i := 202) (y2 := 307) (d2 := 3) (mc := 0) (ms := 0) (a := b1 + 0) (As := [.int (jsX g (i + Int32.ofInt 1).toNatClampNeg), .int (jsX g (i + Int32.ofInt 2).toNatClampNeg), .int (jsX g (i + Int32.ofInt 3).toNatClampNeg)]) (st := []) (by decide +kernel) lw_cls (by decide +kernel) (by decide) (by decide +kernel) (by decide +kernel) (by decide +kernel) (by decide +kernel) (by decide +kernel) (show 3 = jnp 307 by decide +kernel) (by decide) (by decide) hcm (fun r hr => by cases hr; decide +kernel) (lu_525 (hlow 525 _ rfl) (hI1.ok []) hI1.2.2.2.2.1 ⟨i32_lo _, i32_hi _⟩ ⟨i32_lo _, i32_hi _⟩ ⟨i32_lo _, i32_hi _⟩) (fun v h2 hq => ?_)) (by omega) (by omega)
  obtain ⟨x2, rfl, bk2, hI2, h62⟩ := lwP hI1 hq (by decide +kernel) (by decide +kernel) (by decide +kernel) (show n ≤ n + 40 by omega)
  refine j_pop (by decide +kernel) rfl ?_
  refine j_goto (off := 260) (tgt := 1983) (by decide +kernel) (by decide) ?_
  exact kk bk2 h2 hI2 (fun b hb => h62 b (h61 b hb))
theorem lu_442 (hk : kOK TTs g (EIm n) l Kx_442) {W0 : List aR} {bk0 bk : aB} {h0 h : jH} (hO : hOK TTs g (EIm n) W0 bk0 h0 bk h) {a0 : Nat} (ha0 : bk 0 = some a0) {x1 : Int32} (hx1 : (-2147483648 : Int) ≤ x1.toInt ∧ x1.toInt ≤ 2147483647) {x2 : Int32} (hx2 : (-2147483648 : Int) ≤ x2.toInt ∧ x2.toInt ≤ 2147483647) :
    jCal l g 183 2 [.ref (g.2.2 + (a0 + 0)), .int x1, .int x2] h 0 0 (kPost TTs g (EIm n) Kx_442 bk h [x1.toInt, x2.toInt]) := by
  refine hk bk h [.ref (g.2.2 + (a0 + 0)), .int x1, .int x2] [x1.toInt, x2.toInt] hO.1 hO.2.1 hO.2.2.1 hO.2.2.2.2.2 (show 3 ≤ jmx 183 by decide +kernel) rfl (fun q hq => ?_) ⟨⟨rfl, fun i e z he hz => ?_⟩, eFm_plain (plain_app (spEnv_plain _) clEnv_plain), fun F hF => absurd hF List.not_mem_nil, fun i v hv => ?_, trivial, fun q hq => ?_, fun B hB => absurd hB List.not_mem_nil⟩
  · have hq : q ∈ ([] : List (Nat × Int × Nat)) := hq
    exact absurd hq List.not_mem_nil
  · match i, he, hz with
    | 0, he, hz => cases he; cases hz; exact hx1
    | 1, he, hz => cases he; cases hz; exact hx2
    | i + 2, he, _ => cases he
  · match i, hv with
    | 0, hv => cases hv; exact ⟨_, rfl, a0, ha0, rfl⟩
    | 1, hv => cases hv; exact ⟨_, rfl, x1, rfl, rfl⟩
    | 2, hv => cases hv; exact ⟨_, rfl, x2, rfl, rfl⟩
    | 3, hv => cases hv
    | i + 4, hv => cases hv
  · exact absurd hq List.not_mem_nil
theorem lu_511 (hk : kOK TTs g (EIm n) l Kx_511) {W0 : List aR} {bk0 bk : aB} {h0 h : jH} (hO : hOK TTs g (EIm n) W0 bk0 h0 bk h) {a1 : Nat} (ha1 : bk 1 = some a1) {x1 : Int32} (hx1 : (-2147483648 : Int) ≤ x1.toInt ∧ x1.toInt ≤ 2147483647) {x2 : Int32} (hx2 : (-2147483648 : Int) ≤ x2.toInt ∧ x2.toInt ≤ 2147483647) :
    jCal l g 309 3 [.ref (g.2.2 + (a1 + 0)), .int x1, .int x2] h 0 0 (kPost TTs g (EIm n) Kx_511 bk h [x1.toInt, x2.toInt]) := by
  refine hk bk h [.ref (g.2.2 + (a1 + 0)), .int x1, .int x2] [x1.toInt, x2.toInt] hO.1 hO.2.1 hO.2.2.1 hO.2.2.2.2.2 (show 3 ≤ jmx 309 by decide +kernel) rfl (fun q hq => ?_) ⟨⟨rfl, fun i e z he hz => ?_⟩, eFm_plain (plain_app (spEnv_plain _) clEnv_plain), fun F hF => absurd hF List.not_mem_nil, fun i v hv => ?_, trivial, fun q hq => ?_, fun B hB => absurd hB List.not_mem_nil⟩
  · have hq : q ∈ ([] : List (Nat × Int × Nat)) := hq
    exact absurd hq List.not_mem_nil
  · match i, he, hz with
    | 0, he, hz => cases he; cases hz; exact hx1
    | 1, he, hz => cases he; cases hz; exact hx2
    | i + 2, he, _ => cases he
  · match i, hv with
    | 0, hv => cases hv; exact ⟨_, rfl, a1, ha1, rfl⟩
    | 1, hv => cases hv; exact ⟨_, rfl, x1, rfl, rfl⟩
    | 2, hv => cases hv; exact ⟨_, rfl, x2, rfl, rfl⟩
    | 3, hv => cases hv
    | i + 4, hv => cases hv
  · exact absurd hq List.not_mem_nil
set_option maxRecDepth 16384 in
theorem lc_47 (hlow : ∀ (k : Nat) (K : aK), KTx[k]? = some K → kOK TTs g (EIm n) l K) {b0 b1 : Nat} {bk : aB} {h : jH} (hI : lwI g n b0 b1 bk h) {i : Int32} (hi : 0 ≤ i.toInt ∧ i.toInt + 6 ≤ (jsN g : Int)) (hN : jsN g ≤ 3072) {kc ks : Nat} {Q : Option Value → jH → Prop}
    (kk : ∀ bk' h', lwI g (n + 40) b0 b1 bk' h' → (∀ b, bk 6 = some b → bk' 6 = some b) → J l g 315 100 1983 (lwL g b0 b1 i) [] h' kc ks Q) : J l g 315 100 1779 (lwL g b0 b1 i) [] h kc ks Q := by
  refine j_aload_n (k4 := 1) (by decide +kernel) rfl ?_
  refine j_aload_n (k4 := 0) (by decide +kernel) rfl ?_
  refine j_iload_n (k4 := 3) (by decide +kernel) rfl ?_
  refine j_iconst (n := 1) (by decide +kernel) ?_
  refine j_iadd (by decide +kernel) ?_
  refine j_sld (lw_at hi hN (by decide) (by decide)) (by decide +kernel) ?_
  refine j_aload_n (k4 := 0) (by decide +kernel) rfl ?_
  refine j_iload_n (k4 := 3) (by decide +kernel) rfl ?_
  refine j_iconst (n := 2) (by decide +kernel) ?_
  refine j_iadd (by decide +kernel) ?_
  refine j_sld (lw_at hi hN (by decide) (by decide)) (by decide +kernel) ?_
  obtain ⟨fsx, hcx⟩ := lw_x hI
  refine J.room (kc := 0 + kc) (ks := 0 + ks) (j_callV (own := 13) (i := 207) (y2 := 183) (d2 := 2) (mc := 0) (ms := 0) (a := b0 + 0) (As := [.int (jsX g (i + Int32.ofInt 1).toNatClampNeg), .int (jsX g (i + Int32.ofInt 2).toNatClampNeg)]) (st := []) (by decide +kernel) lw_cls (by decide +kernel) (by decide) (by decide +kernel) (by decide +kernel) (by decide +kernel) (by decide +kernel) (by decide +kernel) (show 2 = jnp 183 by decide +kernel) (by decide) (by decide) hcx (fun r hr => by cases hr; decide +kernel) (lu_442 (hlow 442 _ rfl) (hI.ok []) hI.2.2.2.1 ⟨i32_lo _, i32_hi _⟩ ⟨i32_lo _, i32_hi _⟩) (fun v h1 hq => ?_)) (by omega) (by omega)
  obtain ⟨x1, rfl, bk1, hI1, h61⟩ := lwP hI hq (by decide +kernel) (by decide +kernel) (by decide +kernel) (Int.le_refl n)
  refine j_pop (by decide +kernel) rfl ?_
  refine j_aload_n (k4 := 2) (by decide +kernel) rfl ?_
  refine j_aload_n (k4 := 0) (by decide +kernel) rfl ?_
  refine j_iload_n (k4 := 3) (by decide +kernel) rfl ?_
  refine j_iconst (n := 1) (by decide +kernel) ?_
  refine j_iadd (by decide +kernel) ?_
  refine j_sld (lw_at hi hN (by decide) (by decide)) (by decide +kernel) ?_
  refine j_aload_n (k4 := 0) (by decide +kernel) rfl ?_
  refine j_iload_n (k4 := 3) (by decide +kernel) rfl ?_
  refine j_iconst (n := 2) (by decide +kernel) ?_
  refine j_iadd (by decide +kernel) ?_
  refine j_sld (lw_at hi hN (by decide) (by decide)) (by decide +kernel) ?_
  obtain ⟨fsm, hcm⟩ := lw_m hI1
  refine J.room (kc := 0 + kc) (ks := 0 + ks) (j_callV (own := 13) (i := 210) (y2 := 309) (d2 := 3) (mc := 0) (ms := 0) (a := b1 + 0) (As := [.int (jsX g (i + Int32.ofInt 1).toNatClampNeg), .int (jsX g (i + Int32.ofInt 2).toNatClampNeg)]) (st := []) (by decide +kernel) lw_cls (by decide +kernel) (by decide) (by decide +kernel) (by decide +kernel) (by decide +kernel) (by decide +kernel) (by decide +kernel) (show 2 = jnp 309 by decide +kernel) (by decide) (by decide) hcm (fun r hr => by cases hr; decide +kernel) (lu_511 (hlow 511 _ rfl) (hI1.ok []) hI1.2.2.2.2.1 ⟨i32_lo _, i32_hi _⟩ ⟨i32_lo _, i32_hi _⟩) (fun v h2 hq => ?_)) (by omega) (by omega)
  obtain ⟨x2, rfl, bk2, hI2, h62⟩ := lwP hI1 hq (by decide +kernel) (by decide +kernel) (by decide +kernel) (show n ≤ n + 40 by omega)
  refine j_pop (by decide +kernel) rfl ?_
  refine j_goto (off := 174) (tgt := 1983) (by decide +kernel) (by decide) ?_
  exact kk bk2 h2 hI2 (fun b hb => h62 b (h61 b hb))
theorem lu_455 (hk : kOK TTs g (EIm n) l Kx_455) {W0 : List aR} {bk0 bk : aB} {h0 h : jH} (hO : hOK TTs g (EIm n) W0 bk0 h0 bk h) {a0 : Nat} (ha0 : bk 0 = some a0) {x1 : Int32} (hx1 : (-2147483648 : Int) ≤ x1.toInt ∧ x1.toInt ≤ 2147483647) {x2 : Int32} (hx2 : (-2147483648 : Int) ≤ x2.toInt ∧ x2.toInt ≤ 2147483647) {x3 : Int32} (hx3 : (-2147483648 : Int) ≤ x3.toInt ∧ x3.toInt ≤ 2147483647) :
    jCal l g 187 3 [.ref (g.2.2 + (a0 + 0)), .int x1, .int x2, .int x3] h 0 0 (kPost TTs g (EIm n) Kx_455 bk h [x1.toInt, x2.toInt, x3.toInt]) := by
  refine hk bk h [.ref (g.2.2 + (a0 + 0)), .int x1, .int x2, .int x3] [x1.toInt, x2.toInt, x3.toInt] hO.1 hO.2.1 hO.2.2.1 hO.2.2.2.2.2 (show 4 ≤ jmx 187 by decide +kernel) rfl (fun q hq => ?_) ⟨⟨rfl, fun i e z he hz => ?_⟩, eFm_plain (plain_app (spEnv_plain _) clEnv_plain), fun F hF => absurd hF List.not_mem_nil, fun i v hv => ?_, trivial, fun q hq => ?_, fun B hB => absurd hB List.not_mem_nil⟩
  · have hq : q ∈ ([] : List (Nat × Int × Nat)) := hq
    exact absurd hq List.not_mem_nil
  · match i, he, hz with
    | 0, he, hz => cases he; cases hz; exact hx1
    | 1, he, hz => cases he; cases hz; exact hx2
    | 2, he, hz => cases he; cases hz; exact hx3
    | i + 3, he, _ => cases he
  · match i, hv with
    | 0, hv => cases hv; exact ⟨_, rfl, a0, ha0, rfl⟩
    | 1, hv => cases hv; exact ⟨_, rfl, x1, rfl, rfl⟩
    | 2, hv => cases hv; exact ⟨_, rfl, x2, rfl, rfl⟩
    | 3, hv => cases hv; exact ⟨_, rfl, x3, rfl, rfl⟩
    | i + 4, hv => cases hv
  · exact absurd hq List.not_mem_nil
theorem lu_528 (hk : kOK TTs g (EIm n) l Kx_528) {W0 : List aR} {bk0 bk : aB} {h0 h : jH} (hO : hOK TTs g (EIm n) W0 bk0 h0 bk h) {a1 : Nat} (ha1 : bk 1 = some a1) {x1 : Int32} (hx1 : (-2147483648 : Int) ≤ x1.toInt ∧ x1.toInt ≤ 2147483647) {x2 : Int32} (hx2 : (-2147483648 : Int) ≤ x2.toInt ∧ x2.toInt ≤ 2147483647) {x3 : Int32} (hx3 : (-2147483648 : Int) ≤ x3.toInt ∧ x3.toInt ≤ 2147483647) :
    jCal l g 311 3 [.ref (g.2.2 + (a1 + 0)), .int x1, .int x2, .int x3] h 0 0 (kPost TTs g (EIm n) Kx_528 bk h [x1.toInt, x2.toInt, x3.toInt]) := by
  refine hk bk h [.ref (g.2.2 + (a1 + 0)), .int x1, .int x2, .int x3] [x1.toInt, x2.toInt, x3.toInt] hO.1 hO.2.1 hO.2.2.1 hO.2.2.2.2.2 (show 4 ≤ jmx 311 by decide +kernel) rfl (fun q hq => ?_) ⟨⟨rfl, fun i e z he hz => ?_⟩, eFm_plain (plain_app (spEnv_plain _) clEnv_plain), fun F hF => absurd hF List.not_mem_nil, fun i v hv => ?_, trivial, fun q hq => ?_, fun B hB => absurd hB List.not_mem_nil⟩
  · have hq : q ∈ ([] : List (Nat × Int × Nat)) := hq
    exact absurd hq List.not_mem_nil
  · match i, he, hz with
    | 0, he, hz => cases he; cases hz; exact hx1
    | 1, he, hz => cases he; cases hz; exact hx2
    | 2, he, hz => cases he; cases hz; exact hx3
    | i + 3, he, _ => cases he
  · match i, hv with
    | 0, hv => cases hv; exact ⟨_, rfl, a1, ha1, rfl⟩
    | 1, hv => cases hv; exact ⟨_, rfl, x1, rfl, rfl⟩
    | 2, hv => cases hv; exact ⟨_, rfl, x2, rfl, rfl⟩
    | 3, hv => cases hv; exact ⟨_, rfl, x3, rfl, rfl⟩
    | 4, hv => cases hv
    | 5, hv => cases hv
    | 6, hv => cases hv
    | i + 7, hv => cases hv
  · exact absurd hq List.not_mem_nil
set_option maxRecDepth 16384 in
theorem lc_49 (hlow : ∀ (k : Nat) (K : aK), KTx[k]? = some K → kOK TTs g (EIm n) l K) {b0 b1 : Nat} {bk : aB} {h : jH} (hI : lwI g n b0 b1 bk h) {i : Int32} (hi : 0 ≤ i.toInt ∧ i.toInt + 6 ≤ (jsN g : Int)) (hN : jsN g ≤ 3072) {kc ks : Nat} {Q : Option Value → jH → Prop}
    (kk : ∀ bk' h', lwI g (n + 40) b0 b1 bk' h' → (∀ b, bk 6 = some b → bk' 6 = some b) → J l g 315 100 1983 (lwL g b0 b1 i) [] h' kc ks Q) : J l g 315 100 1835 (lwL g b0 b1 i) [] h kc ks Q := by
  refine j_aload_n (k4 := 1) (by decide +kernel) rfl ?_
  refine j_aload_n (k4 := 0) (by decide +kernel) rfl ?_
  refine j_iload_n (k4 := 3) (by decide +kernel) rfl ?_
  refine j_iconst (n := 1) (by decide +kernel) ?_
  refine j_iadd (by decide +kernel) ?_
  refine j_sld (lw_at hi hN (by decide) (by decide)) (by decide +kernel) ?_
  refine j_aload_n (k4 := 0) (by decide +kernel) rfl ?_
  refine j_iload_n (k4 := 3) (by decide +kernel) rfl ?_
  refine j_iconst (n := 2) (by decide +kernel) ?_
  refine j_iadd (by decide +kernel) ?_
  refine j_sld (lw_at hi hN (by decide) (by decide)) (by decide +kernel) ?_
  refine j_aload_n (k4 := 0) (by decide +kernel) rfl ?_
  refine j_iload_n (k4 := 3) (by decide +kernel) rfl ?_
  refine j_iconst (n := 3) (by decide +kernel) ?_
  refine j_iadd (by decide +kernel) ?_
  refine j_sld (lw_at hi hN (by decide) (by decide)) (by decide +kernel) ?_
  obtain ⟨fsx, hcx⟩ := lw_x hI
  refine J.room (kc := 0 + kc) (ks := 0 + ks) (j_callV (own := 13) (i := 215) (y2 := 187) (d2 := 3) (mc := 0) (ms := 0) (a := b0 + 0) (As := [.int (jsX g (i + Int32.ofInt 1).toNatClampNeg), .int (jsX g (i + Int32.ofInt 2).toNatClampNeg), .int (jsX g (i + Int32.ofInt 3).toNatClampNeg)]) (st := []) (by decide +kernel) lw_cls (by decide +kernel) (by decide) (by decide +kernel) (by decide +kernel) (by decide +kernel) (by decide +kernel) (by decide +kernel) (show 3 = jnp 187 by decide +kernel) (by decide) (by decide) hcx (fun r hr => by cases hr; decide +kernel) (lu_455 (hlow 455 _ rfl) (hI.ok []) hI.2.2.2.1 ⟨i32_lo _, i32_hi _⟩ ⟨i32_lo _, i32_hi _⟩ ⟨i32_lo _, i32_hi _⟩) (fun v h1 hq => ?_)) (by omega) (by omega)
  obtain ⟨x1, rfl, bk1, hI1, h61⟩ := lwP hI hq (by decide +kernel) (by decide +kernel) (by decide +kernel) (Int.le_refl n)
  refine j_pop (by decide +kernel) rfl ?_
  refine j_aload_n (k4 := 2) (by decide +kernel) rfl ?_
  refine j_aload_n (k4 := 0) (by decide +kernel) rfl ?_
  refine j_iload_n (k4 := 3) (by decide +kernel) rfl ?_
  refine j_iconst (n := 1) (by decide +kernel) ?_
  refine j_iadd (by decide +kernel) ?_
  refine j_sld (lw_at hi hN (by decide) (by decide)) (by decide +kernel) ?_
  refine j_aload_n (k4 := 0) (by decide +kernel) rfl ?_
  refine j_iload_n (k4 := 3) (by decide +kernel) rfl ?_
  refine j_iconst (n := 2) (by decide +kernel) ?_
  refine j_iadd (by decide +kernel) ?_
  refine j_sld (lw_at hi hN (by decide) (by decide)) (by decide +kernel) ?_
  refine j_aload_n (k4 := 0) (by decide +kernel) rfl ?_
  refine j_iload_n (k4 := 3) (by decide +kernel) rfl ?_
  refine j_iconst (n := 3) (by decide +kernel) ?_
  refine j_iadd (by decide +kernel) ?_
  refine j_sld (lw_at hi hN (by decide) (by decide)) (by decide +kernel) ?_
  obtain ⟨fsm, hcm⟩ := lw_m hI1
  refine J.room (kc := 0 + kc) (ks := 0 + ks) (j_callV (own := 13) (i := 218) (y2 := 311) (d2 := 3) (mc := 0) (ms := 0) (a := b1 + 0) (As := [.int (jsX g (i + Int32.ofInt 1).toNatClampNeg), .int (jsX g (i + Int32.ofInt 2).toNatClampNeg), .int (jsX g (i + Int32.ofInt 3).toNatClampNeg)]) (st := []) (by decide +kernel) lw_cls (by decide +kernel) (by decide) (by decide +kernel) (by decide +kernel) (by decide +kernel) (by decide +kernel) (by decide +kernel) (show 3 = jnp 311 by decide +kernel) (by decide) (by decide) hcm (fun r hr => by cases hr; decide +kernel) (lu_528 (hlow 528 _ rfl) (hI1.ok []) hI1.2.2.2.2.1 ⟨i32_lo _, i32_hi _⟩ ⟨i32_lo _, i32_hi _⟩ ⟨i32_lo _, i32_hi _⟩) (fun v h2 hq => ?_)) (by omega) (by omega)
  obtain ⟨x2, rfl, bk2, hI2, h62⟩ := lwP hI1 hq (by decide +kernel) (by decide +kernel) (by decide +kernel) (show n ≤ n + 40 by omega)
  refine j_pop (by decide +kernel) rfl ?_
  refine j_goto (off := 108) (tgt := 1983) (by decide +kernel) (by decide) ?_
  exact kk bk2 h2 hI2 (fun b hb => h62 b (h61 b hb))
theorem lu_435 (hk : kOK TTs g (EIm n) l Kx_435) {W0 : List aR} {bk0 bk : aB} {h0 h : jH} (hO : hOK TTs g (EIm n) W0 bk0 h0 bk h) {a0 : Nat} (ha0 : bk 0 = some a0) {x1 : Int32} (hx1 : (-2147483648 : Int) ≤ x1.toInt ∧ x1.toInt ≤ 2147483647) :
    jCal l g 189 3 [.ref (g.2.2 + (a0 + 0)), .int x1] h 0 0 (kPost TTs g (EIm n) Kx_435 bk h [x1.toInt]) := by
  refine hk bk h [.ref (g.2.2 + (a0 + 0)), .int x1] [x1.toInt] hO.1 hO.2.1 hO.2.2.1 hO.2.2.2.2.2 (show 2 ≤ jmx 189 by decide +kernel) rfl (fun q hq => ?_) ⟨⟨rfl, fun i e z he hz => ?_⟩, eFm_plain (plain_app (spEnv_plain _) clEnv_plain), fun F hF => absurd hF List.not_mem_nil, fun i v hv => ?_, trivial, fun q hq => ?_, fun B hB => absurd hB List.not_mem_nil⟩
  · have hq : q ∈ ([] : List (Nat × Int × Nat)) := hq
    exact absurd hq List.not_mem_nil
  · match i, he, hz with
    | 0, he, hz => cases he; cases hz; exact hx1
    | i + 1, he, _ => cases he
  · match i, hv with
    | 0, hv => cases hv; exact ⟨_, rfl, a0, ha0, rfl⟩
    | 1, hv => cases hv; exact ⟨_, rfl, x1, rfl, rfl⟩
    | i + 2, hv => cases hv
  · exact absurd hq List.not_mem_nil
theorem lu_507 (hk : kOK TTs g (EIm n) l Kx_507) {W0 : List aR} {bk0 bk : aB} {h0 h : jH} (hO : hOK TTs g (EIm n) W0 bk0 h0 bk h) {a1 : Nat} (ha1 : bk 1 = some a1) {x1 : Int32} (hx1 : (-2147483648 : Int) ≤ x1.toInt ∧ x1.toInt ≤ 2147483647) :
    jCal l g 312 2 [.ref (g.2.2 + (a1 + 0)), .int x1] h 0 0 (kPost TTs g (EIm n) Kx_507 bk h [x1.toInt]) := by
  refine hk bk h [.ref (g.2.2 + (a1 + 0)), .int x1] [x1.toInt] hO.1 hO.2.1 hO.2.2.1 hO.2.2.2.2.2 (show 2 ≤ jmx 312 by decide +kernel) rfl (fun q hq => ?_) ⟨⟨rfl, fun i e z he hz => ?_⟩, eFm_plain (plain_app (spEnv_plain _) clEnv_plain), fun F hF => absurd hF List.not_mem_nil, fun i v hv => ?_, trivial, fun q hq => ?_, fun B hB => absurd hB List.not_mem_nil⟩
  · have hq : q ∈ ([] : List (Nat × Int × Nat)) := hq
    exact absurd hq List.not_mem_nil
  · match i, he, hz with
    | 0, he, hz => cases he; cases hz; exact hx1
    | i + 1, he, _ => cases he
  · match i, hv with
    | 0, hv => cases hv; exact ⟨_, rfl, a1, ha1, rfl⟩
    | 1, hv => cases hv; exact ⟨_, rfl, x1, rfl, rfl⟩
    | 2, hv => cases hv
    | 3, hv => cases hv
    | 4, hv => cases hv
    | 5, hv => cases hv
    | i + 6, hv => cases hv
  · exact absurd hq List.not_mem_nil
set_option maxRecDepth 16384 in
theorem lc_50 (hlow : ∀ (k : Nat) (K : aK), KTx[k]? = some K → kOK TTs g (EIm n) l K) {b0 b1 : Nat} {bk : aB} {h : jH} (hI : lwI g n b0 b1 bk h) {i : Int32} (hi : 0 ≤ i.toInt ∧ i.toInt + 6 ≤ (jsN g : Int)) (hN : jsN g ≤ 3072) {kc ks : Nat} {Q : Option Value → jH → Prop}
    (kk : ∀ bk' h', lwI g (n + 40) b0 b1 bk' h' → (∀ b, bk 6 = some b → bk' 6 = some b) → J l g 315 100 1983 (lwL g b0 b1 i) [] h' kc ks Q) : J l g 315 100 1878 (lwL g b0 b1 i) [] h kc ks Q := by
  refine j_aload_n (k4 := 1) (by decide +kernel) rfl ?_
  refine j_aload_n (k4 := 0) (by decide +kernel) rfl ?_
  refine j_iload_n (k4 := 3) (by decide +kernel) rfl ?_
  refine j_iconst (n := 1) (by decide +kernel) ?_
  refine j_iadd (by decide +kernel) ?_
  refine j_sld (lw_at hi hN (by decide) (by decide)) (by decide +kernel) ?_
  obtain ⟨fsx, hcx⟩ := lw_x hI
  refine J.room (kc := 0 + kc) (ks := 0 + ks) (j_callV (own := 13) (i := 219) (y2 := 189) (d2 := 3) (mc := 0) (ms := 0) (a := b0 + 0) (As := [.int (jsX g (i + Int32.ofInt 1).toNatClampNeg)]) (st := []) (by decide +kernel) lw_cls (by decide +kernel) (by decide) (by decide +kernel) (by decide +kernel) (by decide +kernel) (by decide +kernel) (by decide +kernel) (show 1 = jnp 189 by decide +kernel) (by decide) (by decide) hcx (fun r hr => by cases hr; decide +kernel) (lu_435 (hlow 435 _ rfl) (hI.ok []) hI.2.2.2.1 ⟨i32_lo _, i32_hi _⟩) (fun v h1 hq => ?_)) (by omega) (by omega)
  obtain ⟨x1, rfl, bk1, hI1, h61⟩ := lwP hI hq (by decide +kernel) (by decide +kernel) (by decide +kernel) (Int.le_refl n)
  refine j_pop (by decide +kernel) rfl ?_
  refine j_aload_n (k4 := 2) (by decide +kernel) rfl ?_
  refine j_aload_n (k4 := 0) (by decide +kernel) rfl ?_
  refine j_iload_n (k4 := 3) (by decide +kernel) rfl ?_
  refine j_iconst (n := 1) (by decide +kernel) ?_
  refine j_iadd (by decide +kernel) ?_
  refine j_sld (lw_at hi hN (by decide) (by decide)) (by decide +kernel) ?_
  obtain ⟨fsm, hcm⟩ := lw_m hI1
  refine J.room (kc := 0 + kc) (ks := 0 + ks) (j_callV (own := 13) (i := 222) (y2 := 312) (d2 := 2) (mc := 0) (ms := 0) (a := b1 + 0) (As := [.int (jsX g (i + Int32.ofInt 1).toNatClampNeg)]) (st := []) (by decide +kernel) lw_cls (by decide +kernel) (by decide) (by decide +kernel) (by decide +kernel) (by decide +kernel) (by decide +kernel) (by decide +kernel) (show 1 = jnp 312 by decide +kernel) (by decide) (by decide) hcm (fun r hr => by cases hr; decide +kernel) (lu_507 (hlow 507 _ rfl) (hI1.ok []) hI1.2.2.2.2.1 ⟨i32_lo _, i32_hi _⟩) (fun v h2 hq => ?_)) (by omega) (by omega)
  obtain ⟨x2, rfl, bk2, hI2, h62⟩ := lwP hI1 hq (by decide +kernel) (by decide +kernel) (by decide +kernel) (show n ≤ n + 40 by omega)
  refine j_pop (by decide +kernel) rfl ?_
  refine j_goto (off := 85) (tgt := 1983) (by decide +kernel) (by decide) ?_
  exact kk bk2 h2 hI2 (fun b hb => h62 b (h61 b hb))
theorem lu_456 (hk : kOK TTs g (EIm n) l Kx_456) {W0 : List aR} {bk0 bk : aB} {h0 h : jH} (hO : hOK TTs g (EIm n) W0 bk0 h0 bk h) {a0 : Nat} (ha0 : bk 0 = some a0) {x1 : Int32} (hx1 : (-2147483648 : Int) ≤ x1.toInt ∧ x1.toInt ≤ 2147483647) :
    jCal l g 201 2 [.ref (g.2.2 + (a0 + 0)), .int x1] h 0 0 (kPost TTs g (EIm n) Kx_456 bk h [x1.toInt]) := by
  refine hk bk h [.ref (g.2.2 + (a0 + 0)), .int x1] [x1.toInt] hO.1 hO.2.1 hO.2.2.1 hO.2.2.2.2.2 (show 2 ≤ jmx 201 by decide +kernel) rfl (fun q hq => ?_) ⟨⟨rfl, fun i e z he hz => ?_⟩, eFm_plain (plain_app (spEnv_plain _) clEnv_plain), fun F hF => absurd hF List.not_mem_nil, fun i v hv => ?_, trivial, fun q hq => ?_, fun B hB => absurd hB List.not_mem_nil⟩
  · have hq : q ∈ ([] : List (Nat × Int × Nat)) := hq
    exact absurd hq List.not_mem_nil
  · match i, he, hz with
    | 0, he, hz => cases he; cases hz; exact hx1
    | i + 1, he, _ => cases he
  · match i, hv with
    | 0, hv => cases hv; exact ⟨_, rfl, a0, ha0, rfl⟩
    | 1, hv => cases hv; exact ⟨_, rfl, x1, rfl, rfl⟩
    | i + 2, hv => cases hv
  · exact absurd hq List.not_mem_nil
theorem lu_530 (hk : kOK TTs g (EIm n) l Kx_530) {W0 : List aR} {bk0 bk : aB} {h0 h : jH} (hO : hOK TTs g (EIm n) W0 bk0 h0 bk h) {a1 : Nat} (ha1 : bk 1 = some a1) {x1 : Int32} (hx1 : (-2147483648 : Int) ≤ x1.toInt ∧ x1.toInt ≤ 2147483647) :
    jCal l g 313 2 [.ref (g.2.2 + (a1 + 0)), .int x1] h 0 0 (kPost TTs g (EIm n) Kx_530 bk h [x1.toInt]) := by
  refine hk bk h [.ref (g.2.2 + (a1 + 0)), .int x1] [x1.toInt] hO.1 hO.2.1 hO.2.2.1 hO.2.2.2.2.2 (show 2 ≤ jmx 313 by decide +kernel) rfl (fun q hq => ?_) ⟨⟨rfl, fun i e z he hz => ?_⟩, eFm_plain (plain_app (spEnv_plain _) clEnv_plain), fun F hF => absurd hF List.not_mem_nil, fun i v hv => ?_, trivial, fun q hq => ?_, fun B hB => absurd hB List.not_mem_nil⟩
  · have hq : q ∈ ([] : List (Nat × Int × Nat)) := hq
    exact absurd hq List.not_mem_nil
  · match i, he, hz with
    | 0, he, hz => cases he; cases hz; exact hx1
    | i + 1, he, _ => cases he
  · match i, hv with
    | 0, hv => cases hv; exact ⟨_, rfl, a1, ha1, rfl⟩
    | 1, hv => cases hv; exact ⟨_, rfl, x1, rfl, rfl⟩
    | i + 2, hv => cases hv
  · exact absurd hq List.not_mem_nil
set_option maxRecDepth 16384 in
theorem lc_53 (hlow : ∀ (k : Nat) (K : aK), KTx[k]? = some K → kOK TTs g (EIm n) l K) {b0 b1 : Nat} {bk : aB} {h : jH} (hI : lwI g n b0 b1 bk h) {i : Int32} (hi : 0 ≤ i.toInt ∧ i.toInt + 6 ≤ (jsN g : Int)) (hN : jsN g ≤ 3072) {kc ks : Nat} {Q : Option Value → jH → Prop}
    (kk : ∀ bk' h', lwI g (n + 40) b0 b1 bk' h' → (∀ b, bk 6 = some b → bk' 6 = some b) → J l g 315 100 1983 (lwL g b0 b1 i) [] h' kc ks Q) : J l g 315 100 1947 (lwL g b0 b1 i) [] h kc ks Q := by
  refine j_aload_n (k4 := 1) (by decide +kernel) rfl ?_
  refine j_aload_n (k4 := 0) (by decide +kernel) rfl ?_
  refine j_iload_n (k4 := 3) (by decide +kernel) rfl ?_
  refine j_iconst (n := 1) (by decide +kernel) ?_
  refine j_iadd (by decide +kernel) ?_
  refine j_sld (lw_at hi hN (by decide) (by decide)) (by decide +kernel) ?_
  obtain ⟨fsx, hcx⟩ := lw_x hI
  refine J.room (kc := 0 + kc) (ks := 0 + ks) (j_callV (own := 13) (i := 231) (y2 := 201) (d2 := 2) (mc := 0) (ms := 0) (a := b0 + 0) (As := [.int (jsX g (i + Int32.ofInt 1).toNatClampNeg)]) (st := []) (by decide +kernel) lw_cls (by decide +kernel) (by decide) (by decide +kernel) (by decide +kernel) (by decide +kernel) (by decide +kernel) (by decide +kernel) (show 1 = jnp 201 by decide +kernel) (by decide) (by decide) hcx (fun r hr => by cases hr; decide +kernel) (lu_456 (hlow 456 _ rfl) (hI.ok []) hI.2.2.2.1 ⟨i32_lo _, i32_hi _⟩) (fun v h1 hq => ?_)) (by omega) (by omega)
  obtain ⟨x1, rfl, bk1, hI1, h61⟩ := lwP hI hq (by decide +kernel) (by decide +kernel) (by decide +kernel) (Int.le_refl n)
  refine j_pop (by decide +kernel) rfl ?_
  refine j_aload_n (k4 := 2) (by decide +kernel) rfl ?_
  refine j_aload_n (k4 := 0) (by decide +kernel) rfl ?_
  refine j_iload_n (k4 := 3) (by decide +kernel) rfl ?_
  refine j_iconst (n := 1) (by decide +kernel) ?_
  refine j_iadd (by decide +kernel) ?_
  refine j_sld (lw_at hi hN (by decide) (by decide)) (by decide +kernel) ?_
  obtain ⟨fsm, hcm⟩ := lw_m hI1
  refine J.room (kc := 0 + kc) (ks := 0 + ks) (j_callV (own := 13) (i := 234) (y2 := 313) (d2 := 2) (mc := 0) (ms := 0) (a := b1 + 0) (As := [.int (jsX g (i + Int32.ofInt 1).toNatClampNeg)]) (st := []) (by decide +kernel) lw_cls (by decide +kernel) (by decide) (by decide +kernel) (by decide +kernel) (by decide +kernel) (by decide +kernel) (by decide +kernel) (show 1 = jnp 313 by decide +kernel) (by decide) (by decide) hcm (fun r hr => by cases hr; decide +kernel) (lu_530 (hlow 530 _ rfl) (hI1.ok []) hI1.2.2.2.2.1 ⟨i32_lo _, i32_hi _⟩) (fun v h2 hq => ?_)) (by omega) (by omega)
  obtain ⟨x2, rfl, bk2, hI2, h62⟩ := lwP hI1 hq (by decide +kernel) (by decide +kernel) (by decide +kernel) (show n ≤ n + 40 by omega)
  refine j_pop (by decide +kernel) rfl ?_
  refine j_goto (off := 16) (tgt := 1983) (by decide +kernel) (by decide) ?_
  exact kk bk2 h2 hI2 (fun b hb => h62 b (h61 b hb))
theorem lu_494 (hk : kOK TTs g (EIm n) l Kx_494) {W0 : List aR} {bk0 bk : aB} {h0 h : jH} (hO : hOK TTs g (EIm n) W0 bk0 h0 bk h) {a0 : Nat} (ha0 : bk 0 = some a0)  :
    jCal l g 202 1 [.ref (g.2.2 + (a0 + 0))] h 0 0 (kPost TTs g (EIm n) Kx_494 bk h []) := by
  refine hk bk h [.ref (g.2.2 + (a0 + 0))] [] hO.1 hO.2.1 hO.2.2.1 hO.2.2.2.2.2 (show 1 ≤ jmx 202 by decide +kernel) rfl (fun q hq => ?_) ⟨⟨rfl, fun i e z he hz => ?_⟩, eFm_plain (plain_app (spEnv_plain _) clEnv_plain), fun F hF => absurd hF List.not_mem_nil, fun i v hv => ?_, trivial, fun q hq => ?_, fun B hB => absurd hB List.not_mem_nil⟩
  · have hq : q ∈ ([] : List (Nat × Int × Nat)) := hq
    exact absurd hq List.not_mem_nil
  · match i, he, hz with
    | i + 0, he, _ => cases he
  · match i, hv with
    | 0, hv => cases hv; exact ⟨_, rfl, a0, ha0, rfl⟩
    | i + 1, hv => cases hv
  · exact absurd hq List.not_mem_nil
theorem lu_655 (hk : kOK TTs g (EIm n) l Kx_655) {W0 : List aR} {bk0 bk : aB} {h0 h : jH} (hO : hOK TTs g (EIm n) W0 bk0 h0 bk h) {a1 : Nat} (ha1 : bk 1 = some a1)  :
    jCal l g 314 1 [.ref (g.2.2 + (a1 + 0))] h 0 0 (kPost TTs g (EIm n) Kx_655 bk h []) := by
  refine hk bk h [.ref (g.2.2 + (a1 + 0))] [] hO.1 hO.2.1 hO.2.2.1 hO.2.2.2.2.2 (show 1 ≤ jmx 314 by decide +kernel) rfl (fun q hq => ?_) ⟨⟨rfl, fun i e z he hz => ?_⟩, eFm_plain (plain_app (spEnv_plain _) clEnv_plain), fun F hF => absurd hF List.not_mem_nil, fun i v hv => ?_, trivial, fun q hq => ?_, fun B hB => absurd hB List.not_mem_nil⟩
  · have hq : q ∈ ([] : List (Nat × Int × Nat)) := hq
    exact absurd hq List.not_mem_nil
  · match i, he, hz with
    | i + 0, he, _ => cases he
  · match i, hv with
    | 0, hv => cases hv; exact ⟨_, rfl, a1, ha1, rfl⟩
    | i + 1, hv => cases hv
  · exact absurd hq List.not_mem_nil
set_option maxRecDepth 16384 in
theorem lc_54 (hlow : ∀ (k : Nat) (K : aK), KTx[k]? = some K → kOK TTs g (EIm n) l K) {b0 b1 : Nat} {bk : aB} {h : jH} (hI : lwI g n b0 b1 bk h) {i : Int32} (hi : 0 ≤ i.toInt ∧ i.toInt + 6 ≤ (jsN g : Int)) (hN : jsN g ≤ 3072) {kc ks : Nat} {Q : Option Value → jH → Prop}
    (kk : ∀ bk' h', lwI g (n + 40) b0 b1 bk' h' → (∀ b, bk 6 = some b → bk' 6 = some b) → J l g 315 100 1983 (lwL g b0 b1 i) [] h' kc ks Q) : J l g 315 100 1970 (lwL g b0 b1 i) [] h kc ks Q := by
  refine j_aload_n (k4 := 1) (by decide +kernel) rfl ?_
  obtain ⟨fsx, hcx⟩ := lw_x hI
  refine J.room (kc := 0 + kc) (ks := 0 + ks) (j_callV (own := 13) (i := 235) (y2 := 202) (d2 := 1) (mc := 0) (ms := 0) (a := b0 + 0) (As := []) (st := []) (by decide +kernel) lw_cls (by decide +kernel) (by decide) (by decide +kernel) (by decide +kernel) (by decide +kernel) (by decide +kernel) (by decide +kernel) (show 0 = jnp 202 by decide +kernel) (by decide) (by decide) hcx (fun r hr => by cases hr; decide +kernel) (lu_494 (hlow 494 _ rfl) (hI.ok []) hI.2.2.2.1) (fun v h1 hq => ?_)) (by omega) (by omega)
  obtain ⟨x1, rfl, bk1, hI1, h61⟩ := lwP hI hq (by decide +kernel) (by decide +kernel) (by decide +kernel) (Int.le_refl n)
  refine j_pop (by decide +kernel) rfl ?_
  refine j_aload_n (k4 := 2) (by decide +kernel) rfl ?_
  obtain ⟨fsm, hcm⟩ := lw_m hI1
  refine J.room (kc := 0 + kc) (ks := 0 + ks) (j_callV (own := 13) (i := 238) (y2 := 314) (d2 := 1) (mc := 0) (ms := 0) (a := b1 + 0) (As := []) (st := []) (by decide +kernel) lw_cls (by decide +kernel) (by decide) (by decide +kernel) (by decide +kernel) (by decide +kernel) (by decide +kernel) (by decide +kernel) (show 0 = jnp 314 by decide +kernel) (by decide) (by decide) hcm (fun r hr => by cases hr; decide +kernel) (lu_655 (hlow 655 _ rfl) (hI1.ok []) hI1.2.2.2.2.1) (fun v h2 hq => ?_)) (by omega) (by omega)
  obtain ⟨x2, rfl, bk2, hI2, h62⟩ := lwP hI1 hq (by decide +kernel) (by decide +kernel) (by decide +kernel) (show n ≤ n + 40 by omega)
  refine j_pop (by decide +kernel) rfl ?_
  refine j_goto (off := 3) (tgt := 1983) (by decide +kernel) (by decide) ?_
  exact kk bk2 h2 hI2 (fun b hb => h62 b (h61 b hb))
end LS
