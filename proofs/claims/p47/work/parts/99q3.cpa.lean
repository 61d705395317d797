/-! call pairs: what both objects do at one call of the law -/
section QA
variable {l : Launch} {g : jG} {n : Int}
def cpS (l : Launch) (g : jG) (n : Int) (b0 b1 : Nat) (h : jH) (y1 y2 : Nat) (As : List Value) (mc ms : Nat) (eq : Bool) (R : aB → Prop) : Prop :=
  ∃ (d1 m1 s1 : Nat) (P1 : Option Value → jH → Prop), d1 ≤ 40 ∧ m1 ≤ mc ∧ s1 ≤ ms ∧ jCal l g y1 d1 (.ref (g.2.2 + (b0 + 0)) :: As) h m1 s1 P1 ∧ ∀ v h1, P1 v h1 → ∃ (x1 : Int32) (d2 : Nat) (P2 : Option Value → jH → Prop), v = some (.int x1) ∧ d2 ≤ 40 ∧ jCal l g y2 d2 (.ref (g.2.2 + (b1 + 0)) :: As) h1 0 0 P2 ∧ (∃ fs, h1[b1 + 0]? = some (.inr (12, fs))) ∧ ∀ v2 h2, P2 v2 h2 → ∃ x2 : Int32, v2 = some (.int x2) ∧ (eq = true → x2 = x1) ∧ ∃ bk2, lwI g (n + 40) b0 b1 bk2 h2 ∧ R bk2
/-- block 6 (the Mender) stays -/
def k6 (bk bk2 : aB) : Prop := ∀ b, bk 6 = some b → bk2 6 = some b
theorem cpS.weak {b0 b1 y1 y2 mc ms : Nat} {h : jH} {As : List Value} {eq : Bool} {R : aB → Prop} (hc : cpS l g n b0 b1 h y1 y2 As mc ms eq R) : cpS l g n b0 b1 h y1 y2 As mc ms false R := by
  obtain ⟨d1, m1, s1, P1, a1, a2, a3, a4, a5⟩ := hc
  refine ⟨d1, m1, s1, P1, a1, a2, a3, a4, fun v h1 hp => ?_⟩
  obtain ⟨x1, d2, P2, c1, c2, c3, c4, c5⟩ := a5 v h1 hp
  refine ⟨x1, d2, P2, c1, c2, c3, c4, fun v2 h2 hp2 => ?_⟩
  obtain ⟨x2, e1, -, e3⟩ := c5 v2 h2 hp2
  exact ⟨x2, e1, fun h => Bool.noConfusion h, e3⟩
theorem cp_of {b0 b1 y1 y2 d1 mc ms : Nat} {bk : aB} {h : jH} {As : List Value} {P1 : Option Value → jH → Prop} (hd : d1 ≤ 40) (hx : jCal l g y1 d1 (.ref (g.2.2 + (b0 + 0)) :: As) h mc ms P1) (hP1 : ∀ v h1, P1 v h1 → lwQ g n b0 b1 bk v h1) (hm : ∀ bk1 h1, lwI g n b0 b1 bk1 h1 → ∃ (d2 : Nat) (P2 : Option Value → jH → Prop), d2 ≤ 40 ∧ jCal l g y2 d2 (.ref (g.2.2 + (b1 + 0)) :: As) h1 0 0 P2 ∧ ∀ v h2, P2 v h2 → lwQ g (n + 40) b0 b1 bk1 v h2) : cpS l g n b0 b1 h y1 y2 As mc ms false (k6 bk) := by
  refine ⟨d1, mc, ms, P1, hd, Nat.le_refl _, Nat.le_refl _, hx, fun v h1 hp => ?_⟩
  obtain ⟨x1, rfl, bk1, hI1, h61⟩ := hP1 v h1 hp
  obtain ⟨d2, P2, e1, e2, e3⟩ := hm bk1 h1 hI1
  refine ⟨x1, d2, P2, rfl, e1, e2, lw_m hI1, fun v2 h2 hp2 => ?_⟩
  obtain ⟨x2, rfl, bk2, hI2, h62⟩ := e3 v2 h2 hp2
  exact ⟨x2, rfl, fun h => Bool.noConfusion h, bk2, hI2, fun b hb => h62 b (h61 b hb)⟩
theorem lu_473 (hk : kOK TTs g (EIm n) l Kx_473) {W0 : List aR} {bk0 bk : aB} {h0 h : jH} (hO : hOK TTs g (EIm n) W0 bk0 h0 bk h) {a0 : Nat} (ha0 : bk 0 = some a0) {x1 : Int32} (hx1 : (-2147483648 : Int) ≤ x1.toInt ∧ x1.toInt ≤ 2147483647) {x2 : Int32} (hx2 : (-2147483648 : Int) ≤ x2.toInt ∧ x2.toInt ≤ 2147483647) :
    jCal l g 39 2 [.ref (g.2.2 + (a0 + 0)), .int x1, .int x2] h 0 0 (kPost TTs g (EIm n) Kx_473 bk h [x1.toInt, x2.toInt]) := by
  refine hk bk h [.ref (g.2.2 + (a0 + 0)), .int x1, .int x2] [x1.toInt, x2.toInt] hO.1 hO.2.1 hO.2.2.1 hO.2.2.2.2.2 (show 3 ≤ jmx 39 by decide +kernel) rfl (fun q hq => ?_) ⟨⟨rfl, fun i e z he hz => ?_⟩, eFm_plain (plain_app (spEnv_plain _) clEnv_plain), fun F hF => absurd hF List.not_mem_nil, fun i v hv => ?_, trivial, fun q hq => ?_, fun B hB => absurd hB List.not_mem_nil⟩
  · have hq : q ∈ ([] : List (Nat × Int × Nat)) := hq
    exact absurd hq List.not_mem_nil
  · match i, he, hz with
    | 0, he, hz => cases he; cases hz; exact hx1
    | 1, he, hz => cases he; cases hz; exact hx2
    | i + 2, he, _ => cases he
  · match i, hv with
    | 0, hv => cases hv; exact ⟨_, rfl, a0, ha0, rfl⟩
    | 1, hv => cases hv; exact ⟨_, rfl, x1, rfl, rfl⟩
    | 2, hv => cases hv; exact ⟨_, rfl, x2, rfl, rfl⟩
    | i + 3, hv => cases hv
  · exact absurd hq List.not_mem_nil
theorem lu_631 (hk : kOK TTs g (EIm n) l Kx_631) {W0 : List aR} {bk0 bk : aB} {h0 h : jH} (hO : hOK TTs g (EIm n) W0 bk0 h0 bk h) {a1 : Nat} (ha1 : bk 1 = some a1) {x1 : Int32} (hx1 : (-2147483648 : Int) ≤ x1.toInt ∧ x1.toInt ≤ 2147483647) {x2 : Int32} (hx2 : (-2147483648 : Int) ≤ x2.toInt ∧ x2.toInt ≤ 2147483647) :
    jCal l g 254 3 [.ref (g.2.2 + (a1 + 0)), .int x1, .int x2] h 0 0 (kPost TTs g (EIm n) Kx_631 bk h [x1.toInt, x2.toInt]) := by
  refine hk bk h [.ref (g.2.2 + (a1 + 0)), .int x1, .int x2] [x1.toInt, x2.toInt] hO.1 hO.2.1 hO.2.2.1 hO.2.2.2.2.2 (show 3 ≤ jmx 254 by decide +kernel) rfl (fun q hq => ?_) ⟨⟨rfl, fun i e z he hz => ?_⟩, eFm_plain (plain_app (spEnv_plain _) clEnv_plain), fun F hF => absurd hF List.not_mem_nil, fun i v hv => ?_, trivial, fun q hq => ?_, fun B hB => absurd hB List.not_mem_nil⟩
  · have hq : q ∈ ([] : List (Nat × Int × Nat)) := hq
    exact absurd hq List.not_mem_nil
  · match i, he, hz with
    | 0, he, hz => cases he; cases hz; exact hx1
    | 1, he, hz => cases he; cases hz; exact hx2
    | i + 2, he, _ => cases he
  · match i, hv with
    | 0, hv => cases hv; exact ⟨_, rfl, a1, ha1, rfl⟩
    | 1, hv => cases hv; exact ⟨_, rfl, x1, rfl, rfl⟩
    | 2, hv => cases hv; exact ⟨_, rfl, x2, rfl, rfl⟩
    | i + 3, hv => cases hv
  · exact absurd hq List.not_mem_nil
set_option maxRecDepth 16384 in
theorem cp_7 (hlow : ∀ (k : Nat) (K : aK), KTx[k]? = some K → kOK TTs g (EIm n) l K) {b0 b1 : Nat} {bk : aB} {h : jH} (hI : lwI g n b0 b1 bk h) {z1 z2 : Int32} : cpS l g n b0 b1 h 39 254 [.int z1, .int z2] 0 0 false (k6 bk) := cp_of (d1 := 2) (by decide) (lu_473 (hlow 473 _ rfl) (hI.ok []) hI.2.2.2.1 ⟨i32_lo _, i32_hi _⟩ ⟨i32_lo _, i32_hi _⟩) (fun v h1 hq => lwP hI hq (by decide +kernel) (by decide +kernel) (by decide +kernel) (by decide +kernel) (Int.le_refl n)) (fun bk1 h1 hI1 => ⟨3, _, by decide, lu_631 (hlow 631 _ rfl) (hI1.ok []) hI1.2.2.2.2.1 ⟨i32_lo _, i32_hi _⟩ ⟨i32_lo _, i32_hi _⟩, fun v h2 hq => lwP hI1 hq (by decide +kernel) (by decide +kernel) (by decide +kernel) (by decide +kernel) (show n ≤ n + 40 by omega)⟩)
theorem lu_450 (hk : kOK TTs g (EIm n) l Kx_450) {W0 : List aR} {bk0 bk : aB} {h0 h : jH} (hO : hOK TTs g (EIm n) W0 bk0 h0 bk h) {a0 : Nat} (ha0 : bk 0 = some a0) {x1 : Int32} (hx1 : (-2147483648 : Int) ≤ x1.toInt ∧ x1.toInt ≤ 2147483647) {x2 : Int32} (hx2 : (-2147483648 : Int) ≤ x2.toInt ∧ x2.toInt ≤ 2147483647) :
    jCal l g 42 2 [.ref (g.2.2 + (a0 + 0)), .int x1, .int x2] h 0 0 (kPost TTs g (EIm n) Kx_450 bk h [x1.toInt, x2.toInt]) := by
  refine hk bk h [.ref (g.2.2 + (a0 + 0)), .int x1, .int x2] [x1.toInt, x2.toInt] hO.1 hO.2.1 hO.2.2.1 hO.2.2.2.2.2 (show 3 ≤ jmx 42 by decide +kernel) rfl (fun q hq => ?_) ⟨⟨rfl, fun i e z he hz => ?_⟩, eFm_plain (plain_app (spEnv_plain _) clEnv_plain), fun F hF => absurd hF List.not_mem_nil, fun i v hv => ?_, trivial, fun q hq => ?_, fun B hB => absurd hB List.not_mem_nil⟩
  · have hq : q ∈ ([] : List (Nat × Int × Nat)) := hq
    exact absurd hq List.not_mem_nil
  · match i, he, hz with
    | 0, he, hz => cases he; cases hz; exact hx1
    | 1, he, hz => cases he; cases hz; exact hx2
    | i + 2, he, _ => cases he
  · match i, hv with
    | 0, hv => cases hv; exact ⟨_, rfl, a0, ha0, rfl⟩
    | 1, hv => cases hv; exact ⟨_, rfl, x1, rfl, rfl⟩
    | 2, hv => cases hv; exact ⟨_, rfl, x2, rfl, rfl⟩
    | i + 3, hv => cases hv
  · exact absurd hq List.not_mem_nil
theorem lu_523 (hk : kOK TTs g (EIm n) l Kx_523) {W0 : List aR} {bk0 bk : aB} {h0 h : jH} (hO : hOK TTs g (EIm n) W0 bk0 h0 bk h) {a1 : Nat} (ha1 : bk 1 = some a1) {x1 : Int32} (hx1 : (-2147483648 : Int) ≤ x1.toInt ∧ x1.toInt ≤ 2147483647) {x2 : Int32} (hx2 : (-2147483648 : Int) ≤ x2.toInt ∧ x2.toInt ≤ 2147483647) :
    jCal l g 256 3 [.ref (g.2.2 + (a1 + 0)), .int x1, .int x2] h 0 0 (kPost TTs g (EIm n) Kx_523 bk h [x1.toInt, x2.toInt]) := by
  refine hk bk h [.ref (g.2.2 + (a1 + 0)), .int x1, .int x2] [x1.toInt, x2.toInt] hO.1 hO.2.1 hO.2.2.1 hO.2.2.2.2.2 (show 3 ≤ jmx 256 by decide +kernel) rfl (fun q hq => ?_) ⟨⟨rfl, fun i e z he hz => ?_⟩, eFm_plain (plain_app (spEnv_plain _) clEnv_plain), fun F hF => absurd hF List.not_mem_nil, fun i v hv => ?_, trivial, fun q hq => ?_, fun B hB => absurd hB List.not_mem_nil⟩
  · have hq : q ∈ ([] : List (Nat × Int × Nat)) := hq
    exact absurd hq List.not_mem_nil
  · match i, he, hz with
    | 0, he, hz => cases he; cases hz; exact hx1
    | 1, he, hz => cases he; cases hz; exact hx2
    | i + 2, he, _ => cases he
  · match i, hv with
    | 0, hv => cases hv; exact ⟨_, rfl, a1, ha1, rfl⟩
    | 1, hv => cases hv; exact ⟨_, rfl, x1, rfl, rfl⟩
    | 2, hv => cases hv; exact ⟨_, rfl, x2, rfl, rfl⟩
    | i + 3, hv => cases hv
  · exact absurd hq List.not_mem_nil
set_option maxRecDepth 16384 in
theorem cp_9 (hlow : ∀ (k : Nat) (K : aK), KTx[k]? = some K → kOK TTs g (EIm n) l K) {b0 b1 : Nat} {bk : aB} {h : jH} (hI : lwI g n b0 b1 bk h) {z1 z2 : Int32} : cpS l g n b0 b1 h 42 256 [.int z1, .int z2] 0 0 false (k6 bk) := cp_of (d1 := 2) (by decide) (lu_450 (hlow 450 _ rfl) (hI.ok []) hI.2.2.2.1 ⟨i32_lo _, i32_hi _⟩ ⟨i32_lo _, i32_hi _⟩) (fun v h1 hq => lwP hI hq (by decide +kernel) (by decide +kernel) (by decide +kernel) (by decide +kernel) (Int.le_refl n)) (fun bk1 h1 hI1 => ⟨3, _, by decide, lu_523 (hlow 523 _ rfl) (hI1.ok []) hI1.2.2.2.2.1 ⟨i32_lo _, i32_hi _⟩ ⟨i32_lo _, i32_hi _⟩, fun v h2 hq => lwP hI1 hq (by decide +kernel) (by decide +kernel) (by decide +kernel) (by decide +kernel) (show n ≤ n + 40 by omega)⟩)
theorem lu_443 (hk : kOK TTs g (EIm n) l Kx_443) {W0 : List aR} {bk0 bk : aB} {h0 h : jH} (hO : hOK TTs g (EIm n) W0 bk0 h0 bk h) {a0 : Nat} (ha0 : bk 0 = some a0) {x1 : Int32} (hx1 : (-2147483648 : Int) ≤ x1.toInt ∧ x1.toInt ≤ 2147483647) {x2 : Int32} (hx2 : (-2147483648 : Int) ≤ x2.toInt ∧ x2.toInt ≤ 2147483647) :
    jCal l g 43 2 [.ref (g.2.2 + (a0 + 0)), .int x1, .int x2] h 0 0 (kPost TTs g (EIm n) Kx_443 bk h [x1.toInt, x2.toInt]) := by
  refine hk bk h [.ref (g.2.2 + (a0 + 0)), .int x1, .int x2] [x1.toInt, x2.toInt] hO.1 hO.2.1 hO.2.2.1 hO.2.2.2.2.2 (show 3 ≤ jmx 43 by decide +kernel) rfl (fun q hq => ?_) ⟨⟨rfl, fun i e z he hz => ?_⟩, eFm_plain (plain_app (spEnv_plain _) clEnv_plain), fun F hF => absurd hF List.not_mem_nil, fun i v hv => ?_, trivial, fun q hq => ?_, fun B hB => absurd hB List.not_mem_nil⟩
  · have hq : q ∈ ([] : List (Nat × Int × Nat)) := hq
    exact absurd hq List.not_mem_nil
  · match i, he, hz with
    | 0, he, hz => cases he; cases hz; exact hx1
    | 1, he, hz => cases he; cases hz; exact hx2
    | i + 2, he, _ => cases he
  · match i, hv with
    | 0, hv => cases hv; exact ⟨_, rfl, a0, ha0, rfl⟩
    | 1, hv => cases hv; exact ⟨_, rfl, x1, rfl, rfl⟩
    | 2, hv => cases hv; exact ⟨_, rfl, x2, rfl, rfl⟩
    | i + 3, hv => cases hv
  · exact absurd hq List.not_mem_nil
theorem lu_512 (hk : kOK TTs g (EIm n) l Kx_512) {W0 : List aR} {bk0 bk : aB} {h0 h : jH} (hO : hOK TTs g (EIm n) W0 bk0 h0 bk h) {a1 : Nat} (ha1 : bk 1 = some a1) {x1 : Int32} (hx1 : (-2147483648 : Int) ≤ x1.toInt ∧ x1.toInt ≤ 2147483647) {x2 : Int32} (hx2 : (-2147483648 : Int) ≤ x2.toInt ∧ x2.toInt ≤ 2147483647) :
    jCal l g 257 3 [.ref (g.2.2 + (a1 + 0)), .int x1, .int x2] h 0 0 (kPost TTs g (EIm n) Kx_512 bk h [x1.toInt, x2.toInt]) := by
  refine hk bk h [.ref (g.2.2 + (a1 + 0)), .int x1, .int x2] [x1.toInt, x2.toInt] hO.1 hO.2.1 hO.2.2.1 hO.2.2.2.2.2 (show 3 ≤ jmx 257 by decide +kernel) rfl (fun q hq => ?_) ⟨⟨rfl, fun i e z he hz => ?_⟩, eFm_plain (plain_app (spEnv_plain _) clEnv_plain), fun F hF => absurd hF List.not_mem_nil, fun i v hv => ?_, trivial, fun q hq => ?_, fun B hB => absurd hB List.not_mem_nil⟩
  · have hq : q ∈ ([] : List (Nat × Int × Nat)) := hq
    exact absurd hq List.not_mem_nil
  · match i, he, hz with
    | 0, he, hz => cases he; cases hz; exact hx1
    | 1, he, hz => cases he; cases hz; exact hx2
    | i + 2, he, _ => cases he
  · match i, hv with
    | 0, hv => cases hv; exact ⟨_, rfl, a1, ha1, rfl⟩
    | 1, hv => cases hv; exact ⟨_, rfl, x1, rfl, rfl⟩
    | 2, hv => cases hv; exact ⟨_, rfl, x2, rfl, rfl⟩
    | i + 3, hv => cases hv
  · exact absurd hq List.not_mem_nil
set_option maxRecDepth 16384 in
theorem cp_10 (hlow : ∀ (k : Nat) (K : aK), KTx[k]? = some K → kOK TTs g (EIm n) l K) {b0 b1 : Nat} {bk : aB} {h : jH} (hI : lwI g n b0 b1 bk h) {z1 z2 : Int32} : cpS l g n b0 b1 h 43 257 [.int z1, .int z2] 0 0 false (k6 bk) := cp_of (d1 := 2) (by decide) (lu_443 (hlow 443 _ rfl) (hI.ok []) hI.2.2.2.1 ⟨i32_lo _, i32_hi _⟩ ⟨i32_lo _, i32_hi _⟩) (fun v h1 hq => lwP hI hq (by decide +kernel) (by decide +kernel) (by decide +kernel) (by decide +kernel) (Int.le_refl n)) (fun bk1 h1 hI1 => ⟨3, _, by decide, lu_512 (hlow 512 _ rfl) (hI1.ok []) hI1.2.2.2.2.1 ⟨i32_lo _, i32_hi _⟩ ⟨i32_lo _, i32_hi _⟩, fun v h2 hq => lwP hI1 hq (by decide +kernel) (by decide +kernel) (by decide +kernel) (by decide +kernel) (show n ≤ n + 40 by omega)⟩)
theorem lu_496 (hk : kOK TTs g (EIm n) l Kx_496) {W0 : List aR} {bk0 bk : aB} {h0 h : jH} (hO : hOK TTs g (EIm n) W0 bk0 h0 bk h) {a0 : Nat} (ha0 : bk 0 = some a0) {x1 : Int32} (hx1 : (-2147483648 : Int) ≤ x1.toInt ∧ x1.toInt ≤ 2147483647) :
    jCal l g 44 2 [.ref (g.2.2 + (a0 + 0)), .int x1] h 0 0 (kPost TTs g (EIm n) Kx_496 bk h [x1.toInt]) := by
  refine hk bk h [.ref (g.2.2 + (a0 + 0)), .int x1] [x1.toInt] hO.1 hO.2.1 hO.2.2.1 hO.2.2.2.2.2 (show 2 ≤ jmx 44 by decide +kernel) rfl (fun q hq => ?_) ⟨⟨rfl, fun i e z he hz => ?_⟩, eFm_plain (plain_app (spEnv_plain _) clEnv_plain), fun F hF => absurd hF List.not_mem_nil, fun i v hv => ?_, trivial, fun q hq => ?_, fun B hB => absurd hB List.not_mem_nil⟩
  · have hq : q ∈ ([] : List (Nat × Int × Nat)) := hq
    exact absurd hq List.not_mem_nil
  · match i, he, hz with
    | 0, he, hz => cases he; cases hz; exact hx1
    | i + 1, he, _ => cases he
  · match i, hv with
    | 0, hv => cases hv; exact ⟨_, rfl, a0, ha0, rfl⟩
    | 1, hv => cases hv; exact ⟨_, rfl, x1, rfl, rfl⟩
    | i + 2, hv => cases hv
  · exact absurd hq List.not_mem_nil
theorem lu_657 (hk : kOK TTs g (EIm n) l Kx_657) {W0 : List aR} {bk0 bk : aB} {h0 h : jH} (hO : hOK TTs g (EIm n) W0 bk0 h0 bk h) {a1 : Nat} (ha1 : bk 1 = some a1) {x1 : Int32} (hx1 : (-2147483648 : Int) ≤ x1.toInt ∧ x1.toInt ≤ 2147483647) :
    jCal l g 258 3 [.ref (g.2.2 + (a1 + 0)), .int x1] h 0 0 (kPost TTs g (EIm n) Kx_657 bk h [x1.toInt]) := by
  refine hk bk h [.ref (g.2.2 + (a1 + 0)), .int x1] [x1.toInt] hO.1 hO.2.1 hO.2.2.1 hO.2.2.2.2.2 (show 2 ≤ jmx 258 by decide +kernel) rfl (fun q hq => ?_) ⟨⟨rfl, fun i e z he hz => ?_⟩, eFm_plain (plain_app (spEnv_plain _) clEnv_plain), fun F hF => absurd hF List.not_mem_nil, fun i v hv => ?_, trivial, fun q hq => ?_, fun B hB => absurd hB List.not_mem_nil⟩
  · have hq : q ∈ ([] : List (Nat × Int × Nat)) := hq
    exact absurd hq List.not_mem_nil
  · match i, he, hz with
    | 0, he, hz => cases he; cases hz; exact hx1
    | i + 1, he, _ => cases he
  · match i, hv with
    | 0, hv => cases hv; exact ⟨_, rfl, a1, ha1, rfl⟩
    | 1, hv => cases hv; exact ⟨_, rfl, x1, rfl, rfl⟩
    | i + 2, hv => cases hv
  · exact absurd hq List.not_mem_nil
set_option maxRecDepth 16384 in
theorem cp_11 (hlow : ∀ (k : Nat) (K : aK), KTx[k]? = some K → kOK TTs g (EIm n) l K) {b0 b1 : Nat} {bk : aB} {h : jH} (hI : lwI g n b0 b1 bk h) {z1 : Int32} : cpS l g n b0 b1 h 44 258 [.int z1] 0 0 false (k6 bk) := cp_of (d1 := 2) (by decide) (lu_496 (hlow 496 _ rfl) (hI.ok []) hI.2.2.2.1 ⟨i32_lo _, i32_hi _⟩) (fun v h1 hq => lwP hI hq (by decide +kernel) (by decide +kernel) (by decide +kernel) (by decide +kernel) (Int.le_refl n)) (fun bk1 h1 hI1 => ⟨3, _, by decide, lu_657 (hlow 657 _ rfl) (hI1.ok []) hI1.2.2.2.2.1 ⟨i32_lo _, i32_hi _⟩, fun v h2 hq => lwP hI1 hq (by decide +kernel) (by decide +kernel) (by decide +kernel) (by decide +kernel) (show n ≤ n + 40 by omega)⟩)
theorem lu_490 (hk : kOK TTs g (EIm n) l Kx_490) {W0 : List aR} {bk0 bk : aB} {h0 h : jH} (hO : hOK TTs g (EIm n) W0 bk0 h0 bk h) {a0 : Nat} (ha0 : bk 0 = some a0) {x1 : Int32} (hx1 : (-2147483648 : Int) ≤ x1.toInt ∧ x1.toInt ≤ 2147483647) :
    jCal l g 45 2 [.ref (g.2.2 + (a0 + 0)), .int x1] h 0 0 (kPost TTs g (EIm n) Kx_490 bk h [x1.toInt]) := by
  refine hk bk h [.ref (g.2.2 + (a0 + 0)), .int x1] [x1.toInt] hO.1 hO.2.1 hO.2.2.1 hO.2.2.2.2.2 (show 2 ≤ jmx 45 by decide +kernel) rfl (fun q hq => ?_) ⟨⟨rfl, fun i e z he hz => ?_⟩, eFm_plain (plain_app (spEnv_plain _) clEnv_plain), fun F hF => absurd hF List.not_mem_nil, fun i v hv => ?_, trivial, fun q hq => ?_, fun B hB => absurd hB List.not_mem_nil⟩
  · have hq : q ∈ ([] : List (Nat × Int × Nat)) := hq
    exact absurd hq List.not_mem_nil
  · match i, he, hz with
    | 0, he, hz => cases he; cases hz; exact hx1
    | i + 1, he, _ => cases he
  · match i, hv with
    | 0, hv => cases hv; exact ⟨_, rfl, a0, ha0, rfl⟩
    | 1, hv => cases hv; exact ⟨_, rfl, x1, rfl, rfl⟩
    | i + 2, hv => cases hv
  · exact absurd hq List.not_mem_nil
theorem lu_651 (hk : kOK TTs g (EIm n) l Kx_651) {W0 : List aR} {bk0 bk : aB} {h0 h : jH} (hO : hOK TTs g (EIm n) W0 bk0 h0 bk h) {a1 : Nat} (ha1 : bk 1 = some a1) {x1 : Int32} (hx1 : (-2147483648 : Int) ≤ x1.toInt ∧ x1.toInt ≤ 2147483647) :
    jCal l g 259 3 [.ref (g.2.2 + (a1 + 0)), .int x1] h 0 0 (kPost TTs g (EIm n) Kx_651 bk h [x1.toInt]) := by
  refine hk bk h [.ref (g.2.2 + (a1 + 0)), .int x1] [x1.toInt] hO.1 hO.2.1 hO.2.2.1 hO.2.2.2.2.2 (show 2 ≤ jmx 259 by decide +kernel) rfl (fun q hq => ?_) ⟨⟨rfl, fun i e z he hz => ?_⟩, eFm_plain (plain_app (spEnv_plain _) clEnv_plain), fun F hF => absurd hF List.not_mem_nil, fun i v hv => ?_, trivial, fun q hq => ?_, fun B hB => absurd hB List.not_mem_nil⟩
  · have hq : q ∈ ([] : List (Nat × Int × Nat)) := hq
    exact absurd hq List.not_mem_nil
  · match i, he, hz with
    | 0, he, hz => cases he; cases hz; exact hx1
    | i + 1, he, _ => cases he
  · match i, hv with
    | 0, hv => cases hv; exact ⟨_, rfl, a1, ha1, rfl⟩
    | 1, hv => cases hv; exact ⟨_, rfl, x1, rfl, rfl⟩
    | i + 2, hv => cases hv
  · exact absurd hq List.not_mem_nil
set_option maxRecDepth 16384 in
theorem cp_12 (hlow : ∀ (k : Nat) (K : aK), KTx[k]? = some K → kOK TTs g (EIm n) l K) {b0 b1 : Nat} {bk : aB} {h : jH} (hI : lwI g n b0 b1 bk h) {z1 : Int32} : cpS l g n b0 b1 h 45 259 [.int z1] 0 0 false (k6 bk) := cp_of (d1 := 2) (by decide) (lu_490 (hlow 490 _ rfl) (hI.ok []) hI.2.2.2.1 ⟨i32_lo _, i32_hi _⟩) (fun v h1 hq => lwP hI hq (by decide +kernel) (by decide +kernel) (by decide +kernel) (by decide +kernel) (Int.le_refl n)) (fun bk1 h1 hI1 => ⟨3, _, by decide, lu_651 (hlow 651 _ rfl) (hI1.ok []) hI1.2.2.2.2.1 ⟨i32_lo _, i32_hi _⟩, fun v h2 hq => lwP hI1 hq (by decide +kernel) (by decide +kernel) (by decide +kernel) (by decide +kernel) (show n ≤ n + 40 by omega)⟩)
theorem lu_444 (hk : kOK TTs g (EIm n) l Kx_444) {W0 : List aR} {bk0 bk : aB} {h0 h : jH} (hO : hOK TTs g (EIm n) W0 bk0 h0 bk h) {a0 : Nat} (ha0 : bk 0 = some a0) {x1 : Int32} (hx1 : (-2147483648 : Int) ≤ x1.toInt ∧ x1.toInt ≤ 2147483647) {x2 : Int32} (hx2 : (-2147483648 : Int) ≤ x2.toInt ∧ x2.toInt ≤ 2147483647) :
    jCal l g 46 3 [.ref (g.2.2 + (a0 + 0)), .int x1, .int x2] h 0 0 (kPost TTs g (EIm n) Kx_444 bk h [x1.toInt, x2.toInt]) := by
  refine hk bk h [.ref (g.2.2 + (a0 + 0)), .int x1, .int x2] [x1.toInt, x2.toInt] hO.1 hO.2.1 hO.2.2.1 hO.2.2.2.2.2 (show 3 ≤ jmx 46 by decide +kernel) rfl (fun q hq => ?_) ⟨⟨rfl, fun i e z he hz => ?_⟩, eFm_plain (plain_app (spEnv_plain _) clEnv_plain), fun F hF => absurd hF List.not_mem_nil, fun i v hv => ?_, trivial, fun q hq => ?_, fun B hB => absurd hB List.not_mem_nil⟩
  · have hq : q ∈ ([] : List (Nat × Int × Nat)) := hq
    exact absurd hq List.not_mem_nil
  · match i, he, hz with
    | 0, he, hz => cases he; cases hz; exact hx1
    | 1, he, hz => cases he; cases hz; exact hx2
    | i + 2, he, _ => cases he
  · match i, hv with
    | 0, hv => cases hv; exact ⟨_, rfl, a0, ha0, rfl⟩
    | 1, hv => cases hv; exact ⟨_, rfl, x1, rfl, rfl⟩
    | 2, hv => cases hv; exact ⟨_, rfl, x2, rfl, rfl⟩
    | i + 3, hv => cases hv
  · exact absurd hq List.not_mem_nil
theorem lu_514 (hk : kOK TTs g (EIm n) l Kx_514) {W0 : List aR} {bk0 bk : aB} {h0 h : jH} (hO : hOK TTs g (EIm n) W0 bk0 h0 bk h) {a1 : Nat} (ha1 : bk 1 = some a1) {x1 : Int32} (hx1 : (-2147483648 : Int) ≤ x1.toInt ∧ x1.toInt ≤ 2147483647) {x2 : Int32} (hx2 : (-2147483648 : Int) ≤ x2.toInt ∧ x2.toInt ≤ 2147483647) :
    jCal l g 260 2 [.ref (g.2.2 + (a1 + 0)), .int x1, .int x2] h 0 0 (kPost TTs g (EIm n) Kx_514 bk h [x1.toInt, x2.toInt]) := by
  refine hk bk h [.ref (g.2.2 + (a1 + 0)), .int x1, .int x2] [x1.toInt, x2.toInt] hO.1 hO.2.1 hO.2.2.1 hO.2.2.2.2.2 (show 3 ≤ jmx 260 by decide +kernel) rfl (fun q hq => ?_) ⟨⟨rfl, fun i e z he hz => ?_⟩, eFm_plain (plain_app (spEnv_plain _) clEnv_plain), fun F hF => absurd hF List.not_mem_nil, fun i v hv => ?_, trivial, fun q hq => ?_, fun B hB => absurd hB List.not_mem_nil⟩
  · have hq : q ∈ ([] : List (Nat × Int × Nat)) := hq
    exact absurd hq List.not_mem_nil
  · match i, he, hz with
    | 0, he, hz => cases he; cases hz; exact hx1
    | 1, he, hz => cases he; cases hz; exact hx2
    | i + 2, he, _ => cases he
  · match i, hv with
    | 0, hv => cases hv; exact ⟨_, rfl, a1, ha1, rfl⟩
    | 1, hv => cases hv; exact ⟨_, rfl, x1, rfl, rfl⟩
    | 2, hv => cases hv; exact ⟨_, rfl, x2, rfl, rfl⟩
    | 3, hv => cases hv
    | i + 4, hv => cases hv
  · exact absurd hq List.not_mem_nil
set_option maxRecDepth 16384 in
theorem cp_13 (hlow : ∀ (k : Nat) (K : aK), KTx[k]? = some K → kOK TTs g (EIm n) l K) {b0 b1 : Nat} {bk : aB} {h : jH} (hI : lwI g n b0 b1 bk h) {z1 z2 : Int32} : cpS l g n b0 b1 h 46 260 [.int z1, .int z2] 0 0 false (k6 bk) := cp_of (d1 := 3) (by decide) (lu_444 (hlow 444 _ rfl) (hI.ok []) hI.2.2.2.1 ⟨i32_lo _, i32_hi _⟩ ⟨i32_lo _, i32_hi _⟩) (fun v h1 hq => lwP hI hq (by decide +kernel) (by decide +kernel) (by decide +kernel) (by decide +kernel) (Int.le_refl n)) (fun bk1 h1 hI1 => ⟨2, _, by decide, lu_514 (hlow 514 _ rfl) (hI1.ok []) hI1.2.2.2.2.1 ⟨i32_lo _, i32_hi _⟩ ⟨i32_lo _, i32_hi _⟩, fun v h2 hq => lwP hI1 hq (by decide +kernel) (by decide +kernel) (by decide +kernel) (by decide +kernel) (show n ≤ n + 40 by omega)⟩)
theorem lu_470 (hk : kOK TTs g (EIm n) l Kx_470) {W0 : List aR} {bk0 bk : aB} {h0 h : jH} (hO : hOK TTs g (EIm n) W0 bk0 h0 bk h) {a0 : Nat} (ha0 : bk 0 = some a0) {x1 : Int32} (hx1 : (-2147483648 : Int) ≤ x1.toInt ∧ x1.toInt ≤ 2147483647) {x2 : Int32} (hx2 : (-2147483648 : Int) ≤ x2.toInt ∧ x2.toInt ≤ 2147483647) {x3 : Int32} (hx3 : (-2147483648 : Int) ≤ x3.toInt ∧ x3.toInt ≤ 2147483647) :
    jCal l g 50 3 [.ref (g.2.2 + (a0 + 0)), .int x1, .int x2, .int x3] h 0 0 (kPost TTs g (EIm n) Kx_470 bk h [x1.toInt, x2.toInt, x3.toInt]) := by
  refine hk bk h [.ref (g.2.2 + (a0 + 0)), .int x1, .int x2, .int x3] [x1.toInt, x2.toInt, x3.toInt] hO.1 hO.2.1 hO.2.2.1 hO.2.2.2.2.2 (show 4 ≤ jmx 50 by decide +kernel) rfl (fun q hq => ?_) ⟨⟨rfl, fun i e z he hz => ?_⟩, eFm_plain (plain_app (spEnv_plain _) clEnv_plain), fun F hF => absurd hF List.not_mem_nil, fun i v hv => ?_, trivial, fun q hq => ?_, fun B hB => absurd hB List.not_mem_nil⟩
  · have hq : q ∈ ([] : List (Nat × Int × Nat)) := hq
    exact absurd hq List.not_mem_nil
  · match i, he, hz with
    | 0, he, hz => cases he; cases hz; exact hx1
    | 1, he, hz => cases he; cases hz; exact hx2
    | 2, he, hz => cases he; cases hz; exact hx3
    | i + 3, he, _ => cases he
  · match i, hv with
    | 0, hv => cases hv; exact ⟨_, rfl, a0, ha0, rfl⟩
    | 1, hv => cases hv; exact ⟨_, rfl, x1, rfl, rfl⟩
    | 2, hv => cases hv; exact ⟨_, rfl, x2, rfl, rfl⟩
    | 3, hv => cases hv; exact ⟨_, rfl, x3, rfl, rfl⟩
    | i + 4, hv => cases hv
  · exact absurd hq List.not_mem_nil
theorem lu_623 (hk : kOK TTs g (EIm n) l Kx_623) {W0 : List aR} {bk0 bk : aB} {h0 h : jH} (hO : hOK TTs g (EIm n) W0 bk0 h0 bk h) {a1 : Nat} (ha1 : bk 1 = some a1) {x1 : Int32} (hx1 : (-2147483648 : Int) ≤ x1.toInt ∧ x1.toInt ≤ 2147483647) {x2 : Int32} (hx2 : (-2147483648 : Int) ≤ x2.toInt ∧ x2.toInt ≤ 2147483647) {x3 : Int32} (hx3 : (-2147483648 : Int) ≤ x3.toInt ∧ x3.toInt ≤ 2147483647) :
    jCal l g 261 3 [.ref (g.2.2 + (a1 + 0)), .int x1, .int x2, .int x3] h 0 0 (kPost TTs g (EIm n) Kx_623 bk h [x1.toInt, x2.toInt, x3.toInt]) := by
  refine hk bk h [.ref (g.2.2 + (a1 + 0)), .int x1, .int x2, .int x3] [x1.toInt, x2.toInt, x3.toInt] hO.1 hO.2.1 hO.2.2.1 hO.2.2.2.2.2 (show 4 ≤ jmx 261 by decide +kernel) rfl (fun q hq => ?_) ⟨⟨rfl, fun i e z he hz => ?_⟩, eFm_plain (plain_app (spEnv_plain _) clEnv_plain), fun F hF => absurd hF List.not_mem_nil, fun i v hv => ?_, trivial, fun q hq => ?_, fun B hB => absurd hB List.not_mem_nil⟩
  · have hq : q ∈ ([] : List (Nat × Int × Nat)) := hq
    exact absurd hq List.not_mem_nil
  · match i, he, hz with
    | 0, he, hz => cases he; cases hz; exact hx1
    | 1, he, hz => cases he; cases hz; exact hx2
    | 2, he, hz => cases he; cases hz; exact hx3
    | i + 3, he, _ => cases he
  · match i, hv with
    | 0, hv => cases hv; exact ⟨_, rfl, a1, ha1, rfl⟩
    | 1, hv => cases hv; exact ⟨_, rfl, x1, rfl, rfl⟩
    | 2, hv => cases hv; exact ⟨_, rfl, x2, rfl, rfl⟩
    | 3, hv => cases hv; exact ⟨_, rfl, x3, rfl, rfl⟩
    | 4, hv => cases hv
    | 5, hv => cases hv
    | 6, hv => cases hv
    | i + 7, hv => cases hv
  · exact absurd hq List.not_mem_nil
set_option maxRecDepth 16384 in
theorem cp_14 (hlow : ∀ (k : Nat) (K : aK), KTx[k]? = some K → kOK TTs g (EIm n) l K) {b0 b1 : Nat} {bk : aB} {h : jH} (hI : lwI g n b0 b1 bk h) {z1 z2 z3 : Int32} : cpS l g n b0 b1 h 50 261 [.int z1, .int z2, .int z3] 0 0 false (k6 bk) := cp_of (d1 := 3) (by decide) (lu_470 (hlow 470 _ rfl) (hI.ok []) hI.2.2.2.1 ⟨i32_lo _, i32_hi _⟩ ⟨i32_lo _, i32_hi _⟩ ⟨i32_lo _, i32_hi _⟩) (fun v h1 hq => lwP hI hq (by decide +kernel) (by decide +kernel) (by decide +kernel) (by decide +kernel) (Int.le_refl n)) (fun bk1 h1 hI1 => ⟨3, _, by decide, lu_623 (hlow 623 _ rfl) (hI1.ok []) hI1.2.2.2.2.1 ⟨i32_lo _, i32_hi _⟩ ⟨i32_lo _, i32_hi _⟩ ⟨i32_lo _, i32_hi _⟩, fun v h2 hq => lwP hI1 hq (by decide +kernel) (by decide +kernel) (by decide +kernel) (by decide +kernel) (show n ≤ n + 40 by omega)⟩)
theorem lu_476 (hk : kOK TTs g (EIm n) l Kx_476) {W0 : List aR} {bk0 bk : aB} {h0 h : jH} (hO : hOK TTs g (EIm n) W0 bk0 h0 bk h) {a0 : Nat} (ha0 : bk 0 = some a0) {x1 : Int32} (hx1 : (-2147483648 : Int) ≤ x1.toInt ∧ x1.toInt ≤ 2147483647) {x2 : Int32} (hx2 : (-2147483648 : Int) ≤ x2.toInt ∧ x2.toInt ≤ 2147483647) :
    jCal l g 53 3 [.ref (g.2.2 + (a0 + 0)), .int x1, .int x2] h 0 0 (kPost TTs g (EIm n) Kx_476 bk h [x1.toInt, x2.toInt]) := by
  refine hk bk h [.ref (g.2.2 + (a0 + 0)), .int x1, .int x2] [x1.toInt, x2.toInt] hO.1 hO.2.1 hO.2.2.1 hO.2.2.2.2.2 (show 3 ≤ jmx 53 by decide +kernel) rfl (fun q hq => ?_) ⟨⟨rfl, fun i e z he hz => ?_⟩, eFm_plain (plain_app (spEnv_plain _) clEnv_plain), fun F hF => absurd hF List.not_mem_nil, fun i v hv => ?_, trivial, fun q hq => ?_, fun B hB => absurd hB List.not_mem_nil⟩
  · have hq : q ∈ ([] : List (Nat × Int × Nat)) := hq
    exact absurd hq List.not_mem_nil
  · match i, he, hz with
    | 0, he, hz => cases he; cases hz; exact hx1
    | 1, he, hz => cases he; cases hz; exact hx2
    | i + 2, he, _ => cases he
  · match i, hv with
    | 0, hv => cases hv; exact ⟨_, rfl, a0, ha0, rfl⟩
    | 1, hv => cases hv; exact ⟨_, rfl, x1, rfl, rfl⟩
    | 2, hv => cases hv; exact ⟨_, rfl, x2, rfl, rfl⟩
    | i + 3, hv => cases hv
  · exact absurd hq List.not_mem_nil
theorem lu_634 (hk : kOK TTs g (EIm n) l Kx_634) {W0 : List aR} {bk0 bk : aB} {h0 h : jH} (hO : hOK TTs g (EIm n) W0 bk0 h0 bk h) {a1 : Nat} (ha1 : bk 1 = some a1) {x1 : Int32} (hx1 : (-2147483648 : Int) ≤ x1.toInt ∧ x1.toInt ≤ 2147483647) {x2 : Int32} (hx2 : (-2147483648 : Int) ≤ x2.toInt ∧ x2.toInt ≤ 2147483647) :
    jCal l g 208 2 [.ref (g.2.2 + (a1 + 0)), .int x1, .int x2] h 0 0 (kPost TTs g (EIm n) Kx_634 bk h [x1.toInt, x2.toInt]) := by
  refine hk bk h [.ref (g.2.2 + (a1 + 0)), .int x1, .int x2] [x1.toInt, x2.toInt] hO.1 hO.2.1 hO.2.2.1 hO.2.2.2.2.2 (show 3 ≤ jmx 208 by decide +kernel) rfl (fun q hq => ?_) ⟨⟨rfl, fun i e z he hz => ?_⟩, eFm_plain (plain_app (spEnv_plain _) clEnv_plain), fun F hF => absurd hF List.not_mem_nil, fun i v hv => ?_, trivial, fun q hq => ?_, fun B hB => absurd hB List.not_mem_nil⟩
  · have hq : q ∈ ([] : List (Nat × Int × Nat)) := hq
    exact absurd hq List.not_mem_nil
  · match i, he, hz with
    | 0, he, hz => cases he; cases hz; exact hx1
    | 1, he, hz => cases he; cases hz; exact hx2
    | i + 2, he, _ => cases he
  · match i, hv with
    | 0, hv => cases hv; exact ⟨_, rfl, a1, ha1, rfl⟩
    | 1, hv => cases hv; exact ⟨_, rfl, x1, rfl, rfl⟩
    | 2, hv => cases hv; exact ⟨_, rfl, x2, rfl, rfl⟩
    | i + 3, hv => cases hv
  · exact absurd hq List.not_mem_nil
set_option maxRecDepth 16384 in
theorem cp_15 (hlow : ∀ (k : Nat) (K : aK), KTx[k]? = some K → kOK TTs g (EIm n) l K) {b0 b1 : Nat} {bk : aB} {h : jH} (hI : lwI g n b0 b1 bk h) {z1 z2 : Int32} : cpS l g n b0 b1 h 53 208 [.int z1, .int z2] 0 0 false (k6 bk) := cp_of (d1 := 3) (by decide) (lu_476 (hlow 476 _ rfl) (hI.ok []) hI.2.2.2.1 ⟨i32_lo _, i32_hi _⟩ ⟨i32_lo _, i32_hi _⟩) (fun v h1 hq => lwP hI hq (by decide +kernel) (by decide +kernel) (by decide +kernel) (by decide +kernel) (Int.le_refl n)) (fun bk1 h1 hI1 => ⟨2, _, by decide, lu_634 (hlow 634 _ rfl) (hI1.ok []) hI1.2.2.2.2.1 ⟨i32_lo _, i32_hi _⟩ ⟨i32_lo _, i32_hi _⟩, fun v h2 hq => lwP hI1 hq (by decide +kernel) (by decide +kernel) (by decide +kernel) (by decide +kernel) (show n ≤ n + 40 by omega)⟩)
theorem lu_467 (hk : kOK TTs g (EIm n) l Kx_467) {W0 : List aR} {bk0 bk : aB} {h0 h : jH} (hO : hOK TTs g (EIm n) W0 bk0 h0 bk h) {a0 : Nat} (ha0 : bk 0 = some a0) {x1 : Int32} (hx1 : (-2147483648 : Int) ≤ x1.toInt ∧ x1.toInt ≤ 2147483647) {x2 : Int32} (hx2 : (-2147483648 : Int) ≤ x2.toInt ∧ x2.toInt ≤ 2147483647) {x3 : Int32} (hx3 : (-2147483648 : Int) ≤ x3.toInt ∧ x3.toInt ≤ 2147483647) {x4 : Int32} (hx4 : (-2147483648 : Int) ≤ x4.toInt ∧ x4.toInt ≤ 2147483647) {x5 : Int32} (hx5 : (-2147483648 : Int) ≤ x5.toInt ∧ x5.toInt ≤ 2147483647) :
    jCal l g 54 2 [.ref (g.2.2 + (a0 + 0)), .int x1, .int x2, .int x3, .int x4, .int x5] h 0 0 (kPost TTs g (EIm n) Kx_467 bk h [x1.toInt, x2.toInt, x3.toInt, x4.toInt, x5.toInt]) := by
  refine hk bk h [.ref (g.2.2 + (a0 + 0)), .int x1, .int x2, .int x3, .int x4, .int x5] [x1.toInt, x2.toInt, x3.toInt, x4.toInt, x5.toInt] hO.1 hO.2.1 hO.2.2.1 hO.2.2.2.2.2 (show 6 ≤ jmx 54 by decide +kernel) rfl (fun q hq => ?_) ⟨⟨rfl, fun i e z he hz => ?_⟩, eFm_plain (plain_app (spEnv_plain _) clEnv_plain), fun F hF => absurd hF List.not_mem_nil, fun i v hv => ?_, trivial, fun q hq => ?_, fun B hB => absurd hB List.not_mem_nil⟩
  · have hq : q ∈ ([] : List (Nat × Int × Nat)) := hq
    exact absurd hq List.not_mem_nil
  · match i, he, hz with
    | 0, he, hz => cases he; cases hz; exact hx1
    | 1, he, hz => cases he; cases hz; exact hx2
    | 2, he, hz => cases he; cases hz; exact hx3
    | 3, he, hz => cases he; cases hz; exact hx4
    | 4, he, hz => cases he; cases hz; exact hx5
    | i + 5, he, _ => cases he
  · match i, hv with
    | 0, hv => cases hv; exact ⟨_, rfl, a0, ha0, rfl⟩
    | 1, hv => cases hv; exact ⟨_, rfl, x1, rfl, rfl⟩
    | 2, hv => cases hv; exact ⟨_, rfl, x2, rfl, rfl⟩
    | 3, hv => cases hv; exact ⟨_, rfl, x3, rfl, rfl⟩
    | 4, hv => cases hv; exact ⟨_, rfl, x4, rfl, rfl⟩
    | 5, hv => cases hv; exact ⟨_, rfl, x5, rfl, rfl⟩
    | i + 6, hv => cases hv
  · exact absurd hq List.not_mem_nil
theorem lu_618 (hk : kOK TTs g (EIm n) l Kx_618) {W0 : List aR} {bk0 bk : aB} {h0 h : jH} (hO : hOK TTs g (EIm n) W0 bk0 h0 bk h) {a1 : Nat} (ha1 : bk 1 = some a1) {x1 : Int32} (hx1 : (-2147483648 : Int) ≤ x1.toInt ∧ x1.toInt ≤ 2147483647) {x2 : Int32} (hx2 : (-2147483648 : Int) ≤ x2.toInt ∧ x2.toInt ≤ 2147483647) {x3 : Int32} (hx3 : (-2147483648 : Int) ≤ x3.toInt ∧ x3.toInt ≤ 2147483647) {x4 : Int32} (hx4 : (-2147483648 : Int) ≤ x4.toInt ∧ x4.toInt ≤ 2147483647) {x5 : Int32} (hx5 : (-2147483648 : Int) ≤ x5.toInt ∧ x5.toInt ≤ 2147483647) :
    jCal l g 211 2 [.ref (g.2.2 + (a1 + 0)), .int x1, .int x2, .int x3, .int x4, .int x5] h 0 0 (kPost TTs g (EIm n) Kx_618 bk h [x1.toInt, x2.toInt, x3.toInt, x4.toInt, x5.toInt]) := by
  refine hk bk h [.ref (g.2.2 + (a1 + 0)), .int x1, .int x2, .int x3, .int x4, .int x5] [x1.toInt, x2.toInt, x3.toInt, x4.toInt, x5.toInt] hO.1 hO.2.1 hO.2.2.1 hO.2.2.2.2.2 (show 6 ≤ jmx 211 by decide +kernel) rfl (fun q hq => ?_) ⟨⟨rfl, fun i e z he hz => ?_⟩, eFm_plain (plain_app (spEnv_plain _) clEnv_plain), fun F hF => absurd hF List.not_mem_nil, fun i v hv => ?_, trivial, fun q hq => ?_, fun B hB => absurd hB List.not_mem_nil⟩
  · have hq : q ∈ ([] : List (Nat × Int × Nat)) := hq
    exact absurd hq List.not_mem_nil
  · match i, he, hz with
    | 0, he, hz => cases he; cases hz; exact hx1
    | 1, he, hz => cases he; cases hz; exact hx2
    | 2, he, hz => cases he; cases hz; exact hx3
    | 3, he, hz => cases he; cases hz; exact hx4
    | 4, he, hz => cases he; cases hz; exact hx5
    | i + 5, he, _ => cases he
  · match i, hv with
    | 0, hv => cases hv; exact ⟨_, rfl, a1, ha1, rfl⟩
    | 1, hv => cases hv; exact ⟨_, rfl, x1, rfl, rfl⟩
    | 2, hv => cases hv; exact ⟨_, rfl, x2, rfl, rfl⟩
    | 3, hv => cases hv; exact ⟨_, rfl, x3, rfl, rfl⟩
    | 4, hv => cases hv; exact ⟨_, rfl, x4, rfl, rfl⟩
    | 5, hv => cases hv; exact ⟨_, rfl, x5, rfl, rfl⟩
    | i + 6, hv => cases hv
  · exact absurd hq List.not_mem_nil
set_option maxRecDepth 16384 in
theorem cp_16 (hlow : ∀ (k : Nat) (K : aK), KTx[k]? = some K → kOK TTs g (EIm n) l K) {b0 b1 : Nat} {bk : aB} {h : jH} (hI : lwI g n b0 b1 bk h) {z1 z2 z3 z4 z5 : Int32} : cpS l g n b0 b1 h 54 211 [.int z1, .int z2, .int z3, .int z4, .int z5] 0 0 false (k6 bk) := cp_of (d1 := 2) (by decide) (lu_467 (hlow 467 _ rfl) (hI.ok []) hI.2.2.2.1 ⟨i32_lo _, i32_hi _⟩ ⟨i32_lo _, i32_hi _⟩ ⟨i32_lo _, i32_hi _⟩ ⟨i32_lo _, i32_hi _⟩ ⟨i32_lo _, i32_hi _⟩) (fun v h1 hq => lwP hI hq (by decide +kernel) (by decide +kernel) (by decide +kernel) (by decide +kernel) (Int.le_refl n)) (fun bk1 h1 hI1 => ⟨2, _, by decide, lu_618 (hlow 618 _ rfl) (hI1.ok []) hI1.2.2.2.2.1 ⟨i32_lo _, i32_hi _⟩ ⟨i32_lo _, i32_hi _⟩ ⟨i32_lo _, i32_hi _⟩ ⟨i32_lo _, i32_hi _⟩ ⟨i32_lo _, i32_hi _⟩, fun v h2 hq => lwP hI1 hq (by decide +kernel) (by decide +kernel) (by decide +kernel) (by decide +kernel) (show n ≤ n + 40 by omega)⟩)
theorem lu_459 (hk : kOK TTs g (EIm n) l Kx_459) {W0 : List aR} {bk0 bk : aB} {h0 h : jH} (hO : hOK TTs g (EIm n) W0 bk0 h0 bk h) {a0 : Nat} (ha0 : bk 0 = some a0) {x1 : Int32} (hx1 : (-2147483648 : Int) ≤ x1.toInt ∧ x1.toInt ≤ 2147483647) :
    jCal l g 56 1 [.ref (g.2.2 + (a0 + 0)), .int x1] h 0 0 (kPost TTs g (EIm n) Kx_459 bk h [x1.toInt]) := by
  refine hk bk h [.ref (g.2.2 + (a0 + 0)), .int x1] [x1.toInt] hO.1 hO.2.1 hO.2.2.1 hO.2.2.2.2.2 (show 2 ≤ jmx 56 by decide +kernel) rfl (fun q hq => ?_) ⟨⟨rfl, fun i e z he hz => ?_⟩, eFm_plain (plain_app (spEnv_plain _) clEnv_plain), fun F hF => absurd hF List.not_mem_nil, fun i v hv => ?_, trivial, fun q hq => ?_, fun B hB => absurd hB List.not_mem_nil⟩
  · have hq : q ∈ ([] : List (Nat × Int × Nat)) := hq
    exact absurd hq List.not_mem_nil
  · match i, he, hz with
    | 0, he, hz => cases he; cases hz; exact hx1
    | i + 1, he, _ => cases he
  · match i, hv with
    | 0, hv => cases hv; exact ⟨_, rfl, a0, ha0, rfl⟩
    | 1, hv => cases hv; exact ⟨_, rfl, x1, rfl, rfl⟩
    | i + 2, hv => cases hv
  · exact absurd hq List.not_mem_nil
theorem lu_536 (hk : kOK TTs g (EIm n) l Kx_536) {W0 : List aR} {bk0 bk : aB} {h0 h : jH} (hO : hOK TTs g (EIm n) W0 bk0 h0 bk h) {a1 : Nat} (ha1 : bk 1 = some a1) {x1 : Int32} (hx1 : (-2147483648 : Int) ≤ x1.toInt ∧ x1.toInt ≤ 2147483647) :
    jCal l g 213 1 [.ref (g.2.2 + (a1 + 0)), .int x1] h 0 0 (kPost TTs g (EIm n) Kx_536 bk h [x1.toInt]) := by
  refine hk bk h [.ref (g.2.2 + (a1 + 0)), .int x1] [x1.toInt] hO.1 hO.2.1 hO.2.2.1 hO.2.2.2.2.2 (show 2 ≤ jmx 213 by decide +kernel) rfl (fun q hq => ?_) ⟨⟨rfl, fun i e z he hz => ?_⟩, eFm_plain (plain_app (spEnv_plain _) clEnv_plain), fun F hF => absurd hF List.not_mem_nil, fun i v hv => ?_, trivial, fun q hq => ?_, fun B hB => absurd hB List.not_mem_nil⟩
  · have hq : q ∈ ([] : List (Nat × Int × Nat)) := hq
    exact absurd hq List.not_mem_nil
  · match i, he, hz with
    | 0, he, hz => cases he; cases hz; exact hx1
    | i + 1, he, _ => cases he
  · match i, hv with
    | 0, hv => cases hv; exact ⟨_, rfl, a1, ha1, rfl⟩
    | 1, hv => cases hv; exact ⟨_, rfl, x1, rfl, rfl⟩
    | i + 2, hv => cases hv
  · exact absurd hq List.not_mem_nil
set_option maxRecDepth 16384 in
theorem cp_17 (hlow : ∀ (k : Nat) (K : aK), KTx[k]? = some K → kOK TTs g (EIm n) l K) {b0 b1 : Nat} {bk : aB} {h : jH} (hI : lwI g n b0 b1 bk h) {z1 : Int32} : cpS l g n b0 b1 h 56 213 [.int z1] 0 0 false (k6 bk) := cp_of (d1 := 1) (by decide) (lu_459 (hlow 459 _ rfl) (hI.ok []) hI.2.2.2.1 ⟨i32_lo _, i32_hi _⟩) (fun v h1 hq => lwP hI hq (by decide +kernel) (by decide +kernel) (by decide +kernel) (by decide +kernel) (Int.le_refl n)) (fun bk1 h1 hI1 => ⟨1, _, by decide, lu_536 (hlow 536 _ rfl) (hI1.ok []) hI1.2.2.2.2.1 ⟨i32_lo _, i32_hi _⟩, fun v h2 hq => lwP hI1 hq (by decide +kernel) (by decide +kernel) (by decide +kernel) (by decide +kernel) (show n ≤ n + 40 by omega)⟩)
theorem lu_465 (hk : kOK TTs g (EIm n) l Kx_465) {W0 : List aR} {bk0 bk : aB} {h0 h : jH} (hO : hOK TTs g (EIm n) W0 bk0 h0 bk h) {a0 : Nat} (ha0 : bk 0 = some a0)  :
    jCal l g 93 1 [.ref (g.2.2 + (a0 + 0))] h 0 0 (kPost TTs g (EIm n) Kx_465 bk h []) := by
  refine hk bk h [.ref (g.2.2 + (a0 + 0))] [] hO.1 hO.2.1 hO.2.2.1 hO.2.2.2.2.2 (show 1 ≤ jmx 93 by decide +kernel) rfl (fun q hq => ?_) ⟨⟨rfl, fun i e z he hz => ?_⟩, eFm_plain (plain_app (spEnv_plain _) clEnv_plain), fun F hF => absurd hF List.not_mem_nil, fun i v hv => ?_, trivial, fun q hq => ?_, fun B hB => absurd hB List.not_mem_nil⟩
  · have hq : q ∈ ([] : List (Nat × Int × Nat)) := hq
    exact absurd hq List.not_mem_nil
  · match i, he, hz with
    | i + 0, he, _ => cases he
  · match i, hv with
    | 0, hv => cases hv; exact ⟨_, rfl, a0, ha0, rfl⟩
    | i + 1, hv => cases hv
  · exact absurd hq List.not_mem_nil
theorem lu_612 (hk : kOK TTs g (EIm n) l Kx_612) {W0 : List aR} {bk0 bk : aB} {h0 h : jH} (hO : hOK TTs g (EIm n) W0 bk0 h0 bk h) {a1 : Nat} (ha1 : bk 1 = some a1)  :
    jCal l g 214 1 [.ref (g.2.2 + (a1 + 0))] h 0 0 (kPost TTs g (EIm n) Kx_612 bk h []) := by
  refine hk bk h [.ref (g.2.2 + (a1 + 0))] [] hO.1 hO.2.1 hO.2.2.1 hO.2.2.2.2.2 (show 1 ≤ jmx 214 by decide +kernel) rfl (fun q hq => ?_) ⟨⟨rfl, fun i e z he hz => ?_⟩, eFm_plain (plain_app (spEnv_plain _) clEnv_plain), fun F hF => absurd hF List.not_mem_nil, fun i v hv => ?_, trivial, fun q hq => ?_, fun B hB => absurd hB List.not_mem_nil⟩
  · have hq : q ∈ ([] : List (Nat × Int × Nat)) := hq
    exact absurd hq List.not_mem_nil
  · match i, he, hz with
    | i + 0, he, _ => cases he
  · match i, hv with
    | 0, hv => cases hv; exact ⟨_, rfl, a1, ha1, rfl⟩
    | i + 1, hv => cases hv
  · exact absurd hq List.not_mem_nil
set_option maxRecDepth 16384 in
theorem cp_20 (hlow : ∀ (k : Nat) (K : aK), KTx[k]? = some K → kOK TTs g (EIm n) l K) {b0 b1 : Nat} {bk : aB} {h : jH} (hI : lwI g n b0 b1 bk h) : cpS l g n b0 b1 h 93 214 [] 0 0 false (k6 bk) := cp_of (d1 := 1) (by decide) (lu_465 (hlow 465 _ rfl) (hI.ok []) hI.2.2.2.1) (fun v h1 hq => lwP hI hq (by decide +kernel) (by decide +kernel) (by decide +kernel) (by decide +kernel) (Int.le_refl n)) (fun bk1 h1 hI1 => ⟨1, _, by decide, lu_612 (hlow 612 _ rfl) (hI1.ok []) hI1.2.2.2.2.1, fun v h2 hq => lwP hI1 hq (by decide +kernel) (by decide +kernel) (by decide +kernel) (by decide +kernel) (show n ≤ n + 40 by omega)⟩)
theorem lu_460 (hk : kOK TTs g (EIm n) l Kx_460) {W0 : List aR} {bk0 bk : aB} {h0 h : jH} (hO : hOK TTs g (EIm n) W0 bk0 h0 bk h) {a0 : Nat} (ha0 : bk 0 = some a0) {x1 : Int32} (hx1 : (-2147483648 : Int) ≤ x1.toInt ∧ x1.toInt ≤ 2147483647) :
    jCal l g 109 2 [.ref (g.2.2 + (a0 + 0)), .int x1] h 0 0 (kPost TTs g (EIm n) Kx_460 bk h [x1.toInt]) := by
  refine hk bk h [.ref (g.2.2 + (a0 + 0)), .int x1] [x1.toInt] hO.1 hO.2.1 hO.2.2.1 hO.2.2.2.2.2 (show 2 ≤ jmx 109 by decide +kernel) rfl (fun q hq => ?_) ⟨⟨rfl, fun i e z he hz => ?_⟩, eFm_plain (plain_app (spEnv_plain _) clEnv_plain), fun F hF => absurd hF List.not_mem_nil, fun i v hv => ?_, trivial, fun q hq => ?_, fun B hB => absurd hB List.not_mem_nil⟩
  · have hq : q ∈ ([] : List (Nat × Int × Nat)) := hq
    exact absurd hq List.not_mem_nil
  · match i, he, hz with
    | 0, he, hz => cases he; cases hz; exact hx1
    | i + 1, he, _ => cases he
  · match i, hv with
    | 0, hv => cases hv; exact ⟨_, rfl, a0, ha0, rfl⟩
    | 1, hv => cases hv; exact ⟨_, rfl, x1, rfl, rfl⟩
    | i + 2, hv => cases hv
  · exact absurd hq List.not_mem_nil
theorem lu_537 (hk : kOK TTs g (EIm n) l Kx_537) {W0 : List aR} {bk0 bk : aB} {h0 h : jH} (hO : hOK TTs g (EIm n) W0 bk0 h0 bk h) {a1 : Nat} (ha1 : bk 1 = some a1) {x1 : Int32} (hx1 : (-2147483648 : Int) ≤ x1.toInt ∧ x1.toInt ≤ 2147483647) :
    jCal l g 275 3 [.ref (g.2.2 + (a1 + 0)), .int x1] h 0 0 (kPost TTs g (EIm n) Kx_537 bk h [x1.toInt]) := by
  refine hk bk h [.ref (g.2.2 + (a1 + 0)), .int x1] [x1.toInt] hO.1 hO.2.1 hO.2.2.1 hO.2.2.2.2.2 (show 2 ≤ jmx 275 by decide +kernel) rfl (fun q hq => ?_) ⟨⟨rfl, fun i e z he hz => ?_⟩, eFm_plain (plain_app (spEnv_plain _) clEnv_plain), fun F hF => absurd hF List.not_mem_nil, fun i v hv => ?_, trivial, fun q hq => ?_, fun B hB => absurd hB List.not_mem_nil⟩
  · have hq : q ∈ ([] : List (Nat × Int × Nat)) := hq
    exact absurd hq List.not_mem_nil
  · match i, he, hz with
    | 0, he, hz => cases he; cases hz; exact hx1
    | i + 1, he, _ => cases he
  · match i, hv with
    | 0, hv => cases hv; exact ⟨_, rfl, a1, ha1, rfl⟩
    | 1, hv => cases hv; exact ⟨_, rfl, x1, rfl, rfl⟩
    | i + 2, hv => cases hv
  · exact absurd hq List.not_mem_nil
set_option maxRecDepth 16384 in
theorem cp_22 (hlow : ∀ (k : Nat) (K : aK), KTx[k]? = some K → kOK TTs g (EIm n) l K) {b0 b1 : Nat} {bk : aB} {h : jH} (hI : lwI g n b0 b1 bk h) {z1 : Int32} : cpS l g n b0 b1 h 109 275 [.int z1] 0 0 false (k6 bk) := cp_of (d1 := 2) (by decide) (lu_460 (hlow 460 _ rfl) (hI.ok []) hI.2.2.2.1 ⟨i32_lo _, i32_hi _⟩) (fun v h1 hq => lwP hI hq (by decide +kernel) (by decide +kernel) (by decide +kernel) (by decide +kernel) (Int.le_refl n)) (fun bk1 h1 hI1 => ⟨3, _, by decide, lu_537 (hlow 537 _ rfl) (hI1.ok []) hI1.2.2.2.2.1 ⟨i32_lo _, i32_hi _⟩, fun v h2 hq => lwP hI1 hq (by decide +kernel) (by decide +kernel) (by decide +kernel) (by decide +kernel) (show n ≤ n + 40 by omega)⟩)
theorem lu_485 (hk : kOK TTs g (EIm n) l Kx_485) {W0 : List aR} {bk0 bk : aB} {h0 h : jH} (hO : hOK TTs g (EIm n) W0 bk0 h0 bk h) {a0 : Nat} (ha0 : bk 0 = some a0) {x1 : Int32} (hx1 : (-2147483648 : Int) ≤ x1.toInt ∧ x1.toInt ≤ 2147483647) :
    jCal l g 110 3 [.ref (g.2.2 + (a0 + 0)), .int x1] h 0 0 (kPost TTs g (EIm n) Kx_485 bk h [x1.toInt]) := by
  refine hk bk h [.ref (g.2.2 + (a0 + 0)), .int x1] [x1.toInt] hO.1 hO.2.1 hO.2.2.1 hO.2.2.2.2.2 (show 2 ≤ jmx 110 by decide +kernel) rfl (fun q hq => ?_) ⟨⟨rfl, fun i e z he hz => ?_⟩, eFm_plain (plain_app (spEnv_plain _) clEnv_plain), fun F hF => absurd hF List.not_mem_nil, fun i v hv => ?_, trivial, fun q hq => ?_, fun B hB => absurd hB List.not_mem_nil⟩
  · have hq : q ∈ ([] : List (Nat × Int × Nat)) := hq
    exact absurd hq List.not_mem_nil
  · match i, he, hz with
    | 0, he, hz => cases he; cases hz; exact hx1
    | i + 1, he, _ => cases he
  · match i, hv with
    | 0, hv => cases hv; exact ⟨_, rfl, a0, ha0, rfl⟩
    | 1, hv => cases hv; exact ⟨_, rfl, x1, rfl, rfl⟩
    | i + 2, hv => cases hv
  · exact absurd hq List.not_mem_nil
theorem lu_648 (hk : kOK TTs g (EIm n) l Kx_648) {W0 : List aR} {bk0 bk : aB} {h0 h : jH} (hO : hOK TTs g (EIm n) W0 bk0 h0 bk h) {a1 : Nat} (ha1 : bk 1 = some a1) {x1 : Int32} (hx1 : (-2147483648 : Int) ≤ x1.toInt ∧ x1.toInt ≤ 2147483647) :
    jCal l g 276 2 [.ref (g.2.2 + (a1 + 0)), .int x1] h 0 0 (kPost TTs g (EIm n) Kx_648 bk h [x1.toInt]) := by
  refine hk bk h [.ref (g.2.2 + (a1 + 0)), .int x1] [x1.toInt] hO.1 hO.2.1 hO.2.2.1 hO.2.2.2.2.2 (show 2 ≤ jmx 276 by decide +kernel) rfl (fun q hq => ?_) ⟨⟨rfl, fun i e z he hz => ?_⟩, eFm_plain (plain_app (spEnv_plain _) clEnv_plain), fun F hF => absurd hF List.not_mem_nil, fun i v hv => ?_, trivial, fun q hq => ?_, fun B hB => absurd hB List.not_mem_nil⟩
  · have hq : q ∈ ([] : List (Nat × Int × Nat)) := hq
    exact absurd hq List.not_mem_nil
  · match i, he, hz with
    | 0, he, hz => cases he; cases hz; exact hx1
    | i + 1, he, _ => cases he
  · match i, hv with
    | 0, hv => cases hv; exact ⟨_, rfl, a1, ha1, rfl⟩
    | 1, hv => cases hv; exact ⟨_, rfl, x1, rfl, rfl⟩
    | 2, hv => cases hv
    | 3, hv => cases hv
    | 4, hv => cases hv
    | i + 5, hv => cases hv
  · exact absurd hq List.not_mem_nil
set_option maxRecDepth 16384 in
theorem cp_23 (hlow : ∀ (k : Nat) (K : aK), KTx[k]? = some K → kOK TTs g (EIm n) l K) {b0 b1 : Nat} {bk : aB} {h : jH} (hI : lwI g n b0 b1 bk h) {z1 : Int32} : cpS l g n b0 b1 h 110 276 [.int z1] 0 0 false (k6 bk) := cp_of (d1 := 3) (by decide) (lu_485 (hlow 485 _ rfl) (hI.ok []) hI.2.2.2.1 ⟨i32_lo _, i32_hi _⟩) (fun v h1 hq => lwP hI hq (by decide +kernel) (by decide +kernel) (by decide +kernel) (by decide +kernel) (Int.le_refl n)) (fun bk1 h1 hI1 => ⟨2, _, by decide, lu_648 (hlow 648 _ rfl) (hI1.ok []) hI1.2.2.2.2.1 ⟨i32_lo _, i32_hi _⟩, fun v h2 hq => lwP hI1 hq (by decide +kernel) (by decide +kernel) (by decide +kernel) (by decide +kernel) (show n ≤ n + 40 by omega)⟩)
theorem lu_464 (hk : kOK TTs g (EIm n) l Kx_464) {W0 : List aR} {bk0 bk : aB} {h0 h : jH} (hO : hOK TTs g (EIm n) W0 bk0 h0 bk h) {a0 : Nat} (ha0 : bk 0 = some a0) {x1 : Int32} (hx1 : (-2147483648 : Int) ≤ x1.toInt ∧ x1.toInt ≤ 2147483647) {x2 : Int32} (hx2 : (-2147483648 : Int) ≤ x2.toInt ∧ x2.toInt ≤ 2147483647) :
    jCal l g 112 2 [.ref (g.2.2 + (a0 + 0)), .int x1, .int x2] h 0 0 (kPost TTs g (EIm n) Kx_464 bk h [x1.toInt, x2.toInt]) := by
  refine hk bk h [.ref (g.2.2 + (a0 + 0)), .int x1, .int x2] [x1.toInt, x2.toInt] hO.1 hO.2.1 hO.2.2.1 hO.2.2.2.2.2 (show 3 ≤ jmx 112 by decide +kernel) rfl (fun q hq => ?_) ⟨⟨rfl, fun i e z he hz => ?_⟩, eFm_plain (plain_app (spEnv_plain _) clEnv_plain), fun F hF => absurd hF List.not_mem_nil, fun i v hv => ?_, trivial, fun q hq => ?_, fun B hB => absurd hB List.not_mem_nil⟩
  · have hq : q ∈ ([] : List (Nat × Int × Nat)) := hq
    exact absurd hq List.not_mem_nil
  · match i, he, hz with
    | 0, he, hz => cases he; cases hz; exact hx1
    | 1, he, hz => cases he; cases hz; exact hx2
    | i + 2, he, _ => cases he
  · match i, hv with
    | 0, hv => cases hv; exact ⟨_, rfl, a0, ha0, rfl⟩
    | 1, hv => cases hv; exact ⟨_, rfl, x1, rfl, rfl⟩
    | 2, hv => cases hv; exact ⟨_, rfl, x2, rfl, rfl⟩
    | i + 3, hv => cases hv
  · exact absurd hq List.not_mem_nil
theorem lu_611 (hk : kOK TTs g (EIm n) l Kx_611) {W0 : List aR} {bk0 bk : aB} {h0 h : jH} (hO : hOK TTs g (EIm n) W0 bk0 h0 bk h) {a1 : Nat} (ha1 : bk 1 = some a1) {x1 : Int32} (hx1 : (-2147483648 : Int) ≤ x1.toInt ∧ x1.toInt ≤ 2147483647) {x2 : Int32} (hx2 : (-2147483648 : Int) ≤ x2.toInt ∧ x2.toInt ≤ 2147483647) :
    jCal l g 277 2 [.ref (g.2.2 + (a1 + 0)), .int x1, .int x2] h 0 0 (kPost TTs g (EIm n) Kx_611 bk h [x1.toInt, x2.toInt]) := by
  refine hk bk h [.ref (g.2.2 + (a1 + 0)), .int x1, .int x2] [x1.toInt, x2.toInt] hO.1 hO.2.1 hO.2.2.1 hO.2.2.2.2.2 (show 3 ≤ jmx 277 by decide +kernel) rfl (fun q hq => ?_) ⟨⟨rfl, fun i e z he hz => ?_⟩, eFm_plain (plain_app (spEnv_plain _) clEnv_plain), fun F hF => absurd hF List.not_mem_nil, fun i v hv => ?_, trivial, fun q hq => ?_, fun B hB => absurd hB List.not_mem_nil⟩
  · have hq : q ∈ ([] : List (Nat × Int × Nat)) := hq
    exact absurd hq List.not_mem_nil
  · match i, he, hz with
    | 0, he, hz => cases he; cases hz; exact hx1
    | 1, he, hz => cases he; cases hz; exact hx2
    | i + 2, he, _ => cases he
  · match i, hv with
    | 0, hv => cases hv; exact ⟨_, rfl, a1, ha1, rfl⟩
    | 1, hv => cases hv; exact ⟨_, rfl, x1, rfl, rfl⟩
    | 2, hv => cases hv; exact ⟨_, rfl, x2, rfl, rfl⟩
    | i + 3, hv => cases hv
  · exact absurd hq List.not_mem_nil
set_option maxRecDepth 16384 in
theorem cp_24 (hlow : ∀ (k : Nat) (K : aK), KTx[k]? = some K → kOK TTs g (EIm n) l K) {b0 b1 : Nat} {bk : aB} {h : jH} (hI : lwI g n b0 b1 bk h) {z1 z2 : Int32} : cpS l g n b0 b1 h 112 277 [.int z1, .int z2] 0 0 false (k6 bk) := cp_of (d1 := 2) (by decide) (lu_464 (hlow 464 _ rfl) (hI.ok []) hI.2.2.2.1 ⟨i32_lo _, i32_hi _⟩ ⟨i32_lo _, i32_hi _⟩) (fun v h1 hq => lwP hI hq (by decide +kernel) (by decide +kernel) (by decide +kernel) (by decide +kernel) (Int.le_refl n)) (fun bk1 h1 hI1 => ⟨2, _, by decide, lu_611 (hlow 611 _ rfl) (hI1.ok []) hI1.2.2.2.2.1 ⟨i32_lo _, i32_hi _⟩ ⟨i32_lo _, i32_hi _⟩, fun v h2 hq => lwP hI1 hq (by decide +kernel) (by decide +kernel) (by decide +kernel) (by decide +kernel) (show n ≤ n + 40 by omega)⟩)
theorem lu_495 (hk : kOK TTs g (EIm n) l Kx_495) {W0 : List aR} {bk0 bk : aB} {h0 h : jH} (hO : hOK TTs g (EIm n) W0 bk0 h0 bk h) {a0 : Nat} (ha0 : bk 0 = some a0) {x1 : Int32} (hx1 : (-2147483648 : Int) ≤ x1.toInt ∧ x1.toInt ≤ 2147483647) {x2 : Int32} (hx2 : (-2147483648 : Int) ≤ x2.toInt ∧ x2.toInt ≤ 2147483647) :
    jCal l g 114 3 [.ref (g.2.2 + (a0 + 0)), .int x1, .int x2] h 0 0 (kPost TTs g (EIm n) Kx_495 bk h [x1.toInt, x2.toInt]) := by
  refine hk bk h [.ref (g.2.2 + (a0 + 0)), .int x1, .int x2] [x1.toInt, x2.toInt] hO.1 hO.2.1 hO.2.2.1 hO.2.2.2.2.2 (show 3 ≤ jmx 114 by decide +kernel) rfl (fun q hq => ?_) ⟨⟨rfl, fun i e z he hz => ?_⟩, eFm_plain (plain_app (spEnv_plain _) clEnv_plain), fun F hF => absurd hF List.not_mem_nil, fun i v hv => ?_, trivial, fun q hq => ?_, fun B hB => absurd hB List.not_mem_nil⟩
  · have hq : q ∈ ([] : List (Nat × Int × Nat)) := hq
    exact absurd hq List.not_mem_nil
  · match i, he, hz with
    | 0, he, hz => cases he; cases hz; exact hx1
    | 1, he, hz => cases he; cases hz; exact hx2
    | i + 2, he, _ => cases he
  · match i, hv with
    | 0, hv => cases hv; exact ⟨_, rfl, a0, ha0, rfl⟩
    | 1, hv => cases hv; exact ⟨_, rfl, x1, rfl, rfl⟩
    | 2, hv => cases hv; exact ⟨_, rfl, x2, rfl, rfl⟩
    | i + 3, hv => cases hv
  · exact absurd hq List.not_mem_nil
theorem lu_656 (hk : kOK TTs g (EIm n) l Kx_656) {W0 : List aR} {bk0 bk : aB} {h0 h : jH} (hO : hOK TTs g (EIm n) W0 bk0 h0 bk h) {a1 : Nat} (ha1 : bk 1 = some a1) {x1 : Int32} (hx1 : (-2147483648 : Int) ≤ x1.toInt ∧ x1.toInt ≤ 2147483647) {x2 : Int32} (hx2 : (-2147483648 : Int) ≤ x2.toInt ∧ x2.toInt ≤ 2147483647) :
    jCal l g 270 2 [.ref (g.2.2 + (a1 + 0)), .int x1, .int x2] h 0 0 (kPost TTs g (EIm n) Kx_656 bk h [x1.toInt, x2.toInt]) := by
  refine hk bk h [.ref (g.2.2 + (a1 + 0)), .int x1, .int x2] [x1.toInt, x2.toInt] hO.1 hO.2.1 hO.2.2.1 hO.2.2.2.2.2 (show 3 ≤ jmx 270 by decide +kernel) rfl (fun q hq => ?_) ⟨⟨rfl, fun i e z he hz => ?_⟩, eFm_plain (plain_app (spEnv_plain _) clEnv_plain), fun F hF => absurd hF List.not_mem_nil, fun i v hv => ?_, trivial, fun q hq => ?_, fun B hB => absurd hB List.not_mem_nil⟩
  · have hq : q ∈ ([] : List (Nat × Int × Nat)) := hq
    exact absurd hq List.not_mem_nil
  · match i, he, hz with
    | 0, he, hz => cases he; cases hz; exact hx1
    | 1, he, hz => cases he; cases hz; exact hx2
    | i + 2, he, _ => cases he
  · match i, hv with
    | 0, hv => cases hv; exact ⟨_, rfl, a1, ha1, rfl⟩
    | 1, hv => cases hv; exact ⟨_, rfl, x1, rfl, rfl⟩
    | 2, hv => cases hv; exact ⟨_, rfl, x2, rfl, rfl⟩
    | 3, hv => cases hv
    | 4, hv => cases hv
    | 5, hv => cases hv
    | i + 6, hv => cases hv
  · exact absurd hq List.not_mem_nil
set_option maxRecDepth 16384 in
theorem cp_25 (hlow : ∀ (k : Nat) (K : aK), KTx[k]? = some K → kOK TTs g (EIm n) l K) {b0 b1 : Nat} {bk : aB} {h : jH} (hI : lwI g n b0 b1 bk h) {z1 z2 : Int32} : cpS l g n b0 b1 h 114 270 [.int z1, .int z2] 0 0 false (k6 bk) := cp_of (d1 := 3) (by decide) (lu_495 (hlow 495 _ rfl) (hI.ok []) hI.2.2.2.1 ⟨i32_lo _, i32_hi _⟩ ⟨i32_lo _, i32_hi _⟩) (fun v h1 hq => lwP hI hq (by decide +kernel) (by decide +kernel) (by decide +kernel) (by decide +kernel) (Int.le_refl n)) (fun bk1 h1 hI1 => ⟨2, _, by decide, lu_656 (hlow 656 _ rfl) (hI1.ok []) hI1.2.2.2.2.1 ⟨i32_lo _, i32_hi _⟩ ⟨i32_lo _, i32_hi _⟩, fun v h2 hq => lwP hI1 hq (by decide +kernel) (by decide +kernel) (by decide +kernel) (by decide +kernel) (show n ≤ n + 40 by omega)⟩)
theorem lu_499 (hk : kOK TTs g (EIm n) l Kx_499) {W0 : List aR} {bk0 bk : aB} {h0 h : jH} (hO : hOK TTs g (EIm n) W0 bk0 h0 bk h) {a0 : Nat} (ha0 : bk 0 = some a0) {x1 : Int32} (hx1 : (-2147483648 : Int) ≤ x1.toInt ∧ x1.toInt ≤ 2147483647) :
    jCal l g 116 6 [.ref (g.2.2 + (a0 + 0)), .int x1] h 0 0 (kPost TTs g (EIm n) Kx_499 bk h [x1.toInt]) := by
  refine hk bk h [.ref (g.2.2 + (a0 + 0)), .int x1] [x1.toInt] hO.1 hO.2.1 hO.2.2.1 hO.2.2.2.2.2 (show 2 ≤ jmx 116 by decide +kernel) rfl (fun q hq => ?_) ⟨⟨rfl, fun i e z he hz => ?_⟩, eFm_plain (plain_app (spEnv_plain _) clEnv_plain), fun F hF => absurd hF List.not_mem_nil, fun i v hv => ?_, trivial, fun q hq => ?_, fun B hB => absurd hB List.not_mem_nil⟩
  · have hq : q ∈ ([] : List (Nat × Int × Nat)) := hq
    exact absurd hq List.not_mem_nil
  · match i, he, hz with
    | 0, he, hz => cases he; cases hz; exact hx1
    | i + 1, he, _ => cases he
  · match i, hv with
    | 0, hv => cases hv; exact ⟨_, rfl, a0, ha0, rfl⟩
    | 1, hv => cases hv; exact ⟨_, rfl, x1, rfl, rfl⟩
    | i + 2, hv => cases hv
  · exact absurd hq List.not_mem_nil
theorem lu_660 (hk : kOK TTs g (EIm n) l Kx_660) {W0 : List aR} {bk0 bk : aB} {h0 h : jH} (hO : hOK TTs g (EIm n) W0 bk0 h0 bk h) {a1 : Nat} (ha1 : bk 1 = some a1) {x1 : Int32} (hx1 : (-2147483648 : Int) ≤ x1.toInt ∧ x1.toInt ≤ 2147483647) :
    jCal l g 271 2 [.ref (g.2.2 + (a1 + 0)), .int x1] h 0 0 (kPost TTs g (EIm n) Kx_660 bk h [x1.toInt]) := by
  refine hk bk h [.ref (g.2.2 + (a1 + 0)), .int x1] [x1.toInt] hO.1 hO.2.1 hO.2.2.1 hO.2.2.2.2.2 (show 2 ≤ jmx 271 by decide +kernel) rfl (fun q hq => ?_) ⟨⟨rfl, fun i e z he hz => ?_⟩, eFm_plain (plain_app (spEnv_plain _) clEnv_plain), fun F hF => absurd hF List.not_mem_nil, fun i v hv => ?_, trivial, fun q hq => ?_, fun B hB => absurd hB List.not_mem_nil⟩
  · have hq : q ∈ ([] : List (Nat × Int × Nat)) := hq
    exact absurd hq List.not_mem_nil
  · match i, he, hz with
    | 0, he, hz => cases he; cases hz; exact hx1
    | i + 1, he, _ => cases he
  · match i, hv with
    | 0, hv => cases hv; exact ⟨_, rfl, a1, ha1, rfl⟩
    | 1, hv => cases hv; exact ⟨_, rfl, x1, rfl, rfl⟩
    | i + 2, hv => cases hv
  · exact absurd hq List.not_mem_nil
set_option maxRecDepth 16384 in
theorem cp_26 (hlow : ∀ (k : Nat) (K : aK), KTx[k]? = some K → kOK TTs g (EIm n) l K) {b0 b1 : Nat} {bk : aB} {h : jH} (hI : lwI g n b0 b1 bk h) {z1 : Int32} : cpS l g n b0 b1 h 116 271 [.int z1] 0 0 false (k6 bk) := cp_of (d1 := 6) (by decide) (lu_499 (hlow 499 _ rfl) (hI.ok []) hI.2.2.2.1 ⟨i32_lo _, i32_hi _⟩) (fun v h1 hq => lwP hI hq (by decide +kernel) (by decide +kernel) (by decide +kernel) (by decide +kernel) (Int.le_refl n)) (fun bk1 h1 hI1 => ⟨2, _, by decide, lu_660 (hlow 660 _ rfl) (hI1.ok []) hI1.2.2.2.2.1 ⟨i32_lo _, i32_hi _⟩, fun v h2 hq => lwP hI1 hq (by decide +kernel) (by decide +kernel) (by decide +kernel) (by decide +kernel) (show n ≤ n + 40 by omega)⟩)
theorem lu_501 (hk : kOK TTs g (EIm n) l Kx_501) {W0 : List aR} {bk0 bk : aB} {h0 h : jH} (hO : hOK TTs g (EIm n) W0 bk0 h0 bk h) {a0 : Nat} (ha0 : bk 0 = some a0)  :
    jCal l g 119 4 [.ref (g.2.2 + (a0 + 0))] h 0 0 (kPost TTs g (EIm n) Kx_501 bk h []) := by
  refine hk bk h [.ref (g.2.2 + (a0 + 0))] [] hO.1 hO.2.1 hO.2.2.1 hO.2.2.2.2.2 (show 1 ≤ jmx 119 by decide +kernel) rfl (fun q hq => ?_) ⟨⟨rfl, fun i e z he hz => ?_⟩, eFm_plain (plain_app (spEnv_plain _) clEnv_plain), fun F hF => absurd hF List.not_mem_nil, fun i v hv => ?_, trivial, fun q hq => ?_, fun B hB => absurd hB List.not_mem_nil⟩
  · have hq : q ∈ ([] : List (Nat × Int × Nat)) := hq
    exact absurd hq List.not_mem_nil
  · match i, he, hz with
    | i + 0, he, _ => cases he
  · match i, hv with
    | 0, hv => cases hv; exact ⟨_, rfl, a0, ha0, rfl⟩
    | i + 1, hv => cases hv
  · exact absurd hq List.not_mem_nil
theorem lu_662 (hk : kOK TTs g (EIm n) l Kx_662) {W0 : List aR} {bk0 bk : aB} {h0 h : jH} (hO : hOK TTs g (EIm n) W0 bk0 h0 bk h) {a1 : Nat} (ha1 : bk 1 = some a1)  :
    jCal l g 272 2 [.ref (g.2.2 + (a1 + 0))] h 0 0 (kPost TTs g (EIm n) Kx_662 bk h []) := by
  refine hk bk h [.ref (g.2.2 + (a1 + 0))] [] hO.1 hO.2.1 hO.2.2.1 hO.2.2.2.2.2 (show 1 ≤ jmx 272 by decide +kernel) rfl (fun q hq => ?_) ⟨⟨rfl, fun i e z he hz => ?_⟩, eFm_plain (plain_app (spEnv_plain _) clEnv_plain), fun F hF => absurd hF List.not_mem_nil, fun i v hv => ?_, trivial, fun q hq => ?_, fun B hB => absurd hB List.not_mem_nil⟩
  · have hq : q ∈ ([] : List (Nat × Int × Nat)) := hq
    exact absurd hq List.not_mem_nil
  · match i, he, hz with
    | i + 0, he, _ => cases he
  · match i, hv with
    | 0, hv => cases hv; exact ⟨_, rfl, a1, ha1, rfl⟩
    | 1, hv => cases hv
    | 2, hv => cases hv
    | 3, hv => cases hv
    | 4, hv => cases hv
    | i + 5, hv => cases hv
  · exact absurd hq List.not_mem_nil
set_option maxRecDepth 16384 in
theorem cp_27 (hlow : ∀ (k : Nat) (K : aK), KTx[k]? = some K → kOK TTs g (EIm n) l K) {b0 b1 : Nat} {bk : aB} {h : jH} (hI : lwI g n b0 b1 bk h) : cpS l g n b0 b1 h 119 272 [] 0 0 false (k6 bk) := cp_of (d1 := 4) (by decide) (lu_501 (hlow 501 _ rfl) (hI.ok []) hI.2.2.2.1) (fun v h1 hq => lwP hI hq (by decide +kernel) (by decide +kernel) (by decide +kernel) (by decide +kernel) (Int.le_refl n)) (fun bk1 h1 hI1 => ⟨2, _, by decide, lu_662 (hlow 662 _ rfl) (hI1.ok []) hI1.2.2.2.2.1, fun v h2 hq => lwP hI1 hq (by decide +kernel) (by decide +kernel) (by decide +kernel) (by decide +kernel) (show n ≤ n + 40 by omega)⟩)
theorem lu_483 (hk : kOK TTs g (EIm n) l Kx_483) {W0 : List aR} {bk0 bk : aB} {h0 h : jH} (hO : hOK TTs g (EIm n) W0 bk0 h0 bk h) {a0 : Nat} (ha0 : bk 0 = some a0) {x1 : Int32} (hx1 : (-2147483648 : Int) ≤ x1.toInt ∧ x1.toInt ≤ 2147483647) :
    jCal l g 122 3 [.ref (g.2.2 + (a0 + 0)), .int x1] h 0 0 (kPost TTs g (EIm n) Kx_483 bk h [x1.toInt]) := by
  refine hk bk h [.ref (g.2.2 + (a0 + 0)), .int x1] [x1.toInt] hO.1 hO.2.1 hO.2.2.1 hO.2.2.2.2.2 (show 2 ≤ jmx 122 by decide +kernel) rfl (fun q hq => ?_) ⟨⟨rfl, fun i e z he hz => ?_⟩, eFm_plain (plain_app (spEnv_plain _) clEnv_plain), fun F hF => absurd hF List.not_mem_nil, fun i v hv => ?_, trivial, fun q hq => ?_, fun B hB => absurd hB List.not_mem_nil⟩
  · have hq : q ∈ ([] : List (Nat × Int × Nat)) := hq
    exact absurd hq List.not_mem_nil
  · match i, he, hz with
    | 0, he, hz => cases he; cases hz; exact hx1
    | i + 1, he, _ => cases he
  · match i, hv with
    | 0, hv => cases hv; exact ⟨_, rfl, a0, ha0, rfl⟩
    | 1, hv => cases hv; exact ⟨_, rfl, x1, rfl, rfl⟩
    | i + 2, hv => cases hv
  · exact absurd hq List.not_mem_nil
theorem lu_646 (hk : kOK TTs g (EIm n) l Kx_646) {W0 : List aR} {bk0 bk : aB} {h0 h : jH} (hO : hOK TTs g (EIm n) W0 bk0 h0 bk h) {a1 : Nat} (ha1 : bk 1 = some a1) {x1 : Int32} (hx1 : (-2147483648 : Int) ≤ x1.toInt ∧ x1.toInt ≤ 2147483647) :
    jCal l g 274 2 [.ref (g.2.2 + (a1 + 0)), .int x1] h 0 0 (kPost TTs g (EIm n) Kx_646 bk h [x1.toInt]) := by
  refine hk bk h [.ref (g.2.2 + (a1 + 0)), .int x1] [x1.toInt] hO.1 hO.2.1 hO.2.2.1 hO.2.2.2.2.2 (show 2 ≤ jmx 274 by decide +kernel) rfl (fun q hq => ?_) ⟨⟨rfl, fun i e z he hz => ?_⟩, eFm_plain (plain_app (spEnv_plain _) clEnv_plain), fun F hF => absurd hF List.not_mem_nil, fun i v hv => ?_, trivial, fun q hq => ?_, fun B hB => absurd hB List.not_mem_nil⟩
  · have hq : q ∈ ([] : List (Nat × Int × Nat)) := hq
    exact absurd hq List.not_mem_nil
  · match i, he, hz with
    | 0, he, hz => cases he; cases hz; exact hx1
    | i + 1, he, _ => cases he
  · match i, hv with
    | 0, hv => cases hv; exact ⟨_, rfl, a1, ha1, rfl⟩
    | 1, hv => cases hv; exact ⟨_, rfl, x1, rfl, rfl⟩
    | i + 2, hv => cases hv
  · exact absurd hq List.not_mem_nil
set_option maxRecDepth 16384 in
theorem cp_28 (hlow : ∀ (k : Nat) (K : aK), KTx[k]? = some K → kOK TTs g (EIm n) l K) {b0 b1 : Nat} {bk : aB} {h : jH} (hI : lwI g n b0 b1 bk h) {z1 : Int32} : cpS l g n b0 b1 h 122 274 [.int z1] 0 0 false (k6 bk) := cp_of (d1 := 3) (by decide) (lu_483 (hlow 483 _ rfl) (hI.ok []) hI.2.2.2.1 ⟨i32_lo _, i32_hi _⟩) (fun v h1 hq => lwP hI hq (by decide +kernel) (by decide +kernel) (by decide +kernel) (by decide +kernel) (Int.le_refl n)) (fun bk1 h1 hI1 => ⟨2, _, by decide, lu_646 (hlow 646 _ rfl) (hI1.ok []) hI1.2.2.2.2.1 ⟨i32_lo _, i32_hi _⟩, fun v h2 hq => lwP hI1 hq (by decide +kernel) (by decide +kernel) (by decide +kernel) (by decide +kernel) (show n ≤ n + 40 by omega)⟩)
theorem lu_475 (hk : kOK TTs g (EIm n) l Kx_475) {W0 : List aR} {bk0 bk : aB} {h0 h : jH} (hO : hOK TTs g (EIm n) W0 bk0 h0 bk h) {a0 : Nat} (ha0 : bk 0 = some a0) {x1 : Int32} (hx1 : (-2147483648 : Int) ≤ x1.toInt ∧ x1.toInt ≤ 2147483647) {x2 : Int32} (hx2 : (-2147483648 : Int) ≤ x2.toInt ∧ x2.toInt ≤ 2147483647) {x3 : Int32} (hx3 : (-2147483648 : Int) ≤ x3.toInt ∧ x3.toInt ≤ 2147483647) :
    jCal l g 125 2 [.ref (g.2.2 + (a0 + 0)), .int x1, .int x2, .int x3] h 0 0 (kPost TTs g (EIm n) Kx_475 bk h [x1.toInt, x2.toInt, x3.toInt]) := by
  refine hk bk h [.ref (g.2.2 + (a0 + 0)), .int x1, .int x2, .int x3] [x1.toInt, x2.toInt, x3.toInt] hO.1 hO.2.1 hO.2.2.1 hO.2.2.2.2.2 (show 4 ≤ jmx 125 by decide +kernel) rfl (fun q hq => ?_) ⟨⟨rfl, fun i e z he hz => ?_⟩, eFm_plain (plain_app (spEnv_plain _) clEnv_plain), fun F hF => absurd hF List.not_mem_nil, fun i v hv => ?_, trivial, fun q hq => ?_, fun B hB => absurd hB List.not_mem_nil⟩
  · have hq : q ∈ ([] : List (Nat × Int × Nat)) := hq
    exact absurd hq List.not_mem_nil
  · match i, he, hz with
    | 0, he, hz => cases he; cases hz; exact hx1
    | 1, he, hz => cases he; cases hz; exact hx2
    | 2, he, hz => cases he; cases hz; exact hx3
    | i + 3, he, _ => cases he
  · match i, hv with
    | 0, hv => cases hv; exact ⟨_, rfl, a0, ha0, rfl⟩
    | 1, hv => cases hv; exact ⟨_, rfl, x1, rfl, rfl⟩
    | 2, hv => cases hv; exact ⟨_, rfl, x2, rfl, rfl⟩
    | 3, hv => cases hv; exact ⟨_, rfl, x3, rfl, rfl⟩
    | i + 4, hv => cases hv
  · exact absurd hq List.not_mem_nil
theorem lu_633 (hk : kOK TTs g (EIm n) l Kx_633) {W0 : List aR} {bk0 bk : aB} {h0 h : jH} (hO : hOK TTs g (EIm n) W0 bk0 h0 bk h) {a1 : Nat} (ha1 : bk 1 = some a1) {x1 : Int32} (hx1 : (-2147483648 : Int) ≤ x1.toInt ∧ x1.toInt ≤ 2147483647) {x2 : Int32} (hx2 : (-2147483648 : Int) ≤ x2.toInt ∧ x2.toInt ≤ 2147483647) {x3 : Int32} (hx3 : (-2147483648 : Int) ≤ x3.toInt ∧ x3.toInt ≤ 2147483647) :
    jCal l g 278 3 [.ref (g.2.2 + (a1 + 0)), .int x1, .int x2, .int x3] h 0 0 (kPost TTs g (EIm n) Kx_633 bk h [x1.toInt, x2.toInt, x3.toInt]) := by
  refine hk bk h [.ref (g.2.2 + (a1 + 0)), .int x1, .int x2, .int x3] [x1.toInt, x2.toInt, x3.toInt] hO.1 hO.2.1 hO.2.2.1 hO.2.2.2.2.2 (show 4 ≤ jmx 278 by decide +kernel) rfl (fun q hq => ?_) ⟨⟨rfl, fun i e z he hz => ?_⟩, eFm_plain (plain_app (spEnv_plain _) clEnv_plain), fun F hF => absurd hF List.not_mem_nil, fun i v hv => ?_, trivial, fun q hq => ?_, fun B hB => absurd hB List.not_mem_nil⟩
  · have hq : q ∈ ([] : List (Nat × Int × Nat)) := hq
    exact absurd hq List.not_mem_nil
  · match i, he, hz with
    | 0, he, hz => cases he; cases hz; exact hx1
    | 1, he, hz => cases he; cases hz; exact hx2
    | 2, he, hz => cases he; cases hz; exact hx3
    | i + 3, he, _ => cases he
  · match i, hv with
    | 0, hv => cases hv; exact ⟨_, rfl, a1, ha1, rfl⟩
    | 1, hv => cases hv; exact ⟨_, rfl, x1, rfl, rfl⟩
    | 2, hv => cases hv; exact ⟨_, rfl, x2, rfl, rfl⟩
    | 3, hv => cases hv; exact ⟨_, rfl, x3, rfl, rfl⟩
    | 4, hv => cases hv
    | i + 5, hv => cases hv
  · exact absurd hq List.not_mem_nil
set_option maxRecDepth 16384 in
theorem cp_29 (hlow : ∀ (k : Nat) (K : aK), KTx[k]? = some K → kOK TTs g (EIm n) l K) {b0 b1 : Nat} {bk : aB} {h : jH} (hI : lwI g n b0 b1 bk h) {z1 z2 z3 : Int32} : cpS l g n b0 b1 h 125 278 [.int z1, .int z2, .int z3] 0 0 false (k6 bk) := cp_of (d1 := 2) (by decide) (lu_475 (hlow 475 _ rfl) (hI.ok []) hI.2.2.2.1 ⟨i32_lo _, i32_hi _⟩ ⟨i32_lo _, i32_hi _⟩ ⟨i32_lo _, i32_hi _⟩) (fun v h1 hq => lwP hI hq (by decide +kernel) (by decide +kernel) (by decide +kernel) (by decide +kernel) (Int.le_refl n)) (fun bk1 h1 hI1 => ⟨3, _, by decide, lu_633 (hlow 633 _ rfl) (hI1.ok []) hI1.2.2.2.2.1 ⟨i32_lo _, i32_hi _⟩ ⟨i32_lo _, i32_hi _⟩ ⟨i32_lo _, i32_hi _⟩, fun v h2 hq => lwP hI1 hq (by decide +kernel) (by decide +kernel) (by decide +kernel) (by decide +kernel) (show n ≤ n + 40 by omega)⟩)
theorem lu_457 (hk : kOK TTs g (EIm n) l Kx_457) {W0 : List aR} {bk0 bk : aB} {h0 h : jH} (hO : hOK TTs g (EIm n) W0 bk0 h0 bk h) {a0 : Nat} (ha0 : bk 0 = some a0) {x1 : Int32} (hx1 : (-2147483648 : Int) ≤ x1.toInt ∧ x1.toInt ≤ 2147483647) :
    jCal l g 158 4 [.ref (g.2.2 + (a0 + 0)), .int x1] h 0 0 (kPost TTs g (EIm n) Kx_457 bk h [x1.toInt]) := by
  refine hk bk h [.ref (g.2.2 + (a0 + 0)), .int x1] [x1.toInt] hO.1 hO.2.1 hO.2.2.1 hO.2.2.2.2.2 (show 2 ≤ jmx 158 by decide +kernel) rfl (fun q hq => ?_) ⟨⟨rfl, fun i e z he hz => ?_⟩, eFm_plain (plain_app (spEnv_plain _) clEnv_plain), fun F hF => absurd hF List.not_mem_nil, fun i v hv => ?_, trivial, fun q hq => ?_, fun B hB => absurd hB List.not_mem_nil⟩
  · have hq : q ∈ ([] : List (Nat × Int × Nat)) := hq
    exact absurd hq List.not_mem_nil
  · match i, he, hz with
    | 0, he, hz => cases he; cases hz; exact hx1
    | i + 1, he, _ => cases he
  · match i, hv with
    | 0, hv => cases hv; exact ⟨_, rfl, a0, ha0, rfl⟩
    | 1, hv => cases hv; exact ⟨_, rfl, x1, rfl, rfl⟩
    | i + 2, hv => cases hv
  · exact absurd hq List.not_mem_nil
theorem lu_533 (hk : kOK TTs g (EIm n) l Kx_533) {W0 : List aR} {bk0 bk : aB} {h0 h : jH} (hO : hOK TTs g (EIm n) W0 bk0 h0 bk h) {a1 : Nat} (ha1 : bk 1 = some a1) {x1 : Int32} (hx1 : (-2147483648 : Int) ≤ x1.toInt ∧ x1.toInt ≤ 2147483647) :
    jCal l g 293 2 [.ref (g.2.2 + (a1 + 0)), .int x1] h 0 0 (kPost TTs g (EIm n) Kx_533 bk h [x1.toInt]) := by
  refine hk bk h [.ref (g.2.2 + (a1 + 0)), .int x1] [x1.toInt] hO.1 hO.2.1 hO.2.2.1 hO.2.2.2.2.2 (show 2 ≤ jmx 293 by decide +kernel) rfl (fun q hq => ?_) ⟨⟨rfl, fun i e z he hz => ?_⟩, eFm_plain (plain_app (spEnv_plain _) clEnv_plain), fun F hF => absurd hF List.not_mem_nil, fun i v hv => ?_, trivial, fun q hq => ?_, fun B hB => absurd hB List.not_mem_nil⟩
  · have hq : q ∈ ([] : List (Nat × Int × Nat)) := hq
    exact absurd hq List.not_mem_nil
  · match i, he, hz with
    | 0, he, hz => cases he; cases hz; exact hx1
    | i + 1, he, _ => cases he
  · match i, hv with
    | 0, hv => cases hv; exact ⟨_, rfl, a1, ha1, rfl⟩
    | 1, hv => cases hv; exact ⟨_, rfl, x1, rfl, rfl⟩
    | 2, hv => cases hv
    | 3, hv => cases hv
    | 4, hv => cases hv
    | i + 5, hv => cases hv
  · exact absurd hq List.not_mem_nil
set_option maxRecDepth 16384 in
theorem cp_37 (hlow : ∀ (k : Nat) (K : aK), KTx[k]? = some K → kOK TTs g (EIm n) l K) {b0 b1 : Nat} {bk : aB} {h : jH} (hI : lwI g n b0 b1 bk h) {z1 : Int32} : cpS l g n b0 b1 h 158 293 [.int z1] 0 0 false (k6 bk) := cp_of (d1 := 4) (by decide) (lu_457 (hlow 457 _ rfl) (hI.ok []) hI.2.2.2.1 ⟨i32_lo _, i32_hi _⟩) (fun v h1 hq => lwP hI hq (by decide +kernel) (by decide +kernel) (by decide +kernel) (by decide +kernel) (Int.le_refl n)) (fun bk1 h1 hI1 => ⟨2, _, by decide, lu_533 (hlow 533 _ rfl) (hI1.ok []) hI1.2.2.2.2.1 ⟨i32_lo _, i32_hi _⟩, fun v h2 hq => lwP hI1 hq (by decide +kernel) (by decide +kernel) (by decide +kernel) (by decide +kernel) (show n ≤ n + 40 by omega)⟩)
theorem lu_484 (hk : kOK TTs g (EIm n) l Kx_484) {W0 : List aR} {bk0 bk : aB} {h0 h : jH} (hO : hOK TTs g (EIm n) W0 bk0 h0 bk h) {a0 : Nat} (ha0 : bk 0 = some a0) {x1 : Int32} (hx1 : (-2147483648 : Int) ≤ x1.toInt ∧ x1.toInt ≤ 2147483647) :
    jCal l g 163 4 [.ref (g.2.2 + (a0 + 0)), .int x1] h 0 0 (kPost TTs g (EIm n) Kx_484 bk h [x1.toInt]) := by
  refine hk bk h [.ref (g.2.2 + (a0 + 0)), .int x1] [x1.toInt] hO.1 hO.2.1 hO.2.2.1 hO.2.2.2.2.2 (show 2 ≤ jmx 163 by decide +kernel) rfl (fun q hq => ?_) ⟨⟨rfl, fun i e z he hz => ?_⟩, eFm_plain (plain_app (spEnv_plain _) clEnv_plain), fun F hF => absurd hF List.not_mem_nil, fun i v hv => ?_, trivial, fun q hq => ?_, fun B hB => absurd hB List.not_mem_nil⟩
  · have hq : q ∈ ([] : List (Nat × Int × Nat)) := hq
    exact absurd hq List.not_mem_nil
  · match i, he, hz with
    | 0, he, hz => cases he; cases hz; exact hx1
    | i + 1, he, _ => cases he
  · match i, hv with
    | 0, hv => cases hv; exact ⟨_, rfl, a0, ha0, rfl⟩
    | 1, hv => cases hv; exact ⟨_, rfl, x1, rfl, rfl⟩
    | i + 2, hv => cases hv
  · exact absurd hq List.not_mem_nil
theorem lu_647 (hk : kOK TTs g (EIm n) l Kx_647) {W0 : List aR} {bk0 bk : aB} {h0 h : jH} (hO : hOK TTs g (EIm n) W0 bk0 h0 bk h) {a1 : Nat} (ha1 : bk 1 = some a1) {x1 : Int32} (hx1 : (-2147483648 : Int) ≤ x1.toInt ∧ x1.toInt ≤ 2147483647) :
    jCal l g 296 2 [.ref (g.2.2 + (a1 + 0)), .int x1] h 0 0 (kPost TTs g (EIm n) Kx_647 bk h [x1.toInt]) := by
  refine hk bk h [.ref (g.2.2 + (a1 + 0)), .int x1] [x1.toInt] hO.1 hO.2.1 hO.2.2.1 hO.2.2.2.2.2 (show 2 ≤ jmx 296 by decide +kernel) rfl (fun q hq => ?_) ⟨⟨rfl, fun i e z he hz => ?_⟩, eFm_plain (plain_app (spEnv_plain _) clEnv_plain), fun F hF => absurd hF List.not_mem_nil, fun i v hv => ?_, trivial, fun q hq => ?_, fun B hB => absurd hB List.not_mem_nil⟩
  · have hq : q ∈ ([] : List (Nat × Int × Nat)) := hq
    exact absurd hq List.not_mem_nil
  · match i, he, hz with
    | 0, he, hz => cases he; cases hz; exact hx1
    | i + 1, he, _ => cases he
  · match i, hv with
    | 0, hv => cases hv; exact ⟨_, rfl, a1, ha1, rfl⟩
    | 1, hv => cases hv; exact ⟨_, rfl, x1, rfl, rfl⟩
    | 2, hv => cases hv
    | 3, hv => cases hv
    | 4, hv => cases hv
    | i + 5, hv => cases hv
  · exact absurd hq List.not_mem_nil
set_option maxRecDepth 16384 in
theorem cp_39 (hlow : ∀ (k : Nat) (K : aK), KTx[k]? = some K → kOK TTs g (EIm n) l K) {b0 b1 : Nat} {bk : aB} {h : jH} (hI : lwI g n b0 b1 bk h) {z1 : Int32} : cpS l g n b0 b1 h 163 296 [.int z1] 0 0 false (k6 bk) := cp_of (d1 := 4) (by decide) (lu_484 (hlow 484 _ rfl) (hI.ok []) hI.2.2.2.1 ⟨i32_lo _, i32_hi _⟩) (fun v h1 hq => lwP hI hq (by decide +kernel) (by decide +kernel) (by decide +kernel) (by decide +kernel) (Int.le_refl n)) (fun bk1 h1 hI1 => ⟨2, _, by decide, lu_647 (hlow 647 _ rfl) (hI1.ok []) hI1.2.2.2.2.1 ⟨i32_lo _, i32_hi _⟩, fun v h2 hq => lwP hI1 hq (by decide +kernel) (by decide +kernel) (by decide +kernel) (by decide +kernel) (show n ≤ n + 40 by omega)⟩)
theorem lu_502 (hk : kOK TTs g (EIm n) l Kx_502) {W0 : List aR} {bk0 bk : aB} {h0 h : jH} (hO : hOK TTs g (EIm n) W0 bk0 h0 bk h) {a0 : Nat} (ha0 : bk 0 = some a0) {x1 : Int32} (hx1 : (-2147483648 : Int) ≤ x1.toInt ∧ x1.toInt ≤ 2147483647) {x2 : Int32} (hx2 : (-2147483648 : Int) ≤ x2.toInt ∧ x2.toInt ≤ 2147483647) :
    jCal l g 166 4 [.ref (g.2.2 + (a0 + 0)), .int x1, .int x2] h 0 0 (kPost TTs g (EIm n) Kx_502 bk h [x1.toInt, x2.toInt]) := by
  refine hk bk h [.ref (g.2.2 + (a0 + 0)), .int x1, .int x2] [x1.toInt, x2.toInt] hO.1 hO.2.1 hO.2.2.1 hO.2.2.2.2.2 (show 3 ≤ jmx 166 by decide +kernel) rfl (fun q hq => ?_) ⟨⟨rfl, fun i e z he hz => ?_⟩, eFm_plain (plain_app (spEnv_plain _) clEnv_plain), fun F hF => absurd hF List.not_mem_nil, fun i v hv => ?_, trivial, fun q hq => ?_, fun B hB => absurd hB List.not_mem_nil⟩
  · have hq : q ∈ ([] : List (Nat × Int × Nat)) := hq
    exact absurd hq List.not_mem_nil
  · match i, he, hz with
    | 0, he, hz => cases he; cases hz; exact hx1
    | 1, he, hz => cases he; cases hz; exact hx2
    | i + 2, he, _ => cases he
  · match i, hv with
    | 0, hv => cases hv; exact ⟨_, rfl, a0, ha0, rfl⟩
    | 1, hv => cases hv; exact ⟨_, rfl, x1, rfl, rfl⟩
    | 2, hv => cases hv; exact ⟨_, rfl, x2, rfl, rfl⟩
    | i + 3, hv => cases hv
  · exact absurd hq List.not_mem_nil
theorem lu_663 (hk : kOK TTs g (EIm n) l Kx_663) {W0 : List aR} {bk0 bk : aB} {h0 h : jH} (hO : hOK TTs g (EIm n) W0 bk0 h0 bk h) {a1 : Nat} (ha1 : bk 1 = some a1) {x1 : Int32} (hx1 : (-2147483648 : Int) ≤ x1.toInt ∧ x1.toInt ≤ 2147483647) {x2 : Int32} (hx2 : (-2147483648 : Int) ≤ x2.toInt ∧ x2.toInt ≤ 2147483647) :
    jCal l g 299 3 [.ref (g.2.2 + (a1 + 0)), .int x1, .int x2] h 0 0 (kPost TTs g (EIm n) Kx_663 bk h [x1.toInt, x2.toInt]) := by
  refine hk bk h [.ref (g.2.2 + (a1 + 0)), .int x1, .int x2] [x1.toInt, x2.toInt] hO.1 hO.2.1 hO.2.2.1 hO.2.2.2.2.2 (show 3 ≤ jmx 299 by decide +kernel) rfl (fun q hq => ?_) ⟨⟨rfl, fun i e z he hz => ?_⟩, eFm_plain (plain_app (spEnv_plain _) clEnv_plain), fun F hF => absurd hF List.not_mem_nil, fun i v hv => ?_, trivial, fun q hq => ?_, fun B hB => absurd hB List.not_mem_nil⟩
  · have hq : q ∈ ([] : List (Nat × Int × Nat)) := hq
    exact absurd hq List.not_mem_nil
  · match i, he, hz with
    | 0, he, hz => cases he; cases hz; exact hx1
    | 1, he, hz => cases he; cases hz; exact hx2
    | i + 2, he, _ => cases he
  · match i, hv with
    | 0, hv => cases hv; exact ⟨_, rfl, a1, ha1, rfl⟩
    | 1, hv => cases hv; exact ⟨_, rfl, x1, rfl, rfl⟩
    | 2, hv => cases hv; exact ⟨_, rfl, x2, rfl, rfl⟩
    | 3, hv => cases hv
    | 4, hv => cases hv
    | 5, hv => cases hv
    | 6, hv => cases hv
    | i + 7, hv => cases hv
  · exact absurd hq List.not_mem_nil
set_option maxRecDepth 16384 in
theorem cp_40 (hlow : ∀ (k : Nat) (K : aK), KTx[k]? = some K → kOK TTs g (EIm n) l K) {b0 b1 : Nat} {bk : aB} {h : jH} (hI : lwI g n b0 b1 bk h) {z1 z2 : Int32} : cpS l g n b0 b1 h 166 299 [.int z1, .int z2] 0 0 false (k6 bk) := cp_of (d1 := 4) (by decide) (lu_502 (hlow 502 _ rfl) (hI.ok []) hI.2.2.2.1 ⟨i32_lo _, i32_hi _⟩ ⟨i32_lo _, i32_hi _⟩) (fun v h1 hq => lwP hI hq (by decide +kernel) (by decide +kernel) (by decide +kernel) (by decide +kernel) (Int.le_refl n)) (fun bk1 h1 hI1 => ⟨3, _, by decide, lu_663 (hlow 663 _ rfl) (hI1.ok []) hI1.2.2.2.2.1 ⟨i32_lo _, i32_hi _⟩ ⟨i32_lo _, i32_hi _⟩, fun v h2 hq => lwP hI1 hq (by decide +kernel) (by decide +kernel) (by decide +kernel) (by decide +kernel) (show n ≤ n + 40 by omega)⟩)
theorem lu_498 (hk : kOK TTs g (EIm n) l Kx_498) {W0 : List aR} {bk0 bk : aB} {h0 h : jH} (hO : hOK TTs g (EIm n) W0 bk0 h0 bk h) {a0 : Nat} (ha0 : bk 0 = some a0) {x1 : Int32} (hx1 : (-2147483648 : Int) ≤ x1.toInt ∧ x1.toInt ≤ 2147483647) {x2 : Int32} (hx2 : (-2147483648 : Int) ≤ x2.toInt ∧ x2.toInt ≤ 2147483647) :
    jCal l g 168 4 [.ref (g.2.2 + (a0 + 0)), .int x1, .int x2] h 0 0 (kPost TTs g (EIm n) Kx_498 bk h [x1.toInt, x2.toInt]) := by
  refine hk bk h [.ref (g.2.2 + (a0 + 0)), .int x1, .int x2] [x1.toInt, x2.toInt] hO.1 hO.2.1 hO.2.2.1 hO.2.2.2.2.2 (show 3 ≤ jmx 168 by decide +kernel) rfl (fun q hq => ?_) ⟨⟨rfl, fun i e z he hz => ?_⟩, eFm_plain (plain_app (spEnv_plain _) clEnv_plain), fun F hF => absurd hF List.not_mem_nil, fun i v hv => ?_, trivial, fun q hq => ?_, fun B hB => absurd hB List.not_mem_nil⟩
  · have hq : q ∈ ([] : List (Nat × Int × Nat)) := hq
    exact absurd hq List.not_mem_nil
  · match i, he, hz with
    | 0, he, hz => cases he; cases hz; exact hx1
    | 1, he, hz => cases he; cases hz; exact hx2
    | i + 2, he, _ => cases he
  · match i, hv with
    | 0, hv => cases hv; exact ⟨_, rfl, a0, ha0, rfl⟩
    | 1, hv => cases hv; exact ⟨_, rfl, x1, rfl, rfl⟩
    | 2, hv => cases hv; exact ⟨_, rfl, x2, rfl, rfl⟩
    | 3, hv => cases hv
    | i + 4, hv => cases hv
  · exact absurd hq List.not_mem_nil
theorem lu_659 (hk : kOK TTs g (EIm n) l Kx_659) {W0 : List aR} {bk0 bk : aB} {h0 h : jH} (hO : hOK TTs g (EIm n) W0 bk0 h0 bk h) {a1 : Nat} (ha1 : bk 1 = some a1) {x1 : Int32} (hx1 : (-2147483648 : Int) ≤ x1.toInt ∧ x1.toInt ≤ 2147483647) {x2 : Int32} (hx2 : (-2147483648 : Int) ≤ x2.toInt ∧ x2.toInt ≤ 2147483647) :
    jCal l g 300 3 [.ref (g.2.2 + (a1 + 0)), .int x1, .int x2] h 0 0 (kPost TTs g (EIm n) Kx_659 bk h [x1.toInt, x2.toInt]) := by
  refine hk bk h [.ref (g.2.2 + (a1 + 0)), .int x1, .int x2] [x1.toInt, x2.toInt] hO.1 hO.2.1 hO.2.2.1 hO.2.2.2.2.2 (show 3 ≤ jmx 300 by decide +kernel) rfl (fun q hq => ?_) ⟨⟨rfl, fun i e z he hz => ?_⟩, eFm_plain (plain_app (spEnv_plain _) clEnv_plain), fun F hF => absurd hF List.not_mem_nil, fun i v hv => ?_, trivial, fun q hq => ?_, fun B hB => absurd hB List.not_mem_nil⟩
  · have hq : q ∈ ([] : List (Nat × Int × Nat)) := hq
    exact absurd hq List.not_mem_nil
  · match i, he, hz with
    | 0, he, hz => cases he; cases hz; exact hx1
    | 1, he, hz => cases he; cases hz; exact hx2
    | i + 2, he, _ => cases he
  · match i, hv with
    | 0, hv => cases hv; exact ⟨_, rfl, a1, ha1, rfl⟩
    | 1, hv => cases hv; exact ⟨_, rfl, x1, rfl, rfl⟩
    | 2, hv => cases hv; exact ⟨_, rfl, x2, rfl, rfl⟩
    | 3, hv => cases hv
    | 4, hv => cases hv
    | i + 5, hv => cases hv
  · exact absurd hq List.not_mem_nil
set_option maxRecDepth 16384 in
theorem cp_41 (hlow : ∀ (k : Nat) (K : aK), KTx[k]? = some K → kOK TTs g (EIm n) l K) {b0 b1 : Nat} {bk : aB} {h : jH} (hI : lwI g n b0 b1 bk h) {z1 z2 : Int32} : cpS l g n b0 b1 h 168 300 [.int z1, .int z2] 0 0 false (k6 bk) := cp_of (d1 := 4) (by decide) (lu_498 (hlow 498 _ rfl) (hI.ok []) hI.2.2.2.1 ⟨i32_lo _, i32_hi _⟩ ⟨i32_lo _, i32_hi _⟩) (fun v h1 hq => lwP hI hq (by decide +kernel) (by decide +kernel) (by decide +kernel) (by decide +kernel) (Int.le_refl n)) (fun bk1 h1 hI1 => ⟨3, _, by decide, lu_659 (hlow 659 _ rfl) (hI1.ok []) hI1.2.2.2.2.1 ⟨i32_lo _, i32_hi _⟩ ⟨i32_lo _, i32_hi _⟩, fun v h2 hq => lwP hI1 hq (by decide +kernel) (by decide +kernel) (by decide +kernel) (by decide +kernel) (show n ≤ n + 40 by omega)⟩)
theorem lu_469 (hk : kOK TTs g (EIm n) l Kx_469) {W0 : List aR} {bk0 bk : aB} {h0 h : jH} (hO : hOK TTs g (EIm n) W0 bk0 h0 bk h) {a0 : Nat} (ha0 : bk 0 = some a0) {x1 : Int32} (hx1 : (-2147483648 : Int) ≤ x1.toInt ∧ x1.toInt ≤ 2147483647) {x2 : Int32} (hx2 : (-2147483648 : Int) ≤ x2.toInt ∧ x2.toInt ≤ 2147483647) :
    jCal l g 170 6 [.ref (g.2.2 + (a0 + 0)), .int x1, .int x2] h 0 0 (kPost TTs g (EIm n) Kx_469 bk h [x1.toInt, x2.toInt]) := by
  refine hk bk h [.ref (g.2.2 + (a0 + 0)), .int x1, .int x2] [x1.toInt, x2.toInt] hO.1 hO.2.1 hO.2.2.1 hO.2.2.2.2.2 (show 3 ≤ jmx 170 by decide +kernel) rfl (fun q hq => ?_) ⟨⟨rfl, fun i e z he hz => ?_⟩, eFm_plain (plain_app (spEnv_plain _) clEnv_plain), fun F hF => absurd hF List.not_mem_nil, fun i v hv => ?_, trivial, fun q hq => ?_, fun B hB => absurd hB List.not_mem_nil⟩
  · have hq : q ∈ ([] : List (Nat × Int × Nat)) := hq
    exact absurd hq List.not_mem_nil
  · match i, he, hz with
    | 0, he, hz => cases he; cases hz; exact hx1
    | 1, he, hz => cases he; cases hz; exact hx2
    | i + 2, he, _ => cases he
  · match i, hv with
    | 0, hv => cases hv; exact ⟨_, rfl, a0, ha0, rfl⟩
    | 1, hv => cases hv; exact ⟨_, rfl, x1, rfl, rfl⟩
    | 2, hv => cases hv; exact ⟨_, rfl, x2, rfl, rfl⟩
    | i + 3, hv => cases hv
  · exact absurd hq List.not_mem_nil
theorem lu_622 (hk : kOK TTs g (EIm n) l Kx_622) {W0 : List aR} {bk0 bk : aB} {h0 h : jH} (hO : hOK TTs g (EIm n) W0 bk0 h0 bk h) {a1 : Nat} (ha1 : bk 1 = some a1) {x1 : Int32} (hx1 : (-2147483648 : Int) ≤ x1.toInt ∧ x1.toInt ≤ 2147483647) {x2 : Int32} (hx2 : (-2147483648 : Int) ≤ x2.toInt ∧ x2.toInt ≤ 2147483647) :
    jCal l g 301 4 [.ref (g.2.2 + (a1 + 0)), .int x1, .int x2] h 0 0 (kPost TTs g (EIm n) Kx_622 bk h [x1.toInt, x2.toInt]) := by
  refine hk bk h [.ref (g.2.2 + (a1 + 0)), .int x1, .int x2] [x1.toInt, x2.toInt] hO.1 hO.2.1 hO.2.2.1 hO.2.2.2.2.2 (show 3 ≤ jmx 301 by decide +kernel) rfl (fun q hq => ?_) ⟨⟨rfl, fun i e z he hz => ?_⟩, eFm_plain (plain_app (spEnv_plain _) clEnv_plain), fun F hF => absurd hF List.not_mem_nil, fun i v hv => ?_, trivial, fun q hq => ?_, fun B hB => absurd hB List.not_mem_nil⟩
  · have hq : q ∈ ([] : List (Nat × Int × Nat)) := hq
    exact absurd hq List.not_mem_nil
  · match i, he, hz with
    | 0, he, hz => cases he; cases hz; exact hx1
    | 1, he, hz => cases he; cases hz; exact hx2
    | i + 2, he, _ => cases he
  · match i, hv with
    | 0, hv => cases hv; exact ⟨_, rfl, a1, ha1, rfl⟩
    | 1, hv => cases hv; exact ⟨_, rfl, x1, rfl, rfl⟩
    | 2, hv => cases hv; exact ⟨_, rfl, x2, rfl, rfl⟩
    | 3, hv => cases hv
    | 4, hv => cases hv
    | 5, hv => cases hv
    | i + 6, hv => cases hv
  · exact absurd hq List.not_mem_nil
set_option maxRecDepth 16384 in
theorem cp_42 (hlow : ∀ (k : Nat) (K : aK), KTx[k]? = some K → kOK TTs g (EIm n) l K) {b0 b1 : Nat} {bk : aB} {h : jH} (hI : lwI g n b0 b1 bk h) {z1 z2 : Int32} : cpS l g n b0 b1 h 170 301 [.int z1, .int z2] 0 0 false (k6 bk) := cp_of (d1 := 6) (by decide) (lu_469 (hlow 469 _ rfl) (hI.ok []) hI.2.2.2.1 ⟨i32_lo _, i32_hi _⟩ ⟨i32_lo _, i32_hi _⟩) (fun v h1 hq => lwP hI hq (by decide +kernel) (by decide +kernel) (by decide +kernel) (by decide +kernel) (Int.le_refl n)) (fun bk1 h1 hI1 => ⟨4, _, by decide, lu_622 (hlow 622 _ rfl) (hI1.ok []) hI1.2.2.2.2.1 ⟨i32_lo _, i32_hi _⟩ ⟨i32_lo _, i32_hi _⟩, fun v h2 hq => lwP hI1 hq (by decide +kernel) (by decide +kernel) (by decide +kernel) (by decide +kernel) (show n ≤ n + 40 by omega)⟩)
theorem lu_477 (hk : kOK TTs g (EIm n) l Kx_477) {W0 : List aR} {bk0 bk : aB} {h0 h : jH} (hO : hOK TTs g (EIm n) W0 bk0 h0 bk h) {a0 : Nat} (ha0 : bk 0 = some a0) {x1 : Int32} (hx1 : (-2147483648 : Int) ≤ x1.toInt ∧ x1.toInt ≤ 2147483647) {x2 : Int32} (hx2 : (-2147483648 : Int) ≤ x2.toInt ∧ x2.toInt ≤ 2147483647) {x3 : Int32} (hx3 : (-2147483648 : Int) ≤ x3.toInt ∧ x3.toInt ≤ 2147483647) :
    jCal l g 174 3 [.ref (g.2.2 + (a0 + 0)), .int x1, .int x2, .int x3] h 0 0 (kPost TTs g (EIm n) Kx_477 bk h [x1.toInt, x2.toInt, x3.toInt]) := by
  refine hk bk h [.ref (g.2.2 + (a0 + 0)), .int x1, .int x2, .int x3] [x1.toInt, x2.toInt, x3.toInt] hO.1 hO.2.1 hO.2.2.1 hO.2.2.2.2.2 (show 4 ≤ jmx 174 by decide +kernel) rfl (fun q hq => ?_) ⟨⟨rfl, fun i e z he hz => ?_⟩, eFm_plain (plain_app (spEnv_plain _) clEnv_plain), fun F hF => absurd hF List.not_mem_nil, fun i v hv => ?_, trivial, fun q hq => ?_, fun B hB => absurd hB List.not_mem_nil⟩
  · have hq : q ∈ ([] : List (Nat × Int × Nat)) := hq
    exact absurd hq List.not_mem_nil
  · match i, he, hz with
    | 0, he, hz => cases he; cases hz; exact hx1
    | 1, he, hz => cases he; cases hz; exact hx2
    | 2, he, hz => cases he; cases hz; exact hx3
    | i + 3, he, _ => cases he
  · match i, hv with
    | 0, hv => cases hv; exact ⟨_, rfl, a0, ha0, rfl⟩
    | 1, hv => cases hv; exact ⟨_, rfl, x1, rfl, rfl⟩
    | 2, hv => cases hv; exact ⟨_, rfl, x2, rfl, rfl⟩
    | 3, hv => cases hv; exact ⟨_, rfl, x3, rfl, rfl⟩
    | i + 4, hv => cases hv
  · exact absurd hq List.not_mem_nil
theorem lu_635 (hk : kOK TTs g (EIm n) l Kx_635) {W0 : List aR} {bk0 bk : aB} {h0 h : jH} (hO : hOK TTs g (EIm n) W0 bk0 h0 bk h) {a1 : Nat} (ha1 : bk 1 = some a1) {x1 : Int32} (hx1 : (-2147483648 : Int) ≤ x1.toInt ∧ x1.toInt ≤ 2147483647) {x2 : Int32} (hx2 : (-2147483648 : Int) ≤ x2.toInt ∧ x2.toInt ≤ 2147483647) {x3 : Int32} (hx3 : (-2147483648 : Int) ≤ x3.toInt ∧ x3.toInt ≤ 2147483647) :
    jCal l g 303 3 [.ref (g.2.2 + (a1 + 0)), .int x1, .int x2, .int x3] h 0 0 (kPost TTs g (EIm n) Kx_635 bk h [x1.toInt, x2.toInt, x3.toInt]) := by
  refine hk bk h [.ref (g.2.2 + (a1 + 0)), .int x1, .int x2, .int x3] [x1.toInt, x2.toInt, x3.toInt] hO.1 hO.2.1 hO.2.2.1 hO.2.2.2.2.2 (show 4 ≤ jmx 303 by decide +kernel) rfl (fun q hq => ?_) ⟨⟨rfl, fun i e z he hz => ?_⟩, eFm_plain (plain_app (spEnv_plain _) clEnv_plain), fun F hF => absurd hF List.not_mem_nil, fun i v hv => ?_, trivial, fun q hq => ?_, fun B hB => absurd hB List.not_mem_nil⟩
  · have hq : q ∈ ([] : List (Nat × Int × Nat)) := hq
    exact absurd hq List.not_mem_nil
  · match i, he, hz with
    | 0, he, hz => cases he; cases hz; exact hx1
    | 1, he, hz => cases he; cases hz; exact hx2
    | 2, he, hz => cases he; cases hz; exact hx3
    | i + 3, he, _ => cases he
  · match i, hv with
    | 0, hv => cases hv; exact ⟨_, rfl, a1, ha1, rfl⟩
    | 1, hv => cases hv; exact ⟨_, rfl, x1, rfl, rfl⟩
    | 2, hv => cases hv; exact ⟨_, rfl, x2, rfl, rfl⟩
    | 3, hv => cases hv; exact ⟨_, rfl, x3, rfl, rfl⟩
    | 4, hv => cases hv
    | 5, hv => cases hv
    | 6, hv => cases hv
    | i + 7, hv => cases hv
  · exact absurd hq List.not_mem_nil
set_option maxRecDepth 16384 in
theorem cp_43 (hlow : ∀ (k : Nat) (K : aK), KTx[k]? = some K → kOK TTs g (EIm n) l K) {b0 b1 : Nat} {bk : aB} {h : jH} (hI : lwI g n b0 b1 bk h) {z1 z2 z3 : Int32} : cpS l g n b0 b1 h 174 303 [.int z1, .int z2, .int z3] 0 0 false (k6 bk) := cp_of (d1 := 3) (by decide) (lu_477 (hlow 477 _ rfl) (hI.ok []) hI.2.2.2.1 ⟨i32_lo _, i32_hi _⟩ ⟨i32_lo _, i32_hi _⟩ ⟨i32_lo _, i32_hi _⟩) (fun v h1 hq => lwP hI hq (by decide +kernel) (by decide +kernel) (by decide +kernel) (by decide +kernel) (Int.le_refl n)) (fun bk1 h1 hI1 => ⟨3, _, by decide, lu_635 (hlow 635 _ rfl) (hI1.ok []) hI1.2.2.2.2.1 ⟨i32_lo _, i32_hi _⟩ ⟨i32_lo _, i32_hi _⟩ ⟨i32_lo _, i32_hi _⟩, fun v h2 hq => lwP hI1 hq (by decide +kernel) (by decide +kernel) (by decide +kernel) (by decide +kernel) (show n ≤ n + 40 by omega)⟩)
theorem lu_455 (hk : kOK TTs g (EIm n) l Kx_455) {W0 : List aR} {bk0 bk : aB} {h0 h : jH} (hO : hOK TTs g (EIm n) W0 bk0 h0 bk h) {a0 : Nat} (ha0 : bk 0 = some a0) {x1 : Int32} (hx1 : (-2147483648 : Int) ≤ x1.toInt ∧ x1.toInt ≤ 2147483647) {x2 : Int32} (hx2 : (-2147483648 : Int) ≤ x2.toInt ∧ x2.toInt ≤ 2147483647) {x3 : Int32} (hx3 : (-2147483648 : Int) ≤ x3.toInt ∧ x3.toInt ≤ 2147483647) :
    jCal l g 187 3 [.ref (g.2.2 + (a0 + 0)), .int x1, .int x2, .int x3] h 0 0 (kPost TTs g (EIm n) Kx_455 bk h [x1.toInt, x2.toInt, x3.toInt]) := by
  refine hk bk h [.ref (g.2.2 + (a0 + 0)), .int x1, .int x2, .int x3] [x1.toInt, x2.toInt, x3.toInt] hO.1 hO.2.1 hO.2.2.1 hO.2.2.2.2.2 (show 4 ≤ jmx 187 by decide +kernel) rfl (fun q hq => ?_) ⟨⟨rfl, fun i e z he hz => ?_⟩, eFm_plain (plain_app (spEnv_plain _) clEnv_plain), fun F hF => absurd hF List.not_mem_nil, fun i v hv => ?_, trivial, fun q hq => ?_, fun B hB => absurd hB List.not_mem_nil⟩
  · have hq : q ∈ ([] : List (Nat × Int × Nat)) := hq
    exact absurd hq List.not_mem_nil
  · match i, he, hz with
    | 0, he, hz => cases he; cases hz; exact hx1
    | 1, he, hz => cases he; cases hz; exact hx2
    | 2, he, hz => cases he; cases hz; exact hx3
    | i + 3, he, _ => cases he
  · match i, hv with
    | 0, hv => cases hv; exact ⟨_, rfl, a0, ha0, rfl⟩
    | 1, hv => cases hv; exact ⟨_, rfl, x1, rfl, rfl⟩
    | 2, hv => cases hv; exact ⟨_, rfl, x2, rfl, rfl⟩
    | 3, hv => cases hv; exact ⟨_, rfl, x3, rfl, rfl⟩
    | i + 4, hv => cases hv
  · exact absurd hq List.not_mem_nil
theorem lu_528 (hk : kOK TTs g (EIm n) l Kx_528) {W0 : List aR} {bk0 bk : aB} {h0 h : jH} (hO : hOK TTs g (EIm n) W0 bk0 h0 bk h) {a1 : Nat} (ha1 : bk 1 = some a1) {x1 : Int32} (hx1 : (-2147483648 : Int) ≤ x1.toInt ∧ x1.toInt ≤ 2147483647) {x2 : Int32} (hx2 : (-2147483648 : Int) ≤ x2.toInt ∧ x2.toInt ≤ 2147483647) {x3 : Int32} (hx3 : (-2147483648 : Int) ≤ x3.toInt ∧ x3.toInt ≤ 2147483647) :
    jCal l g 311 3 [.ref (g.2.2 + (a1 + 0)), .int x1, .int x2, .int x3] h 0 0 (kPost TTs g (EIm n) Kx_528 bk h [x1.toInt, x2.toInt, x3.toInt]) := by
  refine hk bk h [.ref (g.2.2 + (a1 + 0)), .int x1, .int x2, .int x3] [x1.toInt, x2.toInt, x3.toInt] hO.1 hO.2.1 hO.2.2.1 hO.2.2.2.2.2 (show 4 ≤ jmx 311 by decide +kernel) rfl (fun q hq => ?_) ⟨⟨rfl, fun i e z he hz => ?_⟩, eFm_plain (plain_app (spEnv_plain _) clEnv_plain), fun F hF => absurd hF List.not_mem_nil, fun i v hv => ?_, trivial, fun q hq => ?_, fun B hB => absurd hB List.not_mem_nil⟩
  · have hq : q ∈ ([] : List (Nat × Int × Nat)) := hq
    exact absurd hq List.not_mem_nil
  · match i, he, hz with
    | 0, he, hz => cases he; cases hz; exact hx1
    | 1, he, hz => cases he; cases hz; exact hx2
    | 2, he, hz => cases he; cases hz; exact hx3
    | i + 3, he, _ => cases he
  · match i, hv with
    | 0, hv => cases hv; exact ⟨_, rfl, a1, ha1, rfl⟩
    | 1, hv => cases hv; exact ⟨_, rfl, x1, rfl, rfl⟩
    | 2, hv => cases hv; exact ⟨_, rfl, x2, rfl, rfl⟩
    | 3, hv => cases hv; exact ⟨_, rfl, x3, rfl, rfl⟩
    | 4, hv => cases hv
    | 5, hv => cases hv
    | 6, hv => cases hv
    | i + 7, hv => cases hv
  · exact absurd hq List.not_mem_nil
set_option maxRecDepth 16384 in
theorem cp_49 (hlow : ∀ (k : Nat) (K : aK), KTx[k]? = some K → kOK TTs g (EIm n) l K) {b0 b1 : Nat} {bk : aB} {h : jH} (hI : lwI g n b0 b1 bk h) {z1 z2 z3 : Int32} : cpS l g n b0 b1 h 187 311 [.int z1, .int z2, .int z3] 0 0 false (k6 bk) := cp_of (d1 := 3) (by decide) (lu_455 (hlow 455 _ rfl) (hI.ok []) hI.2.2.2.1 ⟨i32_lo _, i32_hi _⟩ ⟨i32_lo _, i32_hi _⟩ ⟨i32_lo _, i32_hi _⟩) (fun v h1 hq => lwP hI hq (by decide +kernel) (by decide +kernel) (by decide +kernel) (by decide +kernel) (Int.le_refl n)) (fun bk1 h1 hI1 => ⟨3, _, by decide, lu_528 (hlow 528 _ rfl) (hI1.ok []) hI1.2.2.2.2.1 ⟨i32_lo _, i32_hi _⟩ ⟨i32_lo _, i32_hi _⟩ ⟨i32_lo _, i32_hi _⟩, fun v h2 hq => lwP hI1 hq (by decide +kernel) (by decide +kernel) (by decide +kernel) (by decide +kernel) (show n ≤ n + 40 by omega)⟩)
theorem lu_435 (hk : kOK TTs g (EIm n) l Kx_435) {W0 : List aR} {bk0 bk : aB} {h0 h : jH} (hO : hOK TTs g (EIm n) W0 bk0 h0 bk h) {a0 : Nat} (ha0 : bk 0 = some a0) {x1 : Int32} (hx1 : (-2147483648 : Int) ≤ x1.toInt ∧ x1.toInt ≤ 2147483647) :
    jCal l g 189 3 [.ref (g.2.2 + (a0 + 0)), .int x1] h 0 0 (kPost TTs g (EIm n) Kx_435 bk h [x1.toInt]) := by
  refine hk bk h [.ref (g.2.2 + (a0 + 0)), .int x1] [x1.toInt] hO.1 hO.2.1 hO.2.2.1 hO.2.2.2.2.2 (show 2 ≤ jmx 189 by decide +kernel) rfl (fun q hq => ?_) ⟨⟨rfl, fun i e z he hz => ?_⟩, eFm_plain (plain_app (spEnv_plain _) clEnv_plain), fun F hF => absurd hF List.not_mem_nil, fun i v hv => ?_, trivial, fun q hq => ?_, fun B hB => absurd hB List.not_mem_nil⟩
  · have hq : q ∈ ([] : List (Nat × Int × Nat)) := hq
    exact absurd hq List.not_mem_nil
  · match i, he, hz with
    | 0, he, hz => cases he; cases hz; exact hx1
    | i + 1, he, _ => cases he
  · match i, hv with
    | 0, hv => cases hv; exact ⟨_, rfl, a0, ha0, rfl⟩
    | 1, hv => cases hv; exact ⟨_, rfl, x1, rfl, rfl⟩
    | i + 2, hv => cases hv
  · exact absurd hq List.not_mem_nil
theorem lu_507 (hk : kOK TTs g (EIm n) l Kx_507) {W0 : List aR} {bk0 bk : aB} {h0 h : jH} (hO : hOK TTs g (EIm n) W0 bk0 h0 bk h) {a1 : Nat} (ha1 : bk 1 = some a1) {x1 : Int32} (hx1 : (-2147483648 : Int) ≤ x1.toInt ∧ x1.toInt ≤ 2147483647) :
    jCal l g 312 2 [.ref (g.2.2 + (a1 + 0)), .int x1] h 0 0 (kPost TTs g (EIm n) Kx_507 bk h [x1.toInt]) := by
  refine hk bk h [.ref (g.2.2 + (a1 + 0)), .int x1] [x1.toInt] hO.1 hO.2.1 hO.2.2.1 hO.2.2.2.2.2 (show 2 ≤ jmx 312 by decide +kernel) rfl (fun q hq => ?_) ⟨⟨rfl, fun i e z he hz => ?_⟩, eFm_plain (plain_app (spEnv_plain _) clEnv_plain), fun F hF => absurd hF List.not_mem_nil, fun i v hv => ?_, trivial, fun q hq => ?_, fun B hB => absurd hB List.not_mem_nil⟩
  · have hq : q ∈ ([] : List (Nat × Int × Nat)) := hq
    exact absurd hq List.not_mem_nil
  · match i, he, hz with
    | 0, he, hz => cases he; cases hz; exact hx1
    | i + 1, he, _ => cases he
  · match i, hv with
    | 0, hv => cases hv; exact ⟨_, rfl, a1, ha1, rfl⟩
    | 1, hv => cases hv; exact ⟨_, rfl, x1, rfl, rfl⟩
    | 2, hv => cases hv
    | 3, hv => cases hv
    | 4, hv => cases hv
    | 5, hv => cases hv
    | i + 6, hv => cases hv
  · exact absurd hq List.not_mem_nil
set_option maxRecDepth 16384 in
theorem cp_50 (hlow : ∀ (k : Nat) (K : aK), KTx[k]? = some K → kOK TTs g (EIm n) l K) {b0 b1 : Nat} {bk : aB} {h : jH} (hI : lwI g n b0 b1 bk h) {z1 : Int32} : cpS l g n b0 b1 h 189 312 [.int z1] 0 0 false (k6 bk) := cp_of (d1 := 3) (by decide) (lu_435 (hlow 435 _ rfl) (hI.ok []) hI.2.2.2.1 ⟨i32_lo _, i32_hi _⟩) (fun v h1 hq => lwP hI hq (by decide +kernel) (by decide +kernel) (by decide +kernel) (by decide +kernel) (Int.le_refl n)) (fun bk1 h1 hI1 => ⟨2, _, by decide, lu_507 (hlow 507 _ rfl) (hI1.ok []) hI1.2.2.2.2.1 ⟨i32_lo _, i32_hi _⟩, fun v h2 hq => lwP hI1 hq (by decide +kernel) (by decide +kernel) (by decide +kernel) (by decide +kernel) (show n ≤ n + 40 by omega)⟩)
theorem lu_456 (hk : kOK TTs g (EIm n) l Kx_456) {W0 : List aR} {bk0 bk : aB} {h0 h : jH} (hO : hOK TTs g (EIm n) W0 bk0 h0 bk h) {a0 : Nat} (ha0 : bk 0 = some a0) {x1 : Int32} (hx1 : (-2147483648 : Int) ≤ x1.toInt ∧ x1.toInt ≤ 2147483647) :
    jCal l g 201 2 [.ref (g.2.2 + (a0 + 0)), .int x1] h 0 0 (kPost TTs g (EIm n) Kx_456 bk h [x1.toInt]) := by
  refine hk bk h [.ref (g.2.2 + (a0 + 0)), .int x1] [x1.toInt] hO.1 hO.2.1 hO.2.2.1 hO.2.2.2.2.2 (show 2 ≤ jmx 201 by decide +kernel) rfl (fun q hq => ?_) ⟨⟨rfl, fun i e z he hz => ?_⟩, eFm_plain (plain_app (spEnv_plain _) clEnv_plain), fun F hF => absurd hF List.not_mem_nil, fun i v hv => ?_, trivial, fun q hq => ?_, fun B hB => absurd hB List.not_mem_nil⟩
  · have hq : q ∈ ([] : List (Nat × Int × Nat)) := hq
    exact absurd hq List.not_mem_nil
  · match i, he, hz with
    | 0, he, hz => cases he; cases hz; exact hx1
    | i + 1, he, _ => cases he
  · match i, hv with
    | 0, hv => cases hv; exact ⟨_, rfl, a0, ha0, rfl⟩
    | 1, hv => cases hv; exact ⟨_, rfl, x1, rfl, rfl⟩
    | i + 2, hv => cases hv
  · exact absurd hq List.not_mem_nil
theorem lu_530 (hk : kOK TTs g (EIm n) l Kx_530) {W0 : List aR} {bk0 bk : aB} {h0 h : jH} (hO : hOK TTs g (EIm n) W0 bk0 h0 bk h) {a1 : Nat} (ha1 : bk 1 = some a1) {x1 : Int32} (hx1 : (-2147483648 : Int) ≤ x1.toInt ∧ x1.toInt ≤ 2147483647) :
    jCal l g 313 2 [.ref (g.2.2 + (a1 + 0)), .int x1] h 0 0 (kPost TTs g (EIm n) Kx_530 bk h [x1.toInt]) := by
  refine hk bk h [.ref (g.2.2 + (a1 + 0)), .int x1] [x1.toInt] hO.1 hO.2.1 hO.2.2.1 hO.2.2.2.2.2 (show 2 ≤ jmx 313 by decide +kernel) rfl (fun q hq => ?_) ⟨⟨rfl, fun i e z he hz => ?_⟩, eFm_plain (plain_app (spEnv_plain _) clEnv_plain), fun F hF => absurd hF List.not_mem_nil, fun i v hv => ?_, trivial, fun q hq => ?_, fun B hB => absurd hB List.not_mem_nil⟩
  · have hq : q ∈ ([] : List (Nat × Int × Nat)) := hq
    exact absurd hq List.not_mem_nil
  · match i, he, hz with
    | 0, he, hz => cases he; cases hz; exact hx1
    | i + 1, he, _ => cases he
  · match i, hv with
    | 0, hv => cases hv; exact ⟨_, rfl, a1, ha1, rfl⟩
    | 1, hv => cases hv; exact ⟨_, rfl, x1, rfl, rfl⟩
    | i + 2, hv => cases hv
  · exact absurd hq List.not_mem_nil
set_option maxRecDepth 16384 in
theorem cp_53 (hlow : ∀ (k : Nat) (K : aK), KTx[k]? = some K → kOK TTs g (EIm n) l K) {b0 b1 : Nat} {bk : aB} {h : jH} (hI : lwI g n b0 b1 bk h) {z1 : Int32} : cpS l g n b0 b1 h 201 313 [.int z1] 0 0 false (k6 bk) := cp_of (d1 := 2) (by decide) (lu_456 (hlow 456 _ rfl) (hI.ok []) hI.2.2.2.1 ⟨i32_lo _, i32_hi _⟩) (fun v h1 hq => lwP hI hq (by decide +kernel) (by decide +kernel) (by decide +kernel) (by decide +kernel) (Int.le_refl n)) (fun bk1 h1 hI1 => ⟨2, _, by decide, lu_530 (hlow 530 _ rfl) (hI1.ok []) hI1.2.2.2.2.1 ⟨i32_lo _, i32_hi _⟩, fun v h2 hq => lwP hI1 hq (by decide +kernel) (by decide +kernel) (by decide +kernel) (by decide +kernel) (show n ≤ n + 40 by omega)⟩)
theorem lu_494 (hk : kOK TTs g (EIm n) l Kx_494) {W0 : List aR} {bk0 bk : aB} {h0 h : jH} (hO : hOK TTs g (EIm n) W0 bk0 h0 bk h) {a0 : Nat} (ha0 : bk 0 = some a0)  :
    jCal l g 202 1 [.ref (g.2.2 + (a0 + 0))] h 0 0 (kPost TTs g (EIm n) Kx_494 bk h []) := by
  refine hk bk h [.ref (g.2.2 + (a0 + 0))] [] hO.1 hO.2.1 hO.2.2.1 hO.2.2.2.2.2 (show 1 ≤ jmx 202 by decide +kernel) rfl (fun q hq => ?_) ⟨⟨rfl, fun i e z he hz => ?_⟩, eFm_plain (plain_app (spEnv_plain _) clEnv_plain), fun F hF => absurd hF List.not_mem_nil, fun i v hv => ?_, trivial, fun q hq => ?_, fun B hB => absurd hB List.not_mem_nil⟩
  · have hq : q ∈ ([] : List (Nat × Int × Nat)) := hq
    exact absurd hq List.not_mem_nil
  · match i, he, hz with
    | i + 0, he, _ => cases he
  · match i, hv with
    | 0, hv => cases hv; exact ⟨_, rfl, a0, ha0, rfl⟩
    | i + 1, hv => cases hv
  · exact absurd hq List.not_mem_nil
theorem lu_655 (hk : kOK TTs g (EIm n) l Kx_655) {W0 : List aR} {bk0 bk : aB} {h0 h : jH} (hO : hOK TTs g (EIm n) W0 bk0 h0 bk h) {a1 : Nat} (ha1 : bk 1 = some a1)  :
    jCal l g 314 1 [.ref (g.2.2 + (a1 + 0))] h 0 0 (kPost TTs g (EIm n) Kx_655 bk h []) := by
  refine hk bk h [.ref (g.2.2 + (a1 + 0))] [] hO.1 hO.2.1 hO.2.2.1 hO.2.2.2.2.2 (show 1 ≤ jmx 314 by decide +kernel) rfl (fun q hq => ?_) ⟨⟨rfl, fun i e z he hz => ?_⟩, eFm_plain (plain_app (spEnv_plain _) clEnv_plain), fun F hF => absurd hF List.not_mem_nil, fun i v hv => ?_, trivial, fun q hq => ?_, fun B hB => absurd hB List.not_mem_nil⟩
  · have hq : q ∈ ([] : List (Nat × Int × Nat)) := hq
    exact absurd hq List.not_mem_nil
  · match i, he, hz with
    | i + 0, he, _ => cases he
  · match i, hv with
    | 0, hv => cases hv; exact ⟨_, rfl, a1, ha1, rfl⟩
    | i + 1, hv => cases hv
  · exact absurd hq List.not_mem_nil
set_option maxRecDepth 16384 in
theorem cp_54 (hlow : ∀ (k : Nat) (K : aK), KTx[k]? = some K → kOK TTs g (EIm n) l K) {b0 b1 : Nat} {bk : aB} {h : jH} (hI : lwI g n b0 b1 bk h) : cpS l g n b0 b1 h 202 314 [] 0 0 false (k6 bk) := cp_of (d1 := 1) (by decide) (lu_494 (hlow 494 _ rfl) (hI.ok []) hI.2.2.2.1) (fun v h1 hq => lwP hI hq (by decide +kernel) (by decide +kernel) (by decide +kernel) (by decide +kernel) (Int.le_refl n)) (fun bk1 h1 hI1 => ⟨1, _, by decide, lu_655 (hlow 655 _ rfl) (hI1.ok []) hI1.2.2.2.2.1, fun v h2 hq => lwP hI1 hq (by decide +kernel) (by decide +kernel) (by decide +kernel) (by decide +kernel) (show n ≤ n + 40 by omega)⟩)
theorem lu_462 (hk : kOK TTs g (EIm n) l Kx_462) {W0 : List aR} {bk0 bk : aB} {h0 h : jH} (hO : hOK TTs g (EIm n) W0 bk0 h0 bk h) {a0 : Nat} (ha0 : bk 0 = some a0) {x1 : Int32} (hx1 : (-2147483648 : Int) ≤ x1.toInt ∧ x1.toInt ≤ 2147483647) {x2 : Int32} (hx2 : (-2147483648 : Int) ≤ x2.toInt ∧ x2.toInt ≤ 2147483647) {x3 : Int32} (hx3 : (-2147483648 : Int) ≤ x3.toInt ∧ x3.toInt ≤ 2147483647) :
    jCal l g 20 6 [.ref (g.2.2 + (a0 + 0)), .int x1, .int x2, .int x3] h 0 0 (kPost TTs g (EIm n) Kx_462 bk h [x1.toInt, x2.toInt, x3.toInt]) := by
  refine hk bk h [.ref (g.2.2 + (a0 + 0)), .int x1, .int x2, .int x3] [x1.toInt, x2.toInt, x3.toInt] hO.1 hO.2.1 hO.2.2.1 hO.2.2.2.2.2 (show 4 ≤ jmx 20 by decide +kernel) rfl (fun q hq => ?_) ⟨⟨rfl, fun i e z he hz => ?_⟩, eFm_plain (plain_app (spEnv_plain _) clEnv_plain), fun F hF => absurd hF List.not_mem_nil, fun i v hv => ?_, trivial, fun q hq => ?_, fun B hB => absurd hB List.not_mem_nil⟩
  · have hq : q ∈ ([] : List (Nat × Int × Nat)) := hq
    exact absurd hq List.not_mem_nil
  · match i, he, hz with
    | 0, he, hz => cases he; cases hz; exact hx1
    | 1, he, hz => cases he; cases hz; exact hx2
    | 2, he, hz => cases he; cases hz; exact hx3
    | i + 3, he, _ => cases he
  · match i, hv with
    | 0, hv => cases hv; exact ⟨_, rfl, a0, ha0, rfl⟩
    | 1, hv => cases hv; exact ⟨_, rfl, x1, rfl, rfl⟩
    | 2, hv => cases hv; exact ⟨_, rfl, x2, rfl, rfl⟩
    | 3, hv => cases hv; exact ⟨_, rfl, x3, rfl, rfl⟩
    | i + 4, hv => cases hv
  · exact absurd hq List.not_mem_nil
theorem lu_610 (hk : kOK TTs g (EIm n) l Kx_610) {W0 : List aR} {bk0 bk : aB} {h0 h : jH} (hO : hOK TTs g (EIm n) W0 bk0 h0 bk h) {a1 : Nat} (ha1 : bk 1 = some a1) {x1 : Int32} (hx1 : (-2147483648 : Int) ≤ x1.toInt ∧ x1.toInt ≤ 2147483647) {x2 : Int32} (hx2 : (-2147483648 : Int) ≤ x2.toInt ∧ x2.toInt ≤ 2147483647) {x3 : Int32} (hx3 : (-2147483648 : Int) ≤ x3.toInt ∧ x3.toInt ≤ 2147483647) {c0 : Int32} (hc0 : (0 : Int) ≤ c0.toInt ∧ c0.toInt ≤ 1073741792) {fc0 : Nat → Int32} (ec0 : h[a1 + 1]? = some (.inl (0, 5270, fc0))) (pc0 : fc0 1 = c0) {c1 : Int32} (hc1 : (0 : Int) ≤ c1.toInt ∧ c1.toInt ≤ 1073741823) {fc1 : Nat → Int32} (ec1 : h[a1 + 1]? = some (.inl (0, 5270, fc1))) (pc1 : fc1 5066 = c1) :
    jCal l g 237 6 [.ref (g.2.2 + (a1 + 0)), .int x1, .int x2, .int x3] h 0 0 (kPost TTs g (EIm n) Kx_610 bk h [x1.toInt, x2.toInt, x3.toInt, c0.toInt, c1.toInt]) := by
  refine hk bk h [.ref (g.2.2 + (a1 + 0)), .int x1, .int x2, .int x3] [x1.toInt, x2.toInt, x3.toInt, c0.toInt, c1.toInt] hO.1 hO.2.1 hO.2.2.1 hO.2.2.2.2.2 (show 4 ≤ jmx 237 by decide +kernel) rfl (fun q hq => ?_) ⟨⟨rfl, fun i e z he hz => ?_⟩, eFm_plain (plain_app (spEnv_plain _) clEnv_plain), fun F hF => absurd hF List.not_mem_nil, fun i v hv => ?_, trivial, fun q hq => ?_, fun B hB => absurd hB List.not_mem_nil⟩
  · have hq : q ∈ ([] : List (Nat × Int × Nat)) := hq
    exact absurd hq List.not_mem_nil
  · match i, he, hz with
    | 0, he, hz => cases he; cases hz; exact hx1
    | 1, he, hz => cases he; cases hz; exact hx2
    | 2, he, hz => cases he; cases hz; exact hx3
    | 3, he, hz => cases he; cases hz; exact hc0
    | 4, he, hz => cases he; cases hz; exact hc1
    | i + 5, he, _ => cases he
  · match i, hv with
    | 0, hv => cases hv; exact ⟨_, rfl, a1, ha1, rfl⟩
    | 1, hv => cases hv; exact ⟨_, rfl, x1, rfl, rfl⟩
    | 2, hv => cases hv; exact ⟨_, rfl, x2, rfl, rfl⟩
    | 3, hv => cases hv; exact ⟨_, rfl, x3, rfl, rfl⟩
    | 4, hv => cases hv
    | 5, hv => cases hv
    | 6, hv => cases hv
    | i + 7, hv => cases hv
  · have hq2 : q ∈ [(1, 1, fcon ((1 : Nat) : Int), 3), (1, 1, fcon ((5066 : Nat) : Int), 4)] := hq
    simp only [List.mem_cons, List.not_mem_nil, or_false] at hq2
    rcases hq2 with rfl | rfl
    · exact ⟨((1 : Nat) : Int), a1, _, c0.toInt, fcon_ok, ha1, ec0, ⟨by decide, congrArg Int32.toInt pc0⟩, rfl⟩
    · exact ⟨((5066 : Nat) : Int), a1, _, c1.toInt, fcon_ok, ha1, ec1, ⟨by decide, congrArg Int32.toInt pc1⟩, rfl⟩
set_option maxRecDepth 16384 in
theorem cp_2 (hlow : ∀ (k : Nat) (K : aK), KTx[k]? = some K → kOK TTs g (EIm n) l K) {b0 b1 : Nat} {bk : aB} {h : jH} (hI : lwI g n b0 b1 bk h) (hn : n ≤ 30000) {z1 z2 z3 : Int32} : cpS l g n b0 b1 h 20 237 [.int z1, .int z2, .int z3] 0 0 false (k6 bk) := by
  refine cp_of (d1 := 6) (by decide) (lu_462 (hlow 462 _ rfl) (hI.ok []) hI.2.2.2.1 ⟨i32_lo _, i32_hi _⟩ ⟨i32_lo _, i32_hi _⟩ ⟨i32_lo _, i32_hi _⟩) (fun v h1 hq => lwP hI hq (by decide +kernel) (by decide +kernel) (by decide +kernel) (by decide +kernel) (Int.le_refl n)) (fun bk1 h1 hI1 => ?_)
  obtain ⟨fr, er, ⟨r1, r2⟩, r3, r4⟩ := hI1.row
  exact ⟨6, _, by decide, lu_610 (c0 := fr 1) (c1 := fr 5066) (hlow 610 _ rfl) (hI1.ok []) hI1.2.2.2.2.1 ⟨i32_lo _, i32_hi _⟩ ⟨i32_lo _, i32_hi _⟩ ⟨i32_lo _, i32_hi _⟩ ⟨r1, by omega⟩ er rfl ⟨r3, by omega⟩ er rfl, fun v h2 hq => lwP2 (r := 3) hI1 hq rfl rfl rfl rfl rfl r2 r4 (by decide) (by decide) (by decide +kernel) (by decide +kernel)⟩
theorem lu_471 (hk : kOK TTs g (EIm n) l Kx_471) {W0 : List aR} {bk0 bk : aB} {h0 h : jH} (hO : hOK TTs g (EIm n) W0 bk0 h0 bk h) {a0 : Nat} (ha0 : bk 0 = some a0) {x1 : Int32} (hx1 : (-2147483648 : Int) ≤ x1.toInt ∧ x1.toInt ≤ 2147483647) {x2 : Int32} (hx2 : (-2147483648 : Int) ≤ x2.toInt ∧ x2.toInt ≤ 2147483647) {x3 : Int32} (hx3 : (-2147483648 : Int) ≤ x3.toInt ∧ x3.toInt ≤ 2147483647) :
    jCal l g 33 4 [.ref (g.2.2 + (a0 + 0)), .int x1, .int x2, .int x3] h 0 0 (kPost TTs g (EIm n) Kx_471 bk h [x1.toInt, x2.toInt, x3.toInt]) := by
  refine hk bk h [.ref (g.2.2 + (a0 + 0)), .int x1, .int x2, .int x3] [x1.toInt, x2.toInt, x3.toInt] hO.1 hO.2.1 hO.2.2.1 hO.2.2.2.2.2 (show 4 ≤ jmx 33 by decide +kernel) rfl (fun q hq => ?_) ⟨⟨rfl, fun i e z he hz => ?_⟩, eFm_plain (plain_app (spEnv_plain _) clEnv_plain), fun F hF => absurd hF List.not_mem_nil, fun i v hv => ?_, trivial, fun q hq => ?_, fun B hB => absurd hB List.not_mem_nil⟩
  · have hq : q ∈ ([] : List (Nat × Int × Nat)) := hq
    exact absurd hq List.not_mem_nil
  · match i, he, hz with
    | 0, he, hz => cases he; cases hz; exact hx1
    | 1, he, hz => cases he; cases hz; exact hx2
    | 2, he, hz => cases he; cases hz; exact hx3
    | i + 3, he, _ => cases he
  · match i, hv with
    | 0, hv => cases hv; exact ⟨_, rfl, a0, ha0, rfl⟩
    | 1, hv => cases hv; exact ⟨_, rfl, x1, rfl, rfl⟩
    | 2, hv => cases hv; exact ⟨_, rfl, x2, rfl, rfl⟩
    | 3, hv => cases hv; exact ⟨_, rfl, x3, rfl, rfl⟩
    | i + 4, hv => cases hv
  · exact absurd hq List.not_mem_nil
theorem lu_625 (hk : kOK TTs g (EIm n) l Kx_625) {W0 : List aR} {bk0 bk : aB} {h0 h : jH} (hO : hOK TTs g (EIm n) W0 bk0 h0 bk h) {a1 : Nat} (ha1 : bk 1 = some a1) {x1 : Int32} (hx1 : (-2147483648 : Int) ≤ x1.toInt ∧ x1.toInt ≤ 2147483647) {x2 : Int32} (hx2 : (-2147483648 : Int) ≤ x2.toInt ∧ x2.toInt ≤ 2147483647) {x3 : Int32} (hx3 : (-2147483648 : Int) ≤ x3.toInt ∧ x3.toInt ≤ 2147483647) {c0 : Int32} (hc0 : (0 : Int) ≤ c0.toInt ∧ c0.toInt ≤ 1073741822) {fc0 : Nat → Int32} (ec0 : h[a1 + 1]? = some (.inl (0, 5270, fc0))) (pc0 : fc0 1 = c0) :
    jCal l g 248 5 [.ref (g.2.2 + (a1 + 0)), .int x1, .int x2, .int x3] h 0 0 (kPost TTs g (EIm n) Kx_625 bk h [x1.toInt, x2.toInt, x3.toInt, c0.toInt]) := by
  refine hk bk h [.ref (g.2.2 + (a1 + 0)), .int x1, .int x2, .int x3] [x1.toInt, x2.toInt, x3.toInt, c0.toInt] hO.1 hO.2.1 hO.2.2.1 hO.2.2.2.2.2 (show 4 ≤ jmx 248 by decide +kernel) rfl (fun q hq => ?_) ⟨⟨rfl, fun i e z he hz => ?_⟩, eFm_plain (plain_app (spEnv_plain _) clEnv_plain), fun F hF => absurd hF List.not_mem_nil, fun i v hv => ?_, trivial, fun q hq => ?_, fun B hB => absurd hB List.not_mem_nil⟩
  · have hq : q ∈ ([] : List (Nat × Int × Nat)) := hq
    exact absurd hq List.not_mem_nil
  · match i, he, hz with
    | 0, he, hz => cases he; cases hz; exact hx1
    | 1, he, hz => cases he; cases hz; exact hx2
    | 2, he, hz => cases he; cases hz; exact hx3
    | 3, he, hz => cases he; cases hz; exact hc0
    | i + 4, he, _ => cases he
  · match i, hv with
    | 0, hv => cases hv; exact ⟨_, rfl, a1, ha1, rfl⟩
    | 1, hv => cases hv; exact ⟨_, rfl, x1, rfl, rfl⟩
    | 2, hv => cases hv; exact ⟨_, rfl, x2, rfl, rfl⟩
    | 3, hv => cases hv; exact ⟨_, rfl, x3, rfl, rfl⟩
    | i + 4, hv => cases hv
  · have hq2 : q = (1, 1, fcon ((1 : Nat) : Int), 3) := List.mem_singleton.mp hq
    subst hq2
    exact ⟨((1 : Nat) : Int), a1, _, c0.toInt, fcon_ok, ha1, ec0, ⟨by decide, congrArg Int32.toInt pc0⟩, rfl⟩
set_option maxRecDepth 16384 in
theorem cp_3 (hlow : ∀ (k : Nat) (K : aK), KTx[k]? = some K → kOK TTs g (EIm n) l K) {b0 b1 : Nat} {bk : aB} {h : jH} (hI : lwI g n b0 b1 bk h) (hn : n ≤ 30000) {z1 z2 z3 : Int32} : cpS l g n b0 b1 h 33 248 [.int z1, .int z2, .int z3] 0 0 false (k6 bk) := by
  refine cp_of (d1 := 4) (by decide) (lu_471 (hlow 471 _ rfl) (hI.ok []) hI.2.2.2.1 ⟨i32_lo _, i32_hi _⟩ ⟨i32_lo _, i32_hi _⟩ ⟨i32_lo _, i32_hi _⟩) (fun v h1 hq => lwP hI hq (by decide +kernel) (by decide +kernel) (by decide +kernel) (by decide +kernel) (Int.le_refl n)) (fun bk1 h1 hI1 => ?_)
  obtain ⟨fr, er, ⟨r1, r2⟩, r3, r4⟩ := hI1.row
  exact ⟨5, _, by decide, lu_625 (c0 := fr 1) (hlow 625 _ rfl) (hI1.ok []) hI1.2.2.2.2.1 ⟨i32_lo _, i32_hi _⟩ ⟨i32_lo _, i32_hi _⟩ ⟨i32_lo _, i32_hi _⟩ ⟨r1, by omega⟩ er rfl, fun v h2 hq => lwP1 (r := 3) hI1 hq rfl rfl rfl rfl r2 (by decide) (by decide +kernel) (by decide +kernel) (by decide +kernel)⟩
theorem lu_446 (hk : kOK TTs g (EIm n) l Kx_446) {W0 : List aR} {bk0 bk : aB} {h0 h : jH} (hO : hOK TTs g (EIm n) W0 bk0 h0 bk h) {a0 : Nat} (ha0 : bk 0 = some a0) {x1 : Int32} (hx1 : (-2147483648 : Int) ≤ x1.toInt ∧ x1.toInt ≤ 2147483647) {x2 : Int32} (hx2 : (-2147483648 : Int) ≤ x2.toInt ∧ x2.toInt ≤ 2147483647) :
    jCal l g 36 3 [.ref (g.2.2 + (a0 + 0)), .int x1, .int x2] h 0 0 (kPost TTs g (EIm n) Kx_446 bk h [x1.toInt, x2.toInt]) := by
  refine hk bk h [.ref (g.2.2 + (a0 + 0)), .int x1, .int x2] [x1.toInt, x2.toInt] hO.1 hO.2.1 hO.2.2.1 hO.2.2.2.2.2 (show 3 ≤ jmx 36 by decide +kernel) rfl (fun q hq => ?_) ⟨⟨rfl, fun i e z he hz => ?_⟩, eFm_plain (plain_app (spEnv_plain _) clEnv_plain), fun F hF => absurd hF List.not_mem_nil, fun i v hv => ?_, trivial, fun q hq => ?_, fun B hB => absurd hB List.not_mem_nil⟩
  · have hq : q ∈ ([] : List (Nat × Int × Nat)) := hq
    exact absurd hq List.not_mem_nil
  · match i, he, hz with
    | 0, he, hz => cases he; cases hz; exact hx1
    | 1, he, hz => cases he; cases hz; exact hx2
    | i + 2, he, _ => cases he
  · match i, hv with
    | 0, hv => cases hv; exact ⟨_, rfl, a0, ha0, rfl⟩
    | 1, hv => cases hv; exact ⟨_, rfl, x1, rfl, rfl⟩
    | 2, hv => cases hv; exact ⟨_, rfl, x2, rfl, rfl⟩
    | 3, hv => cases hv
    | i + 4, hv => cases hv
  · exact absurd hq List.not_mem_nil
theorem lu_519 (hk : kOK TTs g (EIm n) l Kx_519) {W0 : List aR} {bk0 bk : aB} {h0 h : jH} (hO : hOK TTs g (EIm n) W0 bk0 h0 bk h) {a1 : Nat} (ha1 : bk 1 = some a1) {x1 : Int32} (hx1 : (-2147483648 : Int) ≤ x1.toInt ∧ x1.toInt ≤ 2147483647) {x2 : Int32} (hx2 : (-2147483648 : Int) ≤ x2.toInt ∧ x2.toInt ≤ 2147483647) {c0 : Int32} (hc0 : (0 : Int) ≤ c0.toInt ∧ c0.toInt ≤ 1073741823) {fc0 : Nat → Int32} (ec0 : h[a1 + 1]? = some (.inl (0, 5270, fc0))) (pc0 : fc0 1 = c0) :
    jCal l g 251 3 [.ref (g.2.2 + (a1 + 0)), .int x1, .int x2] h 0 0 (kPost TTs g (EIm n) Kx_519 bk h [x1.toInt, x2.toInt, c0.toInt]) := by
  refine hk bk h [.ref (g.2.2 + (a1 + 0)), .int x1, .int x2] [x1.toInt, x2.toInt, c0.toInt] hO.1 hO.2.1 hO.2.2.1 hO.2.2.2.2.2 (show 3 ≤ jmx 251 by decide +kernel) rfl (fun q hq => ?_) ⟨⟨rfl, fun i e z he hz => ?_⟩, eFm_plain (plain_app (spEnv_plain _) clEnv_plain), fun F hF => absurd hF List.not_mem_nil, fun i v hv => ?_, trivial, fun q hq => ?_, fun B hB => absurd hB List.not_mem_nil⟩
  · have hq : q ∈ ([] : List (Nat × Int × Nat)) := hq
    exact absurd hq List.not_mem_nil
  · match i, he, hz with
    | 0, he, hz => cases he; cases hz; exact hx1
    | 1, he, hz => cases he; cases hz; exact hx2
    | 2, he, hz => cases he; cases hz; exact hc0
    | i + 3, he, _ => cases he
  · match i, hv with
    | 0, hv => cases hv; exact ⟨_, rfl, a1, ha1, rfl⟩
    | 1, hv => cases hv; exact ⟨_, rfl, x1, rfl, rfl⟩
    | 2, hv => cases hv; exact ⟨_, rfl, x2, rfl, rfl⟩
    | 3, hv => cases hv
    | i + 4, hv => cases hv
  · have hq2 : q = (1, 1, fcon ((1 : Nat) : Int), 2) := List.mem_singleton.mp hq
    subst hq2
    exact ⟨((1 : Nat) : Int), a1, _, c0.toInt, fcon_ok, ha1, ec0, ⟨by decide, congrArg Int32.toInt pc0⟩, rfl⟩
set_option maxRecDepth 16384 in
theorem cp_4 (hlow : ∀ (k : Nat) (K : aK), KTx[k]? = some K → kOK TTs g (EIm n) l K) {b0 b1 : Nat} {bk : aB} {h : jH} (hI : lwI g n b0 b1 bk h) (hn : n ≤ 30000) {z1 z2 : Int32} : cpS l g n b0 b1 h 36 251 [.int z1, .int z2] 0 0 false (k6 bk) := by
  refine cp_of (d1 := 3) (by decide) (lu_446 (hlow 446 _ rfl) (hI.ok []) hI.2.2.2.1 ⟨i32_lo _, i32_hi _⟩ ⟨i32_lo _, i32_hi _⟩) (fun v h1 hq => lwP hI hq (by decide +kernel) (by decide +kernel) (by decide +kernel) (by decide +kernel) (Int.le_refl n)) (fun bk1 h1 hI1 => ?_)
  obtain ⟨fr, er, ⟨r1, r2⟩, r3, r4⟩ := hI1.row
  exact ⟨3, _, by decide, lu_519 (c0 := fr 1) (hlow 519 _ rfl) (hI1.ok []) hI1.2.2.2.2.1 ⟨i32_lo _, i32_hi _⟩ ⟨i32_lo _, i32_hi _⟩ ⟨r1, by omega⟩ er rfl, fun v h2 hq => lwP1 (r := 2) hI1 hq rfl rfl rfl rfl r2 (by decide) (by decide +kernel) (by decide +kernel) (by decide +kernel)⟩
theorem lu_491 (hk : kOK TTs g (EIm n) l Kx_491) {W0 : List aR} {bk0 bk : aB} {h0 h : jH} (hO : hOK TTs g (EIm n) W0 bk0 h0 bk h) {a0 : Nat} (ha0 : bk 0 = some a0) {x1 : Int32} (hx1 : (-2147483648 : Int) ≤ x1.toInt ∧ x1.toInt ≤ 2147483647) {x2 : Int32} (hx2 : (-2147483648 : Int) ≤ x2.toInt ∧ x2.toInt ≤ 2147483647) {x3 : Int32} (hx3 : (-2147483648 : Int) ≤ x3.toInt ∧ x3.toInt ≤ 2147483647) {x4 : Int32} (hx4 : (-2147483648 : Int) ≤ x4.toInt ∧ x4.toInt ≤ 2147483647) :
    jCal l g 37 3 [.ref (g.2.2 + (a0 + 0)), .int x1, .int x2, .int x3, .int x4] h 0 0 (kPost TTs g (EIm n) Kx_491 bk h [x1.toInt, x2.toInt, x3.toInt, x4.toInt]) := by
  refine hk bk h [.ref (g.2.2 + (a0 + 0)), .int x1, .int x2, .int x3, .int x4] [x1.toInt, x2.toInt, x3.toInt, x4.toInt] hO.1 hO.2.1 hO.2.2.1 hO.2.2.2.2.2 (show 5 ≤ jmx 37 by decide +kernel) rfl (fun q hq => ?_) ⟨⟨rfl, fun i e z he hz => ?_⟩, eFm_plain (plain_app (spEnv_plain _) clEnv_plain), fun F hF => absurd hF List.not_mem_nil, fun i v hv => ?_, trivial, fun q hq => ?_, fun B hB => absurd hB List.not_mem_nil⟩
  · have hq : q ∈ ([] : List (Nat × Int × Nat)) := hq
    exact absurd hq List.not_mem_nil
  · match i, he, hz with
    | 0, he, hz => cases he; cases hz; exact hx1
    | 1, he, hz => cases he; cases hz; exact hx2
    | 2, he, hz => cases he; cases hz; exact hx3
    | 3, he, hz => cases he; cases hz; exact hx4
    | i + 4, he, _ => cases he
  · match i, hv with
    | 0, hv => cases hv; exact ⟨_, rfl, a0, ha0, rfl⟩
    | 1, hv => cases hv; exact ⟨_, rfl, x1, rfl, rfl⟩
    | 2, hv => cases hv; exact ⟨_, rfl, x2, rfl, rfl⟩
    | 3, hv => cases hv; exact ⟨_, rfl, x3, rfl, rfl⟩
    | 4, hv => cases hv; exact ⟨_, rfl, x4, rfl, rfl⟩
    | 5, hv => cases hv
    | i + 6, hv => cases hv
  · exact absurd hq List.not_mem_nil
theorem lu_652 (hk : kOK TTs g (EIm n) l Kx_652) {W0 : List aR} {bk0 bk : aB} {h0 h : jH} (hO : hOK TTs g (EIm n) W0 bk0 h0 bk h) {a1 : Nat} (ha1 : bk 1 = some a1) {x1 : Int32} (hx1 : (-2147483648 : Int) ≤ x1.toInt ∧ x1.toInt ≤ 2147483647) {x2 : Int32} (hx2 : (-2147483648 : Int) ≤ x2.toInt ∧ x2.toInt ≤ 2147483647) {x3 : Int32} (hx3 : (-2147483648 : Int) ≤ x3.toInt ∧ x3.toInt ≤ 2147483647) {x4 : Int32} (hx4 : (-2147483648 : Int) ≤ x4.toInt ∧ x4.toInt ≤ 2147483647) {c0 : Int32} (hc0 : (0 : Int) ≤ c0.toInt ∧ c0.toInt ≤ 1073741823) {fc0 : Nat → Int32} (ec0 : h[a1 + 1]? = some (.inl (0, 5270, fc0))) (pc0 : fc0 1 = c0) :
    jCal l g 252 4 [.ref (g.2.2 + (a1 + 0)), .int x1, .int x2, .int x3, .int x4] h 0 0 (kPost TTs g (EIm n) Kx_652 bk h [x1.toInt, x2.toInt, x3.toInt, x4.toInt, c0.toInt]) := by
  refine hk bk h [.ref (g.2.2 + (a1 + 0)), .int x1, .int x2, .int x3, .int x4] [x1.toInt, x2.toInt, x3.toInt, x4.toInt, c0.toInt] hO.1 hO.2.1 hO.2.2.1 hO.2.2.2.2.2 (show 5 ≤ jmx 252 by decide +kernel) rfl (fun q hq => ?_) ⟨⟨rfl, fun i e z he hz => ?_⟩, eFm_plain (plain_app (spEnv_plain _) clEnv_plain), fun F hF => absurd hF List.not_mem_nil, fun i v hv => ?_, trivial, fun q hq => ?_, fun B hB => absurd hB List.not_mem_nil⟩
  · have hq : q ∈ ([] : List (Nat × Int × Nat)) := hq
    exact absurd hq List.not_mem_nil
  · match i, he, hz with
    | 0, he, hz => cases he; cases hz; exact hx1
    | 1, he, hz => cases he; cases hz; exact hx2
    | 2, he, hz => cases he; cases hz; exact hx3
    | 3, he, hz => cases he; cases hz; exact hx4
    | 4, he, hz => cases he; cases hz; exact hc0
    | i + 5, he, _ => cases he
  · match i, hv with
    | 0, hv => cases hv; exact ⟨_, rfl, a1, ha1, rfl⟩
    | 1, hv => cases hv; exact ⟨_, rfl, x1, rfl, rfl⟩
    | 2, hv => cases hv; exact ⟨_, rfl, x2, rfl, rfl⟩
    | 3, hv => cases hv; exact ⟨_, rfl, x3, rfl, rfl⟩
    | 4, hv => cases hv; exact ⟨_, rfl, x4, rfl, rfl⟩
    | i + 5, hv => cases hv
  · have hq2 : q = (1, 1, fcon ((1 : Nat) : Int), 4) := List.mem_singleton.mp hq
    subst hq2
    exact ⟨((1 : Nat) : Int), a1, _, c0.toInt, fcon_ok, ha1, ec0, ⟨by decide, congrArg Int32.toInt pc0⟩, rfl⟩
set_option maxRecDepth 16384 in
theorem cp_5 (hlow : ∀ (k : Nat) (K : aK), KTx[k]? = some K → kOK TTs g (EIm n) l K) {b0 b1 : Nat} {bk : aB} {h : jH} (hI : lwI g n b0 b1 bk h) (hn : n ≤ 30000) {z1 z2 z3 z4 : Int32} : cpS l g n b0 b1 h 37 252 [.int z1, .int z2, .int z3, .int z4] 0 0 false (k6 bk) := by
  refine cp_of (d1 := 3) (by decide) (lu_491 (hlow 491 _ rfl) (hI.ok []) hI.2.2.2.1 ⟨i32_lo _, i32_hi _⟩ ⟨i32_lo _, i32_hi _⟩ ⟨i32_lo _, i32_hi _⟩ ⟨i32_lo _, i32_hi _⟩) (fun v h1 hq => lwP hI hq (by decide +kernel) (by decide +kernel) (by decide +kernel) (by decide +kernel) (Int.le_refl n)) (fun bk1 h1 hI1 => ?_)
  obtain ⟨fr, er, ⟨r1, r2⟩, r3, r4⟩ := hI1.row
  exact ⟨4, _, by decide, lu_652 (c0 := fr 1) (hlow 652 _ rfl) (hI1.ok []) hI1.2.2.2.2.1 ⟨i32_lo _, i32_hi _⟩ ⟨i32_lo _, i32_hi _⟩ ⟨i32_lo _, i32_hi _⟩ ⟨i32_lo _, i32_hi _⟩ ⟨r1, by omega⟩ er rfl, fun v h2 hq => lwP1 (r := 4) hI1 hq rfl rfl rfl rfl r2 (by decide) (by decide +kernel) (by decide +kernel) (by decide +kernel)⟩
theorem lu_472 (hk : kOK TTs g (EIm n) l Kx_472) {W0 : List aR} {bk0 bk : aB} {h0 h : jH} (hO : hOK TTs g (EIm n) W0 bk0 h0 bk h) {a0 : Nat} (ha0 : bk 0 = some a0) {x1 : Int32} (hx1 : (-2147483648 : Int) ≤ x1.toInt ∧ x1.toInt ≤ 2147483647) {x2 : Int32} (hx2 : (-2147483648 : Int) ≤ x2.toInt ∧ x2.toInt ≤ 2147483647) {x3 : Int32} (hx3 : (-2147483648 : Int) ≤ x3.toInt ∧ x3.toInt ≤ 2147483647) :
    jCal l g 38 3 [.ref (g.2.2 + (a0 + 0)), .int x1, .int x2, .int x3] h 0 0 (kPost TTs g (EIm n) Kx_472 bk h [x1.toInt, x2.toInt, x3.toInt]) := by
  refine hk bk h [.ref (g.2.2 + (a0 + 0)), .int x1, .int x2, .int x3] [x1.toInt, x2.toInt, x3.toInt] hO.1 hO.2.1 hO.2.2.1 hO.2.2.2.2.2 (show 4 ≤ jmx 38 by decide +kernel) rfl (fun q hq => ?_) ⟨⟨rfl, fun i e z he hz => ?_⟩, eFm_plain (plain_app (spEnv_plain _) clEnv_plain), fun F hF => absurd hF List.not_mem_nil, fun i v hv => ?_, trivial, fun q hq => ?_, fun B hB => absurd hB List.not_mem_nil⟩
  · have hq : q ∈ ([] : List (Nat × Int × Nat)) := hq
    exact absurd hq List.not_mem_nil
  · match i, he, hz with
    | 0, he, hz => cases he; cases hz; exact hx1
    | 1, he, hz => cases he; cases hz; exact hx2
    | 2, he, hz => cases he; cases hz; exact hx3
    | i + 3, he, _ => cases he
  · match i, hv with
    | 0, hv => cases hv; exact ⟨_, rfl, a0, ha0, rfl⟩
    | 1, hv => cases hv; exact ⟨_, rfl, x1, rfl, rfl⟩
    | 2, hv => cases hv; exact ⟨_, rfl, x2, rfl, rfl⟩
    | 3, hv => cases hv; exact ⟨_, rfl, x3, rfl, rfl⟩
    | 4, hv => cases hv
    | 5, hv => cases hv
    | i + 6, hv => cases hv
  · exact absurd hq List.not_mem_nil
theorem lu_627 (hk : kOK TTs g (EIm n) l Kx_627) {W0 : List aR} {bk0 bk : aB} {h0 h : jH} (hO : hOK TTs g (EIm n) W0 bk0 h0 bk h) {a1 : Nat} (ha1 : bk 1 = some a1) {x1 : Int32} (hx1 : (-2147483648 : Int) ≤ x1.toInt ∧ x1.toInt ≤ 2147483647) {x2 : Int32} (hx2 : (-2147483648 : Int) ≤ x2.toInt ∧ x2.toInt ≤ 2147483647) {x3 : Int32} (hx3 : (-2147483648 : Int) ≤ x3.toInt ∧ x3.toInt ≤ 2147483647) {c0 : Int32} (hc0 : (0 : Int) ≤ c0.toInt ∧ c0.toInt ≤ 1073741823) {fc0 : Nat → Int32} (ec0 : h[a1 + 1]? = some (.inl (0, 5270, fc0))) (pc0 : fc0 1 = c0) :
    jCal l g 253 3 [.ref (g.2.2 + (a1 + 0)), .int x1, .int x2, .int x3] h 0 0 (kPost TTs g (EIm n) Kx_627 bk h [x1.toInt, x2.toInt, x3.toInt, c0.toInt]) := by
  refine hk bk h [.ref (g.2.2 + (a1 + 0)), .int x1, .int x2, .int x3] [x1.toInt, x2.toInt, x3.toInt, c0.toInt] hO.1 hO.2.1 hO.2.2.1 hO.2.2.2.2.2 (show 4 ≤ jmx 253 by decide +kernel) rfl (fun q hq => ?_) ⟨⟨rfl, fun i e z he hz => ?_⟩, eFm_plain (plain_app (spEnv_plain _) clEnv_plain), fun F hF => absurd hF List.not_mem_nil, fun i v hv => ?_, trivial, fun q hq => ?_, fun B hB => absurd hB List.not_mem_nil⟩
  · have hq : q ∈ ([] : List (Nat × Int × Nat)) := hq
    exact absurd hq List.not_mem_nil
  · match i, he, hz with
    | 0, he, hz => cases he; cases hz; exact hx1
    | 1, he, hz => cases he; cases hz; exact hx2
    | 2, he, hz => cases he; cases hz; exact hx3
    | 3, he, hz => cases he; cases hz; exact hc0
    | i + 4, he, _ => cases he
  · match i, hv with
    | 0, hv => cases hv; exact ⟨_, rfl, a1, ha1, rfl⟩
    | 1, hv => cases hv; exact ⟨_, rfl, x1, rfl, rfl⟩
    | 2, hv => cases hv; exact ⟨_, rfl, x2, rfl, rfl⟩
    | 3, hv => cases hv; exact ⟨_, rfl, x3, rfl, rfl⟩
    | 4, hv => cases hv
    | i + 5, hv => cases hv
  · have hq2 : q = (1, 1, fcon ((1 : Nat) : Int), 3) := List.mem_singleton.mp hq
    subst hq2
    exact ⟨((1 : Nat) : Int), a1, _, c0.toInt, fcon_ok, ha1, ec0, ⟨by decide, congrArg Int32.toInt pc0⟩, rfl⟩
set_option maxRecDepth 16384 in
theorem cp_6 (hlow : ∀ (k : Nat) (K : aK), KTx[k]? = some K → kOK TTs g (EIm n) l K) {b0 b1 : Nat} {bk : aB} {h : jH} (hI : lwI g n b0 b1 bk h) (hn : n ≤ 30000) {z1 z2 z3 : Int32} : cpS l g n b0 b1 h 38 253 [.int z1, .int z2, .int z3] 0 0 false (k6 bk) := by
  refine cp_of (d1 := 3) (by decide) (lu_472 (hlow 472 _ rfl) (hI.ok []) hI.2.2.2.1 ⟨i32_lo _, i32_hi _⟩ ⟨i32_lo _, i32_hi _⟩ ⟨i32_lo _, i32_hi _⟩) (fun v h1 hq => lwP hI hq (by decide +kernel) (by decide +kernel) (by decide +kernel) (by decide +kernel) (Int.le_refl n)) (fun bk1 h1 hI1 => ?_)
  obtain ⟨fr, er, ⟨r1, r2⟩, r3, r4⟩ := hI1.row
  exact ⟨3, _, by decide, lu_627 (c0 := fr 1) (hlow 627 _ rfl) (hI1.ok []) hI1.2.2.2.2.1 ⟨i32_lo _, i32_hi _⟩ ⟨i32_lo _, i32_hi _⟩ ⟨i32_lo _, i32_hi _⟩ ⟨r1, by omega⟩ er rfl, fun v h2 hq => lwP1 (r := 3) hI1 hq rfl rfl rfl rfl r2 (by decide) (by decide +kernel) (by decide +kernel) (by decide +kernel)⟩
theorem lu_503 (hk : kOK TTs g (EIm n) l Kx_503) {W0 : List aR} {bk0 bk : aB} {h0 h : jH} (hO : hOK TTs g (EIm n) W0 bk0 h0 bk h) {a0 : Nat} (ha0 : bk 0 = some a0) {x1 : Int32} (hx1 : (-2147483648 : Int) ≤ x1.toInt ∧ x1.toInt ≤ 2147483647) {x2 : Int32} (hx2 : (-2147483648 : Int) ≤ x2.toInt ∧ x2.toInt ≤ 2147483647) {x3 : Int32} (hx3 : (-2147483648 : Int) ≤ x3.toInt ∧ x3.toInt ≤ 2147483647) {x4 : Int32} (hx4 : (-2147483648 : Int) ≤ x4.toInt ∧ x4.toInt ≤ 2147483647) :
    jCal l g 182 4 [.ref (g.2.2 + (a0 + 0)), .int x1, .int x2, .int x3, .int x4] h 0 0 (kPost TTs g (EIm n) Kx_503 bk h [x1.toInt, x2.toInt, x3.toInt, x4.toInt]) := by
  refine hk bk h [.ref (g.2.2 + (a0 + 0)), .int x1, .int x2, .int x3, .int x4] [x1.toInt, x2.toInt, x3.toInt, x4.toInt] hO.1 hO.2.1 hO.2.2.1 hO.2.2.2.2.2 (show 5 ≤ jmx 182 by decide +kernel) rfl (fun q hq => ?_) ⟨⟨rfl, fun i e z he hz => ?_⟩, eFm_plain (plain_app (spEnv_plain _) clEnv_plain), fun F hF => absurd hF List.not_mem_nil, fun i v hv => ?_, trivial, fun q hq => ?_, fun B hB => absurd hB List.not_mem_nil⟩
  · have hq : q ∈ ([] : List (Nat × Int × Nat)) := hq
    exact absurd hq List.not_mem_nil
  · match i, he, hz with
    | 0, he, hz => cases he; cases hz; exact hx1
    | 1, he, hz => cases he; cases hz; exact hx2
    | 2, he, hz => cases he; cases hz; exact hx3
    | 3, he, hz => cases he; cases hz; exact hx4
    | i + 4, he, _ => cases he
  · match i, hv with
    | 0, hv => cases hv; exact ⟨_, rfl, a0, ha0, rfl⟩
    | 1, hv => cases hv; exact ⟨_, rfl, x1, rfl, rfl⟩
    | 2, hv => cases hv; exact ⟨_, rfl, x2, rfl, rfl⟩
    | 3, hv => cases hv; exact ⟨_, rfl, x3, rfl, rfl⟩
    | 4, hv => cases hv; exact ⟨_, rfl, x4, rfl, rfl⟩
    | 5, hv => cases hv
    | 6, hv => cases hv
    | i + 7, hv => cases hv
  · exact absurd hq List.not_mem_nil
theorem lu_664 (hk : kOK TTs g (EIm n) l Kx_664) {W0 : List aR} {bk0 bk : aB} {h0 h : jH} (hO : hOK TTs g (EIm n) W0 bk0 h0 bk h) {a1 : Nat} (ha1 : bk 1 = some a1) {x1 : Int32} (hx1 : (-2147483648 : Int) ≤ x1.toInt ∧ x1.toInt ≤ 2147483647) {x2 : Int32} (hx2 : (-2147483648 : Int) ≤ x2.toInt ∧ x2.toInt ≤ 2147483647) {x3 : Int32} (hx3 : (-2147483648 : Int) ≤ x3.toInt ∧ x3.toInt ≤ 2147483647) {x4 : Int32} (hx4 : (-2147483648 : Int) ≤ x4.toInt ∧ x4.toInt ≤ 2147483647) {c0 : Int32} (hc0 : (0 : Int) ≤ c0.toInt ∧ c0.toInt ≤ 1073741822) {fc0 : Nat → Int32} (ec0 : h[a1 + 1]? = some (.inl (0, 5270, fc0))) (pc0 : fc0 1 = c0) :
    jCal l g 308 5 [.ref (g.2.2 + (a1 + 0)), .int x1, .int x2, .int x3, .int x4] h 0 0 (kPost TTs g (EIm n) Kx_664 bk h [x1.toInt, x2.toInt, x3.toInt, x4.toInt, c0.toInt]) := by
  refine hk bk h [.ref (g.2.2 + (a1 + 0)), .int x1, .int x2, .int x3, .int x4] [x1.toInt, x2.toInt, x3.toInt, x4.toInt, c0.toInt] hO.1 hO.2.1 hO.2.2.1 hO.2.2.2.2.2 (show 5 ≤ jmx 308 by decide +kernel) rfl (fun q hq => ?_) ⟨⟨rfl, fun i e z he hz => ?_⟩, eFm_plain (plain_app (spEnv_plain _) clEnv_plain), fun F hF => absurd hF List.not_mem_nil, fun i v hv => ?_, trivial, fun q hq => ?_, fun B hB => absurd hB List.not_mem_nil⟩
  · have hq : q ∈ ([] : List (Nat × Int × Nat)) := hq
    exact absurd hq List.not_mem_nil
  · match i, he, hz with
    | 0, he, hz => cases he; cases hz; exact hx1
    | 1, he, hz => cases he; cases hz; exact hx2
    | 2, he, hz => cases he; cases hz; exact hx3
    | 3, he, hz => cases he; cases hz; exact hx4
    | 4, he, hz => cases he; cases hz; exact hc0
    | i + 5, he, _ => cases he
  · match i, hv with
    | 0, hv => cases hv; exact ⟨_, rfl, a1, ha1, rfl⟩
    | 1, hv => cases hv; exact ⟨_, rfl, x1, rfl, rfl⟩
    | 2, hv => cases hv; exact ⟨_, rfl, x2, rfl, rfl⟩
    | 3, hv => cases hv; exact ⟨_, rfl, x3, rfl, rfl⟩
    | 4, hv => cases hv; exact ⟨_, rfl, x4, rfl, rfl⟩
    | 5, hv => cases hv
    | 6, hv => cases hv
    | 7, hv => cases hv
    | 8, hv => cases hv
    | i + 9, hv => cases hv
  · have hq2 : q = (1, 1, fcon ((1 : Nat) : Int), 4) := List.mem_singleton.mp hq
    subst hq2
    exact ⟨((1 : Nat) : Int), a1, _, c0.toInt, fcon_ok, ha1, ec0, ⟨by decide, congrArg Int32.toInt pc0⟩, rfl⟩
set_option maxRecDepth 16384 in
theorem cp_46 (hlow : ∀ (k : Nat) (K : aK), KTx[k]? = some K → kOK TTs g (EIm n) l K) {b0 b1 : Nat} {bk : aB} {h : jH} (hI : lwI g n b0 b1 bk h) (hn : n ≤ 30000) {z1 z2 z3 z4 : Int32} : cpS l g n b0 b1 h 182 308 [.int z1, .int z2, .int z3, .int z4] 0 0 false (k6 bk) := by
  refine cp_of (d1 := 4) (by decide) (lu_503 (hlow 503 _ rfl) (hI.ok []) hI.2.2.2.1 ⟨i32_lo _, i32_hi _⟩ ⟨i32_lo _, i32_hi _⟩ ⟨i32_lo _, i32_hi _⟩ ⟨i32_lo _, i32_hi _⟩) (fun v h1 hq => lwP hI hq (by decide +kernel) (by decide +kernel) (by decide +kernel) (by decide +kernel) (Int.le_refl n)) (fun bk1 h1 hI1 => ?_)
  obtain ⟨fr, er, ⟨r1, r2⟩, r3, r4⟩ := hI1.row
  exact ⟨5, _, by decide, lu_664 (c0 := fr 1) (hlow 664 _ rfl) (hI1.ok []) hI1.2.2.2.2.1 ⟨i32_lo _, i32_hi _⟩ ⟨i32_lo _, i32_hi _⟩ ⟨i32_lo _, i32_hi _⟩ ⟨i32_lo _, i32_hi _⟩ ⟨r1, by omega⟩ er rfl, fun v h2 hq => lwP1 (r := 4) hI1 hq rfl rfl rfl rfl r2 (by decide) (by decide +kernel) (by decide +kernel) (by decide +kernel)⟩
theorem lu_468 (hk : kOK TTs g (EIm n) l Kx_468) {W0 : List aR} {bk0 bk : aB} {h0 h : jH} (hO : hOK TTs g (EIm n) W0 bk0 h0 bk h) {a0 : Nat} (ha0 : bk 0 = some a0) {x1 : Int32} (hx1 : (-2147483648 : Int) ≤ x1.toInt ∧ x1.toInt ≤ 2147483647) :
    jCal l g 184 4 [.ref (g.2.2 + (a0 + 0)), .int x1] h 0 0 (kPost TTs g (EIm n) Kx_468 bk h [x1.toInt]) := by
  refine hk bk h [.ref (g.2.2 + (a0 + 0)), .int x1] [x1.toInt] hO.1 hO.2.1 hO.2.2.1 hO.2.2.2.2.2 (show 2 ≤ jmx 184 by decide +kernel) rfl (fun q hq => ?_) ⟨⟨rfl, fun i e z he hz => ?_⟩, eFm_plain (plain_app (spEnv_plain _) clEnv_plain), fun F hF => absurd hF List.not_mem_nil, fun i v hv => ?_, trivial, fun q hq => ?_, fun B hB => absurd hB List.not_mem_nil⟩
  · have hq : q ∈ ([] : List (Nat × Int × Nat)) := hq
    exact absurd hq List.not_mem_nil
  · match i, he, hz with
    | 0, he, hz => cases he; cases hz; exact hx1
    | i + 1, he, _ => cases he
  · match i, hv with
    | 0, hv => cases hv; exact ⟨_, rfl, a0, ha0, rfl⟩
    | 1, hv => cases hv; exact ⟨_, rfl, x1, rfl, rfl⟩
    | i + 2, hv => cases hv
  · exact absurd hq List.not_mem_nil
theorem lu_620 (hk : kOK TTs g (EIm n) l Kx_620) {W0 : List aR} {bk0 bk : aB} {h0 h : jH} (hO : hOK TTs g (EIm n) W0 bk0 h0 bk h) {a1 : Nat} (ha1 : bk 1 = some a1) {x1 : Int32} (hx1 : (-2147483648 : Int) ≤ x1.toInt ∧ x1.toInt ≤ 2147483647) {c0 : Int32} (hc0 : (0 : Int) ≤ c0.toInt ∧ c0.toInt ≤ 1073741812) {fc0 : Nat → Int32} (ec0 : h[a1 + 1]? = some (.inl (0, 5270, fc0))) (pc0 : fc0 1 = c0) :
    jCal l g 310 3 [.ref (g.2.2 + (a1 + 0)), .int x1] h 0 0 (kPost TTs g (EIm n) Kx_620 bk h [x1.toInt, c0.toInt]) := by
  refine hk bk h [.ref (g.2.2 + (a1 + 0)), .int x1] [x1.toInt, c0.toInt] hO.1 hO.2.1 hO.2.2.1 hO.2.2.2.2.2 (show 2 ≤ jmx 310 by decide +kernel) rfl (fun q hq => ?_) ⟨⟨rfl, fun i e z he hz => ?_⟩, eFm_plain (plain_app (spEnv_plain _) clEnv_plain), fun F hF => absurd hF List.not_mem_nil, fun i v hv => ?_, trivial, fun q hq => ?_, fun B hB => absurd hB List.not_mem_nil⟩
  · have hq : q ∈ ([] : List (Nat × Int × Nat)) := hq
    exact absurd hq List.not_mem_nil
  · match i, he, hz with
    | 0, he, hz => cases he; cases hz; exact hx1
    | 1, he, hz => cases he; cases hz; exact hc0
    | i + 2, he, _ => cases he
  · match i, hv with
    | 0, hv => cases hv; exact ⟨_, rfl, a1, ha1, rfl⟩
    | 1, hv => cases hv; exact ⟨_, rfl, x1, rfl, rfl⟩
    | 2, hv => cases hv
    | 3, hv => cases hv
    | 4, hv => cases hv
    | 5, hv => cases hv
    | i + 6, hv => cases hv
  · have hq2 : q = (1, 1, fcon ((1 : Nat) : Int), 1) := List.mem_singleton.mp hq
    subst hq2
    exact ⟨((1 : Nat) : Int), a1, _, c0.toInt, fcon_ok, ha1, ec0, ⟨by decide, congrArg Int32.toInt pc0⟩, rfl⟩
set_option maxRecDepth 16384 in
theorem cp_48 (hlow : ∀ (k : Nat) (K : aK), KTx[k]? = some K → kOK TTs g (EIm n) l K) {b0 b1 : Nat} {bk : aB} {h : jH} (hI : lwI g n b0 b1 bk h) (hn : n ≤ 30000) {z1 : Int32} : cpS l g n b0 b1 h 184 310 [.int z1] 0 0 false (k6 bk) := by
  refine cp_of (d1 := 4) (by decide) (lu_468 (hlow 468 _ rfl) (hI.ok []) hI.2.2.2.1 ⟨i32_lo _, i32_hi _⟩) (fun v h1 hq => lwP hI hq (by decide +kernel) (by decide +kernel) (by decide +kernel) (by decide +kernel) (Int.le_refl n)) (fun bk1 h1 hI1 => ?_)
  obtain ⟨fr, er, ⟨r1, r2⟩, r3, r4⟩ := hI1.row
  exact ⟨3, _, by decide, lu_620 (c0 := fr 1) (hlow 620 _ rfl) (hI1.ok []) hI1.2.2.2.2.1 ⟨i32_lo _, i32_hi _⟩ ⟨r1, by omega⟩ er rfl, fun v h2 hq => lwP1 (r := 1) hI1 hq rfl rfl rfl rfl r2 (by decide) (by decide +kernel) (by decide +kernel) (by decide +kernel)⟩
theorem lu_487 (hk : kOK TTs g (EIm n) l Kx_487) {W0 : List aR} {bk0 bk : aB} {h0 h : jH} (hO : hOK TTs g (EIm n) W0 bk0 h0 bk h) {a0 : Nat} (ha0 : bk 0 = some a0)  :
    jCal l g 58 40 [.ref (g.2.2 + (a0 + 0))] h 0 0 (kPost TTs g (EIm n) Kx_487 bk h []) := by
  refine hk bk h [.ref (g.2.2 + (a0 + 0))] [] hO.1 hO.2.1 hO.2.2.1 hO.2.2.2.2.2 (show 1 ≤ jmx 58 by decide +kernel) rfl (fun q hq => ?_) ⟨⟨rfl, fun i e z he hz => ?_⟩, eFm_plain (plain_app (spEnv_plain _) clEnv_plain), fun F hF => absurd hF List.not_mem_nil, fun i v hv => ?_, trivial, fun q hq => ?_, fun B hB => absurd hB List.not_mem_nil⟩
  · have hq : q ∈ ([] : List (Nat × Int × Nat)) := hq
    exact absurd hq List.not_mem_nil
  · match i, he, hz with
    | i + 0, he, _ => cases he
  · match i, hv with
    | 0, hv => cases hv; exact ⟨_, rfl, a0, ha0, rfl⟩
    | 1, hv => cases hv
    | i + 2, hv => cases hv
  · exact absurd hq List.not_mem_nil
set_option maxRecDepth 16384 in
theorem cp_19 (hlow : ∀ (k : Nat) (K : aK), KTx[k]? = some K → kOK TTs g (EIm n) l K) {b0 b1 : Nat} {bk : aB} {h : jH} (hI : lwI g n b0 b1 bk h) : cpS l g n b0 b1 h 58 217 [] 0 0 false (k6 bk) := cp_of (d1 := 40) (by decide) (lu_487 (hlow 487 _ rfl) (hI.ok []) hI.2.2.2.1) (fun v h1 hq => lwP hI hq (by decide +kernel) (by decide +kernel) (by decide +kernel) (by decide +kernel) (Int.le_refl n)) (fun bk1 h1 hI1 => ⟨9, _, by decide, mrules_ok hlow hI1.1 hI1.2.1 hI1.2.2.1 hI1.b01 hI1.2.2.2.2.1, fun v h2 hq => lwP hI1 hq (by decide +kernel) (by decide +kernel) (by decide +kernel) (by decide +kernel) (show n ≤ n + 40 by omega)⟩)
set_option maxRecDepth 16384 in
theorem cp_21 (hlow : ∀ (k : Nat) (K : aK), KTx[k]? = some K → kOK TTs g (EIm n) l K) {b0 b1 : Nat} {bk : aB} {h : jH} (hI : lwI g n b0 b1 bk h) : cpS l g n b0 b1 h 94 262 [] 42 3498 false (k6 bk) := cp_of (d1 := 9) (by decide) (rnC_ok hlow hI.1 hI.2.1 hI.2.2.1 hI.b01 hI.2.2.2.1) (fun v h1 hq => lwP hI hq (by decide +kernel) (by decide +kernel) (by decide +kernel) (by decide +kernel) (Int.le_refl n)) (fun bk1 h1 hI1 => ⟨6, _, by decide, mrun_ok hlow hI1.1 hI1.2.1 hI1.2.2.1 hI1.b01 hI1.2.2.2.2.1, fun v h2 hq => lwP hI1 hq (by decide +kernel) (by decide +kernel) (by decide +kernel) (by decide +kernel) (show n ≤ n + 40 by omega)⟩)
end QA
