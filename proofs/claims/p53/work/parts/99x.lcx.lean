/-! the law's cases: mend, mended, image, back -/
section LX
variable {l : Launch} {g : jG} {n : Int}
/-- what a call whose answer is c leaves -/
def lwQc (g : jG) (n' : Int) (b0 b1 : Nat) (bk : aB) (c : Int) (v : Option Value) (h' : jH) : Prop := v = some (.int (Int32.ofInt c)) ∧ ∃ bk', lwI g n' b0 b1 bk' h' ∧ ∀ b, bk 6 = some b → bk' 6 = some b
theorem lwPc {K : aK} {b0 b1 : Nat} {bk : aB} {h h' : jH} {ev : List Int} {v : Option Value} {n' c : Int} (hI : lwI g n b0 b1 bk h) (hq : kPost TTs g (EIm n) K bk h ev v h') (h1 : apW K.2.2.2.2.2.2.2.1 [(1, 1, 1, 1)] = true) (h2 : apW K.2.2.2.2.2.2.2.1 [(1, 1, 5066, 5066)] = true) (ha : K.2.2.2.2.1 = [(0, c, c, 0, 0, [])]) (hc : -2147483648 ≤ c ∧ c ≤ 2147483647) (hn : n ≤ n') : lwQc g n' b0 b1 bk c v h' := by
  obtain ⟨bk', os, k1, -, q, hq1, hq2⟩ := hq
  rw [ha] at hq1
  have hq3 := List.mem_singleton.mp hq1
  subst hq3
  obtain ⟨x, hx, ⟨x1, x2⟩, -, -⟩ := hq2
  have x1 : c ≤ x.toInt := x1
  have x2 : x.toInt ≤ c := x2
  have e : x = Int32.ofInt c := (i32_eqv hc).mpr (by omega)
  subst e
  exact ⟨hx, bkF bk', hI.stepN k1 hn h1 h2, fun b hb => (bkF_ne (by decide)).trans (k1.2.2.2.2.1 6 b hb)⟩
def siTs : List aT := match tyAt TTs 0 37 with
  | some (.inr q) => q.2
  | _ => []
theorem ty_si : tyAt TTs 0 37 = some (.inr (6, siTs)) := rfl
theorem lu_644 (hk : kOK TTs g (EIm n) l Kx_644) {W0 : List aR} {bk0 bk : aB} {h0 h : jH} (hO : hOK TTs g (EIm n) W0 bk0 h0 bk h) {a1 : Nat} (ha1 : bk 1 = some a1) {x1 : Int32} (hx1 : (-2147483648 : Int) ≤ x1.toInt ∧ x1.toInt ≤ 2147483647) :
    jCal l g 283 5 [.ref (g.2.2 + (a1 + 0)), .int x1] h 0 0 (kPost TTs g (EIm n) Kx_644 bk h [x1.toInt]) := by
  refine hk bk h [.ref (g.2.2 + (a1 + 0)), .int x1] [x1.toInt] hO.1 hO.2.1 hO.2.2.1 hO.2.2.2.2.2 (show 2 ≤ jmx 283 by decide +kernel) rfl (fun q hq => ?_) ⟨⟨rfl, fun i e z he hz => ?_⟩, eFm_plain (plain_app (spEnv_plain _) clEnv_plain), fun F hF => absurd hF List.not_mem_nil, fun i v hv => ?_, trivial, fun q hq => ?_, fun B hB => absurd hB List.not_mem_nil⟩
  · have hq : q ∈ ([] : List (Nat × Int × Nat)) := hq
    exact absurd hq List.not_mem_nil
  · match i, he, hz with
    | 0, he, hz => cases he; cases hz; exact hx1
    | i + 1, he, _ => cases he
  · match i, hv with
    | 0, hv => cases hv; exact ⟨_, rfl, a1, ha1, rfl⟩
    | 1, hv => cases hv; exact ⟨_, rfl, x1, rfl, rfl⟩
    | i + 2, hv => cases hv
  · exact absurd hq List.not_mem_nil
theorem lu_645 (hk : kOK TTs g (EIm n) l Kx_645) {W0 : List aR} {bk0 bk : aB} {h0 h : jH} (hO : hOK TTs g (EIm n) W0 bk0 h0 bk h) {a1 : Nat} (ha1 : bk 1 = some a1) {x1 : Int32} (hx1 : (-2147483648 : Int) ≤ x1.toInt ∧ x1.toInt ≤ 2147483647) {x2 : Int32} (hx2 : (-2147483648 : Int) ≤ x2.toInt ∧ x2.toInt ≤ 2147483647) :
    jCal l g 291 5 [.ref (g.2.2 + (a1 + 0)), .int x1, .int x2] h 0 0 (kPost TTs g (EIm n) Kx_645 bk h [x1.toInt, x2.toInt]) := by
  refine hk bk h [.ref (g.2.2 + (a1 + 0)), .int x1, .int x2] [x1.toInt, x2.toInt] hO.1 hO.2.1 hO.2.2.1 hO.2.2.2.2.2 (show 3 ≤ jmx 291 by decide +kernel) rfl (fun q hq => ?_) ⟨⟨rfl, fun i e z he hz => ?_⟩, eFm_plain (plain_app (spEnv_plain _) clEnv_plain), fun F hF => absurd hF List.not_mem_nil, fun i v hv => ?_, trivial, fun q hq => ?_, fun B hB => absurd hB List.not_mem_nil⟩
  · have hq : q ∈ ([] : List (Nat × Int × Nat)) := hq
    exact absurd hq List.not_mem_nil
  · match i, he, hz with
    | 0, he, hz => cases he; cases hz; exact hx1
    | 1, he, hz => cases he; cases hz; exact hx2
    | i + 2, he, _ => cases he
  · match i, hv with
    | 0, hv => cases hv; exact ⟨_, rfl, a1, ha1, rfl⟩
    | 1, hv => cases hv; exact ⟨_, rfl, x1, rfl, rfl⟩
    | 2, hv => cases hv; exact ⟨_, rfl, x2, rfl, rfl⟩
    | 3, hv => cases hv
    | 4, hv => cases hv
    | 5, hv => cases hv
    | 6, hv => cases hv
    | 7, hv => cases hv
    | 8, hv => cases hv
    | i + 9, hv => cases hv
  · exact absurd hq List.not_mem_nil
set_option maxRecDepth 16384 in
theorem lc_33g (hlow : ∀ (k : Nat) (K : aK), KTx[k]? = some K → kOK TTs g (EIm n) l K) {b0 b1 : Nat} {bk : aB} {h : jH} (hI : lwI g n b0 b1 bk h) {i : Int32} (hi : 0 ≤ i.toInt ∧ i.toInt + 6 ≤ (jsN g : Int)) (hN : jsN g ≤ 3072) {kc ks mc ms : Nat} {Q : Option Value → jH → Prop} {P : Option Value → jH → Prop} (hx : jCal l g 134 10 [.ref (g.2.2 + (b0 + 0)), .int (jsX g (i + Int32.ofInt 1).toNatClampNeg)] h mc ms P)
    (hP : ∀ v h1, P v h1 → ∃ x : Int32, v = some (.int x) ∧ ∃ bk1, lwI g n b0 b1 bk1 h1 ∧ ∀ bk2 h2, lwI g (n + 40) b0 b1 bk2 h2 → (∀ b, bk1 6 = some b → bk2 6 = some b) → J l g 315 100 1983 (lwL g b0 b1 i) [] h2 kc ks Q) : J l g 315 100 1317 (lwL g b0 b1 i) [] h (mc + kc) (ms + ks) Q := by
  refine j_aload_n (k4 := 1) (by decide +kernel) rfl ?_
  refine j_aload_n (k4 := 0) (by decide +kernel) rfl ?_
  refine j_iload_n (k4 := 3) (by decide +kernel) rfl ?_
  refine j_iconst (n := 1) (by decide +kernel) ?_
  refine j_iadd (by decide +kernel) ?_
  refine j_sld (lw_at hi hN (by decide) (by decide)) (by decide +kernel) ?_
  obtain ⟨fsx, hcx⟩ := lw_x hI
  refine j_callV (own := 13) (i := 151) (y2 := 134) (d2 := 10) (mc := mc) (ms := ms) (kc := kc) (ks := ks) (a := b0 + 0) (As := [.int (jsX g (i + Int32.ofInt 1).toNatClampNeg)]) (st := []) (by decide +kernel) lw_cls (by decide +kernel) (by decide) (by decide +kernel) (by decide +kernel) (by decide +kernel) (by decide +kernel) (by decide +kernel) (show 1 = jnp 134 by decide +kernel) (by decide) (by decide) hcx (fun r hr => by cases hr; decide +kernel) hx (fun v h1 hq => ?_)
  obtain ⟨x1, rfl, bk1, hI1, kk⟩ := hP v h1 hq
  refine j_pop (by decide +kernel) rfl ?_
  refine j_aload_n (k4 := 2) (by decide +kernel) rfl ?_
  refine j_aload_n (k4 := 0) (by decide +kernel) rfl ?_
  refine j_iload_n (k4 := 3) (by decide +kernel) rfl ?_
  refine j_iconst (n := 1) (by decide +kernel) ?_
  refine j_iadd (by decide +kernel) ?_
  refine j_sld (lw_at hi hN (by decide) (by decide)) (by decide +kernel) ?_
  obtain ⟨fsm, hcm⟩ := lw_m hI1
  refine J.room (kc := 0 + kc) (ks := 0 + ks) (j_callV (own := 13) (i := 154) (y2 := 283) (d2 := 5) (mc := 0) (ms := 0) (kc := kc) (ks := ks) (a := b1 + 0) (As := [.int (jsX g (i + Int32.ofInt 1).toNatClampNeg)]) (st := []) (by decide +kernel) lw_cls (by decide +kernel) (by decide) (by decide +kernel) (by decide +kernel) (by decide +kernel) (by decide +kernel) (by decide +kernel) (show 1 = jnp 283 by decide +kernel) (by decide) (by decide) hcm (fun r hr => by cases hr; decide +kernel) (lu_644 (hlow 644 _ rfl) (hI1.ok []) hI1.2.2.2.2.1 ⟨i32_lo _, i32_hi _⟩) (fun v h2 hq => ?_)) (by omega) (by omega)
  obtain ⟨x2, rfl, bk2, hI2, h62⟩ := lwP hI1 hq (by decide +kernel) (by decide +kernel) (by decide +kernel) (show n ≤ n + 40 by omega)
  refine j_pop (by decide +kernel) rfl ?_
  refine j_goto (off := 646) (tgt := 1983) (by decide +kernel) (by decide) ?_
  exact kk bk2 h2 hI2 h62
set_option maxRecDepth 16384 in
theorem lc_34g (hlow : ∀ (k : Nat) (K : aK), KTx[k]? = some K → kOK TTs g (EIm n) l K) {b0 b1 : Nat} {bk : aB} {h : jH} (hI : lwI g n b0 b1 bk h) {i : Int32} (hi : 0 ≤ i.toInt ∧ i.toInt + 6 ≤ (jsN g : Int)) (hN : jsN g ≤ 3072) {kc ks mc ms : Nat} {Q : Option Value → jH → Prop} {P : Option Value → jH → Prop} (hx : jCal l g 152 10 [.ref (g.2.2 + (b0 + 0)), .int (jsX g (i + Int32.ofInt 1).toNatClampNeg), .int (jsX g (i + Int32.ofInt 2).toNatClampNeg)] h mc ms P)
    (hP : ∀ v h1, P v h1 → ∃ x : Int32, v = some (.int x) ∧ ∃ bk1, lwI g n b0 b1 bk1 h1 ∧ ∀ bk2 h2, lwI g (n + 40) b0 b1 bk2 h2 → (∀ b, bk1 6 = some b → bk2 6 = some b) → J l g 315 100 1983 (lwL g b0 b1 i) [] h2 kc ks Q) : J l g 315 100 1340 (lwL g b0 b1 i) [] h (mc + kc) (ms + ks) Q := by
  refine j_aload_n (k4 := 1) (by decide +kernel) rfl ?_
  refine j_aload_n (k4 := 0) (by decide +kernel) rfl ?_
  refine j_iload_n (k4 := 3) (by decide +kernel) rfl ?_
  refine j_iconst (n := 1) (by decide +kernel) ?_
  refine j_iadd (by decide +kernel) ?_
  refine j_sld (lw_at hi hN (by decide) (by decide)) (by decide +kernel) ?_
  refine j_aload_n (k4 := 0) (by decide +kernel) rfl ?_
  refine j_iload_n (k4 := 3) (by decide +kernel) rfl ?_
  refine j_iconst (n := 2) (by decide +kernel) ?_
  refine j_iadd (by decide +kernel) ?_
  refine j_sld (lw_at hi hN (by decide) (by decide)) (by decide +kernel) ?_
  obtain ⟨fsx, hcx⟩ := lw_x hI
  refine j_callV (own := 13) (i := 155) (y2 := 152) (d2 := 10) (mc := mc) (ms := ms) (kc := kc) (ks := ks) (a := b0 + 0) (As := [.int (jsX g (i + Int32.ofInt 1).toNatClampNeg), .int (jsX g (i + Int32.ofInt 2).toNatClampNeg)]) (st := []) (by decide +kernel) lw_cls (by decide +kernel) (by decide) (by decide +kernel) (by decide +kernel) (by decide +kernel) (by decide +kernel) (by decide +kernel) (show 2 = jnp 152 by decide +kernel) (by decide) (by decide) hcx (fun r hr => by cases hr; decide +kernel) hx (fun v h1 hq => ?_)
  obtain ⟨x1, rfl, bk1, hI1, kk⟩ := hP v h1 hq
  refine j_pop (by decide +kernel) rfl ?_
  refine j_aload_n (k4 := 2) (by decide +kernel) rfl ?_
  refine j_aload_n (k4 := 0) (by decide +kernel) rfl ?_
  refine j_iload_n (k4 := 3) (by decide +kernel) rfl ?_
  refine j_iconst (n := 1) (by decide +kernel) ?_
  refine j_iadd (by decide +kernel) ?_
  refine j_sld (lw_at hi hN (by decide) (by decide)) (by decide +kernel) ?_
  refine j_aload_n (k4 := 0) (by decide +kernel) rfl ?_
  refine j_iload_n (k4 := 3) (by decide +kernel) rfl ?_
  refine j_iconst (n := 2) (by decide +kernel) ?_
  refine j_iadd (by decide +kernel) ?_
  refine j_sld (lw_at hi hN (by decide) (by decide)) (by decide +kernel) ?_
  obtain ⟨fsm, hcm⟩ := lw_m hI1
  refine J.room (kc := 0 + kc) (ks := 0 + ks) (j_callV (own := 13) (i := 158) (y2 := 291) (d2 := 5) (mc := 0) (ms := 0) (kc := kc) (ks := ks) (a := b1 + 0) (As := [.int (jsX g (i + Int32.ofInt 1).toNatClampNeg), .int (jsX g (i + Int32.ofInt 2).toNatClampNeg)]) (st := []) (by decide +kernel) lw_cls (by decide +kernel) (by decide) (by decide +kernel) (by decide +kernel) (by decide +kernel) (by decide +kernel) (by decide +kernel) (show 2 = jnp 291 by decide +kernel) (by decide) (by decide) hcm (fun r hr => by cases hr; decide +kernel) (lu_645 (hlow 645 _ rfl) (hI1.ok []) hI1.2.2.2.2.1 ⟨i32_lo _, i32_hi _⟩ ⟨i32_lo _, i32_hi _⟩) (fun v h2 hq => ?_)) (by omega) (by omega)
  obtain ⟨x2, rfl, bk2, hI2, h62⟩ := lwP hI1 hq (by decide +kernel) (by decide +kernel) (by decide +kernel) (show n ≤ n + 40 by omega)
  refine j_pop (by decide +kernel) rfl ?_
  refine j_goto (off := 613) (tgt := 1983) (by decide +kernel) (by decide) ?_
  exact kk bk2 h2 hI2 h62
set_option maxRecDepth 16384 in
theorem lc_33 (hlow : ∀ (k : Nat) (K : aK), KTx[k]? = some K → kOK TTs g (EIm n) l K) {b0 b1 : Nat} {bk : aB} {h : jH} (hI : lwI g n b0 b1 bk h) {i : Int32} (hi : 0 ≤ i.toInt ∧ i.toInt + 6 ≤ (jsN g : Int)) (hN : jsN g ≤ 3072) {kc ks rc rs : Nat} {Q : Option Value → jH → Prop} (hr : bk 6 = none → 7 ≤ rc ∧ 20000 ≤ rs)
    (kk : ∀ bk' h' rc' rs', lwI g (n + 40) b0 b1 bk' h' → (bk' 6 = none → 7 ≤ rc' ∧ 20000 ≤ rs') → J l g 315 100 1983 (lwL g b0 b1 i) [] h' (kc + rc') (ks + rs') Q) : J l g 315 100 1317 (lwL g b0 b1 i) [] h (kc + rc) (ks + rs) Q := by
  cases h6 : bk 6 with
  | some b6 =>
    refine J.room (kc := 0 + (kc + rc)) (ks := 0 + (ks + rs)) (lc_33g hlow hI hi hN (md0_run hlow (hI.ok []) hI.2.2.2.1 h6) (fun v h1 hq => ?_)) (by omega) (by omega)
    obtain ⟨x1, rfl, bk1, hI1, h61⟩ := lwP hI hq (by decide +kernel) (by decide +kernel) (by decide +kernel) (Int.le_refl n)
    exact ⟨x1, rfl, bk1, hI1, fun bk2 h2 hI2 h62 => kk bk2 h2 rc rs hI2 (fun h => by rw [h62 b6 (h61 b6 h6)] at h; cases h)⟩
  | none =>
    have hbad : ∀ {P : Option Value → jH → Prop}, jCal l g 134 10 [.ref (g.2.2 + (b0 + 0)), .int (jsX g (i + Int32.ofInt 1).toNatClampNeg)] h 0 0 P → (∀ v h1, P v h1 → lwQ g n b0 b1 bk v h1) → J l g 315 100 1317 (lwL g b0 b1 i) [] h (kc + rc) (ks + rs) Q := fun hx hq => J.room (kc := 0 + (kc + rc)) (ks := 0 + (ks + rs)) (lc_33g hlow hI hi hN hx (fun v h1 p => by
      obtain ⟨x1, rfl, bk1, hI1, -⟩ := hq v h1 p
      exact ⟨x1, rfl, bk1, hI1, fun bk2 h2 hI2 _ => kk bk2 h2 rc rs hI2 (fun _ => hr h6)⟩)) (by omega) (by omega)
    by_cases a1 : (jsX g (i + Int32.ofInt 1).toNatClampNeg).toInt < 0
    · exact hbad (mdN_run hlow (hI.ok []) hI.2.2.2.1 ⟨i32_lo _, by omega⟩) (fun v h1 hq => lwP hI hq (by decide +kernel) (by decide +kernel) (by decide +kernel) (Int.le_refl n))
    by_cases a2 : 2 ≤ (jsX g (i + Int32.ofInt 1).toNatClampNeg).toInt
    · exact hbad (mdP_run hlow (hI.ok []) hI.2.2.2.1 ⟨a2, i32_hi _⟩) (fun v h1 hq => lwP hI hq (by decide +kernel) (by decide +kernel) (by decide +kernel) (Int.le_refl n))
    obtain ⟨r1, r2⟩ := hr h6
    refine J.room (kc := 7 + (kc + (rc - 7))) (ks := 20000 + (ks + (rs - 20000))) (lc_33g hlow hI hi hN (mdG_run hlow (hI.ok []) hI.2.2.2.1 ⟨by omega, by omega⟩) (fun v h1 hq => ?_)) (by omega) (by omega)
    obtain ⟨x1, rfl, bk1, hO1, b6, hb6⟩ := hq
    refine ⟨x1, rfl, bkF bk1, hI.stepN hO1 (Int.le_refl n) (by decide +kernel) (by decide +kernel), fun bk2 h2 hI2 h62 => kk bk2 h2 (rc - 7) (rs - 20000) hI2 (fun h => ?_)⟩
    rw [h62 b6 ((bkF_ne (by decide)).trans hb6)] at h
    cases h
set_option maxRecDepth 16384 in
theorem lc_34 (hlow : ∀ (k : Nat) (K : aK), KTx[k]? = some K → kOK TTs g (EIm n) l K) {b0 b1 : Nat} {bk : aB} {h : jH} (hI : lwI g n b0 b1 bk h) {i : Int32} (hi : 0 ≤ i.toInt ∧ i.toInt + 6 ≤ (jsN g : Int)) (hN : jsN g ≤ 3072) {kc ks rc rs : Nat} {Q : Option Value → jH → Prop} (hr : bk 6 = none → 7 ≤ rc ∧ 20000 ≤ rs)
    (kk : ∀ bk' h' rc' rs', lwI g (n + 40) b0 b1 bk' h' → (bk' 6 = none → 7 ≤ rc' ∧ 20000 ≤ rs') → J l g 315 100 1983 (lwL g b0 b1 i) [] h' (kc + rc') (ks + rs') Q) : J l g 315 100 1340 (lwL g b0 b1 i) [] h (kc + rc) (ks + rs) Q := by
  cases h6 : bk 6 with
  | some b6 =>
    refine J.room (kc := 0 + (kc + rc)) (ks := 0 + (ks + rs)) (lc_34g hlow hI hi hN (me0_run hlow (hI.ok []) hI.2.2.2.1 h6) (fun v h1 hq => ?_)) (by omega) (by omega)
    obtain ⟨x1, rfl, bk1, hI1, h61⟩ := lwP hI hq (by decide +kernel) (by decide +kernel) (by decide +kernel) (Int.le_refl n)
    exact ⟨x1, rfl, bk1, hI1, fun bk2 h2 hI2 h62 => kk bk2 h2 rc rs hI2 (fun h => by rw [h62 b6 (h61 b6 h6)] at h; cases h)⟩
  | none =>
    have hbad : ∀ {P : Option Value → jH → Prop}, jCal l g 152 10 [.ref (g.2.2 + (b0 + 0)), .int (jsX g (i + Int32.ofInt 1).toNatClampNeg), .int (jsX g (i + Int32.ofInt 2).toNatClampNeg)] h 0 0 P → (∀ v h1, P v h1 → lwQ g n b0 b1 bk v h1) → J l g 315 100 1340 (lwL g b0 b1 i) [] h (kc + rc) (ks + rs) Q := fun hx hq => J.room (kc := 0 + (kc + rc)) (ks := 0 + (ks + rs)) (lc_34g hlow hI hi hN hx (fun v h1 p => by
      obtain ⟨x1, rfl, bk1, hI1, -⟩ := hq v h1 p
      exact ⟨x1, rfl, bk1, hI1, fun bk2 h2 hI2 _ => kk bk2 h2 rc rs hI2 (fun _ => hr h6)⟩)) (by omega) (by omega)
    obtain ⟨cs, hcs, fs, rfl, -, hfs⟩ := hI.1 0 b0 37 _ hI.2.2.2.1 ty_si
    obtain ⟨v4, hv4, sn, rfl, sn1, sn2⟩ := hfs 4 (0, 0, 16, 0, 0) rfl
    have sn1 : (0 : Int) ≤ sn.toInt := sn1
    have sn2 : sn.toInt ≤ (16 : Int) := sn2
    by_cases a1 : (jsX g (i + Int32.ofInt 1).toNatClampNeg).toInt < 0
    · exact hbad (meN_run hlow (hI.ok []) hI.2.2.2.1 ⟨i32_lo _, by omega⟩ ⟨i32_lo _, i32_hi _⟩) (fun v h1 hq => lwP hI hq (by decide +kernel) (by decide +kernel) (by decide +kernel) (Int.le_refl n))
    by_cases a2 : sn.toInt ≤ (jsX g (i + Int32.ofInt 1).toNatClampNeg).toInt
    · refine hbad (meP_run hlow (hI.ok []) hI.2.2.2.1 ⟨by omega, i32_hi _⟩ ⟨i32_lo _, i32_hi _⟩ ⟨sn1, sn2⟩ hcs hv4 (fun F hF => ?_)) (fun v h1 hq => lwP hI hq (by decide +kernel) (by decide +kernel) (by decide +kernel) (Int.le_refl n))
      have hF := List.mem_singleton.mp hF
      subst hF
      refine ⟨(jsX g (i + Int32.ofInt 1).toNatClampNeg).toInt * 1 + ((jsX g (i + Int32.ofInt 2).toNatClampNeg).toInt * 0 + sn.toInt * -1) + 0, ?_, by omega⟩
      simp [fev, fevl]
    by_cases a3 : (jsX g (i + Int32.ofInt 2).toNatClampNeg).toInt < 0
    · exact hbad (meM_run hlow (hI.ok []) hI.2.2.2.1 ⟨i32_lo _, i32_hi _⟩ ⟨i32_lo _, by omega⟩) (fun v h1 hq => lwP hI hq (by decide +kernel) (by decide +kernel) (by decide +kernel) (Int.le_refl n))
    by_cases a4 : 2 ≤ (jsX g (i + Int32.ofInt 2).toNatClampNeg).toInt
    · exact hbad (meQ_run hlow (hI.ok []) hI.2.2.2.1 ⟨i32_lo _, i32_hi _⟩ ⟨a4, i32_hi _⟩) (fun v h1 hq => lwP hI hq (by decide +kernel) (by decide +kernel) (by decide +kernel) (Int.le_refl n))
    obtain ⟨r1, r2⟩ := hr h6
    refine J.room (kc := 7 + (kc + (rc - 7))) (ks := 20000 + (ks + (rs - 20000))) (lc_34g hlow hI hi hN (meG_run hlow (hI.ok []) hI.2.2.2.1 ⟨by omega, by omega⟩ ⟨by omega, by omega⟩ hcs hv4 (by omega)) (fun v h1 hq => ?_)) (by omega) (by omega)
    obtain ⟨x1, rfl, bk1, hO1, b6, hb6⟩ := hq
    refine ⟨x1, rfl, bkF bk1, hI.stepN hO1 (Int.le_refl n) (by decide +kernel) (by decide +kernel), fun bk2 h2 hI2 h62 => kk bk2 h2 (rc - 7) (rs - 20000) hI2 (fun h => ?_)⟩
    rw [h62 b6 ((bkF_ne (by decide)).trans hb6)] at h
    cases h
theorem lu_724 (hk : kOK TTs g (EIm n) l Kx_724) {W0 : List aR} {bk0 bk : aB} {h0 h : jH} (hO : hOK TTs g (EIm n) W0 bk0 h0 bk h) {a1 : Nat} (ha1 : bk 1 = some a1) {x1 : Int32} (hx1 : (-2147483648 : Int) ≤ x1.toInt ∧ x1.toInt ≤ -1) :
    jCal l g 204 2 [.ref (g.2.2 + (a1 + 0)), .int x1] h 0 0 (kPost TTs g (EIm n) Kx_724 bk h [x1.toInt]) := by
  refine hk bk h [.ref (g.2.2 + (a1 + 0)), .int x1] [x1.toInt] hO.1 hO.2.1 hO.2.2.1 hO.2.2.2.2.2 (show 2 ≤ jmx 204 by decide +kernel) rfl (fun q hq => ?_) ⟨⟨rfl, fun i e z he hz => ?_⟩, eFm_plain (plain_app (spEnv_plain _) clEnv_plain), fun F hF => absurd hF List.not_mem_nil, fun i v hv => ?_, trivial, fun q hq => ?_, fun B hB => absurd hB List.not_mem_nil⟩
  · have hq : q ∈ ([] : List (Nat × Int × Nat)) := hq
    exact absurd hq List.not_mem_nil
  · match i, he, hz with
    | 0, he, hz => cases he; cases hz; exact hx1
    | i + 1, he, _ => cases he
  · match i, hv with
    | 0, hv => cases hv; exact ⟨_, rfl, a1, ha1, rfl⟩
    | 1, hv => cases hv; exact ⟨_, rfl, x1, rfl, rfl⟩
    | 2, hv => cases hv
    | i + 3, hv => cases hv
  · exact absurd hq List.not_mem_nil
theorem lu_725 (hk : kOK TTs g (EIm n) l Kx_725) {W0 : List aR} {bk0 bk : aB} {h0 h : jH} (hO : hOK TTs g (EIm n) W0 bk0 h0 bk h) {a1 : Nat} (ha1 : bk 1 = some a1) {x1 : Int32} (hx1 : (2 : Int) ≤ x1.toInt ∧ x1.toInt ≤ 2147483647) :
    jCal l g 204 2 [.ref (g.2.2 + (a1 + 0)), .int x1] h 0 0 (kPost TTs g (EIm n) Kx_725 bk h [x1.toInt]) := by
  refine hk bk h [.ref (g.2.2 + (a1 + 0)), .int x1] [x1.toInt] hO.1 hO.2.1 hO.2.2.1 hO.2.2.2.2.2 (show 2 ≤ jmx 204 by decide +kernel) rfl (fun q hq => ?_) ⟨⟨rfl, fun i e z he hz => ?_⟩, eFm_plain (plain_app (spEnv_plain _) clEnv_plain), fun F hF => absurd hF List.not_mem_nil, fun i v hv => ?_, trivial, fun q hq => ?_, fun B hB => absurd hB List.not_mem_nil⟩
  · have hq : q ∈ ([] : List (Nat × Int × Nat)) := hq
    exact absurd hq List.not_mem_nil
  · match i, he, hz with
    | 0, he, hz => cases he; cases hz; exact hx1
    | i + 1, he, _ => cases he
  · match i, hv with
    | 0, hv => cases hv; exact ⟨_, rfl, a1, ha1, rfl⟩
    | 1, hv => cases hv; exact ⟨_, rfl, x1, rfl, rfl⟩
    | 2, hv => cases hv
    | i + 3, hv => cases hv
  · exact absurd hq List.not_mem_nil
theorem lu_726 (hk : kOK TTs g (EIm n) l Kx_726) {W0 : List aR} {bk0 bk : aB} {h0 h : jH} (hO : hOK TTs g (EIm n) W0 bk0 h0 bk h) {a0 : Nat} (ha0 : bk 0 = some a0) {x1 : Int32} (hx1 : (-2147483648 : Int) ≤ x1.toInt ∧ x1.toInt ≤ -1) :
    jCal l g 193 2 [.ref (g.2.2 + (a0 + 0)), .int x1] h 0 0 (kPost TTs g (EIm n) Kx_726 bk h [x1.toInt]) := by
  refine hk bk h [.ref (g.2.2 + (a0 + 0)), .int x1] [x1.toInt] hO.1 hO.2.1 hO.2.2.1 hO.2.2.2.2.2 (show 2 ≤ jmx 193 by decide +kernel) rfl (fun q hq => ?_) ⟨⟨rfl, fun i e z he hz => ?_⟩, eFm_plain (plain_app (spEnv_plain _) clEnv_plain), fun F hF => absurd hF List.not_mem_nil, fun i v hv => ?_, trivial, fun q hq => ?_, fun B hB => absurd hB List.not_mem_nil⟩
  · have hq : q ∈ ([] : List (Nat × Int × Nat)) := hq
    exact absurd hq List.not_mem_nil
  · match i, he, hz with
    | 0, he, hz => cases he; cases hz; exact hx1
    | i + 1, he, _ => cases he
  · match i, hv with
    | 0, hv => cases hv; exact ⟨_, rfl, a0, ha0, rfl⟩
    | 1, hv => cases hv; exact ⟨_, rfl, x1, rfl, rfl⟩
    | 2, hv => cases hv
    | i + 3, hv => cases hv
  · exact absurd hq List.not_mem_nil
theorem lu_727 (hk : kOK TTs g (EIm n) l Kx_727) {W0 : List aR} {bk0 bk : aB} {h0 h : jH} (hO : hOK TTs g (EIm n) W0 bk0 h0 bk h) {a0 : Nat} (ha0 : bk 0 = some a0) {x1 : Int32} (hx1 : (2 : Int) ≤ x1.toInt ∧ x1.toInt ≤ 2147483647) :
    jCal l g 193 2 [.ref (g.2.2 + (a0 + 0)), .int x1] h 0 0 (kPost TTs g (EIm n) Kx_727 bk h [x1.toInt]) := by
  refine hk bk h [.ref (g.2.2 + (a0 + 0)), .int x1] [x1.toInt] hO.1 hO.2.1 hO.2.2.1 hO.2.2.2.2.2 (show 2 ≤ jmx 193 by decide +kernel) rfl (fun q hq => ?_) ⟨⟨rfl, fun i e z he hz => ?_⟩, eFm_plain (plain_app (spEnv_plain _) clEnv_plain), fun F hF => absurd hF List.not_mem_nil, fun i v hv => ?_, trivial, fun q hq => ?_, fun B hB => absurd hB List.not_mem_nil⟩
  · have hq : q ∈ ([] : List (Nat × Int × Nat)) := hq
    exact absurd hq List.not_mem_nil
  · match i, he, hz with
    | 0, he, hz => cases he; cases hz; exact hx1
    | i + 1, he, _ => cases he
  · match i, hv with
    | 0, hv => cases hv; exact ⟨_, rfl, a0, ha0, rfl⟩
    | 1, hv => cases hv; exact ⟨_, rfl, x1, rfl, rfl⟩
    | 2, hv => cases hv
    | i + 3, hv => cases hv
  · exact absurd hq List.not_mem_nil
theorem gk_imz {bk : aB} {h : jH} {b1 : Nat} (hb : bk 1 = some b1) {z : Int32} (hz : (0 : Int) ≤ z.toInt ∧ z.toInt ≤ 1) : gOK g [z.toInt] bk (jal 204 [.ref (g.2.2 + (b1 + 0)), .int z]) [] h (kEnv imK) imK.2.2.2.1 (spLoc 0 imK.2.1) [] (clOv (spEnv imK.2.1).length imK.2.2.1) [] := by
  refine ⟨⟨rfl, fun i e z he hz => ?_⟩, eFm_plain (plain_app (spEnv_plain _) clEnv_plain), fun F hF => absurd hF List.not_mem_nil, fun i v hv => ?_, trivial, fun q hq => absurd hq List.not_mem_nil, fun B hB => absurd hB List.not_mem_nil⟩
  · match i, he, hz with
    | 0, he, hz => cases he; cases hz; assumption
    | i + 1, he, _ => cases he
  · match i, hv with
    | 0, hv => cases hv; exact ⟨_, rfl, b1, hb, rfl⟩
    | 1, hv => cases hv; exact ⟨_, rfl, z, rfl, rfl⟩
    | 2, hv => cases hv
    | i + 3, hv => cases hv
def imv (z : Int32) : Int := if 0 ≤ z.toInt ∧ z.toInt ≤ 1 then 0 else -1
set_option maxRecDepth 16384 in
theorem imx_any (hlow : ∀ (k : Nat) (K : aK), KTx[k]? = some K → kOK TTs g (EIm n) l K) {b0 b1 : Nat} {bk : aB} {h : jH} (hI : lwI g n b0 b1 bk h) (z : Int32) : ∃ (dx mc ms : Nat) (P : Option Value → jH → Prop), dx ≤ 10 ∧ mc ≤ 48 ∧ ms ≤ 4307 ∧ jCal l g 193 dx [.ref (g.2.2 + (b0 + 0)), .int z] h mc ms P ∧ ∀ v h1, P v h1 → lwQc g n b0 b1 bk (imv z) v h1 := by
  by_cases a1 : z.toInt < 0
  · refine ⟨2, 0, 0, _, by decide, by decide, by decide, lu_726 (hlow 726 _ rfl) (hI.ok []) hI.2.2.2.1 ⟨i32_lo _, by omega⟩, fun v h1 hq => ?_⟩
    rw [imv, if_neg (by omega)]
    exact lwPc hI hq (by decide +kernel) (by decide +kernel) rfl (by decide) (Int.le_refl n)
  by_cases a2 : 2 ≤ z.toInt
  · refine ⟨2, 0, 0, _, by decide, by decide, by decide, lu_727 (hlow 727 _ rfl) (hI.ok []) hI.2.2.2.1 ⟨a2, i32_hi _⟩, fun v h1 hq => ?_⟩
    rw [imv, if_neg (by omega)]
    exact lwPc hI hq (by decide +kernel) (by decide +kernel) rfl (by decide) (Int.le_refl n)
  by_cases a3 : z.toInt = 0
  · have e : z = 0 := i32_eq (by rw [a3]; rfl)
    subst e
    refine ⟨9, 48, 4307, _, by decide, by decide, by decide, xmC_0 hlow hI.1 hI.2.1 hI.2.2.1 hI.b01 hI.2.2.2.1 hI.2.2.2.2.2.1, fun v h1 hq => ?_⟩
    rw [imv, if_pos (by omega)]
    exact lwPc hI hq (by decide +kernel) (by decide +kernel) rfl (by decide) (Int.le_refl n)
  · have e : z = 1 := i32_eq (by rw [show z.toInt = 1 by omega]; rfl)
    subst e
    refine ⟨9, 48, 4307, _, by decide, by decide, by decide, xmC_1 hlow hI.1 hI.2.1 hI.2.2.1 hI.b01 hI.2.2.2.1 hI.2.2.2.2.2.1, fun v h1 hq => ?_⟩
    rw [imv, if_pos (by decide)]
    exact lwPc hI hq (by decide +kernel) (by decide +kernel) rfl (by decide) (Int.le_refl n)
set_option maxRecDepth 16384 in
theorem imm_any (hlow : ∀ (k : Nat) (K : aK), KTx[k]? = some K → kOK TTs g (EIm n) l K) {b0 b1 : Nat} {bk : aB} {h : jH} (hI : lwI g n b0 b1 bk h) (z : Int32) : ∃ (dx : Nat) (P : Option Value → jH → Prop), dx ≤ 10 ∧ jCal l g 204 dx [.ref (g.2.2 + (b1 + 0)), .int z] h 0 0 P ∧ ∀ v h1, P v h1 → lwQc g (n + 40) b0 b1 bk (imv z) v h1 := by
  by_cases a1 : z.toInt < 0
  · refine ⟨2, _, by decide, lu_724 (hlow 724 _ rfl) (hI.ok []) hI.2.2.2.2.1 ⟨i32_lo _, by omega⟩, fun v h1 hq => ?_⟩
    rw [imv, if_neg (by omega)]
    exact lwPc hI hq (by decide +kernel) (by decide +kernel) rfl (by decide) (show n ≤ n + 40 by omega)
  by_cases a2 : 2 ≤ z.toInt
  · refine ⟨2, _, by decide, lu_725 (hlow 725 _ rfl) (hI.ok []) hI.2.2.2.2.1 ⟨a2, i32_hi _⟩, fun v h1 hq => ?_⟩
    rw [imv, if_neg (by omega)]
    exact lwPc hI hq (by decide +kernel) (by decide +kernel) rfl (by decide) (show n ≤ n + 40 by omega)
  obtain ⟨fr, er, ⟨r1, r2⟩, r3, r4⟩ := hI.row
  refine ⟨3, _, by decide, image_ok hlow hI.1 hI.2.1 hI.2.2.1 hI.b01 (show 2 ≤ jmx 204 by decide +kernel) rfl (gk_imz hI.2.2.2.2.1 ⟨by omega, by omega⟩) hI.2.2.2.2.1 er r2 r4, fun v h1 hq => ?_⟩
  rw [imv, if_pos (by omega)]
  exact lwPc hI hq (by decide +kernel) (by decide +kernel) rfl (by decide) (show n ≤ n + 40 by omega)
set_option maxRecDepth 16384 in
theorem lc_51 (hlow : ∀ (k : Nat) (K : aK), KTx[k]? = some K → kOK TTs g (EIm n) l K) {b0 b1 : Nat} {bk : aB} {h : jH} (hI : lwI g n b0 b1 bk h) {i : Int32} (hi : 0 ≤ i.toInt ∧ i.toInt + 6 ≤ (jsN g : Int)) (hN : jsN g ≤ 3072) {kc ks : Nat} {Q : Option Value → jH → Prop}
    (kk : ∀ bk' h', lwI g (n + 40) b0 b1 bk' h' → (∀ b, bk 6 = some b → bk' 6 = some b) → J l g 315 100 1983 (lwL g b0 b1 i) [] h' kc ks Q) : J l g 315 100 1901 (lwL g b0 b1 i) [] h (48 + kc) (4307 + ks) Q := by
  obtain ⟨dx, mc, ms, P, q1, q2, q3, hx, hP⟩ := imx_any hlow hI (jsX g (i + Int32.ofInt 1).toNatClampNeg)
  refine J.room (kc := mc + kc) (ks := ms + ks) ?_ (by omega) (by omega)
  refine j_aload_n (k4 := 1) (by decide +kernel) rfl ?_
  refine j_aload_n (k4 := 0) (by decide +kernel) rfl ?_
  refine j_iload_n (k4 := 3) (by decide +kernel) rfl ?_
  refine j_iconst (n := 1) (by decide +kernel) ?_
  refine j_iadd (by decide +kernel) ?_
  refine j_sld (lw_at hi hN (by decide) (by decide)) (by decide +kernel) ?_
  obtain ⟨fsx, hcx⟩ := lw_x hI
  refine j_callV (own := 13) (i := 223) (y2 := 193) (d2 := dx) (mc := mc) (ms := ms) (kc := kc) (ks := ks) (a := b0 + 0) (As := [.int (jsX g (i + Int32.ofInt 1).toNatClampNeg)]) (st := []) (by decide +kernel) lw_cls (by decide +kernel) (by decide) (by decide +kernel) (by decide +kernel) (by decide +kernel) (by decide +kernel) (by decide +kernel) (show 1 = jnp 193 by decide +kernel) (by omega) (by decide) hcx (fun r hr => by cases hr; decide +kernel) hx (fun v h1 hq => ?_)
  obtain ⟨rfl, bk1, hI1, h61⟩ := hP v h1 hq
  obtain ⟨dm, P2, p1, hm, hP2⟩ := imm_any hlow hI1 (jsX g (i + Int32.ofInt 1).toNatClampNeg)
  refine J.room (kc := 0 + kc) (ks := 0 + ks) ?_ (by omega) (by omega)
  refine j_aload_n (k4 := 2) (by decide +kernel) rfl ?_
  refine j_aload_n (k4 := 0) (by decide +kernel) rfl ?_
  refine j_iload_n (k4 := 3) (by decide +kernel) rfl ?_
  refine j_iconst (n := 1) (by decide +kernel) ?_
  refine j_iadd (by decide +kernel) ?_
  refine j_sld (lw_at hi hN (by decide) (by decide)) (by decide +kernel) ?_
  obtain ⟨fsm, hcm⟩ := lw_m hI1
  refine j_callV (own := 13) (i := 226) (y2 := 204) (d2 := dm) (mc := 0) (ms := 0) (kc := kc) (ks := ks) (a := b1 + 0) (As := [.int (jsX g (i + Int32.ofInt 1).toNatClampNeg)]) (st := [.int (Int32.ofInt (imv (jsX g (i + Int32.ofInt 1).toNatClampNeg)))]) (by decide +kernel) lw_cls (by decide +kernel) (by decide) (by decide +kernel) (by decide +kernel) (by decide +kernel) (by decide +kernel) (by decide +kernel) (show 1 = jnp 204 by decide +kernel) (by omega) (show 1 + 0 ≤ 8 by decide) hcm (fun r hr => by cases hr; decide +kernel) hm (fun v h2 hq => ?_)
  obtain ⟨rfl, bk2, hI2, h62⟩ := hP2 v h2 hq
  refine j_icmp_eq (off := 64) (tgt := 1983) (by decide +kernel) (by decide) (fun _ => ?_) (fun hne => absurd rfl hne)
  exact kk bk2 h2 hI2 (fun b hb => h62 b (h61 b hb))
theorem lu_441 (hk : kOK TTs g (EIm n) l Kx_441) {W0 : List aR} {bk0 bk : aB} {h0 h : jH} (hO : hOK TTs g (EIm n) W0 bk0 h0 bk h) {a0 : Nat} (ha0 : bk 0 = some a0) {x1 : Int32} (hx1 : (-2147483648 : Int) ≤ x1.toInt ∧ x1.toInt ≤ 2147483647) :
    jCal l g 200 4 [.ref (g.2.2 + (a0 + 0)), .int x1] h 0 0 (kPost TTs g (EIm n) Kx_441 bk h [x1.toInt]) := by
  refine hk bk h [.ref (g.2.2 + (a0 + 0)), .int x1] [x1.toInt] hO.1 hO.2.1 hO.2.2.1 hO.2.2.2.2.2 (show 2 ≤ jmx 200 by decide +kernel) rfl (fun q hq => ?_) ⟨⟨rfl, fun i e z he hz => ?_⟩, eFm_plain (plain_app (spEnv_plain _) clEnv_plain), fun F hF => absurd hF List.not_mem_nil, fun i v hv => ?_, trivial, fun q hq => ?_, fun B hB => absurd hB List.not_mem_nil⟩
  · have hq : q ∈ ([] : List (Nat × Int × Nat)) := hq
    exact absurd hq List.not_mem_nil
  · match i, he, hz with
    | 0, he, hz => cases he; cases hz; exact hx1
    | i + 1, he, _ => cases he
  · match i, hv with
    | 0, hv => cases hv; exact ⟨_, rfl, a0, ha0, rfl⟩
    | 1, hv => cases hv; exact ⟨_, rfl, x1, rfl, rfl⟩
    | 2, hv => cases hv
    | i + 3, hv => cases hv
  · exact absurd hq List.not_mem_nil
theorem gk_bk {bk : aB} {h : jH} {b1 : Nat} (hb : bk 1 = some b1) {z : Int32} (hz : (0 : Int) ≤ z.toInt ∧ z.toInt ≤ 1) : gOK g [z.toInt] bk (jal 207 [.ref (g.2.2 + (b1 + 0)), .int z]) [] h (kEnv bkK) bkK.2.2.2.1 (spLoc 0 bkK.2.1) [] (clOv (spEnv bkK.2.1).length bkK.2.2.1) [] := by
  refine ⟨⟨rfl, fun i e z he hz => ?_⟩, eFm_plain (plain_app (spEnv_plain _) clEnv_plain), fun F hF => absurd hF List.not_mem_nil, fun i v hv => ?_, trivial, fun q hq => absurd hq List.not_mem_nil, fun B hB => absurd hB List.not_mem_nil⟩
  · match i, he, hz with
    | 0, he, hz => cases he; cases hz; assumption
    | i + 1, he, _ => cases he
  · match i, hv with
    | 0, hv => cases hv; exact ⟨_, rfl, b1, hb, rfl⟩
    | 1, hv => cases hv; exact ⟨_, rfl, z, rfl, rfl⟩
    | 2, hv => cases hv
    | i + 3, hv => cases hv
set_option maxRecDepth 16384 in
theorem mbk_any (hlow : ∀ (k : Nat) (K : aK), KTx[k]? = some K → kOK TTs g (EIm n) l K) {b0 b1 : Nat} {bk : aB} {h : jH} (hI : lwI g n b0 b1 bk h) (z : Int32) : ∃ (dx : Nat) (P : Option Value → jH → Prop), dx ≤ 10 ∧ jCal l g 207 dx [.ref (g.2.2 + (b1 + 0)), .int z] h 0 0 P ∧ ∀ v h1, P v h1 → lwQ g (n + 40) b0 b1 bk v h1 := by
  by_cases a1 : z.toInt < 0
  · exact ⟨2, _, by decide, mbN_run hlow (hI.ok []) hI.2.2.2.2.1 ⟨i32_lo _, by omega⟩, fun v h1 hq => lwP hI hq (by decide +kernel) (by decide +kernel) (by decide +kernel) (show n ≤ n + 40 by omega)⟩
  by_cases a2 : 2 ≤ z.toInt
  · exact ⟨2, _, by decide, mbP_run hlow (hI.ok []) hI.2.2.2.2.1 ⟨a2, i32_hi _⟩, fun v h1 hq => lwP hI hq (by decide +kernel) (by decide +kernel) (by decide +kernel) (show n ≤ n + 40 by omega)⟩
  have hrc : rowc n bk h := fun b f hb hf => by
    cases hI.2.2.2.2.1.symm.trans hb
    exact hI.2.2.2.2.2.2 f hf
  refine ⟨3, _, by decide, back_ok (n := n) bk h [.ref (g.2.2 + (b1 + 0)), .int z] [z.toInt] hI.1 hI.2.1 ⟨hI.2.2.1, hrc⟩ hI.b01 (show 2 ≤ jmx 207 by decide +kernel) rfl (fun q hq => ?_) (gk_bk hI.2.2.2.2.1 ⟨by omega, by omega⟩), fun v h1 hq => ?_⟩
  · have hq : q ∈ ([] : List (Nat × Int × Nat)) := hq
    exact absurd hq List.not_mem_nil
  · obtain ⟨bk', os, k1, -, q, hq1, hq2⟩ := hq
    obtain ⟨x, hx, -⟩ := lw_ans (by decide +kernel) hq1 hq2
    have e1 := k1.2.2.2.2.1 1 b1 hI.2.2.2.2.1
    refine ⟨x, hx, bkF bk', ⟨HT_forget k1.1, BD_forget k1.2.1, EIm_forget (EIm_mono (show n ≤ n + 40 by omega) k1.2.2.1.1), (bkF_ne (by decide)).trans (k1.2.2.2.2.1 0 b0 hI.2.2.2.1), (bkF_ne (by decide)).trans e1, by rw [bkF, if_pos rfl], fun f hf => ?_⟩, fun b hb => (bkF_ne (by decide)).trans (k1.2.2.2.2.1 6 b hb)⟩
    have := k1.2.2.1.2 b1 f e1 hf
    omega
set_option maxRecDepth 16384 in
theorem lc_52 (hlow : ∀ (k : Nat) (K : aK), KTx[k]? = some K → kOK TTs g (EIm n) l K) {b0 b1 : Nat} {bk : aB} {h : jH} (hI : lwI g n b0 b1 bk h) {i : Int32} (hi : 0 ≤ i.toInt ∧ i.toInt + 6 ≤ (jsN g : Int)) (hN : jsN g ≤ 3072) {kc ks : Nat} {Q : Option Value → jH → Prop}
    (kk : ∀ bk' h', lwI g (n + 40) b0 b1 bk' h' → (∀ b, bk 6 = some b → bk' 6 = some b) → J l g 315 100 1983 (lwL g b0 b1 i) [] h' kc ks Q) : J l g 315 100 1924 (lwL g b0 b1 i) [] h kc ks Q := by
  refine j_aload_n (k4 := 1) (by decide +kernel) rfl ?_
  refine j_aload_n (k4 := 0) (by decide +kernel) rfl ?_
  refine j_iload_n (k4 := 3) (by decide +kernel) rfl ?_
  refine j_iconst (n := 1) (by decide +kernel) ?_
  refine j_iadd (by decide +kernel) ?_
  refine j_sld (lw_at hi hN (by decide) (by decide)) (by decide +kernel) ?_
  obtain ⟨fsx, hcx⟩ := lw_x hI
  refine J.room (kc := 0 + kc) (ks := 0 + ks) (j_callV (own := 13) (i := 227) (y2 := 200) (d2 := 4) (mc := 0) (ms := 0) (kc := kc) (ks := ks) (a := b0 + 0) (As := [.int (jsX g (i + Int32.ofInt 1).toNatClampNeg)]) (st := []) (by decide +kernel) lw_cls (by decide +kernel) (by decide) (by decide +kernel) (by decide +kernel) (by decide +kernel) (by decide +kernel) (by decide +kernel) (show 1 = jnp 200 by decide +kernel) (by decide) (by decide) hcx (fun r hr => by cases hr; decide +kernel) (lu_441 (hlow 441 _ rfl) (hI.ok []) hI.2.2.2.1 ⟨i32_lo _, i32_hi _⟩) (fun v h1 hq => ?_)) (by omega) (by omega)
  obtain ⟨x1, rfl, bk1, hI1, h61⟩ := lwP hI hq (by decide +kernel) (by decide +kernel) (by decide +kernel) (Int.le_refl n)
  refine j_pop (by decide +kernel) rfl ?_
  obtain ⟨dm, P2, p1, hm, hP2⟩ := mbk_any hlow hI1 (jsX g (i + Int32.ofInt 1).toNatClampNeg)
  refine J.room (kc := 0 + kc) (ks := 0 + ks) ?_ (by omega) (by omega)
  refine j_aload_n (k4 := 2) (by decide +kernel) rfl ?_
  refine j_aload_n (k4 := 0) (by decide +kernel) rfl ?_
  refine j_iload_n (k4 := 3) (by decide +kernel) rfl ?_
  refine j_iconst (n := 1) (by decide +kernel) ?_
  refine j_iadd (by decide +kernel) ?_
  refine j_sld (lw_at hi hN (by decide) (by decide)) (by decide +kernel) ?_
  obtain ⟨fsm, hcm⟩ := lw_m hI1
  refine j_callV (own := 13) (i := 230) (y2 := 207) (d2 := dm) (mc := 0) (ms := 0) (kc := kc) (ks := ks) (a := b1 + 0) (As := [.int (jsX g (i + Int32.ofInt 1).toNatClampNeg)]) (st := []) (by decide +kernel) lw_cls (by decide +kernel) (by decide) (by decide +kernel) (by decide +kernel) (by decide +kernel) (by decide +kernel) (by decide +kernel) (show 1 = jnp 207 by decide +kernel) (by omega) (by decide) hcm (fun r hr => by cases hr; decide +kernel) hm (fun v h2 hq => ?_)
  obtain ⟨x2, rfl, bk2, hI2, h62⟩ := hP2 v h2 hq
  refine j_pop (by decide +kernel) rfl ?_
  refine j_goto (off := 39) (tgt := 1983) (by decide +kernel) (by decide) ?_
  exact kk bk2 h2 hI2 (fun b hb => h62 b (h61 b hb))
end LX
