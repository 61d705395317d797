/-! run of the reference -/
section MR
variable {l : Launch} {g : jG} {n : Int}
theorem ty_m16 : tyAt TTs 1 16 = some (.inl (0, 360, [(0, 360, 1, [(-1, 2)])])) := rfl
theorem ty_m20 : tyAt TTs 1 20 = some (.inl (0, 6, [(0, 6, 1, [(-2147483648, 2147483647)])])) := rfl
/-- a field that is a reference -/
theorem m_ref {bk : aB} {h : jH} {b q o : Nat} {fs : List Value} (hT : HT TTs g bk h) (hb : bk 1 = some b) (ho : h[b + 0]? = some (.inr (12, fs))) (hq : mTs[q]? = some (2, 0, 0, 1, o)) : fs[q]? = some (.ref (g.2.2 + (b + o))) := by
  obtain ⟨c, c1, fs', rfl, -, c2⟩ := hT 1 b 0 _ hb ty_m0
  cases ho.symm.trans c1
  obtain ⟨v, v1, b2, v2, v3⟩ := c2 q _ hq
  have v2 : bk 1 = some b2 := v2
  cases hb.symm.trans v2
  rw [v1, v3]
  rfl
/-- a field that is an int -/
theorem m_int {bk : aB} {h : jH} {b q : Nat} {lo hi : Int} {fs : List Value} (hT : HT TTs g bk h) (hb : bk 1 = some b) (ho : h[b + 0]? = some (.inr (12, fs))) (hq : mTs[q]? = some (0, lo, hi, 0, 0)) : ∃ x : Int32, fs[q]? = some (.int x) ∧ lo ≤ x.toInt ∧ x.toInt ≤ hi := by
  obtain ⟨c, c1, fs', rfl, -, c2⟩ := hT 1 b 0 _ hb ty_m0
  cases ho.symm.trans c1
  obtain ⟨v, v1, x, rfl, v3⟩ := c2 q _ hq
  exact ⟨x, v1, v3⟩
theorem list4 {α : Type} {L : List α} (h : L.length = 4) : ∃ a0 a1 a2 a3, L = [a0, a1, a2, a3] := by
  match L, h with
  | [a0, a1, a2, a3], _ => exact ⟨a0, a1, a2, a3, rfl⟩
theorem sg1 {m : Nat} {lo hi : Int} {i : Nat} {z : Int} (h : lo ≤ z ∧ z ≤ hi) : sgOK [(0, m, 1, [(lo, hi)])] i z := by
  intro s hs _ _ q hq
  rw [List.mem_singleton.mp hs] at hq
  have hq : [(lo, hi)][(i - 0) % 1]? = some q := hq
  rw [Nat.mod_one] at hq
  cases hq
  exact h
theorem n12 : ∀ f, f < 42 → ∀ r, jcl[12]? = some r → f < r.2.2 := fun f hf r hr => by
  cases hr
  have : (42 : Nat) = nfX12 := by decide +kernel
  show f < nfX12
  omega
theorem use_630 (hk : kOK TTs g (EIm n) l Kx_630) {W0 : List aR} {bk0 bk : aB} {h0 h : jH} (hO : hOK TTs g (EIm n) W0 bk0 h0 bk h) {a1 : Nat} (ha1 : bk 1 = some a1)  :
    jCal l g 265 2 [.ref (g.2.2 + (a1 + 0))] h 0 0 (kPost TTs g (EIm n) Kx_630 bk h []) := by
  refine hk bk h [.ref (g.2.2 + (a1 + 0))] [] hO.1 hO.2.1 hO.2.2.1 hO.2.2.2.2.2 (show 1 ≤ jmx 265 by decide +kernel) rfl (fun q hq => ?_) ⟨⟨rfl, fun i e z he hz => ?_⟩, eFm_plain (plain_app (spEnv_plain _) clEnv_plain), fun F hF => absurd hF List.not_mem_nil, fun i v hv => ?_, trivial, fun q hq => ?_, fun B hB => absurd hB List.not_mem_nil⟩
  · have hq : q ∈ ([] : List (Nat × Int × Nat)) := hq
    exact absurd hq List.not_mem_nil
  · match i, he, hz with
    | i + 0, he, _ => cases he
  · match i, hv with
    | 0, hv => cases hv; exact ⟨_, rfl, a1, ha1, rfl⟩
    | 1, hv => cases hv
    | 2, hv => cases hv
    | 3, hv => cases hv
    | i + 4, hv => cases hv
  · exact absurd hq List.not_mem_nil
theorem use_706 (hk : kOK TTs g (EIm n) l Kx_706) {W0 : List aR} {bk0 bk : aB} {h0 h : jH} (hO : hOK TTs g (EIm n) W0 bk0 h0 bk h) {a1 : Nat} (ha1 : bk 1 = some a1) {x1 : Int32} (hx1 : (0 : Int) ≤ x1.toInt ∧ x1.toInt ≤ 59) {x2 : Int32} (hx2 : (0 : Int) ≤ x2.toInt ∧ x2.toInt ≤ 0) {x3 : Int32} (hx3 : (-1 : Int) ≤ x3.toInt ∧ x3.toInt ≤ -1) {c0 : Int32} (hc0 : (1130 : Int) ≤ c0.toInt ∧ c0.toInt ≤ 1130) {fc0 : List Value} (ec0 : h[a1 + 0]? = some (.inr (12, fc0))) (pc0 : fc0[25]? = some (.int c0)) :
    jCal l g 264 4 [.ref (g.2.2 + (a1 + 0)), .int x1, .int x2, .int x3] h 0 0 (kPost TTs g (EIm n) Kx_706 bk h [x1.toInt, x2.toInt, x3.toInt, c0.toInt]) := by
  refine hk bk h [.ref (g.2.2 + (a1 + 0)), .int x1, .int x2, .int x3] [x1.toInt, x2.toInt, x3.toInt, c0.toInt] hO.1 hO.2.1 hO.2.2.1 hO.2.2.2.2.2 (show 4 ≤ jmx 264 by decide +kernel) rfl (fun q hq => ?_) ⟨⟨rfl, fun i e z he hz => ?_⟩, eFm_plain (plain_app (spEnv_plain _) clEnv_plain), fun F hF => absurd hF List.not_mem_nil, fun i v hv => ?_, trivial, fun q hq => ?_, fun B hB => absurd hB List.not_mem_nil⟩
  · have hq : q ∈ ([] : List (Nat × Int × Nat)) := hq
    exact absurd hq List.not_mem_nil
  · match i, he, hz with
    | 0, he, hz => cases he; cases hz; exact hx1
    | 1, he, hz => cases he; cases hz; exact hx2
    | 2, he, hz => cases he; cases hz; exact hx3
    | 3, he, hz => cases he; cases hz; exact hc0
    | i + 4, he, _ => cases he
  · match i, hv with
    | 0, hv => cases hv; exact ⟨_, rfl, a1, ha1, rfl⟩
    | 1, hv => cases hv; exact ⟨_, rfl, x1, rfl, rfl⟩
    | 2, hv => cases hv; exact ⟨_, rfl, x2, rfl, rfl⟩
    | 3, hv => cases hv; exact ⟨_, rfl, x3, rfl, rfl⟩
    | 4, hv => cases hv
    | 5, hv => cases hv
    | 6, hv => cases hv
    | 7, hv => cases hv
    | i + 8, hv => cases hv
  · have hq2 : q = (1, 0, fcon ((25 : Nat) : Int), 3) := List.mem_singleton.mp hq
    subst hq2
    exact ⟨((25 : Nat) : Int), a1, _, c0.toInt, fcon_ok, ha1, ec0, ⟨by decide, c0, pc0, rfl⟩, rfl⟩
theorem use_707 (hk : kOK TTs g (EIm n) l Kx_707) {W0 : List aR} {bk0 bk : aB} {h0 h : jH} (hO : hOK TTs g (EIm n) W0 bk0 h0 bk h) {a1 : Nat} (ha1 : bk 1 = some a1) {x1 : Int32} (hx1 : (0 : Int) ≤ x1.toInt ∧ x1.toInt ≤ 59) {x2 : Int32} (hx2 : (1 : Int) ≤ x2.toInt ∧ x2.toInt ≤ 1) {x3 : Int32} (hx3 : (-1 : Int) ≤ x3.toInt ∧ x3.toInt ≤ -1) {c0 : Int32} (hc0 : (1130 : Int) ≤ c0.toInt ∧ c0.toInt ≤ 1130) {fc0 : List Value} (ec0 : h[a1 + 0]? = some (.inr (12, fc0))) (pc0 : fc0[25]? = some (.int c0)) :
    jCal l g 264 4 [.ref (g.2.2 + (a1 + 0)), .int x1, .int x2, .int x3] h 0 0 (kPost TTs g (EIm n) Kx_707 bk h [x1.toInt, x2.toInt, x3.toInt, c0.toInt]) := by
  refine hk bk h [.ref (g.2.2 + (a1 + 0)), .int x1, .int x2, .int x3] [x1.toInt, x2.toInt, x3.toInt, c0.toInt] hO.1 hO.2.1 hO.2.2.1 hO.2.2.2.2.2 (show 4 ≤ jmx 264 by decide +kernel) rfl (fun q hq => ?_) ⟨⟨rfl, fun i e z he hz => ?_⟩, eFm_plain (plain_app (spEnv_plain _) clEnv_plain), fun F hF => absurd hF List.not_mem_nil, fun i v hv => ?_, trivial, fun q hq => ?_, fun B hB => absurd hB List.not_mem_nil⟩
  · have hq : q ∈ ([] : List (Nat × Int × Nat)) := hq
    exact absurd hq List.not_mem_nil
  · match i, he, hz with
    | 0, he, hz => cases he; cases hz; exact hx1
    | 1, he, hz => cases he; cases hz; exact hx2
    | 2, he, hz => cases he; cases hz; exact hx3
    | 3, he, hz => cases he; cases hz; exact hc0
    | i + 4, he, _ => cases he
  · match i, hv with
    | 0, hv => cases hv; exact ⟨_, rfl, a1, ha1, rfl⟩
    | 1, hv => cases hv; exact ⟨_, rfl, x1, rfl, rfl⟩
    | 2, hv => cases hv; exact ⟨_, rfl, x2, rfl, rfl⟩
    | 3, hv => cases hv; exact ⟨_, rfl, x3, rfl, rfl⟩
    | 4, hv => cases hv
    | 5, hv => cases hv
    | 6, hv => cases hv
    | 7, hv => cases hv
    | i + 8, hv => cases hv
  · have hq2 : q = (1, 0, fcon ((25 : Nat) : Int), 3) := List.mem_singleton.mp hq
    subst hq2
    exact ⟨((25 : Nat) : Int), a1, _, c0.toInt, fcon_ok, ha1, ec0, ⟨by decide, c0, pc0, rfl⟩, rfl⟩
theorem use_708 (hk : kOK TTs g (EIm n) l Kx_708) {W0 : List aR} {bk0 bk : aB} {h0 h : jH} (hO : hOK TTs g (EIm n) W0 bk0 h0 bk h) {a1 : Nat} (ha1 : bk 1 = some a1) {x1 : Int32} (hx1 : (0 : Int) ≤ x1.toInt ∧ x1.toInt ≤ 58) {x2 : Int32} (hx2 : (2 : Int) ≤ x2.toInt ∧ x2.toInt ≤ 2) {x3 : Int32} (hx3 : (-1 : Int) ≤ x3.toInt ∧ x3.toInt ≤ -1) {c0 : Int32} (hc0 : (1130 : Int) ≤ c0.toInt ∧ c0.toInt ≤ 1130) {fc0 : List Value} (ec0 : h[a1 + 0]? = some (.inr (12, fc0))) (pc0 : fc0[25]? = some (.int c0)) :
    jCal l g 264 4 [.ref (g.2.2 + (a1 + 0)), .int x1, .int x2, .int x3] h 0 0 (kPost TTs g (EIm n) Kx_708 bk h [x1.toInt, x2.toInt, x3.toInt, c0.toInt]) := by
  refine hk bk h [.ref (g.2.2 + (a1 + 0)), .int x1, .int x2, .int x3] [x1.toInt, x2.toInt, x3.toInt, c0.toInt] hO.1 hO.2.1 hO.2.2.1 hO.2.2.2.2.2 (show 4 ≤ jmx 264 by decide +kernel) rfl (fun q hq => ?_) ⟨⟨rfl, fun i e z he hz => ?_⟩, eFm_plain (plain_app (spEnv_plain _) clEnv_plain), fun F hF => absurd hF List.not_mem_nil, fun i v hv => ?_, trivial, fun q hq => ?_, fun B hB => absurd hB List.not_mem_nil⟩
  · have hq : q ∈ ([] : List (Nat × Int × Nat)) := hq
    exact absurd hq List.not_mem_nil
  · match i, he, hz with
    | 0, he, hz => cases he; cases hz; exact hx1
    | 1, he, hz => cases he; cases hz; exact hx2
    | 2, he, hz => cases he; cases hz; exact hx3
    | 3, he, hz => cases he; cases hz; exact hc0
    | i + 4, he, _ => cases he
  · match i, hv with
    | 0, hv => cases hv; exact ⟨_, rfl, a1, ha1, rfl⟩
    | 1, hv => cases hv; exact ⟨_, rfl, x1, rfl, rfl⟩
    | 2, hv => cases hv; exact ⟨_, rfl, x2, rfl, rfl⟩
    | 3, hv => cases hv; exact ⟨_, rfl, x3, rfl, rfl⟩
    | 4, hv => cases hv
    | 5, hv => cases hv
    | 6, hv => cases hv
    | 7, hv => cases hv
    | i + 8, hv => cases hv
  · have hq2 : q = (1, 0, fcon ((25 : Nat) : Int), 3) := List.mem_singleton.mp hq
    subst hq2
    exact ⟨((25 : Nat) : Int), a1, _, c0.toInt, fcon_ok, ha1, ec0, ⟨by decide, c0, pc0, rfl⟩, rfl⟩
theorem use_711 (hk : kOK TTs g (EIm n) l Kx_711) {W0 : List aR} {bk0 bk : aB} {h0 h : jH} (hO : hOK TTs g (EIm n) W0 bk0 h0 bk h) {a1 : Nat} (ha1 : bk 1 = some a1) {x1 : Int32} (hx1 : (0 : Int) ≤ x1.toInt ∧ x1.toInt ≤ 59) {x2 : Int32} (hx2 : (0 : Int) ≤ x2.toInt ∧ x2.toInt ≤ 0) {x3 : Int32} (hx3 : (-1 : Int) ≤ x3.toInt ∧ x3.toInt ≤ -1) {c0 : Int32} (hc0 : (2060 : Int) ≤ c0.toInt ∧ c0.toInt ≤ 2060) {fc0 : List Value} (ec0 : h[a1 + 0]? = some (.inr (12, fc0))) (pc0 : fc0[25]? = some (.int c0)) :
    jCal l g 264 4 [.ref (g.2.2 + (a1 + 0)), .int x1, .int x2, .int x3] h 0 0 (kPost TTs g (EIm n) Kx_711 bk h [x1.toInt, x2.toInt, x3.toInt, c0.toInt]) := by
  refine hk bk h [.ref (g.2.2 + (a1 + 0)), .int x1, .int x2, .int x3] [x1.toInt, x2.toInt, x3.toInt, c0.toInt] hO.1 hO.2.1 hO.2.2.1 hO.2.2.2.2.2 (show 4 ≤ jmx 264 by decide +kernel) rfl (fun q hq => ?_) ⟨⟨rfl, fun i e z he hz => ?_⟩, eFm_plain (plain_app (spEnv_plain _) clEnv_plain), fun F hF => absurd hF List.not_mem_nil, fun i v hv => ?_, trivial, fun q hq => ?_, fun B hB => absurd hB List.not_mem_nil⟩
  · have hq : q ∈ ([] : List (Nat × Int × Nat)) := hq
    exact absurd hq List.not_mem_nil
  · match i, he, hz with
    | 0, he, hz => cases he; cases hz; exact hx1
    | 1, he, hz => cases he; cases hz; exact hx2
    | 2, he, hz => cases he; cases hz; exact hx3
    | 3, he, hz => cases he; cases hz; exact hc0
    | i + 4, he, _ => cases he
  · match i, hv with
    | 0, hv => cases hv; exact ⟨_, rfl, a1, ha1, rfl⟩
    | 1, hv => cases hv; exact ⟨_, rfl, x1, rfl, rfl⟩
    | 2, hv => cases hv; exact ⟨_, rfl, x2, rfl, rfl⟩
    | 3, hv => cases hv; exact ⟨_, rfl, x3, rfl, rfl⟩
    | 4, hv => cases hv
    | 5, hv => cases hv
    | 6, hv => cases hv
    | 7, hv => cases hv
    | i + 8, hv => cases hv
  · have hq2 : q = (1, 0, fcon ((25 : Nat) : Int), 3) := List.mem_singleton.mp hq
    subst hq2
    exact ⟨((25 : Nat) : Int), a1, _, c0.toInt, fcon_ok, ha1, ec0, ⟨by decide, c0, pc0, rfl⟩, rfl⟩
theorem use_712 (hk : kOK TTs g (EIm n) l Kx_712) {W0 : List aR} {bk0 bk : aB} {h0 h : jH} (hO : hOK TTs g (EIm n) W0 bk0 h0 bk h) {a1 : Nat} (ha1 : bk 1 = some a1) {x1 : Int32} (hx1 : (0 : Int) ≤ x1.toInt ∧ x1.toInt ≤ 59) {x2 : Int32} (hx2 : (1 : Int) ≤ x2.toInt ∧ x2.toInt ≤ 1) {x3 : Int32} (hx3 : (-1 : Int) ≤ x3.toInt ∧ x3.toInt ≤ -1) {c0 : Int32} (hc0 : (2060 : Int) ≤ c0.toInt ∧ c0.toInt ≤ 2060) {fc0 : List Value} (ec0 : h[a1 + 0]? = some (.inr (12, fc0))) (pc0 : fc0[25]? = some (.int c0)) :
    jCal l g 264 4 [.ref (g.2.2 + (a1 + 0)), .int x1, .int x2, .int x3] h 0 0 (kPost TTs g (EIm n) Kx_712 bk h [x1.toInt, x2.toInt, x3.toInt, c0.toInt]) := by
  refine hk bk h [.ref (g.2.2 + (a1 + 0)), .int x1, .int x2, .int x3] [x1.toInt, x2.toInt, x3.toInt, c0.toInt] hO.1 hO.2.1 hO.2.2.1 hO.2.2.2.2.2 (show 4 ≤ jmx 264 by decide +kernel) rfl (fun q hq => ?_) ⟨⟨rfl, fun i e z he hz => ?_⟩, eFm_plain (plain_app (spEnv_plain _) clEnv_plain), fun F hF => absurd hF List.not_mem_nil, fun i v hv => ?_, trivial, fun q hq => ?_, fun B hB => absurd hB List.not_mem_nil⟩
  · have hq : q ∈ ([] : List (Nat × Int × Nat)) := hq
    exact absurd hq List.not_mem_nil
  · match i, he, hz with
    | 0, he, hz => cases he; cases hz; exact hx1
    | 1, he, hz => cases he; cases hz; exact hx2
    | 2, he, hz => cases he; cases hz; exact hx3
    | 3, he, hz => cases he; cases hz; exact hc0
    | i + 4, he, _ => cases he
  · match i, hv with
    | 0, hv => cases hv; exact ⟨_, rfl, a1, ha1, rfl⟩
    | 1, hv => cases hv; exact ⟨_, rfl, x1, rfl, rfl⟩
    | 2, hv => cases hv; exact ⟨_, rfl, x2, rfl, rfl⟩
    | 3, hv => cases hv; exact ⟨_, rfl, x3, rfl, rfl⟩
    | 4, hv => cases hv
    | 5, hv => cases hv
    | 6, hv => cases hv
    | 7, hv => cases hv
    | i + 8, hv => cases hv
  · have hq2 : q = (1, 0, fcon ((25 : Nat) : Int), 3) := List.mem_singleton.mp hq
    subst hq2
    exact ⟨((25 : Nat) : Int), a1, _, c0.toInt, fcon_ok, ha1, ec0, ⟨by decide, c0, pc0, rfl⟩, rfl⟩
theorem use_713 (hk : kOK TTs g (EIm n) l Kx_713) {W0 : List aR} {bk0 bk : aB} {h0 h : jH} (hO : hOK TTs g (EIm n) W0 bk0 h0 bk h) {a1 : Nat} (ha1 : bk 1 = some a1) {x1 : Int32} (hx1 : (0 : Int) ≤ x1.toInt ∧ x1.toInt ≤ 58) {x2 : Int32} (hx2 : (2 : Int) ≤ x2.toInt ∧ x2.toInt ≤ 2) {x3 : Int32} (hx3 : (-1 : Int) ≤ x3.toInt ∧ x3.toInt ≤ -1) {c0 : Int32} (hc0 : (2060 : Int) ≤ c0.toInt ∧ c0.toInt ≤ 2060) {fc0 : List Value} (ec0 : h[a1 + 0]? = some (.inr (12, fc0))) (pc0 : fc0[25]? = some (.int c0)) :
    jCal l g 264 4 [.ref (g.2.2 + (a1 + 0)), .int x1, .int x2, .int x3] h 0 0 (kPost TTs g (EIm n) Kx_713 bk h [x1.toInt, x2.toInt, x3.toInt, c0.toInt]) := by
  refine hk bk h [.ref (g.2.2 + (a1 + 0)), .int x1, .int x2, .int x3] [x1.toInt, x2.toInt, x3.toInt, c0.toInt] hO.1 hO.2.1 hO.2.2.1 hO.2.2.2.2.2 (show 4 ≤ jmx 264 by decide +kernel) rfl (fun q hq => ?_) ⟨⟨rfl, fun i e z he hz => ?_⟩, eFm_plain (plain_app (spEnv_plain _) clEnv_plain), fun F hF => absurd hF List.not_mem_nil, fun i v hv => ?_, trivial, fun q hq => ?_, fun B hB => absurd hB List.not_mem_nil⟩
  · have hq : q ∈ ([] : List (Nat × Int × Nat)) := hq
    exact absurd hq List.not_mem_nil
  · match i, he, hz with
    | 0, he, hz => cases he; cases hz; exact hx1
    | 1, he, hz => cases he; cases hz; exact hx2
    | 2, he, hz => cases he; cases hz; exact hx3
    | 3, he, hz => cases he; cases hz; exact hc0
    | i + 4, he, _ => cases he
  · match i, hv with
    | 0, hv => cases hv; exact ⟨_, rfl, a1, ha1, rfl⟩
    | 1, hv => cases hv; exact ⟨_, rfl, x1, rfl, rfl⟩
    | 2, hv => cases hv; exact ⟨_, rfl, x2, rfl, rfl⟩
    | 3, hv => cases hv; exact ⟨_, rfl, x3, rfl, rfl⟩
    | 4, hv => cases hv
    | 5, hv => cases hv
    | 6, hv => cases hv
    | 7, hv => cases hv
    | i + 8, hv => cases hv
  · have hq2 : q = (1, 0, fcon ((25 : Nat) : Int), 3) := List.mem_singleton.mp hq
    subst hq2
    exact ⟨((25 : Nat) : Int), a1, _, c0.toInt, fcon_ok, ha1, ec0, ⟨by decide, c0, pc0, rfl⟩, rfl⟩
def plW : List aR := [(1, 9, 0, 11), (1, 10, 0, 15), (1, 11, 0, 399)]
set_option maxRecDepth 16384 in
/-- play of one fault, by either rules -/
theorem play_run (hlow : ∀ (k : Nat) (K : aK), KTx[k]? = some K → kOK TTs g (EIm n) l K) {W0 : List aR} {bk0 bk : aB} {h0 h : jH} (hO : hOK TTs g (EIm n) W0 bk0 h0 bk h) {b : Nat} (hb : bk 1 = some b) {fs : List Value} (ho : h[b + 0]? = some (.inr (12, fs))) {bv e k m : Int32} (hbv : fs[25]? = some (.int bv)) (hb2 : bv.toInt = 1130 ∨ bv.toInt = 2060)
    (hk : (k.toInt = 0 ∧ 0 ≤ e.toInt ∧ e.toInt ≤ 59) ∨ (k.toInt = 1 ∧ 0 ≤ e.toInt ∧ e.toInt ≤ 59) ∨ (k.toInt = 2 ∧ 0 ≤ e.toInt ∧ e.toInt ≤ 58)) (hm : m.toInt = -1) :
    ∃ Qp : Option Value → jH → Prop, jCal l g 264 4 [.ref (g.2.2 + (b + 0)), .int e, .int k, .int m] h 0 0 Qp ∧ ∀ v h', Qp v h' → v = none ∧ ∃ bk', hOK TTs g (EIm n) plW bk h bk' h' := by
  have fin : ∀ (K : aK) (ev : List Int) (v : Option Value) (h' : jH), K.2.2.2.2.2.2.2.1 = plW → K.2.2.2.2.1 = [(9, 0, 0, 0, 0, [])] → kPost TTs g (EIm n) K bk h ev v h' → v = none ∧ ∃ bk', hOK TTs g (EIm n) plW bk h bk' h' := by
    intro K ev v h' e1 e2 hq
    obtain ⟨bk', os, k1, -, q, hq1, hq2⟩ := hq
    rw [e2] at hq1
    rw [e1] at k1
    have hq3 : q = (9, 0, 0, 0, 0, []) := List.mem_singleton.mp hq1
    subst hq3
    exact ⟨hq2.1, bk', k1⟩
  rcases hb2 with hb2 | hb2
  · rcases hk with ⟨q1, q2⟩ | ⟨q1, q2⟩ | ⟨q1, q2⟩
    · exact ⟨_, use_706 (hlow 706 _ rfl) hO hb (by omega) (by omega) (by omega) (by omega) ho hbv, fun v h' hq => fin _ _ v h' rfl rfl hq⟩
    · exact ⟨_, use_707 (hlow 707 _ rfl) hO hb (by omega) (by omega) (by omega) (by omega) ho hbv, fun v h' hq => fin _ _ v h' rfl rfl hq⟩
    · exact ⟨_, use_708 (hlow 708 _ rfl) hO hb (by omega) (by omega) (by omega) (by omega) ho hbv, fun v h' hq => fin _ _ v h' rfl rfl hq⟩
  · rcases hk with ⟨q1, q2⟩ | ⟨q1, q2⟩ | ⟨q1, q2⟩
    · exact ⟨_, use_711 (hlow 711 _ rfl) hO hb (by omega) (by omega) (by omega) (by omega) ho hbv, fun v h' hq => fin _ _ v h' rfl rfl hq⟩
    · exact ⟨_, use_712 (hlow 712 _ rfl) hO hb (by omega) (by omega) (by omega) (by omega) ho hbv, fun v h' hq => fin _ _ v h' rfl rfl hq⟩
    · exact ⟨_, use_713 (hlow 713 _ rfl) hO hb (by omega) (by omega) (by omega) (by omega) ho hbv, fun v h' hq => fin _ _ v h' rfl rfl hq⟩
def pbW : List aR := [(1, 0, 25, 25), (1, 9, 0, 11), (1, 10, 0, 15), (1, 11, 0, 399), (1, 15, 0, 11), (1, 16, 180, 359)]
def pbK (sv : Int) : aK := (263, [some (2, 0, 0, 1, 0), some (0, sv, sv, 0, 0), some (0, 180, 180, 0, 0), none], [], [], [], [], [], pbW, 5, 0, 0)
def pbC22 (sv bv : Int) : aCu := (22, [some (2, 0, 0, 1, 0), some (0, sv, sv, 0, 0), some (0, 180, 180, 0, 0), some (0, 0, 12, 0, 0)], [(1, 0, 25, bv, bv)], [], ([(4, -1)], 13), [])
def pbC48 (sv bv : Int) : aCu := (48, [some (2, 0, 0, 1, 0), some (0, sv, sv, 0, 0), some (0, 180, 180, 0, 0), some (0, 0, 0, 0, 0)], [(1, 0, 25, bv, bv)], [], ([], 0), [])
theorem pb_ent0 : chk (TTs, KTx, KIx, pbW, Pm, 263, 12, 5, 737) (pbK 0) [pbC22 0 1130, pbC48 0 1130] [] none 300 true 0 (spState [] (pbK 0).2.1 [] [] []) 0 0 = true := by decide +kernel
theorem pb_ent1 : chk (TTs, KTx, KIx, pbW, Pm, 263, 12, 5, 737) (pbK 1) [pbC22 1 2060, pbC48 1 2060] [] none 300 true 0 (spState [] (pbK 1).2.1 [] [] []) 0 0 = true := by decide +kernel
theorem pb_ck0 : [pbC22 0 1130].all (fun C => Nat.beq C.2.1.length (jmx 263) && chk (TTs, KTx, KIx, pbW, Pm, 263, 12, 5, 737) (pbK 0) ([pbC22 0 1130] ++ [pbC48 0 1130]) [] (some C.2.2.2.2.1) 300 true C.1 (spState (kEnv (pbK 0)) C.2.1 C.2.2.1 C.2.2.2.1 C.2.2.2.2.2) 0 0) = true := by decide +kernel
theorem pb_ck1 : [pbC22 1 2060].all (fun C => Nat.beq C.2.1.length (jmx 263) && chk (TTs, KTx, KIx, pbW, Pm, 263, 12, 5, 737) (pbK 1) ([pbC22 1 2060] ++ [pbC48 1 2060]) [] (some C.2.2.2.2.1) 300 true C.1 (spState (kEnv (pbK 1)) C.2.1 C.2.2.1 C.2.2.2.1 C.2.2.2.2.2) 0 0) = true := by decide +kernel
set_option maxRecDepth 16384 in
theorem pb180_loop (hlow : ∀ (k : Nat) (K : aK), KTx[k]? = some K → kOK TTs g (EIm n) l K) {bk : aB} {h : jH} {b E : Nat} (hb : bk 1 = some b) {fs : List Value} (ho : h[b + 0]? = some (.inr (12, fs))) (hE : fs[26]? = some (.int (Int32.ofInt (E : Int)))) (hE6 : E ≤ 60) {sv bv : Int32} (hbv : bv.toInt = 1130 ∨ bv.toInt = 2060) :
    ∀ (q f : Nat), 3 * E - f = q → f ≤ 3 * E → ∀ (bk' : aB) (h' : jH) (fs' : List Value) (F : Nat → Int32), hOK TTs g (EIm n) pbW bk h bk' h' → h'[b + 0]? = some (.inr (12, fs')) → fs'[25]? = some (.int bv) → h'[b + 16]? = some (.inl (0, 360, F)) → (∀ j : Nat, j < f → j + 1 < 3 * E → 0 ≤ (F (180 + j)).toInt) →
      J l g 263 5 48 [some (.ref (g.2.2 + (b + 0))), some (.int sv), some (.int (Int32.ofInt 180)), some (.int (Int32.ofInt (f : Int)))] [] h' 0 0 (fun v h' => v = none ∧ ∃ bk', hOK TTs g (EIm n) pbW bk h bk' h' ∧ ∃ F, h'[b + 16]? = some (.inl (0, 360, F)) ∧ ∀ f : Nat, f + 1 < 3 * E → 0 ≤ (F (180 + f)).toInt) := by
  have hcls : jcN 12 = (jyN 263).cls := by decide +kernel
  have hET : (Int32.ofInt (E : Int)).toInt = (E : Int) := i32_n (by omega)
  have h3E : (Int32.ofInt 3 * Int32.ofInt (E : Int)).toInt = ((3 * E : Nat) : Int) := by
    rw [i32_mul (by rw [hET, show (Int32.ofInt 3).toInt = 3 by decide]; omega) (by rw [hET, show (Int32.ofInt 3).toInt = 3 by decide]; omega), hET, show (Int32.ofInt 3).toInt = 3 by decide]
    omega
  intro q
  induction q with
  | zero =>
    intro f h1 h2 bk' h' fs' F hO hc' hbf hF hpb
    have hfE : f = 3 * E := by omega
    obtain ⟨fs2, hc2, he2⟩ := hO.fld (k := 26) hb ty_m0 ho (by decide)
    cases hc'.symm.trans hc2
    have hft : (Int32.ofInt (f : Int)).toInt = (f : Int) := i32_n (by omega)
    refine j_iload_n (k4 := 3) (dQ (by decide +kernel)) rfl ?_
    refine j_iconst (n := 3) (dQ (by decide +kernel)) ?_
    refine j_aload_n (k4 := 0) (dQ (by decide +kernel)) rfl ?_
    refine j_get (own := 12) (i := 312) (ci := 12) (f := 26) (dQ (by decide +kernel)) hcls (by decide +kernel) hc' (n12 26 (by decide)) (he2.trans hE) ?_
    refine j_imul (dQ (by decide +kernel)) ?_
    refine j_icmp_ge (off := 62) (tgt := 117) (dQ (by decide +kernel)) (by decide) (fun _ => ?_) (fun z => absurd (le32.mpr (by rw [h3E, hft]; omega)) z)
    exact j_ret (v := none) ⟨by decide +kernel, by decide +kernel⟩ ⟨rfl, bk', hO, F, hF, fun j hj => hpb j (by omega) hj⟩ rfl
  | succ q ih =>
    intro f h1 h2 bk' h' fs' F hO hc' hbf hF hpb
    obtain ⟨fs2, hc2, he2⟩ := hO.fld (k := 26) hb ty_m0 ho (by decide)
    cases hc'.symm.trans hc2
    have hb' := hO.2.2.2.2.1 1 b hb
    have hft : (Int32.ofInt (f : Int)).toInt = (f : Int) := i32_n (by omega)
    have hat : (Int32.ofInt 180 + Int32.ofInt (f : Int)).toInt = ((180 + f : Nat) : Int) := by
      rw [i32_add (by rw [hft, show (Int32.ofInt 180).toInt = 180 by decide]; omega) (by rw [hft, show (Int32.ofInt 180).toInt = 180 by decide]; omega), hft, show (Int32.ofInt 180).toInt = 180 by decide]
      omega
    have hnext : Int32.ofInt (f : Int) + Int32.ofInt 1 = Int32.ofInt ((f + 1 : Nat) : Int) := i32_eq (by rw [i32_addn hft (by omega) (by omega), i32_n (by omega)]; omega)
    refine j_iload_n (k4 := 3) (dQ (by decide +kernel)) rfl ?_
    refine j_iconst (n := 3) (dQ (by decide +kernel)) ?_
    refine j_aload_n (k4 := 0) (dQ (by decide +kernel)) rfl ?_
    refine j_get (own := 12) (i := 312) (ci := 12) (f := 26) (dQ (by decide +kernel)) hcls (by decide +kernel) hc' (n12 26 (by decide)) (he2.trans hE) ?_
    refine j_imul (dQ (by decide +kernel)) ?_
    refine j_icmp_ge (off := 62) (tgt := 117) (dQ (by decide +kernel)) (by decide) (fun z => absurd (le32.mp z) (by rw [h3E, hft]; omega)) (fun _ => ?_)
    refine j_aload_n (k4 := 0) (dQ (by decide +kernel)) rfl ?_
    refine j_get (own := 12) (i := 63) (ci := 12) (f := 32) (dQ (by decide +kernel)) hcls (by decide +kernel) hc' (n12 32 (by decide)) (m_ref hO.1 hb' hc' rfl) ?_
    refine j_iload_n (k4 := 2) (dQ (by decide +kernel)) rfl ?_
    refine j_iload_n (k4 := 3) (dQ (by decide +kernel)) rfl ?_
    refine j_iadd (dQ (by decide +kernel)) ?_
    refine j_iconst (n := -1) (dQ (by decide +kernel)) ?_
    refine j_iast (dQ (by decide +kernel)) hF (i32_in (by rw [hat]; omega) (by rw [hat]; omega)) ?_
    rw [i32_at hat]
    have hO1 := hO.st (i := 180 + f) (v := Int32.ofInt (-1)) (lo := 180) (hi := 359) hb' ty_m16 hF (sg1 (by decide)) (by decide) (by omega) (by omega) (by decide)
    have l16 : b + 16 < h'.length := (List.getElem?_eq_some_iff.mp hF).1
    have hc1 : (h'.set (b + 16) (.inl (0, 360, upd F (180 + f) (Int32.ofInt (-1)))))[b + 0]? = some (.inr (12, fs')) := by rw [List.getElem?_set_ne (by omega)]; exact hc'
    have hF1 : (h'.set (b + 16) (.inl (0, 360, upd F (180 + f) (Int32.ofInt (-1)))))[b + 16]? = some (.inl (0, 360, upd F (180 + f) (Int32.ofInt (-1)))) := List.getElem?_set_self l16
    generalize (h'.set (b + 16) (.inl (0, 360, upd F (180 + f) (Int32.ofInt (-1))))) = h1 at hO1 hc1 hF1
    have hold : ∀ j : Nat, j < f → j + 1 < 3 * E → 0 ≤ (upd F (180 + f) (Int32.ofInt (-1)) (180 + j)).toInt := fun j j1 j2 => by
      rw [show upd F (180 + f) (Int32.ofInt (-1)) (180 + j) = F (180 + j) from if_neg (by omega)]
      exact hpb j j1 j2
    refine j_iload_n (k4 := 3) (dQ (by decide +kernel)) rfl ?_
    refine j_iconst (n := 3) (dQ (by decide +kernel)) ?_
    refine j_aload_n (k4 := 0) (dQ (by decide +kernel)) rfl ?_
    refine j_get (own := 12) (i := 312) (ci := 12) (f := 26) (dQ (by decide +kernel)) hcls (by decide +kernel) hc1 (n12 26 (by decide)) (he2.trans hE) ?_
    refine j_imul (dQ (by decide +kernel)) ?_
    refine j_iconst (n := 1) (dQ (by decide +kernel)) ?_
    refine j_isub (dQ (by decide +kernel)) ?_
    have h3E1 : (Int32.ofInt 3 * Int32.ofInt (E : Int) - Int32.ofInt 1).toInt = ((3 * E : Nat) : Int) - 1 := by
      rw [i32_sub (by rw [h3E, show (Int32.ofInt 1).toInt = 1 by decide]; omega) (by rw [h3E, show (Int32.ofInt 1).toInt = 1 by decide]; omega), h3E, show (Int32.ofInt 1).toInt = 1 by decide]
    refine j_icmp_ge (off := 35) (tgt := 111) (dQ (by decide +kernel)) (by decide) (fun z => ?_) (fun z => ?_)
    · have z1 := le32.mp z
      rw [h3E1, hft] at z1
      refine j_iinc (i := 3) (n := 1) (dQ (by decide +kernel)) (by decide +kernel) rfl ?_
      refine j_goto (off := -66) (tgt := 48) (dQ (by decide +kernel)) (by decide) ?_
      show J l g 263 5 48 [some (.ref (g.2.2 + (b + 0))), some (.int sv), some (.int (Int32.ofInt 180)), some (.int (Int32.ofInt (f : Int) + Int32.ofInt 1))] [] h1 0 0 _
      rw [hnext]
      exact ih (f + 1) (by omega) (by omega) bk' h1 fs' _ hO1 hc1 hbf hF1 (fun j j1 j2 => hold j (by omega) j2)
    · have z1 : f + 1 < 3 * E := by
        rcases Nat.lt_or_ge (f + 1) (3 * E) with z2 | z2
        · exact z2
        · exact absurd (le32.mpr (by rw [h3E1, hft]; omega)) z
      have c3 : (Int32.ofInt 3).toInt = 3 := by decide
      have hdv : (Int32.ofInt (f : Int) / Int32.ofInt 3).toInt = (f : Int) / 3 := by rw [i32_div (by omega) (by omega), hft, c3]
      have hrm : (Int32.ofInt (f : Int) - Int32.ofInt (f : Int) / Int32.ofInt 3 * Int32.ofInt 3).toInt = (f : Int) % 3 := by rw [i32_rem (by omega) (by omega), hft, c3]
      obtain ⟨Qp, hcal, hQp⟩ := play_run hlow hO1 hb' hc1 (e := Int32.ofInt (f : Int) / Int32.ofInt 3) (k := Int32.ofInt (f : Int) - Int32.ofInt (f : Int) / Int32.ofInt 3 * Int32.ofInt 3) (m := Int32.ofInt (-1)) hbf hbv (by rw [hdv, hrm]; omega) (by decide)
      refine j_aload_n (k4 := 0) (dQ (by decide +kernel)) rfl ?_
      refine j_iload_n (k4 := 3) (dQ (by decide +kernel)) rfl ?_
      refine j_iconst (n := 3) (dQ (by decide +kernel)) ?_
      refine j_idiv (dQ (by decide +kernel)) (by decide) ?_
      refine j_iload_n (k4 := 3) (dQ (by decide +kernel)) rfl ?_
      refine j_iconst (n := 3) (dQ (by decide +kernel)) ?_
      refine j_irem (dQ (by decide +kernel)) (by decide) ?_
      refine j_iconst (n := -1) (dQ (by decide +kernel)) ?_
      refine j_cV (own := 12) (i := 328) (y2 := 264) (d2 := 4) (mc := 0) (ms := 0) (kc := 0) (ks := 0) (a := b + 0) (As := [.int (Int32.ofInt (f : Int) / Int32.ofInt 3), .int (Int32.ofInt (f : Int) - Int32.ofInt (f : Int) / Int32.ofInt 3 * Int32.ofInt 3), .int (Int32.ofInt (-1))]) (st := []) (dQ (by decide +kernel)) hcls (by decide +kernel) (by decide) (by decide +kernel) (show 3 = jnp 264 by decide +kernel) (by decide) (by decide) hc1 (fun r hr => by cases hr; decide +kernel) hcal (fun v h2 hq => ?_)
      obtain ⟨rfl, bk2, k1⟩ := hQp v h2 hq
      have hb2 := k1.2.2.2.2.1 1 b hb'
      obtain ⟨fs2, hc2, hby2⟩ := k1.fld (k := 25) hb' ty_m0 hc1 (by decide)
      obtain ⟨F2, hF2, hF2e⟩ := k1.arr (lo := 0) (hi := 359) hb' ty_m16 hF1 (by decide)
      have hO2 := hO1.tr (W' := plW) (by decide) k1
      refine j_aload_n (k4 := 0) (dQ (by decide +kernel)) rfl ?_
      refine j_get (own := 12) (i := 63) (ci := 12) (f := 32) (dQ (by decide +kernel)) hcls (by decide +kernel) hc2 (n12 32 (by decide)) (m_ref hO2.1 hb2 hc2 rfl) ?_
      refine j_iload_n (k4 := 2) (dQ (by decide +kernel)) rfl ?_
      refine j_iload_n (k4 := 3) (dQ (by decide +kernel)) rfl ?_
      refine j_iadd (dQ (by decide +kernel)) ?_
      refine j_aload_n (k4 := 0) (dQ (by decide +kernel)) rfl ?_
      refine j_cV (own := 12) (i := 332) (y2 := 265) (d2 := 2) (mc := 0) (ms := 0) (kc := 0) (ks := 0) (a := b + 0) (As := []) (st := [.int (Int32.ofInt 180 + Int32.ofInt (f : Int)), .ref (g.2.2 + (b + 16))]) (dQ (by decide +kernel)) hcls (by decide +kernel) (by decide) (by decide +kernel) (show 0 = jnp 265 by decide +kernel) (by decide) (by show (1 + (1 + 0) : Nat) ≤ 8; decide) hc2 (fun r hr => by cases hr; decide +kernel) (use_630 (hlow 630 _ rfl) hO2 hb2) (fun v h3 hq => ?_)
      obtain ⟨bk3, os, k2, -, q', hq1, hq2⟩ := hq
      have hq3 : q' = (0, 0, 2, 0, 0, []) := List.mem_singleton.mp hq1
      subst hq3
      obtain ⟨x, rfl, ⟨x1, x2⟩, -, -⟩ := hq2
      have x1 : 0 ≤ x.toInt := x1
      have x2 : x.toInt ≤ 2 := x2
      have hb3 := k2.2.2.2.2.1 1 b hb2
      obtain ⟨fs3, hc3, hby3⟩ := k2.fld (k := 25) hb2 ty_m0 hc2 (by decide)
      obtain ⟨F3, hF3, hF3e⟩ := k2.arr (lo := 0) (hi := 359) hb2 ty_m16 hF2 (by decide)
      have hO3 := hO2.tr (by decide) k2
      refine j_iast (dQ (by decide +kernel)) hF3 (i32_in (by rw [hat]; omega) (by rw [hat]; omega)) ?_
      rw [i32_at hat]
      have hO4 := hO3.st (i := 180 + f) (v := x) (lo := 180) (hi := 359) hb3 ty_m16 hF3 (sg1 (by omega)) (by decide) (by omega) (by omega) (by decide)
      refine j_iload_n (k4 := 2) (dQ (by decide +kernel)) rfl ?_
      refine j_if_ne (off := 8) (tgt := 111) (dQ (by decide +kernel)) (by decide) (fun _ => ?_) (fun z => absurd (by decide) z)
      refine j_iinc (i := 3) (n := 1) (dQ (by decide +kernel)) (by decide +kernel) rfl ?_
      refine j_goto (off := -66) (tgt := 48) (dQ (by decide +kernel)) (by decide) ?_
      show J l g 263 5 48 [some (.ref (g.2.2 + (b + 0))), some (.int sv), some (.int (Int32.ofInt 180)), some (.int (Int32.ofInt (f : Int) + Int32.ofInt 1))] [] _ 0 0 _
      rw [hnext]
      refine ih (f + 1) (by omega) (by omega) bk3 _ fs3 _ hO4 (by rw [List.getElem?_set_ne (by omega)]; exact hc3) ((hby3.trans hby2).trans hbf) (List.getElem?_set_self (List.getElem?_eq_some_iff.mp hF3).1) (fun j j1 j2 => ?_)
      by_cases hjf : j = f
      · subst hjf
        rw [show upd F3 (180 + j) x (180 + j) = x from if_pos rfl]
        exact x1
      · rw [show upd F3 (180 + f) x (180 + j) = F3 (180 + j) from if_neg (by omega), hF3e (180 + j) (by omega) (by omega), hF2e (180 + j) (by omega) (by omega)]
        exact hold j (by omega) j2
theorem pt_pb0 {W0 W1 : List aR} {bk0 bk : aB} {h0 h : jH} (hO : hOK TTs g (EIm n) W0 bk0 h0 bk h) {a1 : Nat} (ha1 : bk 1 = some a1) {x1 : Int32} (hx1 : (0 : Int) ≤ x1.toInt ∧ x1.toInt ≤ 0) {x2 : Int32} (hx2 : (180 : Int) ≤ x2.toInt ∧ x2.toInt ≤ 180) {o3 : Option Value} :
    PT TTs g (EIm n) W1 bk h [x1.toInt, x2.toInt] 263 [x1.toInt, x2.toInt] bk [some (.ref (g.2.2 + (a1 + 0))), some (.int x1), some (.int x2), o3] [] h (spState [] [some (2, 0, 0, 1, 0), some (0, 0, 0, 0, 0), some (0, 180, 180, 0, 0), none] [] [] []) ∧ eIv [x1.toInt, x2.toInt] (spEnv [some (2, 0, 0, 1, 0), some (0, 0, 0, 0, 0), some (0, 180, 180, 0, 0), none] ++ clEnv []) := by
  have hI : eIv [x1.toInt, x2.toInt] (spEnv [some (2, 0, 0, 1, 0), some (0, 0, 0, 0, 0), some (0, 180, 180, 0, 0), none] ++ clEnv []) := by
    refine ⟨rfl, fun i e z he hz => ?_⟩
    match i, he, hz with
    | 0, he, hz => cases he; cases hz; exact hx1
    | 1, he, hz => cases he; cases hz; exact hx2
    | i + 2, he, _ => cases he
  refine ⟨⟨⟨hI, eFm_plain (plain_app (spEnv_plain _) clEnv_plain), fun F hF => absurd hF List.not_mem_nil, fun i v hv => ?_, trivial, fun q hq => ?_, fun B hB => ?_⟩, ⟨hO.1, hO.2.1, hO.2.2.1, UN.rf, fun _ _ q => q, hO.2.2.2.2.2⟩, (show 4 = jmx 263 by decide +kernel), fun i z hz => hz⟩, hI⟩
  · match i, hv with
    | 0, hv => cases hv; exact ⟨_, rfl, a1, ha1, rfl⟩
    | 1, hv => cases hv; exact ⟨_, rfl, x1, rfl, rfl⟩
    | 2, hv => cases hv; exact ⟨_, rfl, x2, rfl, rfl⟩
    | 3, hv => cases hv
    | i + 4, hv => cases hv
  · exact absurd hq List.not_mem_nil
  · exact absurd hB List.not_mem_nil
theorem pt_pb1 {W0 W1 : List aR} {bk0 bk : aB} {h0 h : jH} (hO : hOK TTs g (EIm n) W0 bk0 h0 bk h) {a1 : Nat} (ha1 : bk 1 = some a1) {x1 : Int32} (hx1 : (1 : Int) ≤ x1.toInt ∧ x1.toInt ≤ 1) {x2 : Int32} (hx2 : (180 : Int) ≤ x2.toInt ∧ x2.toInt ≤ 180) {o3 : Option Value} :
    PT TTs g (EIm n) W1 bk h [x1.toInt, x2.toInt] 263 [x1.toInt, x2.toInt] bk [some (.ref (g.2.2 + (a1 + 0))), some (.int x1), some (.int x2), o3] [] h (spState [] [some (2, 0, 0, 1, 0), some (0, 1, 1, 0, 0), some (0, 180, 180, 0, 0), none] [] [] []) ∧ eIv [x1.toInt, x2.toInt] (spEnv [some (2, 0, 0, 1, 0), some (0, 1, 1, 0, 0), some (0, 180, 180, 0, 0), none] ++ clEnv []) := by
  have hI : eIv [x1.toInt, x2.toInt] (spEnv [some (2, 0, 0, 1, 0), some (0, 1, 1, 0, 0), some (0, 180, 180, 0, 0), none] ++ clEnv []) := by
    refine ⟨rfl, fun i e z he hz => ?_⟩
    match i, he, hz with
    | 0, he, hz => cases he; cases hz; exact hx1
    | 1, he, hz => cases he; cases hz; exact hx2
    | i + 2, he, _ => cases he
  refine ⟨⟨⟨hI, eFm_plain (plain_app (spEnv_plain _) clEnv_plain), fun F hF => absurd hF List.not_mem_nil, fun i v hv => ?_, trivial, fun q hq => ?_, fun B hB => ?_⟩, ⟨hO.1, hO.2.1, hO.2.2.1, UN.rf, fun _ _ q => q, hO.2.2.2.2.2⟩, (show 4 = jmx 263 by decide +kernel), fun i z hz => hz⟩, hI⟩
  · match i, hv with
    | 0, hv => cases hv; exact ⟨_, rfl, a1, ha1, rfl⟩
    | 1, hv => cases hv; exact ⟨_, rfl, x1, rfl, rfl⟩
    | 2, hv => cases hv; exact ⟨_, rfl, x2, rfl, rfl⟩
    | 3, hv => cases hv
    | i + 4, hv => cases hv
  · exact absurd hq List.not_mem_nil
  · exact absurd hB List.not_mem_nil
set_option maxRecDepth 16384 in
theorem pb180_run (hlow : ∀ (k : Nat) (K : aK), KTx[k]? = some K → kOK TTs g (EIm n) l K) {W0 : List aR} {bk0 bk : aB} {h0 h : jH} (hO : hOK TTs g (EIm n) W0 bk0 h0 bk h) {b E : Nat} (hb : bk 1 = some b) {fs : List Value} (ho : h[b + 0]? = some (.inr (12, fs))) (hE : fs[26]? = some (.int (Int32.ofInt (E : Int)))) (hE6 : E ≤ 60) {sv : Int32} (hsv : sv.toInt = 0 ∨ sv.toInt = 1) :
    jCal l g 263 5 [.ref (g.2.2 + (b + 0)), .int sv, .int (Int32.ofInt 180)] h 0 0 (fun v h' => v = none ∧ ∃ bk', hOK TTs g (EIm n) pbW bk h bk' h' ∧ ∃ F, h'[b + 16]? = some (.inl (0, 360, F)) ∧ ∀ f : Nat, f + 1 < 3 * E → 0 ≤ (F (180 + f)).toInt) := by
  refine jCal_of (by decide +kernel) (show 3 ≤ jmx 263 by decide +kernel) ?_
  show J l g 263 5 0 [some (.ref (g.2.2 + (b + 0))), some (.int sv), some (.int (Int32.ofInt 180)), none] [] h 0 0 _
  have hcls : jcN 12 = (jyN 263).cls := by decide +kernel
  have c180 : (Int32.ofInt 180).toInt = 180 := by decide
  have hand : ∀ (sz bz : Int) (bv : Int32), bv.toInt = bz → (bz = 1130 ∨ bz = 2060) → sv.toInt = sz → ∀ μ : Int, 0 ≤ μ → CutP TTs g (EIm n) bk h [sv.toInt, (Int32.ofInt 180).toInt] l 5 (fun v h' => v = none ∧ ∃ bk', hOK TTs g (EIm n) pbW bk h bk' h' ∧ ∃ F, h'[b + 16]? = some (.inl (0, 360, F)) ∧ ∀ f : Nat, f + 1 < 3 * E → 0 ≤ (F (180 + f)).toInt) (pbK sz) (pbC48 sz bz) μ := by
    intro sz bz bv e1 e2 e3 μ _ vs bk' al h' hp _
    obtain ⟨⟨i1, i2, i3, i4, i5, i6, i7⟩, hO', hlen, hpre⟩ := hp
    have hlen : al.length = 4 := hlen.trans (show jmx 263 = 4 by decide +kernel)
    have hO' : hOK TTs g (EIm n) pbW bk h bk' h' := hO'
    obtain ⟨a0, a1, a2, a3, hal⟩ := list4 hlen
    subst hal
    obtain ⟨w0, y0, b', hb', rfl⟩ := i4 0 (2, 1, 0) rfl
    obtain ⟨w1, y1, s1, rfl, z1⟩ := i4 1 (0, 2, 0) rfl
    obtain ⟨w2, y2, s2, rfl, z2⟩ := i4 2 (0, 3, 0) rfl
    obtain ⟨w3, y3, s3, rfl, z3⟩ := i4 3 (0, 4, 0) rfl
    have r0 := Option.some.inj y0
    have r1 := Option.some.inj y1
    have r2 := Option.some.inj y2
    have r3 := Option.some.inj y3
    subst r0 r1 r2 r3
    have j1 := i1.2 2 (eNew sz sz none) _ rfl z1
    have j2 := i1.2 3 (eNew 180 180 none) _ rfl z2
    have j3 := i1.2 4 (eNew 0 0 none) _ rfl z3
    dsimp only [eNew] at j1 j2 j3
    have t1 : s1 = sv := i32_eq (by omega)
    have t2 : s2 = Int32.ofInt 180 := i32_eq (by omega)
    have t3 : s3 = Int32.ofInt ((0 : Nat) : Int) := i32_eq (by rw [show (Int32.ofInt ((0 : Nat) : Int)).toInt = 0 by decide]; omega)
    subst t1 t2 t3
    have hbx := hO'.2.2.2.2.1 1 b hb
    have hb' : bk' 1 = some b' := hb'
    cases hbx.symm.trans hb'
    obtain ⟨z, b2, c2, x, u1, u2, u3, u4, u5⟩ := i6 (1, 0, fcon ((25 : Nat) : Int), 5) List.mem_cons_self
    have j5 := i1.2 5 (eNew bz bz none) _ rfl u5
    dsimp only [eNew] at j5
    have u2 : bk' 1 = some b2 := u2
    cases hbx.symm.trans u2
    obtain ⟨fs', hc', hf'⟩ := hO'.fld (k := 26) hb ty_m0 ho (by decide)
    have u3 : h'[b + 0]? = some c2 := u3
    cases hc'.symm.trans u3
    have u1 : some (25 : Int) = some z := fcon_ok.symm.trans u1
    cases u1
    obtain ⟨-, bx, u6, u7⟩ := u4
    have u6 : fs'[25]? = some (.int bx) := u6
    obtain ⟨F, hF, -⟩ := m_arr hO'.1 hbx ty_m16
    exact pb180_loop hlow hb ho hE hE6 (bv := bx) (by omega) (3 * E) 0 (by omega) (by omega) bk' h' fs' F hO' hc' u6 hF (fun j hj => absurd hj (by omega))
  rcases hsv with hsv | hsv
  · have hM : mOK TTs g (EIm n) Pm KTx l (pbK 0).1 12 737 := ⟨TTs_cl, TTs_sg, EIm_ok, hcls, fun k K hK _ => hlow k K hK⟩
    obtain ⟨hp, hI⟩ := pt_pb0 (W1 := pbW) (o3 := none) hO hb (x1 := sv) (by omega) (x2 := Int32.ofInt 180) (by omega)
    have hno : ∀ v h', kPost TTs g (EIm n) (pbK 0) bk h [sv.toInt, (Int32.ofInt 180).toInt] v h' → (v = none ∧ ∃ bk', hOK TTs g (EIm n) pbW bk h bk' h' ∧ ∃ F, h'[b + 16]? = some (.inl (0, 360, F)) ∧ ∀ f : Nat, f + 1 < 3 * E → 0 ≤ (F (180 + f)).toInt) := fun v h' hq => by
      obtain ⟨bk', os, k1, -, q, hq1, -⟩ := hq
      exact absurd hq1 List.not_mem_nil
    have hcut := cuts_okQ (l := l) (KI := KIx) (own := 12) (n := 737) (fuel := 300) (sp := []) (K := pbK 0) (bk0 := bk) (h0 := h) (ev := [sv.toInt, (Int32.ofInt 180).toInt]) hM hI rfl hno pb_ck0 (fun C hC μ hμ => by
      rw [List.mem_singleton.mp hC]
      exact hand 0 1130 (Int32.ofInt 1130) (by decide) (by omega) hsv μ hμ)
    exact chk_okQ (KI := KIx) (ev' := [sv.toInt, (Int32.ofInt 180).toInt]) hM hI rfl (fun i z hz => hz) hno (fun C hC μ' v1 _ => hcut C hC μ' v1) 300 true 0 _ _ _ pb_ent0 _ bk _ [] h hp
  · have hM : mOK TTs g (EIm n) Pm KTx l (pbK 1).1 12 737 := ⟨TTs_cl, TTs_sg, EIm_ok, hcls, fun k K hK _ => hlow k K hK⟩
    obtain ⟨hp, hI⟩ := pt_pb1 (W1 := pbW) (o3 := none) hO hb (x1 := sv) (by omega) (x2 := Int32.ofInt 180) (by omega)
    have hno : ∀ v h', kPost TTs g (EIm n) (pbK 1) bk h [sv.toInt, (Int32.ofInt 180).toInt] v h' → (v = none ∧ ∃ bk', hOK TTs g (EIm n) pbW bk h bk' h' ∧ ∃ F, h'[b + 16]? = some (.inl (0, 360, F)) ∧ ∀ f : Nat, f + 1 < 3 * E → 0 ≤ (F (180 + f)).toInt) := fun v h' hq => by
      obtain ⟨bk', os, k1, -, q, hq1, -⟩ := hq
      exact absurd hq1 List.not_mem_nil
    have hcut := cuts_okQ (l := l) (KI := KIx) (own := 12) (n := 737) (fuel := 300) (sp := []) (K := pbK 1) (bk0 := bk) (h0 := h) (ev := [sv.toInt, (Int32.ofInt 180).toInt]) hM hI rfl hno pb_ck1 (fun C hC μ hμ => by
      rw [List.mem_singleton.mp hC]
      exact hand 1 2060 (Int32.ofInt 2060) (by decide) (by omega) hsv μ hμ)
    exact chk_okQ (KI := KIx) (ev' := [sv.toInt, (Int32.ofInt 180).toInt]) hM hI rfl (fun i z hz => hz) hno (fun C hC μ' v1 _ => hcut C hC μ' v1) 300 true 0 _ _ _ pb_ent1 _ bk _ [] h hp
end MR
