/-! NEW OBJECTS: new, dup, the constructor -/
section NW
variable {l : Launch} {g : jG} {y d pc own : Nat} {al : List (Option Value)} {st : List Value} {h : jH} {kc ks : Nat} {Q : Option Value → jH → Prop}
theorem new_run {i j ci y2 own2 fuel d2 mc ms : Nat} {L : List cV} {H : List cC} (hd0 : decode (jbC y) pc = .ok (.new i, 3)) (hd1 : decode (jbC y) (pc + 3) = .ok (.dup, 1)) (hd2 : decode (jbC y) (pc + 3 + 1) = .ok (.invokespecial j, 3)) (ho : jcN own = (jyN y).cls) (hi : (own, i, ci) ∈ jeL) (hL : cdfT[ci]? = some L) (hj : (own, j, y2) ∈ jeM ∨ (own, j, y2) ∈ jeN) (hy : y2 < 315) (hk : jkd y2 = 2) (hr0 : jrT y2 = none) (hi0 : (jyN y2).name = "<init>") (hyI : y2 ∈ jeI) (hpl : plainName (jyN y2).cls = true) (ho2 : jcN own2 = (jyN y2).cls) (hnp : jnp y2 = 0) (hmx : 1 ≤ jmx y2) (hd : d2 + 1 ≤ d) (hst : (st.map fun v => v.category).sum ≤ 7)
    (hc : cev fuel y2 own2 d2 0 (cloc y2 [(1, 0)]) [] [.inr (ci, L)] = some (H, mc, ms))
    (k : J l g y d (pc + 3 + 1 + 3) al (.ref (g.2.2 + h.length) :: st) (chp g h H) kc ks Q) : J l g y d pc al st h (1 + (mc + kc)) (L.length + (ms + ks)) Q := by
  obtain ⟨r, a1, a2, a3, a4, a5, a6⟩ := cdfT_at hL
  rw [a2]
  refine j_new (fs := L.map (cval g h.length)) hd0 ho hi a1 a3 a4 a5 (fun ty hty q hq => ?_) ?_
  · obtain ⟨t, t1, t2⟩ := a6 q hq
    rw [hty q hq] at t1
    cases t1
    have hq2 : q < L.length := by omega
    rw [List.getElem?_eq_getElem hq2] at t2
    rw [vp_V, List.getD_eq_getElem?_getD, List.getElem?_map, List.getElem?_eq_getElem hq2]
    exact cdef_val t2
  · refine j_dup hd1 rfl ?_
    have e : h ++ [.inr (ci, L.map (cval g h.length))] = chp g h [.inr (ci, L)] := rfl
    rw [e]
    have hav : ([(1, 0)] : List cV).all (fun v => Nat.ble v.1 2) = true := rfl
    have hcal : jCal l g y2 d2 [.ref (g.2.2 + h.length)] (chp g h [.inr (ci, L)]) mc ms (fun v h' => v = none ∧ h' = chp g h H) := by
      refine jCal_of hpl (show 1 ≤ jmx y2 from hmx) ?_
      have e2 : jal y2 [.ref (g.2.2 + h.length)] = cL g h.length (cloc y2 [(1, 0)]) := by
        have := cloc_jal (g := g) (B := h.length) (y2 := y2) (av := [(1, 0)]) hav
        exact this
      rw [e2]
      exact cev_ok fuel y2 own2 d2 0 _ [] _ (H, mc, ms) ho2 hc
    obtain ⟨m1, m2, -, -⟩ := je_mem hy
    show J l g y d (pc + 3 + 1) al (([] : List Value).reverse ++ .ref (g.2.2 + h.length) :: (.ref (g.2.2 + h.length) :: st)) _ _ _ _
    have hst2 : ((Value.ref (g.2.2 + h.length) :: st).map fun v => v.category).sum ≤ 8 := by
      show 1 + (st.map fun v => v.category).sum ≤ 8
      omega
    rcases hj with hj | hj
    · exact j_callI hd2 ho hj hy m1 m2 hk hr0 hi0 hyI hnp.symm hd hst2 hcal (fun v h' hq => by
        obtain ⟨rfl, rfl⟩ := hq
        exact k)
    · exact j_callIN hd2 ho hj hy m1 m2 hk hr0 hi0 hyI hnp.symm hd hst2 hcal (fun v h' hq => by
        obtain ⟨rfl, rfl⟩ := hq
        exact k)
/-- the constructors' runs: cells and slots, and what they leave -/
def TT_6n : List aCT := match TT_6 with
  | .inr q :: t => .inr (q.1, q.2.set 11 (4, 0, 0, 0, 37)) :: t
  | l => l
def iniB (y own B nc ns : Nat) (ts : List aCT) : Bool := match cdfT[own]? with
  | some L => (match cev 500 y own 8 0 (cloc y [(1, 0)]) [] [.inr (own, L)] with
    | some r => ctyH B ts r.1 && Nat.beq r.2.1 nc && Nat.beq r.2.2 ns
    | none => false)
  | none => false
theorem iniB_ok {y own B nc ns : Nat} {ts : List aCT} (h : iniB y own B nc ns ts = true) : ∃ L H, cdfT[own]? = some L ∧ cev 500 y own 8 0 (cloc y [(1, 0)]) [] [.inr (own, L)] = some (H, nc, ns) ∧ ctyH B ts H = true := by
  unfold iniB at h
  split at h
  · rename_i L hL
    split at h
    · rename_i r hr
      obtain ⟨H, a, b⟩ := r
      simp only [Bool.and_eq_true] at h
      have e1 := Nat.eq_of_beq_eq_true h.1.2
      have e2 := Nat.eq_of_beq_eq_true h.2
      subst e1
      subst e2
      exact ⟨L, H, hL, hr, h.1.1⟩
    · cases h
  · cases h
theorem ini_0 : iniB 0 11 0 61 6281 TT_0 = true := by decide +kernel
theorem ini_2 : iniB 2 7 2 47 4287 TT_2 = true := by decide +kernel
theorem ini_3 : iniB 2 7 3 47 4287 TT_3 = true := by decide +kernel
theorem ini_7 : iniB 2 7 7 47 4287 TT_7 = true := by decide +kernel
theorem ini_4 : iniB 96 9 4 20 1734 TT_4 = true := by decide +kernel
theorem ini_5 : iniB 96 9 5 20 1734 TT_5 = true := by decide +kernel
theorem ini_6 : iniB 136 2 6 6 15043 TT_6n = true := by decide +kernel
theorem on_2 : only3 2 0 0 1 = true := by decide +kernel
theorem on_3 : only3 3 0 0 2 = true := by decide +kernel
theorem on_4 : only3 4 0 0 9 = true := by decide +kernel
theorem on_5 : only3 5 0 0 10 = true := by decide +kernel
theorem on_6 : only3 6 0 0 11 = true := by decide +kernel
end NW
