/-! call pairs: mend, mended, image, back (written by wip/groupB/gen_q6.py) -/
section QJ
variable {l : Launch} {g : jG} {n : Int}
section XB
variable {h : jH}
set_option maxRecDepth 8192 in
theorem xk_back_l {b0 : Nat} {fsx : List Value} {x1 : Int32} (hx : h[b0 + 0]? = some (.inr (11, fsx))) (lx : fsx.length = 12) (px0 : fsx[0]? = some (.ref (g.2.2 + (b0 + 1)))) (u : x1.toInt < 0) : jCal l g 200 4 [.ref (g.2.2 + (b0 + 0)), .int x1] h 0 0 (fun v h' => v = some (.int (Int32.ofInt (-1))) ∧ h' = (h.set (b0 + 0) (.inr (11, (fsx.set 7 (.int (Int32.ofInt (-1)))))))) := by
  have hcls : jcN 11 = (jyN 200).cls := by decide +kernel
  have cn0 : (Int32.ofInt (-1)).toInt = -1 := by decide
  refine jCal_of (by decide +kernel) (show 2 ≤ jmx 200 by decide +kernel) ?_
  show J l g 200 4 0 [some (.ref (g.2.2 + (b0 + 0))), some (.int x1), none] [] h 0 0 _
  refine j_iload_n (k4 := 1) (by decide +kernel) rfl ?_
  refine j_if_lt (off := 8) (tgt := 9) (by decide +kernel) (by decide) (fun _ => ?_) (fun q => absurd (i32_lt.mpr (by rw [i32_z]; omega)) q)
  refine j_aload_n (k4 := 0) (by decide +kernel) rfl ?_
  refine j_iconst (n := (-1)) (by decide +kernel) ?_
  refine j_callV (own := 11) (i := 41) (y2 := 16) (d2 := 1) (mc := 0) (ms := 0) (kc := 0) (ks := 0) (a := b0 + 0) (As := [.int (Int32.ofInt (-1))]) (st := []) (by decide +kernel) hcls (by decide +kernel) (by decide) (by decide +kernel) (by decide +kernel) (by decide +kernel) (by decide +kernel) (by decide +kernel) (show 1 = jnp 16 by decide +kernel) (by decide) (show 0 ≤ 8 by decide) hx (fun r hr => by cases hr; decide +kernel) (x_refuse hx lx) (fun v hv2 hq => ?_)
  obtain ⟨rfl, rfl⟩ := hq
  have n3 : (fsx.set 7 (.int (Int32.ofInt (-1)))).length = 12 := by rw [List.length_set]; exact lx
  have f4 : (fsx.set 7 (.int (Int32.ofInt (-1))))[0]? = some (.ref (g.2.2 + (b0 + 1))) := by
    rw [List.getElem?_set_ne (by decide)]
    exact px0
  have k5 : (h.set (b0 + 0) (.inr (11, (fsx.set 7 (.int (Int32.ofInt (-1)))))))[b0 + 0]? = some (.inr (11, (fsx.set 7 (.int (Int32.ofInt (-1)))))) := List.getElem?_set_self (List.getElem?_eq_some_iff.mp hx).1
  exact j_ret (v := some (.int (Int32.ofInt (-1)))) ⟨by decide +kernel, Or.inl (by decide +kernel)⟩ ⟨rfl, rfl⟩ rfl
set_option maxRecDepth 8192 in
theorem xk_back_h {b0 : Nat} {fsx : List Value} {x1 : Int32} (hx : h[b0 + 0]? = some (.inr (11, fsx))) (lx : fsx.length = 12) (px0 : fsx[0]? = some (.ref (g.2.2 + (b0 + 1)))) (u : 1 < x1.toInt) : jCal l g 200 4 [.ref (g.2.2 + (b0 + 0)), .int x1] h 0 0 (fun v h' => v = some (.int (Int32.ofInt (-1))) ∧ h' = (h.set (b0 + 0) (.inr (11, (fsx.set 7 (.int (Int32.ofInt (-1)))))))) := by
  have hcls : jcN 11 = (jyN 200).cls := by decide +kernel
  have cn0 : (Int32.ofInt 2).toInt = 2 := by decide
  have cn1 : (Int32.ofInt (-1)).toInt = -1 := by decide
  refine jCal_of (by decide +kernel) (show 2 ≤ jmx 200 by decide +kernel) ?_
  show J l g 200 4 0 [some (.ref (g.2.2 + (b0 + 0))), some (.int x1), none] [] h 0 0 _
  refine j_iload_n (k4 := 1) (by decide +kernel) rfl ?_
  refine j_if_lt (off := 8) (tgt := 9) (by decide +kernel) (by decide) (fun q => absurd (i32_lt.mp q) (by rw [i32_z]; omega)) (fun _ => ?_)
  refine j_iload_n (k4 := 1) (by decide +kernel) rfl ?_
  refine j_iconst (n := 2) (by decide +kernel) ?_
  refine j_icmp_lt (off := 9) (tgt := 15) (by decide +kernel) (by decide) (fun q => absurd (i32_lt.mp q) (by omega)) (fun _ => ?_)
  refine j_aload_n (k4 := 0) (by decide +kernel) rfl ?_
  refine j_iconst (n := (-1)) (by decide +kernel) ?_
  refine j_callV (own := 11) (i := 41) (y2 := 16) (d2 := 1) (mc := 0) (ms := 0) (kc := 0) (ks := 0) (a := b0 + 0) (As := [.int (Int32.ofInt (-1))]) (st := []) (by decide +kernel) hcls (by decide +kernel) (by decide) (by decide +kernel) (by decide +kernel) (by decide +kernel) (by decide +kernel) (by decide +kernel) (show 1 = jnp 16 by decide +kernel) (by decide) (show 0 ≤ 8 by decide) hx (fun r hr => by cases hr; decide +kernel) (x_refuse hx lx) (fun v hv2 hq => ?_)
  obtain ⟨rfl, rfl⟩ := hq
  have n3 : (fsx.set 7 (.int (Int32.ofInt (-1)))).length = 12 := by rw [List.length_set]; exact lx
  have f4 : (fsx.set 7 (.int (Int32.ofInt (-1))))[0]? = some (.ref (g.2.2 + (b0 + 1))) := by
    rw [List.getElem?_set_ne (by decide)]
    exact px0
  have k5 : (h.set (b0 + 0) (.inr (11, (fsx.set 7 (.int (Int32.ofInt (-1)))))))[b0 + 0]? = some (.inr (11, (fsx.set 7 (.int (Int32.ofInt (-1)))))) := List.getElem?_set_self (List.getElem?_eq_some_iff.mp hx).1
  exact j_ret (v := some (.int (Int32.ofInt (-1)))) ⟨by decide +kernel, Or.inl (by decide +kernel)⟩ ⟨rfl, rfl⟩ rfl
end XB
theorem bu_644 (hk : kOK TTs g (EIm n) l Kx_644) {W0 : List aR} {bk0 bk : aB} {h0 h : jH} (hO : hOK TTs g (EIm n) W0 bk0 h0 bk h) {a1 : Nat} (ha1 : bk 1 = some a1) {x1 : Int32} (hx1 : (-2147483648 : Int) ≤ x1.toInt ∧ x1.toInt ≤ 2147483647) :
    jCal l g 283 5 [.ref (g.2.2 + (a1 + 0)), .int x1] h 0 0 (kPost TTs g (EIm n) Kx_644 bk h [x1.toInt]) := by
  refine hk bk h [.ref (g.2.2 + (a1 + 0)), .int x1] [x1.toInt] hO.1 hO.2.1 hO.2.2.1 hO.2.2.2.2.2 (show 2 ≤ jmx 283 by decide +kernel) rfl (fun q hq => ?_) ⟨⟨rfl, fun i e z he hz => ?_⟩, eFm_plain (plain_app (spEnv_plain _) clEnv_plain), fun F hF => absurd hF List.not_mem_nil, fun i v hv => ?_, trivial, fun q hq => ?_, fun B hB => absurd hB List.not_mem_nil⟩
  · have hq : q ∈ ([] : List (Nat × Int × Nat)) := hq
    exact absurd hq List.not_mem_nil
  · match i, he, hz with
    | 0, he, hz => cases he; cases hz; exact hx1
    | i + 1, he, _ => cases he
  · match i, hv with
    | 0, hv => cases hv; exact ⟨_, rfl, a1, ha1, rfl⟩
    | 1, hv => cases hv; exact ⟨_, rfl, x1, rfl, rfl⟩
    | i + 2, hv => cases hv
  · exact absurd hq List.not_mem_nil
theorem bu_645 (hk : kOK TTs g (EIm n) l Kx_645) {W0 : List aR} {bk0 bk : aB} {h0 h : jH} (hO : hOK TTs g (EIm n) W0 bk0 h0 bk h) {a1 : Nat} (ha1 : bk 1 = some a1) {x1 : Int32} (hx1 : (-2147483648 : Int) ≤ x1.toInt ∧ x1.toInt ≤ 2147483647) {x2 : Int32} (hx2 : (-2147483648 : Int) ≤ x2.toInt ∧ x2.toInt ≤ 2147483647) :
    jCal l g 291 5 [.ref (g.2.2 + (a1 + 0)), .int x1, .int x2] h 0 0 (kPost TTs g (EIm n) Kx_645 bk h [x1.toInt, x2.toInt]) := by
  refine hk bk h [.ref (g.2.2 + (a1 + 0)), .int x1, .int x2] [x1.toInt, x2.toInt] hO.1 hO.2.1 hO.2.2.1 hO.2.2.2.2.2 (show 3 ≤ jmx 291 by decide +kernel) rfl (fun q hq => ?_) ⟨⟨rfl, fun i e z he hz => ?_⟩, eFm_plain (plain_app (spEnv_plain _) clEnv_plain), fun F hF => absurd hF List.not_mem_nil, fun i v hv => ?_, trivial, fun q hq => ?_, fun B hB => absurd hB List.not_mem_nil⟩
  · have hq : q ∈ ([] : List (Nat × Int × Nat)) := hq
    exact absurd hq List.not_mem_nil
  · match i, he, hz with
    | 0, he, hz => cases he; cases hz; exact hx1
    | 1, he, hz => cases he; cases hz; exact hx2
    | i + 2, he, _ => cases he
  · match i, hv with
    | 0, hv => cases hv; exact ⟨_, rfl, a1, ha1, rfl⟩
    | 1, hv => cases hv; exact ⟨_, rfl, x1, rfl, rfl⟩
    | 2, hv => cases hv; exact ⟨_, rfl, x2, rfl, rfl⟩
    | 3, hv => cases hv
    | 4, hv => cases hv
    | 5, hv => cases hv
    | 6, hv => cases hv
    | 7, hv => cases hv
    | 8, hv => cases hv
    | i + 9, hv => cases hv
  · exact absurd hq List.not_mem_nil
theorem bu_724 (hk : kOK TTs g (EIm n) l Kx_724) {W0 : List aR} {bk0 bk : aB} {h0 h : jH} (hO : hOK TTs g (EIm n) W0 bk0 h0 bk h) {a1 : Nat} (ha1 : bk 1 = some a1) {x1 : Int32} (hx1 : (-2147483648 : Int) ≤ x1.toInt ∧ x1.toInt ≤ -1) :
    jCal l g 204 2 [.ref (g.2.2 + (a1 + 0)), .int x1] h 0 0 (kPost TTs g (EIm n) Kx_724 bk h [x1.toInt]) := by
  refine hk bk h [.ref (g.2.2 + (a1 + 0)), .int x1] [x1.toInt] hO.1 hO.2.1 hO.2.2.1 hO.2.2.2.2.2 (show 2 ≤ jmx 204 by decide +kernel) rfl (fun q hq => ?_) ⟨⟨rfl, fun i e z he hz => ?_⟩, eFm_plain (plain_app (spEnv_plain _) clEnv_plain), fun F hF => absurd hF List.not_mem_nil, fun i v hv => ?_, trivial, fun q hq => ?_, fun B hB => absurd hB List.not_mem_nil⟩
  · have hq : q ∈ ([] : List (Nat × Int × Nat)) := hq
    exact absurd hq List.not_mem_nil
  · match i, he, hz with
    | 0, he, hz => cases he; cases hz; exact hx1
    | i + 1, he, _ => cases he
  · match i, hv with
    | 0, hv => cases hv; exact ⟨_, rfl, a1, ha1, rfl⟩
    | 1, hv => cases hv; exact ⟨_, rfl, x1, rfl, rfl⟩
    | 2, hv => cases hv
    | i + 3, hv => cases hv
  · exact absurd hq List.not_mem_nil
theorem bu_725 (hk : kOK TTs g (EIm n) l Kx_725) {W0 : List aR} {bk0 bk : aB} {h0 h : jH} (hO : hOK TTs g (EIm n) W0 bk0 h0 bk h) {a1 : Nat} (ha1 : bk 1 = some a1) {x1 : Int32} (hx1 : (2 : Int) ≤ x1.toInt ∧ x1.toInt ≤ 2147483647) :
    jCal l g 204 2 [.ref (g.2.2 + (a1 + 0)), .int x1] h 0 0 (kPost TTs g (EIm n) Kx_725 bk h [x1.toInt]) := by
  refine hk bk h [.ref (g.2.2 + (a1 + 0)), .int x1] [x1.toInt] hO.1 hO.2.1 hO.2.2.1 hO.2.2.2.2.2 (show 2 ≤ jmx 204 by decide +kernel) rfl (fun q hq => ?_) ⟨⟨rfl, fun i e z he hz => ?_⟩, eFm_plain (plain_app (spEnv_plain _) clEnv_plain), fun F hF => absurd hF List.not_mem_nil, fun i v hv => ?_, trivial, fun q hq => ?_, fun B hB => absurd hB List.not_mem_nil⟩
  · have hq : q ∈ ([] : List (Nat × Int × Nat)) := hq
    exact absurd hq List.not_mem_nil
  · match i, he, hz with
    | 0, he, hz => cases he; cases hz; exact hx1
    | i + 1, he, _ => cases he
  · match i, hv with
    | 0, hv => cases hv; exact ⟨_, rfl, a1, ha1, rfl⟩
    | 1, hv => cases hv; exact ⟨_, rfl, x1, rfl, rfl⟩
    | 2, hv => cases hv
    | i + 3, hv => cases hv
  · exact absurd hq List.not_mem_nil
theorem bu_726 (hk : kOK TTs g (EIm n) l Kx_726) {W0 : List aR} {bk0 bk : aB} {h0 h : jH} (hO : hOK TTs g (EIm n) W0 bk0 h0 bk h) {a0 : Nat} (ha0 : bk 0 = some a0) {x1 : Int32} (hx1 : (-2147483648 : Int) ≤ x1.toInt ∧ x1.toInt ≤ -1) :
    jCal l g 193 2 [.ref (g.2.2 + (a0 + 0)), .int x1] h 0 0 (kPost TTs g (EIm n) Kx_726 bk h [x1.toInt]) := by
  refine hk bk h [.ref (g.2.2 + (a0 + 0)), .int x1] [x1.toInt] hO.1 hO.2.1 hO.2.2.1 hO.2.2.2.2.2 (show 2 ≤ jmx 193 by decide +kernel) rfl (fun q hq => ?_) ⟨⟨rfl, fun i e z he hz => ?_⟩, eFm_plain (plain_app (spEnv_plain _) clEnv_plain), fun F hF => absurd hF List.not_mem_nil, fun i v hv => ?_, trivial, fun q hq => ?_, fun B hB => absurd hB List.not_mem_nil⟩
  · have hq : q ∈ ([] : List (Nat × Int × Nat)) := hq
    exact absurd hq List.not_mem_nil
  · match i, he, hz with
    | 0, he, hz => cases he; cases hz; exact hx1
    | i + 1, he, _ => cases he
  · match i, hv with
    | 0, hv => cases hv; exact ⟨_, rfl, a0, ha0, rfl⟩
    | 1, hv => cases hv; exact ⟨_, rfl, x1, rfl, rfl⟩
    | 2, hv => cases hv
    | i + 3, hv => cases hv
  · exact absurd hq List.not_mem_nil
theorem bu_727 (hk : kOK TTs g (EIm n) l Kx_727) {W0 : List aR} {bk0 bk : aB} {h0 h : jH} (hO : hOK TTs g (EIm n) W0 bk0 h0 bk h) {a0 : Nat} (ha0 : bk 0 = some a0) {x1 : Int32} (hx1 : (2 : Int) ≤ x1.toInt ∧ x1.toInt ≤ 2147483647) :
    jCal l g 193 2 [.ref (g.2.2 + (a0 + 0)), .int x1] h 0 0 (kPost TTs g (EIm n) Kx_727 bk h [x1.toInt]) := by
  refine hk bk h [.ref (g.2.2 + (a0 + 0)), .int x1] [x1.toInt] hO.1 hO.2.1 hO.2.2.1 hO.2.2.2.2.2 (show 2 ≤ jmx 193 by decide +kernel) rfl (fun q hq => ?_) ⟨⟨rfl, fun i e z he hz => ?_⟩, eFm_plain (plain_app (spEnv_plain _) clEnv_plain), fun F hF => absurd hF List.not_mem_nil, fun i v hv => ?_, trivial, fun q hq => ?_, fun B hB => absurd hB List.not_mem_nil⟩
  · have hq : q ∈ ([] : List (Nat × Int × Nat)) := hq
    exact absurd hq List.not_mem_nil
  · match i, he, hz with
    | 0, he, hz => cases he; cases hz; exact hx1
    | i + 1, he, _ => cases he
  · match i, hv with
    | 0, hv => cases hv; exact ⟨_, rfl, a0, ha0, rfl⟩
    | 1, hv => cases hv; exact ⟨_, rfl, x1, rfl, rfl⟩
    | 2, hv => cases hv
    | i + 3, hv => cases hv
  · exact absurd hq List.not_mem_nil
theorem bu_441 (hk : kOK TTs g (EIm n) l Kx_441) {W0 : List aR} {bk0 bk : aB} {h0 h : jH} (hO : hOK TTs g (EIm n) W0 bk0 h0 bk h) {a0 : Nat} (ha0 : bk 0 = some a0) {x1 : Int32} (hx1 : (-2147483648 : Int) ≤ x1.toInt ∧ x1.toInt ≤ 2147483647) :
    jCal l g 200 4 [.ref (g.2.2 + (a0 + 0)), .int x1] h 0 0 (kPost TTs g (EIm n) Kx_441 bk h [x1.toInt]) := by
  refine hk bk h [.ref (g.2.2 + (a0 + 0)), .int x1] [x1.toInt] hO.1 hO.2.1 hO.2.2.1 hO.2.2.2.2.2 (show 2 ≤ jmx 200 by decide +kernel) rfl (fun q hq => ?_) ⟨⟨rfl, fun i e z he hz => ?_⟩, eFm_plain (plain_app (spEnv_plain _) clEnv_plain), fun F hF => absurd hF List.not_mem_nil, fun i v hv => ?_, trivial, fun q hq => ?_, fun B hB => absurd hB List.not_mem_nil⟩
  · have hq : q ∈ ([] : List (Nat × Int × Nat)) := hq
    exact absurd hq List.not_mem_nil
  · match i, he, hz with
    | 0, he, hz => cases he; cases hz; exact hx1
    | i + 1, he, _ => cases he
  · match i, hv with
    | 0, hv => cases hv; exact ⟨_, rfl, a0, ha0, rfl⟩
    | 1, hv => cases hv; exact ⟨_, rfl, x1, rfl, rfl⟩
    | 2, hv => cases hv
    | i + 3, hv => cases hv
  · exact absurd hq List.not_mem_nil
theorem cp_ofR {b0 b1 y1 y2 d1 mc ms : Nat} {h : jH} {As : List Value} {P1 : Option Value → jH → Prop} (hd : d1 ≤ 40) (hx : jCal l g y1 d1 (.ref (g.2.2 + (b0 + 0)) :: As) h mc ms P1) (hP1 : ∀ v h1, P1 v h1 → ∃ x : Int32, v = some (.int x) ∧ ∃ bk1, lwI g n b0 b1 bk1 h1 ∧ ∃ b6, bk1 6 = some b6) (hm : ∀ bk1 h1, lwI g n b0 b1 bk1 h1 → ∃ (d2 : Nat) (P2 : Option Value → jH → Prop), d2 ≤ 40 ∧ jCal l g y2 d2 (.ref (g.2.2 + (b1 + 0)) :: As) h1 0 0 P2 ∧ ∀ v h2, P2 v h2 → lwQ g (n + 40) b0 b1 bk1 v h2) : cpS l g n b0 b1 h y1 y2 As mc ms false (fun bk2 => ¬ bk2 6 = none) := by
  refine ⟨d1, mc, ms, P1, hd, Nat.le_refl _, Nat.le_refl _, hx, fun v h1 hp => ?_⟩
  obtain ⟨x1, rfl, bk1, hI1, b6, hb6⟩ := hP1 v h1 hp
  obtain ⟨d2, P2, e1, e2, e3⟩ := hm bk1 h1 hI1
  refine ⟨x1, d2, P2, rfl, e1, e2, lw_m hI1, fun v2 h2 hp2 => ?_⟩
  obtain ⟨x2, rfl, bk2, hI2, h62⟩ := e3 v2 h2 hp2
  exact ⟨x2, rfl, fun h => Bool.noConfusion h, bk2, hI2, fun e => by rw [h62 b6 hb6] at e; cases e⟩
set_option maxRecDepth 16384 in
theorem cp_33 (hlow : ∀ (k : Nat) (K : aK), KTx[k]? = some K → kOK TTs g (EIm n) l K) {b0 b1 : Nat} {bk : aB} {h : jH} (hI : lwI g n b0 b1 bk h) {z1 : Int32} : cpS l g n b0 b1 h 134 283 [.int z1] 0 0 false (k6 bk) ∨ (bk 6 = none ∧ cpS l g n b0 b1 h 134 283 [.int z1] 7 20000 false (fun bk2 => ¬ bk2 6 = none)) := by
  have m2 : ∀ bk1 h1, lwI g n b0 b1 bk1 h1 → ∃ (d2 : Nat) (P2 : Option Value → jH → Prop), d2 ≤ 40 ∧ jCal l g 283 d2 (.ref (g.2.2 + (b1 + 0)) :: [.int z1]) h1 0 0 P2 ∧ ∀ v h2, P2 v h2 → lwQ g (n + 40) b0 b1 bk1 v h2 := fun bk1 h1 hI1 => ⟨5, _, by decide, bu_644 (hlow 644 _ rfl) (hI1.ok []) hI1.2.2.2.2.1 ⟨i32_lo _, i32_hi _⟩, fun v h2 hq => lwP hI1 hq (by decide +kernel) (by decide +kernel) (by decide +kernel) (by decide +kernel) (show n ≤ n + 40 by omega)⟩
  cases h6 : bk 6 with
  | some b6 => exact Or.inl (cp_of (d1 := 10) (by decide) (md0_run hlow (hI.ok []) hI.2.2.2.1 h6) (fun v h1 hq => lwP hI hq (by decide +kernel) (by decide +kernel) (by decide +kernel) (by decide +kernel) (Int.le_refl n)) m2)
  | none =>
    by_cases a1 : z1.toInt < 0
    · exact Or.inl (cp_of (d1 := 10) (by decide) (mdN_run hlow (hI.ok []) hI.2.2.2.1 ⟨i32_lo _, by omega⟩) (fun v h1 hq => lwP hI hq (by decide +kernel) (by decide +kernel) (by decide +kernel) (by decide +kernel) (Int.le_refl n)) m2)
    by_cases a2 : 2 ≤ z1.toInt
    · exact Or.inl (cp_of (d1 := 10) (by decide) (mdP_run hlow (hI.ok []) hI.2.2.2.1 ⟨a2, i32_hi _⟩) (fun v h1 hq => lwP hI hq (by decide +kernel) (by decide +kernel) (by decide +kernel) (by decide +kernel) (Int.le_refl n)) m2)
    refine Or.inr ⟨rfl, cp_ofR (d1 := 10) (by decide) (mdG_run hlow (hI.ok []) hI.2.2.2.1 ⟨by omega, by omega⟩) (fun v h1 hq => ?_) m2⟩
    obtain ⟨x1, rfl, bk1, hO1, b6, hb6⟩ := hq
    exact ⟨x1, rfl, bkF bk1, hI.stepN hO1 (Int.le_refl n) (by decide +kernel) (by decide +kernel) (by decide +kernel), b6, (bkF_ne (by decide)).trans hb6⟩
set_option maxRecDepth 16384 in
theorem cp_34 (hlow : ∀ (k : Nat) (K : aK), KTx[k]? = some K → kOK TTs g (EIm n) l K) {b0 b1 : Nat} {bk : aB} {h : jH} (hI : lwI g n b0 b1 bk h) {z1 z2 : Int32} : cpS l g n b0 b1 h 152 291 [.int z1, .int z2] 0 0 false (k6 bk) ∨ (bk 6 = none ∧ cpS l g n b0 b1 h 152 291 [.int z1, .int z2] 7 20000 false (fun bk2 => ¬ bk2 6 = none)) := by
  have m2 : ∀ bk1 h1, lwI g n b0 b1 bk1 h1 → ∃ (d2 : Nat) (P2 : Option Value → jH → Prop), d2 ≤ 40 ∧ jCal l g 291 d2 (.ref (g.2.2 + (b1 + 0)) :: [.int z1, .int z2]) h1 0 0 P2 ∧ ∀ v h2, P2 v h2 → lwQ g (n + 40) b0 b1 bk1 v h2 := fun bk1 h1 hI1 => ⟨5, _, by decide, bu_645 (hlow 645 _ rfl) (hI1.ok []) hI1.2.2.2.2.1 ⟨i32_lo _, i32_hi _⟩ ⟨i32_lo _, i32_hi _⟩, fun v h2 hq => lwP hI1 hq (by decide +kernel) (by decide +kernel) (by decide +kernel) (by decide +kernel) (show n ≤ n + 40 by omega)⟩
  cases h6 : bk 6 with
  | some b6 => exact Or.inl (cp_of (d1 := 10) (by decide) (me0_run hlow (hI.ok []) hI.2.2.2.1 h6) (fun v h1 hq => lwP hI hq (by decide +kernel) (by decide +kernel) (by decide +kernel) (by decide +kernel) (Int.le_refl n)) m2)
  | none =>
    obtain ⟨fsi, hcs, lsi, rsi, nsi⟩ := k_obj (o := 37) (ci := 6) hI.1 hI.2.2.2.1 rfl
    obtain ⟨sn, hv4, sn1, sn2⟩ := nsi 4 0 16 (by decide +kernel)
    by_cases a1 : z1.toInt < 0
    · exact Or.inl (cp_of (d1 := 10) (by decide) (meN_run hlow (hI.ok []) hI.2.2.2.1 ⟨i32_lo _, by omega⟩ ⟨i32_lo _, i32_hi _⟩) (fun v h1 hq => lwP hI hq (by decide +kernel) (by decide +kernel) (by decide +kernel) (by decide +kernel) (Int.le_refl n)) m2)
    by_cases a2 : sn.toInt ≤ z1.toInt
    · exact Or.inl (cp_of (d1 := 10) (by decide) (meP_run hlow (hI.ok []) hI.2.2.2.1 ⟨by omega, i32_hi _⟩ ⟨i32_lo _, i32_hi _⟩ ⟨sn1, sn2⟩ hcs hv4 (fun F hF => by
      have hF := List.mem_singleton.mp hF
      subst hF
      refine ⟨z1.toInt * 1 + (z2.toInt * 0 + sn.toInt * -1) + 0, ?_, by omega⟩
      simp [fev, fevl])) (fun v h1 hq => lwP hI hq (by decide +kernel) (by decide +kernel) (by decide +kernel) (by decide +kernel) (Int.le_refl n)) m2)
    by_cases a3 : z2.toInt < 0
    · exact Or.inl (cp_of (d1 := 10) (by decide) (meM_run hlow (hI.ok []) hI.2.2.2.1 ⟨i32_lo _, i32_hi _⟩ ⟨i32_lo _, by omega⟩) (fun v h1 hq => lwP hI hq (by decide +kernel) (by decide +kernel) (by decide +kernel) (by decide +kernel) (Int.le_refl n)) m2)
    by_cases a4 : 2 ≤ z2.toInt
    · exact Or.inl (cp_of (d1 := 10) (by decide) (meQ_run hlow (hI.ok []) hI.2.2.2.1 ⟨i32_lo _, i32_hi _⟩ ⟨a4, i32_hi _⟩) (fun v h1 hq => lwP hI hq (by decide +kernel) (by decide +kernel) (by decide +kernel) (by decide +kernel) (Int.le_refl n)) m2)
    refine Or.inr ⟨rfl, cp_ofR (d1 := 10) (by decide) (meG_run hlow (hI.ok []) hI.2.2.2.1 ⟨by omega, by omega⟩ ⟨by omega, by omega⟩ hcs hv4 (by omega)) (fun v h1 hq => ?_) m2⟩
    obtain ⟨x1, rfl, bk1, hO1, b6, hb6⟩ := hq
    exact ⟨x1, rfl, bkF bk1, hI.stepN hO1 (Int.le_refl n) (by decide +kernel) (by decide +kernel) (by decide +kernel), b6, (bkF_ne (by decide)).trans hb6⟩
/-- what a call whose answer is c leaves -/
def lwQc (g : jG) (n' : Int) (b0 b1 : Nat) (bk : aB) (c : Int) (v : Option Value) (h' : jH) : Prop := v = some (.int (Int32.ofInt c)) ∧ ∃ bk', lwI g n' b0 b1 bk' h' ∧ k6 bk bk'
theorem lwPc {K : aK} {b0 b1 : Nat} {bk : aB} {h h' : jH} {ev : List Int} {v : Option Value} {n' c : Int} (hI : lwI g n b0 b1 bk h) (hq : kPost TTs g (EIm n) K bk h ev v h') (h1 : apW K.2.2.2.2.2.2.2.1 [(1, 1, 1, 1)] = true) (h2 : apW K.2.2.2.2.2.2.2.1 [(1, 1, 5066, 5066)] = true) (h3 : apW K.2.2.2.2.2.2.2.1 rlF = true) (ha : K.2.2.2.2.1 = [(0, c, c, 0, 0, [])]) (hc : -2147483648 ≤ c ∧ c ≤ 2147483647) (hn : n ≤ n') : lwQc g n' b0 b1 bk c v h' := by
  obtain ⟨bk', os, k1, -, q, hq1, hq2⟩ := hq
  rw [ha] at hq1
  have hq3 := List.mem_singleton.mp hq1
  subst hq3
  obtain ⟨x, hx, ⟨x1, x2⟩, -, -⟩ := hq2
  have x1 : c ≤ x.toInt := x1
  have x2 : x.toInt ≤ c := x2
  have e : x = Int32.ofInt c := (i32_eqv hc).mpr (by omega)
  subst e
  exact ⟨hx, bkF bk', hI.stepN k1 hn h1 h2 h3, fun b hb => (bkF_ne (by decide)).trans (k1.2.2.2.2.1 6 b hb)⟩
/-- both answer c -/
theorem cp_cc {b0 b1 y1 y2 d1 mc ms MC MS : Nat} {bk : aB} {h : jH} {As : List Value} {P1 : Option Value → jH → Prop} {c : Int} (hd : d1 ≤ 40) (hmc : mc ≤ MC) (hms : ms ≤ MS) (hx : jCal l g y1 d1 (.ref (g.2.2 + (b0 + 0)) :: As) h mc ms P1) (hP1 : ∀ v h1, P1 v h1 → lwQc g n b0 b1 bk c v h1) (hm : ∀ bk1 h1, lwI g n b0 b1 bk1 h1 → ∃ (d2 : Nat) (P2 : Option Value → jH → Prop), d2 ≤ 40 ∧ jCal l g y2 d2 (.ref (g.2.2 + (b1 + 0)) :: As) h1 0 0 P2 ∧ ∀ v h2, P2 v h2 → lwQc g (n + 40) b0 b1 bk1 c v h2) : cpS l g n b0 b1 h y1 y2 As MC MS true (k6 bk) := by
  refine ⟨d1, mc, ms, P1, hd, hmc, hms, hx, fun v h1 hp => ?_⟩
  obtain ⟨rfl, bk1, hI1, h61⟩ := hP1 v h1 hp
  obtain ⟨d2, P2, e1, e2, e3⟩ := hm bk1 h1 hI1
  refine ⟨_, d2, P2, rfl, e1, e2, lw_m hI1, fun v2 h2 hp2 => ?_⟩
  obtain ⟨rfl, bk2, hI2, h62⟩ := e3 v2 h2 hp2
  exact ⟨_, rfl, fun _ => rfl, bk2, hI2, fun b hb => h62 b (h61 b hb)⟩
/-- an image is kept: behind both calls -/
theorem im_fin {b0 b1 a k k' : Nat} {bk bk1 bk2 : aB} {h h1 h2 : jH} {W1 : List aR} (hk : k < 2) (hk' : k' < 2) (hkk : k' ≠ k) (hI : lwI g n b0 b1 bk h) (k1 : hOK TTs g (EIm n) W1 bk h bk1 h1) (ha : bk1 (2 + k) = some a) (hC : ∀ q ∈ rlE, ∀ i, i < rln q → ∃ x, cv h1 (b0 + 1 + (q.1 - 1)) (rlz q i) x ∧ cv h1 (a + (q.1 - 1)) (rlz q i) x) (k2 : hOK TTs g (EIm n) imK.2.2.2.2.2.2.2.1 bk1 h1 bk2 h2) (c3 : cv h2 (b1 + 3) k 1) (cI : ∀ i x, i < 5270 → cv h1 (b1 + 1) i x → cv h2 (b1 + 2) (5270 * k + i) x) (cO : ∀ i x, i < 5270 → cv h1 (b1 + 2) (5270 * k' + i) x → cv h2 (b1 + 2) (5270 * k' + i) x) (cK : ∀ x, cv h1 (b1 + 3) k' x → cv h2 (b1 + 3) k' x)
    (w0 : apW W1 rlF0 = true) (w1 : apW W1 (rlFk k') = true) (w2 : apW W1 [(1, 1, 1, 1)] = true) (w3 : apW W1 [(1, 1, 5066, 5066)] = true) : ∃ bk', lwI g (n + 40) b0 b1 bk' h2 ∧ k6 bk bk' := by
  have q0 := hI.2.2.2.1
  have q1 := hI.2.2.2.2.1
  have p0 := k1.2.2.2.2.1 0 b0 q0
  have p1 := k1.2.2.2.2.1 1 b1 q1
  have r0 := k2.2.2.2.2.1 0 b0 p0
  have r1 := k2.2.2.2.2.1 1 b1 p1
  obtain ⟨f, er, ⟨-, f1⟩, -, f2⟩ := hI.row
  obtain ⟨t0, t1, t2⟩ := hI.2.2.2.2.2.2.2 b0 b1 q0 q1
  have t0' := rl0_keep k1 q0 q1 w0 t0
  have tk' : rlI b1 k' bk1 h1 := rlI_keep hk' hI.1 k1 q0 q1 w1 (by
    rcases rl_k2 hk' with rfl | rfl
    · exact t1
    · exact t2)
  have z0 := rl0_keep k2 p0 p1 (by decide +kernel) t0'
  have zk : rlI b1 k bk2 h2 := Or.inr ⟨a, k2.2.2.2.2.1 _ a ha, c3, fun e he i hi => by
    obtain ⟨x, x1, x2⟩ := hC e he i hi
    obtain ⟨x', y1, y2⟩ := t0' e he i hi
    cases cv_fun x1 y1
    have hr : rlr e i < 5270 := by
      have := (rlr_le hi).2
      have := (rlE_at he).2.2.2.2.1
      omega
    refine ⟨x, rlX_off k2 ha (rl_ty hk he) ?_ hi x2, cI _ _ hr (by rw [Nat.zero_add] at y2; exact y2)⟩
    rcases rl_k2 hk with rfl | rfl
    · exact apW_mem (by decide +kernel : apW imK.2.2.2.2.2.2.2.1 (rlE.map (fun e => rlX 2 1 e)) = true) (List.mem_map.mpr ⟨e, he, rfl⟩)
    · exact apW_mem (by decide +kernel : apW imK.2.2.2.2.2.2.2.1 (rlE.map (fun e => rlX 3 1 e)) = true) (List.mem_map.mpr ⟨e, he, rfl⟩)⟩
  have zk' : rlI b1 k' bk2 h2 := by
    rcases tk' with ⟨s1, s2⟩ | ⟨a', s1, s2, s3⟩
    · refine Or.inl ⟨img_none hk' k1.1 k2 p0 ?_ s1, cK _ s2⟩
      rcases rl_k2 hk' with rfl | rfl <;> decide +kernel
    · refine Or.inr ⟨a', k2.2.2.2.2.1 _ a' s1, cK _ s2, fun e he i hi => ?_⟩
      obtain ⟨x, x1, x2⟩ := s3 e he i hi
      have hr : rlr e i < 5270 := by
        have := (rlr_le hi).2
        have := (rlE_at he).2.2.2.2.1
        omega
      refine ⟨x, rlX_off k2 s1 (rl_ty hk' he) ?_ hi x1, cO _ _ hr x2⟩
      rcases rl_k2 hk' with rfl | rfl
      · exact apW_mem (by decide +kernel : apW imK.2.2.2.2.2.2.2.1 (rlE.map (fun e => rlX 2 1 e)) = true) (List.mem_map.mpr ⟨e, he, rfl⟩)
      · exact apW_mem (by decide +kernel : apW imK.2.2.2.2.2.2.2.1 (rlE.map (fun e => rlX 3 1 e)) = true) (List.mem_map.mpr ⟨e, he, rfl⟩)
  refine ⟨bkF bk2, ⟨HT_forget k2.1, BD_forget k2.2.1, EIm_forget (EIm_mono (show n ≤ n + 40 by omega) k2.2.2.1), (bkF_ne (by decide)).trans r0, (bkF_ne (by decide)).trans r1, by rw [bkF, if_pos rfl], fun f' hf' => ?_, lwR_F (fun c0 c1 e0 e1 => ?_)⟩, fun b hb => (bkF_ne (by decide)).trans (k2.2.2.2.2.1 6 b (k1.2.2.2.2.1 6 b hb))⟩
  · have c1 : (f' 1).toInt = (f 1).toInt := cv_inl hf' (cv_off k2 p1 (by decide +kernel) (by decide +kernel) (cv_off k1 q1 (by decide +kernel) w2 (cv_arr er 1)))
    have c2 : (f' 5066).toInt = (f 5066).toInt := cv_inl hf' (cv_off k2 p1 (by decide +kernel) (by decide +kernel) (cv_off k1 q1 (by decide +kernel) w3 (cv_arr er 5066)))
    omega
  · cases r0.symm.trans e0
    cases r1.symm.trans e1
    rcases rl_k2 hk with rfl | rfl
    · rcases rl_k2 hk' with rfl | rfl
      · exact absurd rfl hkk
      · exact ⟨z0, zk, zk'⟩
    · rcases rl_k2 hk' with rfl | rfl
      · exact ⟨z0, zk', zk⟩
      · exact absurd rfl hkk
theorem lw_cnt {b0 b1 : Nat} {bk bk1 : aB} {h h1 : jH} {W1 : List aR} (hI : lwI g n b0 b1 bk h) (k1 : hOK TTs g (EIm n) W1 bk h bk1 h1) (w2 : apW W1 [(1, 1, 1, 1)] = true) (w3 : apW W1 [(1, 1, 5066, 5066)] = true) : (∀ x, cv h1 (b1 + 1) 1 x → x ≤ n) ∧ ∀ x, cv h1 (b1 + 1) 5066 x → x ≤ n := by
  obtain ⟨f, er, ⟨-, f1⟩, -, f2⟩ := hI.row
  have q1 := hI.2.2.2.2.1
  refine ⟨fun x hx => ?_, fun x hx => ?_⟩
  · rw [cv_fun hx (cv_off k1 q1 (by decide +kernel) w2 (cv_arr er 1))]
    exact f1
  · rw [cv_fun hx (cv_off k1 q1 (by decide +kernel) w3 (cv_arr er 5066))]
    exact f2
set_option maxRecDepth 16384 in
theorem cp_51 (hlow : ∀ (k : Nat) (K : aK), KTx[k]? = some K → kOK TTs g (EIm n) l K) {b0 b1 : Nat} {bk : aB} {h : jH} (hI : lwI g n b0 b1 bk h) {z1 : Int32} : cpS l g n b0 b1 h 193 204 [.int z1] 48 4307 true (k6 bk) := by
  by_cases a1 : z1.toInt < 0
  · exact cp_cc (c := -1) (d1 := 2) (by decide) (Nat.zero_le _) (Nat.zero_le _) (bu_726 (hlow 726 _ rfl) (hI.ok []) hI.2.2.2.1 ⟨i32_lo _, by omega⟩) (fun v h1 hq => lwPc hI hq (by decide +kernel) (by decide +kernel) (by decide +kernel) rfl (by decide) (Int.le_refl n)) (fun bk1 h1 hI1 => ⟨2, _, by decide, bu_724 (hlow 724 _ rfl) (hI1.ok []) hI1.2.2.2.2.1 ⟨i32_lo _, by omega⟩, fun v h2 hq => lwPc hI1 hq (by decide +kernel) (by decide +kernel) (by decide +kernel) rfl (by decide) (show n ≤ n + 40 by omega)⟩)
  by_cases a2 : 2 ≤ z1.toInt
  · exact cp_cc (c := -1) (d1 := 2) (by decide) (Nat.zero_le _) (Nat.zero_le _) (bu_727 (hlow 727 _ rfl) (hI.ok []) hI.2.2.2.1 ⟨a2, i32_hi _⟩) (fun v h1 hq => lwPc hI hq (by decide +kernel) (by decide +kernel) (by decide +kernel) rfl (by decide) (Int.le_refl n)) (fun bk1 h1 hI1 => ⟨2, _, by decide, bu_725 (hlow 725 _ rfl) (hI1.ok []) hI1.2.2.2.2.1 ⟨a2, i32_hi _⟩, fun v h2 hq => lwPc hI1 hq (by decide +kernel) (by decide +kernel) (by decide +kernel) rfl (by decide) (show n ≤ n + 40 by omega)⟩)
  by_cases a3 : z1.toInt = 0
  · have e : z1 = 0 := i32_eq (by rw [a3]; rfl)
    subst e
    refine ⟨9, 48, 4307, _, by decide, Nat.le_refl _, Nat.le_refl _, xmD_0 hlow hI.1 hI.2.1 hI.2.2.1 hI.b01 hI.2.2.2.1 hI.2.2.2.2.2.1, fun v h1 hq => ?_⟩
    obtain ⟨rfl, bk1, a, k1, ha, hC⟩ := hq
    have p1 := k1.2.2.2.2.1 1 b1 hI.2.2.2.2.1
    obtain ⟨fm, hfm, -⟩ := k_obj (o := 0) (ci := 12) k1.1 p1 rfl
    obtain ⟨c1, c2⟩ := lw_cnt hI k1 (by decide +kernel) (by decide +kernel)
    refine ⟨0, 3, _, rfl, by decide, imgR_ok hlow k1 p1 (k := 0) (by decide) c1 c2, ⟨fm, hfm⟩, fun v2 h2 hq2 => ?_⟩
    obtain ⟨rfl, bk2, k2, d1, d2, d3, d4⟩ := hq2
    exact ⟨0, rfl, fun _ => rfl, im_fin (k := 0) (k' := 1) (by decide) (by decide) (by decide) hI k1 ha hC k2 d1 d2 (fun i x hi hx => d3 1 i x (by decide) (by decide) hi hx) (fun x hx => d4 1 x (by decide) hx) (by decide +kernel) (by decide +kernel) (by decide +kernel) (by decide +kernel)⟩
  · have e : z1 = 1 := i32_eq (by rw [show z1.toInt = 1 by omega]; rfl)
    subst e
    refine ⟨9, 48, 4307, _, by decide, Nat.le_refl _, Nat.le_refl _, xmD_1 hlow hI.1 hI.2.1 hI.2.2.1 hI.b01 hI.2.2.2.1 hI.2.2.2.2.2.1, fun v h1 hq => ?_⟩
    obtain ⟨rfl, bk1, a, k1, ha, hC⟩ := hq
    have p1 := k1.2.2.2.2.1 1 b1 hI.2.2.2.2.1
    obtain ⟨fm, hfm, -⟩ := k_obj (o := 0) (ci := 12) k1.1 p1 rfl
    obtain ⟨c1, c2⟩ := lw_cnt hI k1 (by decide +kernel) (by decide +kernel)
    refine ⟨0, 3, _, rfl, by decide, imgR_ok hlow k1 p1 (k := 1) (by decide) c1 c2, ⟨fm, hfm⟩, fun v2 h2 hq2 => ?_⟩
    obtain ⟨rfl, bk2, k2, d1, d2, d3, d4⟩ := hq2
    exact ⟨0, rfl, fun _ => rfl, im_fin (k := 1) (k' := 0) (by decide) (by decide) (by decide) hI k1 ha hC k2 d1 d2 (fun i x hi hx => d3 0 i x (by decide) (by decide) hi hx) (fun x hx => d4 0 x (by decide) hx) (by decide +kernel) (by decide +kernel) (by decide +kernel) (by decide +kernel)⟩
/-- the class's call is refused: by an exact walk -/
theorem xc_bad {K1 : aK} {ev1 : List Int} {b0 b1 y1 d1 : Nat} {bk : aB} {h : jH} {As : List Value} {c : Int} (hI : lwI g n b0 b1 bk h)
    (hx : jCal l g y1 d1 (.ref (g.2.2 + (b0 + 0)) :: As) h 0 0 (kPost TTs g (EIm n) K1 bk h ev1))
    (ex : ∀ fx, h[b0 + 0]? = some (.inr (11, fx)) → fx.length = 12 → fx[0]? = some (.ref (g.2.2 + (b0 + 1))) → jCal l g y1 d1 (.ref (g.2.2 + (b0 + 0)) :: As) h 0 0 (fun v h' => v = some (.int (Int32.ofInt c)) ∧ h' = h.set (b0 + 0) (.inr (11, fx.set 7 (.int (Int32.ofInt c))))))
    (a1 : apW K1.2.2.2.2.2.2.2.1 [(1, 1, 1, 1)] = true) (a2 : apW K1.2.2.2.2.2.2.2.1 [(1, 1, 5066, 5066)] = true) (i1 : apW K1.2.2.2.2.2.2.2.1 rlFI = true) (w1 : apW K1.2.2.2.2.2.2.2.1 [(1, 1, 0, 5269)] = true) :
    ∃ P, jCal l g y1 d1 (.ref (g.2.2 + (b0 + 0)) :: As) h 0 0 P ∧ ∀ v h1, P v h1 → lwQc g n b0 b1 bk c v h1 := by
  obtain ⟨fx, hfx, lfx, rfx, -⟩ := k_obj (o := 0) (ci := 11) hI.1 hI.2.2.2.1 rfl
  refine ⟨_, jCal.both hx (ex fx hfx (lfx.trans (by decide +kernel)) (rfx 0 1 (by decide +kernel))), fun v h1 hp => ?_⟩
  obtain ⟨⟨bk1, os1, k1, -⟩, h1', ⟨rfl, rfl⟩, H1, e1, e2⟩ := hp
  have q0 := hI.2.2.2.1
  have q1 := hI.2.2.2.2.1
  have p0 := k1.2.2.2.2.1 0 b0 q0
  have p1 := k1.2.2.2.2.1 1 b1 q1
  obtain ⟨f, er, ⟨-, f1⟩, -, f2⟩ := hI.row
  obtain ⟨t0, t1, t2⟩ := hI.2.2.2.2.2.2.2 b0 b1 q0 q1
  refine ⟨rfl, bkF bk1, ⟨HT_forget k1.1, BD_forget k1.2.1, EIm_forget k1.2.2.1, (bkF_ne (by decide)).trans p0, (bkF_ne (by decide)).trans p1, by rw [bkF, if_pos rfl], fun f' hf' => ?_, lwR_F (fun c0 c1 e0 e1' => ?_)⟩, fun b hb => (bkF_ne (by decide)).trans (k1.2.2.2.2.1 6 b hb)⟩
  · have c1 : (f' 1).toInt = (f 1).toInt := cv_inl hf' (cv_off k1 q1 (by decide +kernel) a1 (cv_arr er 1))
    have c2 : (f' 5066).toInt = (f 5066).toInt := cv_inl hf' (cv_off k1 q1 (by decide +kernel) a2 (cv_arr er 5066))
    omega
  · cases p0.symm.trans e0
    cases p1.symm.trans e1'
    refine ⟨fun e he i hi => ?_, rlI_keep (by decide) hI.1 k1 q0 q1 (rl_Fk (by decide) i1) t1, rlI_keep (by decide) hI.1 k1 q0 q1 (rl_Fk (by decide) i1) t2⟩
    obtain ⟨x, x1, x2⟩ := t0 e he i hi
    rw [rl_sh he] at x1 ⊢
    obtain ⟨t, ht, hz⟩ := rlW_at he hi
    have h1e := (rlE_at he).2.2.2.1
    have un : (h.set (b0 + 0) (.inr (11, fx.set 7 (.int (Int32.ofInt c)))))[b0 + e.1]? = h[b0 + e.1]? := by rw [List.getElem?_set_ne (by omega)]
    obtain ⟨cc, hcc, -⟩ := hI.1 0 b0 e.1 t q0 ht
    refine ⟨x, both_cv k1 e1 e2 q0 ht (un.trans hcc) (ckd_of hI.1 q0 ht hcc) hz (cv_cell un x1), ?_⟩
    have hr : 0 + rlr e i < 5270 := by
      have := (rlr_le hi).2
      have := (rlE_at he).2.2.2.2.1
      omega
    exact cv_off k1 q1 (by decide +kernel) (apW_iv w1 (by omega) (by omega)) x2
/-- back to an image: behind both calls -/
theorem bk_fin {b0 b1 a k : Nat} {bk bk1 bk2 : aB} {h h1 h2 : jH} {W1 : List aR} (hk : k < 2) (hI : lwI g n b0 b1 bk h) (k1 : hOK TTs g (EIm n) W1 bk h bk1 h1) (ha : bk (2 + k) = some a) (hC : ∀ q ∈ rlE, ∀ i, i < rln q → ∃ x, cv h (a + (q.1 - 1)) (rlz q i) x ∧ cv h1 (b0 + 1 + (q.1 - 1)) (rlz q i) x) (k2 : hOK TTs g (EIm n) [(1, 0, 0, 1), (1, 1, 0, 5269)] bk1 h1 bk2 h2) (n1 : ∀ x, cv h2 (b1 + 1) 1 x → x ≤ n) (n2 : ∀ x, cv h2 (b1 + 1) 5066 x → x ≤ n) (cI : ∀ i x, i < 5270 → cv h1 (b1 + 2) (5270 * k + i) x → cv h2 (b1 + 1) i x)
    (w1 : apW W1 rlFI = true) : ∃ bk', lwI g (n + 40) b0 b1 bk' h2 ∧ k6 bk bk' := by
  have q0 := hI.2.2.2.1
  have q1 := hI.2.2.2.2.1
  have p0 := k1.2.2.2.2.1 0 b0 q0
  have p1 := k1.2.2.2.2.1 1 b1 q1
  have r0 := k2.2.2.2.2.1 0 b0 p0
  have r1 := k2.2.2.2.2.1 1 b1 p1
  obtain ⟨t0, t1, t2⟩ := hI.2.2.2.2.2.2.2 b0 b1 q0 q1
  have s1 := rlI_keep (k := 0) (by decide) hI.1 k1 q0 q1 (rl_Fk (by decide) w1) t1
  have s2 := rlI_keep (k := 1) (by decide) hI.1 k1 q0 q1 (rl_Fk (by decide) w1) t2
  have u1 := rlI_keep (k := 0) (by decide) k1.1 k2 p0 p1 (by decide +kernel) s1
  have u2 := rlI_keep (k := 1) (by decide) k1.1 k2 p0 p1 (by decide +kernel) s2
  have tk : rlI b1 k bk h := by
    rcases rl_k2 hk with rfl | rfl
    · exact t1
    · exact t2
  have hS : rlS a (b1 + 2) (5270 * k) h := by
    rcases tk with ⟨e1, -⟩ | ⟨a', e1, -, e3⟩
    · rw [ha] at e1
      cases e1
    · cases ha.symm.trans e1
      exact e3
  refine ⟨bkF bk2, ⟨HT_forget k2.1, BD_forget k2.2.1, EIm_forget (EIm_mono (show n ≤ n + 40 by omega) k2.2.2.1), (bkF_ne (by decide)).trans r0, (bkF_ne (by decide)).trans r1, by rw [bkF, if_pos rfl], fun f' hf' => ?_, lwR_F (fun c0 c1 e0 e1 => ?_)⟩, fun b hb => (bkF_ne (by decide)).trans (k2.2.2.2.2.1 6 b (k1.2.2.2.2.1 6 b hb))⟩
  · have := n1 _ (cv_arr hf' 1)
    have := n2 _ (cv_arr hf' 5066)
    omega
  · cases r0.symm.trans e0
    cases r1.symm.trans e1
    refine ⟨fun e he i hi => ?_, u1, u2⟩
    obtain ⟨x, x1, x2⟩ := hC e he i hi
    obtain ⟨x', y1, y2⟩ := hS e he i hi
    cases cv_fun x1 y1
    have hr : rlr e i < 5270 := by
      have := (rlr_le hi).2
      have := (rlE_at he).2.2.2.2.1
      omega
    refine ⟨x, ?_, ?_⟩
    · rw [rl_sh he] at x2 ⊢
      exact rlX_off (s := 0) k2 p0 (rlE_at he).1 (apW_mem (by decide +kernel : apW [(1, 0, 0, 1), (1, 1, 0, 5269)] (rlE.map (fun e => rlX 0 0 e)) = true) (List.mem_map.mpr ⟨e, he, rfl⟩)) hi x2
    · rw [Nat.zero_add]
      refine cI _ _ hr (rlY_off (o := 2) (p := 5270 * k) k1 q1 (by decide +kernel) ?_ hi y2)
      exact apW_mem (rl_Fk hk w1) (rl_yk he)
set_option maxRecDepth 16384 in
theorem cp_52 (hlow : ∀ (k : Nat) (K : aK), KTx[k]? = some K → kOK TTs g (EIm n) l K) {b0 b1 : Nat} {bk : aB} {h : jH} (hI : lwI g n b0 b1 bk h) {z1 : Int32} : cpS l g n b0 b1 h 200 207 [.int z1] 0 0 true (k6 bk) := by
  by_cases a1 : z1.toInt < 0
  · obtain ⟨P, e1, e2⟩ := xc_bad (c := -1) hI (bu_441 (hlow 441 _ rfl) (hI.ok []) hI.2.2.2.1 ⟨i32_lo z1, i32_hi z1⟩) (fun fx f1 f2 f3 => xk_back_l f1 f2 f3 (by omega)) (by decide +kernel) (by decide +kernel) (by decide +kernel) (by decide +kernel)
    exact cp_cc (d1 := 4) (by decide) (Nat.zero_le _) (Nat.zero_le _) e1 e2 (fun bk1 h1 hI1 => ⟨2, _, by decide, mbN_run hlow (hI1.ok []) hI1.2.2.2.2.1 ⟨i32_lo _, by omega⟩, fun v h2 hq => lwPc hI1 hq (by decide +kernel) (by decide +kernel) (by decide +kernel) rfl (by decide) (show n ≤ n + 40 by omega)⟩)
  by_cases a2 : 2 ≤ z1.toInt
  · obtain ⟨P, e1, e2⟩ := xc_bad (c := -1) hI (bu_441 (hlow 441 _ rfl) (hI.ok []) hI.2.2.2.1 ⟨i32_lo z1, i32_hi z1⟩) (fun fx f1 f2 f3 => xk_back_h f1 f2 f3 (by omega)) (by decide +kernel) (by decide +kernel) (by decide +kernel) (by decide +kernel)
    exact cp_cc (d1 := 4) (by decide) (Nat.zero_le _) (Nat.zero_le _) e1 e2 (fun bk1 h1 hI1 => ⟨2, _, by decide, mbP_run hlow (hI1.ok []) hI1.2.2.2.2.1 ⟨a2, i32_hi _⟩, fun v h2 hq => lwPc hI1 hq (by decide +kernel) (by decide +kernel) (by decide +kernel) rfl (by decide) (show n ≤ n + 40 by omega)⟩)
  by_cases a3 : z1.toInt = 0
  · have e : z1 = 0 := i32_eq (by rw [a3]; rfl)
    subst e
    cases hk : bk (2 + 0) with
    | none =>
      refine ⟨4, 0, 0, _, by decide, Nat.le_refl _, Nat.le_refl _, bkN_0 hlow hI.1 hI.2.1 hI.2.2.1 hI.b01 hI.2.2.2.1 hk, fun v h1 hq => ?_⟩
      obtain ⟨rfl, bk1, k1⟩ := hq
      have hI1 : lwI g n b0 b1 (bkF bk1) h1 := hI.stepN k1 (Int.le_refl n) (by decide +kernel) (by decide +kernel) (by decide +kernel)
      have h61 : k6 bk (bkF bk1) := fun b hb => (bkF_ne (by decide)).trans (k1.2.2.2.2.1 6 b hb)
      refine ⟨-2, 3, _, rfl, by decide, bakR_ok hlow (hI1.ok []) hI1.2.2.2.2.1 (k := 0) (by decide), lw_m hI1, fun v2 h2 hq2 => ?_⟩
      rcases hq2 with ⟨-, rfl, bk2, k2⟩ | ⟨⟨x, x0, x1⟩, -⟩
      · refine ⟨-2, rfl, fun _ => rfl, bkF bk2, hI1.stepN k2 (by omega) (by decide +kernel) (by decide +kernel) (by decide +kernel), fun b hb => (bkF_ne (by decide)).trans (k2.2.2.2.2.1 6 b (h61 b hb))⟩
      · exfalso
        obtain ⟨t0, t1, t2⟩ := hI1.2.2.2.2.2.2.2 b0 b1 hI1.2.2.2.1 hI1.2.2.2.2.1
        have hn : (bkF bk1) (2 + 0) = none := (bkF_ne (by decide)).trans (img_none (k := 0) (by decide) hI.1 k1 hI.2.2.2.1 (by decide +kernel) hk)
        rcases t1 with ⟨-, e2⟩ | ⟨a', e1, -⟩
        · exact x0 (cv_fun x1 e2)
        · rw [hn] at e1
          cases e1
    | some a =>
      refine ⟨4, 0, 0, _, by decide, Nat.le_refl _, Nat.le_refl _, bkS_0 hlow hI.1 hI.2.1 hI.2.2.1 hI.b01 hI.2.2.2.1 hk, fun v h1 hq => ?_⟩
      obtain ⟨rfl, bk1, k1, hC⟩ := hq
      have p1 := k1.2.2.2.2.1 1 b1 hI.2.2.2.2.1
      obtain ⟨fm, hfm, -⟩ := k_obj (o := 0) (ci := 12) k1.1 p1 rfl
      obtain ⟨t0, t1, t2⟩ := hI.2.2.2.2.2.2.2 b0 b1 hI.2.2.2.1 hI.2.2.2.2.1
      have hk1 : cv h1 (b1 + 3) 0 1 := by
        rcases t1 with ⟨e1, -⟩ | ⟨a', e1, e2, -⟩
        · rw [hk] at e1
          cases e1
        · exact cv_off k1 hI.2.2.2.2.1 (by decide +kernel) (by decide +kernel) e2
      refine ⟨0, 3, _, rfl, by decide, bakR_ok hlow k1 p1 (k := 0) (by decide), ⟨fm, hfm⟩, fun v2 h2 hq2 => ?_⟩
      rcases hq2 with ⟨e1, -⟩ | ⟨-, rfl, bk2, k2, n1, n2, cI⟩
      · exfalso
        have := cv_fun e1 hk1
        omega
      · exact ⟨0, rfl, fun _ => rfl, bk_fin (k := 0) (by decide) hI k1 hk hC k2 n1 n2 cI (by decide +kernel)⟩
  · have e : z1 = 1 := i32_eq (by rw [show z1.toInt = 1 by omega]; rfl)
    subst e
    cases hk : bk (2 + 1) with
    | none =>
      refine ⟨4, 0, 0, _, by decide, Nat.le_refl _, Nat.le_refl _, bkN_1 hlow hI.1 hI.2.1 hI.2.2.1 hI.b01 hI.2.2.2.1 hk, fun v h1 hq => ?_⟩
      obtain ⟨rfl, bk1, k1⟩ := hq
      have hI1 : lwI g n b0 b1 (bkF bk1) h1 := hI.stepN k1 (Int.le_refl n) (by decide +kernel) (by decide +kernel) (by decide +kernel)
      have h61 : k6 bk (bkF bk1) := fun b hb => (bkF_ne (by decide)).trans (k1.2.2.2.2.1 6 b hb)
      refine ⟨-2, 3, _, rfl, by decide, bakR_ok hlow (hI1.ok []) hI1.2.2.2.2.1 (k := 1) (by decide), lw_m hI1, fun v2 h2 hq2 => ?_⟩
      rcases hq2 with ⟨-, rfl, bk2, k2⟩ | ⟨⟨x, x0, x1⟩, -⟩
      · refine ⟨-2, rfl, fun _ => rfl, bkF bk2, hI1.stepN k2 (by omega) (by decide +kernel) (by decide +kernel) (by decide +kernel), fun b hb => (bkF_ne (by decide)).trans (k2.2.2.2.2.1 6 b (h61 b hb))⟩
      · exfalso
        obtain ⟨t0, t1, t2⟩ := hI1.2.2.2.2.2.2.2 b0 b1 hI1.2.2.2.1 hI1.2.2.2.2.1
        have hn : (bkF bk1) (2 + 1) = none := (bkF_ne (by decide)).trans (img_none (k := 1) (by decide) hI.1 k1 hI.2.2.2.1 (by decide +kernel) hk)
        rcases t2 with ⟨-, e2⟩ | ⟨a', e1, -⟩
        · exact x0 (cv_fun x1 e2)
        · rw [hn] at e1
          cases e1
    | some a =>
      refine ⟨4, 0, 0, _, by decide, Nat.le_refl _, Nat.le_refl _, bkS_1 hlow hI.1 hI.2.1 hI.2.2.1 hI.b01 hI.2.2.2.1 hk, fun v h1 hq => ?_⟩
      obtain ⟨rfl, bk1, k1, hC⟩ := hq
      have p1 := k1.2.2.2.2.1 1 b1 hI.2.2.2.2.1
      obtain ⟨fm, hfm, -⟩ := k_obj (o := 0) (ci := 12) k1.1 p1 rfl
      obtain ⟨t0, t1, t2⟩ := hI.2.2.2.2.2.2.2 b0 b1 hI.2.2.2.1 hI.2.2.2.2.1
      have hk1 : cv h1 (b1 + 3) 1 1 := by
        rcases t2 with ⟨e1, -⟩ | ⟨a', e1, e2, -⟩
        · rw [hk] at e1
          cases e1
        · exact cv_off k1 hI.2.2.2.2.1 (by decide +kernel) (by decide +kernel) e2
      refine ⟨0, 3, _, rfl, by decide, bakR_ok hlow k1 p1 (k := 1) (by decide), ⟨fm, hfm⟩, fun v2 h2 hq2 => ?_⟩
      rcases hq2 with ⟨e1, -⟩ | ⟨-, rfl, bk2, k2, n1, n2, cI⟩
      · exfalso
        have := cv_fun e1 hk1
        omega
      · exact ⟨0, rfl, fun _ => rfl, bk_fin (k := 1) (by decide) hI k1 hk hC k2 n1 n2 cI (by decide +kernel)⟩
end QJ
