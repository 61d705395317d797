/-! mend, mended where the Mender isn't there; back of the reference with bad arguments -/
section MW
variable {l : Launch} {g : jG} {n : Int}
def mdNK : aK := (134, [some (2, 0, 0, 0, 0), some (0, -2147483648, -1, 0, 0), none], [], [], [(0, -1, -1, 0, 0, [])], [], [], [(0, 0, 11, 11), (0, 34, 3, 3), (0, 36, 0, 143), (6, 0, 0, 11), (6, 1, 0, 15), (6, 2, 0, 15), (6, 3, 0, 4912), (6, 4, 0, 4912), (6, 5, 0, 4912), (6, 6, 0, 271)], 10, 0, 0)
theorem mdN_ent : chk (TTs, KTx, KIx, [(0, 0, 11, 11), (0, 34, 3, 3), (0, 36, 0, 143), (6, 0, 0, 11), (6, 1, 0, 15), (6, 2, 0, 15), (6, 3, 0, 4912), (6, 4, 0, 4912), (6, 5, 0, 4912), (6, 6, 0, 271)], Pm, 134, 11, 10, 742) mdNK [] [] none 300 true 0 (spState [] mdNK.2.1 mdNK.2.2.1 mdNK.2.2.2.1 []) 0 0 = true := by decide +kernel
theorem pt_mdN {W0 W1 : List aR} {bk0 bk : aB} {h0 h : jH} (hO : hOK TTs g (EIm n) W0 bk0 h0 bk h) {a0 : Nat} (ha0 : bk 0 = some a0) {x1 : Int32} (hx1 : (-2147483648 : Int) ≤ x1.toInt ∧ x1.toInt ≤ -1) {o2 : Option Value} :
    PT TTs g (EIm n) W1 bk h [x1.toInt] 134 [x1.toInt] bk [some (.ref (g.2.2 + (a0 + 0))), some (.int x1), o2] [] h (spState [] [some (2, 0, 0, 0, 0), some (0, -2147483648, -1, 0, 0), none] [] [] []) ∧ eIv [x1.toInt] (spEnv [some (2, 0, 0, 0, 0), some (0, -2147483648, -1, 0, 0), none] ++ clEnv []) := by
  have hI : eIv [x1.toInt] (spEnv [some (2, 0, 0, 0, 0), some (0, -2147483648, -1, 0, 0), none] ++ clEnv []) := by
    refine ⟨rfl, fun i e z he hz => ?_⟩
    match i, he, hz with
    | 0, he, hz => cases he; cases hz; exact hx1
    | i + 1, he, _ => cases he
  refine ⟨⟨⟨hI, eFm_plain (plain_app (spEnv_plain _) clEnv_plain), fun F hF => absurd hF List.not_mem_nil, fun i v hv => ?_, trivial, fun q hq => ?_, fun B hB => ?_⟩, ⟨hO.1, hO.2.1, hO.2.2.1, UN.rf, fun _ _ q => q, hO.2.2.2.2.2⟩, (show 3 = jmx 134 by decide +kernel), fun i z hz => hz⟩, hI⟩
  · match i, hv with
    | 0, hv => cases hv; exact ⟨_, rfl, a0, ha0, rfl⟩
    | 1, hv => cases hv; exact ⟨_, rfl, x1, rfl, rfl⟩
    | 2, hv => cases hv
    | i + 3, hv => cases hv
  · exact absurd hq List.not_mem_nil
  · exact absurd hB List.not_mem_nil
set_option maxRecDepth 16384 in
theorem mdN_run (hlow : ∀ (k : Nat) (K : aK), KTx[k]? = some K → kOK TTs g (EIm n) l K) {W0 : List aR} {bk0 bk : aB} {h0 h : jH} (hO0 : hOK TTs g (EIm n) W0 bk0 h0 bk h) {b : Nat} (hb : bk 0 = some b) {x1 : Int32} (hx1 : (-2147483648 : Int) ≤ x1.toInt ∧ x1.toInt ≤ -1) : jCal l g 134 10 [.ref (g.2.2 + (b + 0)), .int x1] h 0 0 (kPost TTs g (EIm n) mdNK bk h [x1.toInt]) := by
  have hcls : jcN 11 = (jyN 134).cls := by decide +kernel
  have hM : mOK TTs g (EIm n) Pm KTx l mdNK.1 11 742 := ⟨TTs_cl, TTs_sg, EIm_ok, hcls, fun k K hK _ => hlow k K hK⟩
  refine jCal_of (by decide +kernel) (show 2 ≤ jmx 134 by decide +kernel) ?_
  show J l g 134 10 0 [some (.ref (g.2.2 + (b + 0))), some (.int x1), none] [] h 0 0 _
  obtain ⟨hp, hI⟩ := pt_mdN (W1 := mdNK.2.2.2.2.2.2.2.1) (o2 := none) hO0 hb hx1
  exact chk_okQ (K := mdNK) (KI := KIx) (ev' := [x1.toInt]) hM hI rfl (fun i z hz => hz) (fun v h' hq => hq) (fun C hC => absurd hC List.not_mem_nil) 300 true 0 _ _ _ mdN_ent _ bk _ [] h hp
def mdPK : aK := (134, [some (2, 0, 0, 0, 0), some (0, 2, 2147483647, 0, 0), none], [], [], [(0, -1, -1, 0, 0, [])], [], [], [(0, 0, 11, 11), (0, 34, 3, 3), (0, 36, 0, 143), (6, 0, 0, 11), (6, 1, 0, 15), (6, 2, 0, 15), (6, 3, 0, 4912), (6, 4, 0, 4912), (6, 5, 0, 4912), (6, 6, 0, 271)], 10, 0, 0)
theorem mdP_ent : chk (TTs, KTx, KIx, [(0, 0, 11, 11), (0, 34, 3, 3), (0, 36, 0, 143), (6, 0, 0, 11), (6, 1, 0, 15), (6, 2, 0, 15), (6, 3, 0, 4912), (6, 4, 0, 4912), (6, 5, 0, 4912), (6, 6, 0, 271)], Pm, 134, 11, 10, 742) mdPK [] [] none 300 true 0 (spState [] mdPK.2.1 mdPK.2.2.1 mdPK.2.2.2.1 []) 0 0 = true := by decide +kernel
theorem pt_mdP {W0 W1 : List aR} {bk0 bk : aB} {h0 h : jH} (hO : hOK TTs g (EIm n) W0 bk0 h0 bk h) {a0 : Nat} (ha0 : bk 0 = some a0) {x1 : Int32} (hx1 : (2 : Int) ≤ x1.toInt ∧ x1.toInt ≤ 2147483647) {o2 : Option Value} :
    PT TTs g (EIm n) W1 bk h [x1.toInt] 134 [x1.toInt] bk [some (.ref (g.2.2 + (a0 + 0))), some (.int x1), o2] [] h (spState [] [some (2, 0, 0, 0, 0), some (0, 2, 2147483647, 0, 0), none] [] [] []) ∧ eIv [x1.toInt] (spEnv [some (2, 0, 0, 0, 0), some (0, 2, 2147483647, 0, 0), none] ++ clEnv []) := by
  have hI : eIv [x1.toInt] (spEnv [some (2, 0, 0, 0, 0), some (0, 2, 2147483647, 0, 0), none] ++ clEnv []) := by
    refine ⟨rfl, fun i e z he hz => ?_⟩
    match i, he, hz with
    | 0, he, hz => cases he; cases hz; exact hx1
    | i + 1, he, _ => cases he
  refine ⟨⟨⟨hI, eFm_plain (plain_app (spEnv_plain _) clEnv_plain), fun F hF => absurd hF List.not_mem_nil, fun i v hv => ?_, trivial, fun q hq => ?_, fun B hB => ?_⟩, ⟨hO.1, hO.2.1, hO.2.2.1, UN.rf, fun _ _ q => q, hO.2.2.2.2.2⟩, (show 3 = jmx 134 by decide +kernel), fun i z hz => hz⟩, hI⟩
  · match i, hv with
    | 0, hv => cases hv; exact ⟨_, rfl, a0, ha0, rfl⟩
    | 1, hv => cases hv; exact ⟨_, rfl, x1, rfl, rfl⟩
    | 2, hv => cases hv
    | i + 3, hv => cases hv
  · exact absurd hq List.not_mem_nil
  · exact absurd hB List.not_mem_nil
set_option maxRecDepth 16384 in
theorem mdP_run (hlow : ∀ (k : Nat) (K : aK), KTx[k]? = some K → kOK TTs g (EIm n) l K) {W0 : List aR} {bk0 bk : aB} {h0 h : jH} (hO0 : hOK TTs g (EIm n) W0 bk0 h0 bk h) {b : Nat} (hb : bk 0 = some b) {x1 : Int32} (hx1 : (2 : Int) ≤ x1.toInt ∧ x1.toInt ≤ 2147483647) : jCal l g 134 10 [.ref (g.2.2 + (b + 0)), .int x1] h 0 0 (kPost TTs g (EIm n) mdPK bk h [x1.toInt]) := by
  have hcls : jcN 11 = (jyN 134).cls := by decide +kernel
  have hM : mOK TTs g (EIm n) Pm KTx l mdPK.1 11 742 := ⟨TTs_cl, TTs_sg, EIm_ok, hcls, fun k K hK _ => hlow k K hK⟩
  refine jCal_of (by decide +kernel) (show 2 ≤ jmx 134 by decide +kernel) ?_
  show J l g 134 10 0 [some (.ref (g.2.2 + (b + 0))), some (.int x1), none] [] h 0 0 _
  obtain ⟨hp, hI⟩ := pt_mdP (W1 := mdPK.2.2.2.2.2.2.2.1) (o2 := none) hO0 hb hx1
  exact chk_okQ (K := mdPK) (KI := KIx) (ev' := [x1.toInt]) hM hI rfl (fun i z hz => hz) (fun v h' hq => hq) (fun C hC => absurd hC List.not_mem_nil) 300 true 0 _ _ _ mdP_ent _ bk _ [] h hp
def meNK : aK := (152, [some (2, 0, 0, 0, 0), some (0, -2147483648, -1, 0, 0), some (0, -2147483648, 2147483647, 0, 0), none], [], [], [(0, -1, -1, 0, 0, [])], [], [], [(0, 0, 11, 11), (0, 34, 3, 3), (0, 36, 0, 143), (6, 0, 0, 11), (6, 1, 0, 15), (6, 2, 0, 15), (6, 3, 0, 4912), (6, 4, 0, 4912), (6, 5, 0, 4912), (6, 6, 0, 271)], 10, 0, 0)
theorem meN_ent : chk (TTs, KTx, KIx, [(0, 0, 11, 11), (0, 34, 3, 3), (0, 36, 0, 143), (6, 0, 0, 11), (6, 1, 0, 15), (6, 2, 0, 15), (6, 3, 0, 4912), (6, 4, 0, 4912), (6, 5, 0, 4912), (6, 6, 0, 271)], Pm, 152, 11, 10, 742) meNK [] [] none 300 true 0 (spState [] meNK.2.1 meNK.2.2.1 meNK.2.2.2.1 []) 0 0 = true := by decide +kernel
theorem pt_meN {W0 W1 : List aR} {bk0 bk : aB} {h0 h : jH} (hO : hOK TTs g (EIm n) W0 bk0 h0 bk h) {a0 : Nat} (ha0 : bk 0 = some a0) {x1 : Int32} (hx1 : (-2147483648 : Int) ≤ x1.toInt ∧ x1.toInt ≤ -1) {x2 : Int32} (hx2 : (-2147483648 : Int) ≤ x2.toInt ∧ x2.toInt ≤ 2147483647) {o3 : Option Value} :
    PT TTs g (EIm n) W1 bk h [x1.toInt, x2.toInt] 152 [x1.toInt, x2.toInt] bk [some (.ref (g.2.2 + (a0 + 0))), some (.int x1), some (.int x2), o3] [] h (spState [] [some (2, 0, 0, 0, 0), some (0, -2147483648, -1, 0, 0), some (0, -2147483648, 2147483647, 0, 0), none] [] [] []) ∧ eIv [x1.toInt, x2.toInt] (spEnv [some (2, 0, 0, 0, 0), some (0, -2147483648, -1, 0, 0), some (0, -2147483648, 2147483647, 0, 0), none] ++ clEnv []) := by
  have hI : eIv [x1.toInt, x2.toInt] (spEnv [some (2, 0, 0, 0, 0), some (0, -2147483648, -1, 0, 0), some (0, -2147483648, 2147483647, 0, 0), none] ++ clEnv []) := by
    refine ⟨rfl, fun i e z he hz => ?_⟩
    match i, he, hz with
    | 0, he, hz => cases he; cases hz; exact hx1
    | 1, he, hz => cases he; cases hz; exact hx2
    | i + 2, he, _ => cases he
  refine ⟨⟨⟨hI, eFm_plain (plain_app (spEnv_plain _) clEnv_plain), fun F hF => absurd hF List.not_mem_nil, fun i v hv => ?_, trivial, fun q hq => ?_, fun B hB => ?_⟩, ⟨hO.1, hO.2.1, hO.2.2.1, UN.rf, fun _ _ q => q, hO.2.2.2.2.2⟩, (show 4 = jmx 152 by decide +kernel), fun i z hz => hz⟩, hI⟩
  · match i, hv with
    | 0, hv => cases hv; exact ⟨_, rfl, a0, ha0, rfl⟩
    | 1, hv => cases hv; exact ⟨_, rfl, x1, rfl, rfl⟩
    | 2, hv => cases hv; exact ⟨_, rfl, x2, rfl, rfl⟩
    | 3, hv => cases hv
    | i + 4, hv => cases hv
  · exact absurd hq List.not_mem_nil
  · exact absurd hB List.not_mem_nil
set_option maxRecDepth 16384 in
theorem meN_run (hlow : ∀ (k : Nat) (K : aK), KTx[k]? = some K → kOK TTs g (EIm n) l K) {W0 : List aR} {bk0 bk : aB} {h0 h : jH} (hO0 : hOK TTs g (EIm n) W0 bk0 h0 bk h) {b : Nat} (hb : bk 0 = some b) {x1 : Int32} (hx1 : (-2147483648 : Int) ≤ x1.toInt ∧ x1.toInt ≤ -1) {x2 : Int32} (hx2 : (-2147483648 : Int) ≤ x2.toInt ∧ x2.toInt ≤ 2147483647) : jCal l g 152 10 [.ref (g.2.2 + (b + 0)), .int x1, .int x2] h 0 0 (kPost TTs g (EIm n) meNK bk h [x1.toInt, x2.toInt]) := by
  have hcls : jcN 11 = (jyN 152).cls := by decide +kernel
  have hM : mOK TTs g (EIm n) Pm KTx l meNK.1 11 742 := ⟨TTs_cl, TTs_sg, EIm_ok, hcls, fun k K hK _ => hlow k K hK⟩
  refine jCal_of (by decide +kernel) (show 3 ≤ jmx 152 by decide +kernel) ?_
  show J l g 152 10 0 [some (.ref (g.2.2 + (b + 0))), some (.int x1), some (.int x2), none] [] h 0 0 _
  obtain ⟨hp, hI⟩ := pt_meN (W1 := meNK.2.2.2.2.2.2.2.1) (o3 := none) hO0 hb hx1 hx2
  exact chk_okQ (K := meNK) (KI := KIx) (ev' := [x1.toInt, x2.toInt]) hM hI rfl (fun i z hz => hz) (fun v h' hq => hq) (fun C hC => absurd hC List.not_mem_nil) 300 true 0 _ _ _ meN_ent _ bk _ [] h hp
def mePK : aK := (152, [some (2, 0, 0, 0, 0), some (0, 0, 2147483647, 0, 0), some (0, -2147483648, 2147483647, 0, 0), none], [(0, 37, 4, 0, 16)], [([(0, 1), (2, -1)], 0)], [(0, -1, -1, 0, 0, [])], [], [], [(0, 0, 11, 11), (0, 34, 3, 3), (0, 36, 0, 143), (6, 0, 0, 11), (6, 1, 0, 15), (6, 2, 0, 15), (6, 3, 0, 4912), (6, 4, 0, 4912), (6, 5, 0, 4912), (6, 6, 0, 271)], 10, 0, 0)
theorem meP_ent : chk (TTs, KTx, KIx, [(0, 0, 11, 11), (0, 34, 3, 3), (0, 36, 0, 143), (6, 0, 0, 11), (6, 1, 0, 15), (6, 2, 0, 15), (6, 3, 0, 4912), (6, 4, 0, 4912), (6, 5, 0, 4912), (6, 6, 0, 271)], Pm, 152, 11, 10, 742) mePK [] [] none 300 true 0 (spState [] mePK.2.1 mePK.2.2.1 mePK.2.2.2.1 []) 0 0 = true := by decide +kernel
theorem pt_meP {W0 W1 : List aR} {bk0 bk : aB} {h0 h : jH} (hO : hOK TTs g (EIm n) W0 bk0 h0 bk h) {a0 : Nat} (ha0 : bk 0 = some a0) {x1 : Int32} (hx1 : (0 : Int) ≤ x1.toInt ∧ x1.toInt ≤ 2147483647) {x2 : Int32} (hx2 : (-2147483648 : Int) ≤ x2.toInt ∧ x2.toInt ≤ 2147483647) {o3 : Option Value} {c0 : Int32} (hc0 : (0 : Int) ≤ c0.toInt ∧ c0.toInt ≤ 16) {fc0 : List Value} (ec0 : h[a0 + 37]? = some (.inr (6, fc0))) (pc0 : fc0[4]? = some (.int c0)) (hfc : fcOK [x1.toInt, x2.toInt, c0.toInt] [([(0, 1), (2, -1)], 0)]) :
    PT TTs g (EIm n) W1 bk h [x1.toInt, x2.toInt, c0.toInt] 152 [x1.toInt, x2.toInt, c0.toInt] bk [some (.ref (g.2.2 + (a0 + 0))), some (.int x1), some (.int x2), o3] [] h (spState [] [some (2, 0, 0, 0, 0), some (0, 0, 2147483647, 0, 0), some (0, -2147483648, 2147483647, 0, 0), none] [(0, 37, 4, 0, 16)] [([(0, 1), (2, -1)], 0)] []) ∧ eIv [x1.toInt, x2.toInt, c0.toInt] (spEnv [some (2, 0, 0, 0, 0), some (0, 0, 2147483647, 0, 0), some (0, -2147483648, 2147483647, 0, 0), none] ++ clEnv [(0, 37, 4, 0, 16)]) := by
  have hI : eIv [x1.toInt, x2.toInt, c0.toInt] (spEnv [some (2, 0, 0, 0, 0), some (0, 0, 2147483647, 0, 0), some (0, -2147483648, 2147483647, 0, 0), none] ++ clEnv [(0, 37, 4, 0, 16)]) := by
    refine ⟨rfl, fun i e z he hz => ?_⟩
    match i, he, hz with
    | 0, he, hz => cases he; cases hz; exact hx1
    | 1, he, hz => cases he; cases hz; exact hx2
    | 2, he, hz => cases he; cases hz; exact hc0
    | i + 3, he, _ => cases he
  refine ⟨⟨⟨hI, eFm_plain (plain_app (spEnv_plain _) clEnv_plain), hfc, fun i v hv => ?_, trivial, fun q hq => ?_, fun B hB => ?_⟩, ⟨hO.1, hO.2.1, hO.2.2.1, UN.rf, fun _ _ q => q, hO.2.2.2.2.2⟩, (show 4 = jmx 152 by decide +kernel), fun i z hz => hz⟩, hI⟩
  · match i, hv with
    | 0, hv => cases hv; exact ⟨_, rfl, a0, ha0, rfl⟩
    | 1, hv => cases hv; exact ⟨_, rfl, x1, rfl, rfl⟩
    | 2, hv => cases hv; exact ⟨_, rfl, x2, rfl, rfl⟩
    | 3, hv => cases hv
    | i + 4, hv => cases hv
  · have hq2 : q = (0, 37, fcon ((4 : Nat) : Int), 2) := List.mem_singleton.mp hq
    subst hq2
    exact ⟨((4 : Nat) : Int), a0, _, c0.toInt, fcon_ok, ha0, ec0, ⟨by decide, c0, pc0, rfl⟩, rfl⟩
  · exact absurd hB List.not_mem_nil
set_option maxRecDepth 16384 in
theorem meP_run (hlow : ∀ (k : Nat) (K : aK), KTx[k]? = some K → kOK TTs g (EIm n) l K) {W0 : List aR} {bk0 bk : aB} {h0 h : jH} (hO0 : hOK TTs g (EIm n) W0 bk0 h0 bk h) {b : Nat} (hb : bk 0 = some b) {x1 : Int32} (hx1 : (0 : Int) ≤ x1.toInt ∧ x1.toInt ≤ 2147483647) {x2 : Int32} (hx2 : (-2147483648 : Int) ≤ x2.toInt ∧ x2.toInt ≤ 2147483647) {c0 : Int32} (hc0 : (0 : Int) ≤ c0.toInt ∧ c0.toInt ≤ 16) {fc0 : List Value} (ec0 : h[b + 37]? = some (.inr (6, fc0))) (pc0 : fc0[4]? = some (.int c0)) (hfc : fcOK [x1.toInt, x2.toInt, c0.toInt] [([(0, 1), (2, -1)], 0)]) : jCal l g 152 10 [.ref (g.2.2 + (b + 0)), .int x1, .int x2] h 0 0 (kPost TTs g (EIm n) mePK bk h [x1.toInt, x2.toInt, c0.toInt]) := by
  have hcls : jcN 11 = (jyN 152).cls := by decide +kernel
  have hM : mOK TTs g (EIm n) Pm KTx l mePK.1 11 742 := ⟨TTs_cl, TTs_sg, EIm_ok, hcls, fun k K hK _ => hlow k K hK⟩
  refine jCal_of (by decide +kernel) (show 3 ≤ jmx 152 by decide +kernel) ?_
  show J l g 152 10 0 [some (.ref (g.2.2 + (b + 0))), some (.int x1), some (.int x2), none] [] h 0 0 _
  obtain ⟨hp, hI⟩ := pt_meP (W1 := mePK.2.2.2.2.2.2.2.1) (o3 := none) hO0 hb hx1 hx2 hc0 ec0 pc0 hfc
  exact chk_okQ (K := mePK) (KI := KIx) (ev' := [x1.toInt, x2.toInt, c0.toInt]) hM hI rfl (fun i z hz => hz) (fun v h' hq => hq) (fun C hC => absurd hC List.not_mem_nil) 300 true 0 _ _ _ meP_ent _ bk _ [] h hp
def meMK : aK := (152, [some (2, 0, 0, 0, 0), some (0, -2147483648, 2147483647, 0, 0), some (0, -2147483648, -1, 0, 0), none], [], [], [(0, -1, -1, 0, 0, [])], [], [], [(0, 0, 11, 11), (0, 34, 3, 3), (0, 36, 0, 143), (6, 0, 0, 11), (6, 1, 0, 15), (6, 2, 0, 15), (6, 3, 0, 4912), (6, 4, 0, 4912), (6, 5, 0, 4912), (6, 6, 0, 271)], 10, 0, 0)
theorem meM_ent : chk (TTs, KTx, KIx, [(0, 0, 11, 11), (0, 34, 3, 3), (0, 36, 0, 143), (6, 0, 0, 11), (6, 1, 0, 15), (6, 2, 0, 15), (6, 3, 0, 4912), (6, 4, 0, 4912), (6, 5, 0, 4912), (6, 6, 0, 271)], Pm, 152, 11, 10, 742) meMK [] [] none 300 true 0 (spState [] meMK.2.1 meMK.2.2.1 meMK.2.2.2.1 []) 0 0 = true := by decide +kernel
theorem pt_meM {W0 W1 : List aR} {bk0 bk : aB} {h0 h : jH} (hO : hOK TTs g (EIm n) W0 bk0 h0 bk h) {a0 : Nat} (ha0 : bk 0 = some a0) {x1 : Int32} (hx1 : (-2147483648 : Int) ≤ x1.toInt ∧ x1.toInt ≤ 2147483647) {x2 : Int32} (hx2 : (-2147483648 : Int) ≤ x2.toInt ∧ x2.toInt ≤ -1) {o3 : Option Value} :
    PT TTs g (EIm n) W1 bk h [x1.toInt, x2.toInt] 152 [x1.toInt, x2.toInt] bk [some (.ref (g.2.2 + (a0 + 0))), some (.int x1), some (.int x2), o3] [] h (spState [] [some (2, 0, 0, 0, 0), some (0, -2147483648, 2147483647, 0, 0), some (0, -2147483648, -1, 0, 0), none] [] [] []) ∧ eIv [x1.toInt, x2.toInt] (spEnv [some (2, 0, 0, 0, 0), some (0, -2147483648, 2147483647, 0, 0), some (0, -2147483648, -1, 0, 0), none] ++ clEnv []) := by
  have hI : eIv [x1.toInt, x2.toInt] (spEnv [some (2, 0, 0, 0, 0), some (0, -2147483648, 2147483647, 0, 0), some (0, -2147483648, -1, 0, 0), none] ++ clEnv []) := by
    refine ⟨rfl, fun i e z he hz => ?_⟩
    match i, he, hz with
    | 0, he, hz => cases he; cases hz; exact hx1
    | 1, he, hz => cases he; cases hz; exact hx2
    | i + 2, he, _ => cases he
  refine ⟨⟨⟨hI, eFm_plain (plain_app (spEnv_plain _) clEnv_plain), fun F hF => absurd hF List.not_mem_nil, fun i v hv => ?_, trivial, fun q hq => ?_, fun B hB => ?_⟩, ⟨hO.1, hO.2.1, hO.2.2.1, UN.rf, fun _ _ q => q, hO.2.2.2.2.2⟩, (show 4 = jmx 152 by decide +kernel), fun i z hz => hz⟩, hI⟩
  · match i, hv with
    | 0, hv => cases hv; exact ⟨_, rfl, a0, ha0, rfl⟩
    | 1, hv => cases hv; exact ⟨_, rfl, x1, rfl, rfl⟩
    | 2, hv => cases hv; exact ⟨_, rfl, x2, rfl, rfl⟩
    | 3, hv => cases hv
    | i + 4, hv => cases hv
  · exact absurd hq List.not_mem_nil
  · exact absurd hB List.not_mem_nil
set_option maxRecDepth 16384 in
theorem meM_run (hlow : ∀ (k : Nat) (K : aK), KTx[k]? = some K → kOK TTs g (EIm n) l K) {W0 : List aR} {bk0 bk : aB} {h0 h : jH} (hO0 : hOK TTs g (EIm n) W0 bk0 h0 bk h) {b : Nat} (hb : bk 0 = some b) {x1 : Int32} (hx1 : (-2147483648 : Int) ≤ x1.toInt ∧ x1.toInt ≤ 2147483647) {x2 : Int32} (hx2 : (-2147483648 : Int) ≤ x2.toInt ∧ x2.toInt ≤ -1) : jCal l g 152 10 [.ref (g.2.2 + (b + 0)), .int x1, .int x2] h 0 0 (kPost TTs g (EIm n) meMK bk h [x1.toInt, x2.toInt]) := by
  have hcls : jcN 11 = (jyN 152).cls := by decide +kernel
  have hM : mOK TTs g (EIm n) Pm KTx l meMK.1 11 742 := ⟨TTs_cl, TTs_sg, EIm_ok, hcls, fun k K hK _ => hlow k K hK⟩
  refine jCal_of (by decide +kernel) (show 3 ≤ jmx 152 by decide +kernel) ?_
  show J l g 152 10 0 [some (.ref (g.2.2 + (b + 0))), some (.int x1), some (.int x2), none] [] h 0 0 _
  obtain ⟨hp, hI⟩ := pt_meM (W1 := meMK.2.2.2.2.2.2.2.1) (o3 := none) hO0 hb hx1 hx2
  exact chk_okQ (K := meMK) (KI := KIx) (ev' := [x1.toInt, x2.toInt]) hM hI rfl (fun i z hz => hz) (fun v h' hq => hq) (fun C hC => absurd hC List.not_mem_nil) 300 true 0 _ _ _ meM_ent _ bk _ [] h hp
def meQK : aK := (152, [some (2, 0, 0, 0, 0), some (0, -2147483648, 2147483647, 0, 0), some (0, 2, 2147483647, 0, 0), none], [], [], [(0, -1, -1, 0, 0, [])], [], [], [(0, 0, 11, 11), (0, 34, 3, 3), (0, 36, 0, 143), (6, 0, 0, 11), (6, 1, 0, 15), (6, 2, 0, 15), (6, 3, 0, 4912), (6, 4, 0, 4912), (6, 5, 0, 4912), (6, 6, 0, 271)], 10, 0, 0)
theorem meQ_ent : chk (TTs, KTx, KIx, [(0, 0, 11, 11), (0, 34, 3, 3), (0, 36, 0, 143), (6, 0, 0, 11), (6, 1, 0, 15), (6, 2, 0, 15), (6, 3, 0, 4912), (6, 4, 0, 4912), (6, 5, 0, 4912), (6, 6, 0, 271)], Pm, 152, 11, 10, 742) meQK [] [] none 300 true 0 (spState [] meQK.2.1 meQK.2.2.1 meQK.2.2.2.1 []) 0 0 = true := by decide +kernel
theorem pt_meQ {W0 W1 : List aR} {bk0 bk : aB} {h0 h : jH} (hO : hOK TTs g (EIm n) W0 bk0 h0 bk h) {a0 : Nat} (ha0 : bk 0 = some a0) {x1 : Int32} (hx1 : (-2147483648 : Int) ≤ x1.toInt ∧ x1.toInt ≤ 2147483647) {x2 : Int32} (hx2 : (2 : Int) ≤ x2.toInt ∧ x2.toInt ≤ 2147483647) {o3 : Option Value} :
    PT TTs g (EIm n) W1 bk h [x1.toInt, x2.toInt] 152 [x1.toInt, x2.toInt] bk [some (.ref (g.2.2 + (a0 + 0))), some (.int x1), some (.int x2), o3] [] h (spState [] [some (2, 0, 0, 0, 0), some (0, -2147483648, 2147483647, 0, 0), some (0, 2, 2147483647, 0, 0), none] [] [] []) ∧ eIv [x1.toInt, x2.toInt] (spEnv [some (2, 0, 0, 0, 0), some (0, -2147483648, 2147483647, 0, 0), some (0, 2, 2147483647, 0, 0), none] ++ clEnv []) := by
  have hI : eIv [x1.toInt, x2.toInt] (spEnv [some (2, 0, 0, 0, 0), some (0, -2147483648, 2147483647, 0, 0), some (0, 2, 2147483647, 0, 0), none] ++ clEnv []) := by
    refine ⟨rfl, fun i e z he hz => ?_⟩
    match i, he, hz with
    | 0, he, hz => cases he; cases hz; exact hx1
    | 1, he, hz => cases he; cases hz; exact hx2
    | i + 2, he, _ => cases he
  refine ⟨⟨⟨hI, eFm_plain (plain_app (spEnv_plain _) clEnv_plain), fun F hF => absurd hF List.not_mem_nil, fun i v hv => ?_, trivial, fun q hq => ?_, fun B hB => ?_⟩, ⟨hO.1, hO.2.1, hO.2.2.1, UN.rf, fun _ _ q => q, hO.2.2.2.2.2⟩, (show 4 = jmx 152 by decide +kernel), fun i z hz => hz⟩, hI⟩
  · match i, hv with
    | 0, hv => cases hv; exact ⟨_, rfl, a0, ha0, rfl⟩
    | 1, hv => cases hv; exact ⟨_, rfl, x1, rfl, rfl⟩
    | 2, hv => cases hv; exact ⟨_, rfl, x2, rfl, rfl⟩
    | 3, hv => cases hv
    | i + 4, hv => cases hv
  · exact absurd hq List.not_mem_nil
  · exact absurd hB List.not_mem_nil
set_option maxRecDepth 16384 in
theorem meQ_run (hlow : ∀ (k : Nat) (K : aK), KTx[k]? = some K → kOK TTs g (EIm n) l K) {W0 : List aR} {bk0 bk : aB} {h0 h : jH} (hO0 : hOK TTs g (EIm n) W0 bk0 h0 bk h) {b : Nat} (hb : bk 0 = some b) {x1 : Int32} (hx1 : (-2147483648 : Int) ≤ x1.toInt ∧ x1.toInt ≤ 2147483647) {x2 : Int32} (hx2 : (2 : Int) ≤ x2.toInt ∧ x2.toInt ≤ 2147483647) : jCal l g 152 10 [.ref (g.2.2 + (b + 0)), .int x1, .int x2] h 0 0 (kPost TTs g (EIm n) meQK bk h [x1.toInt, x2.toInt]) := by
  have hcls : jcN 11 = (jyN 152).cls := by decide +kernel
  have hM : mOK TTs g (EIm n) Pm KTx l meQK.1 11 742 := ⟨TTs_cl, TTs_sg, EIm_ok, hcls, fun k K hK _ => hlow k K hK⟩
  refine jCal_of (by decide +kernel) (show 3 ≤ jmx 152 by decide +kernel) ?_
  show J l g 152 10 0 [some (.ref (g.2.2 + (b + 0))), some (.int x1), some (.int x2), none] [] h 0 0 _
  obtain ⟨hp, hI⟩ := pt_meQ (W1 := meQK.2.2.2.2.2.2.2.1) (o3 := none) hO0 hb hx1 hx2
  exact chk_okQ (K := meQK) (KI := KIx) (ev' := [x1.toInt, x2.toInt]) hM hI rfl (fun i z hz => hz) (fun v h' hq => hq) (fun C hC => absurd hC List.not_mem_nil) 300 true 0 _ _ _ meQ_ent _ bk _ [] h hp
def mbNK : aK := (207, [some (2, 0, 0, 1, 0), some (0, -2147483648, -1, 0, 0), none], [], [], [(0, -1, -1, 0, 0, [])], [], [], [(1, 0, 0, 1)], 2, 0, 0)
theorem mbN_ent : chk (TTs, KTx, KIx, [(1, 0, 0, 1)], Pm, 207, 12, 2, 742) mbNK [] [] none 300 true 0 (spState [] mbNK.2.1 mbNK.2.2.1 mbNK.2.2.2.1 []) 0 0 = true := by decide +kernel
theorem pt_mbN {W0 W1 : List aR} {bk0 bk : aB} {h0 h : jH} (hO : hOK TTs g (EIm n) W0 bk0 h0 bk h) {a1 : Nat} (ha1 : bk 1 = some a1) {x1 : Int32} (hx1 : (-2147483648 : Int) ≤ x1.toInt ∧ x1.toInt ≤ -1) {o2 : Option Value} :
    PT TTs g (EIm n) W1 bk h [x1.toInt] 207 [x1.toInt] bk [some (.ref (g.2.2 + (a1 + 0))), some (.int x1), o2] [] h (spState [] [some (2, 0, 0, 1, 0), some (0, -2147483648, -1, 0, 0), none] [] [] []) ∧ eIv [x1.toInt] (spEnv [some (2, 0, 0, 1, 0), some (0, -2147483648, -1, 0, 0), none] ++ clEnv []) := by
  have hI : eIv [x1.toInt] (spEnv [some (2, 0, 0, 1, 0), some (0, -2147483648, -1, 0, 0), none] ++ clEnv []) := by
    refine ⟨rfl, fun i e z he hz => ?_⟩
    match i, he, hz with
    | 0, he, hz => cases he; cases hz; exact hx1
    | i + 1, he, _ => cases he
  refine ⟨⟨⟨hI, eFm_plain (plain_app (spEnv_plain _) clEnv_plain), fun F hF => absurd hF List.not_mem_nil, fun i v hv => ?_, trivial, fun q hq => ?_, fun B hB => ?_⟩, ⟨hO.1, hO.2.1, hO.2.2.1, UN.rf, fun _ _ q => q, hO.2.2.2.2.2⟩, (show 3 = jmx 207 by decide +kernel), fun i z hz => hz⟩, hI⟩
  · match i, hv with
    | 0, hv => cases hv; exact ⟨_, rfl, a1, ha1, rfl⟩
    | 1, hv => cases hv; exact ⟨_, rfl, x1, rfl, rfl⟩
    | 2, hv => cases hv
    | i + 3, hv => cases hv
  · exact absurd hq List.not_mem_nil
  · exact absurd hB List.not_mem_nil
set_option maxRecDepth 16384 in
theorem mbN_run (hlow : ∀ (k : Nat) (K : aK), KTx[k]? = some K → kOK TTs g (EIm n) l K) {W0 : List aR} {bk0 bk : aB} {h0 h : jH} (hO0 : hOK TTs g (EIm n) W0 bk0 h0 bk h) {b : Nat} (hb : bk 1 = some b) {x1 : Int32} (hx1 : (-2147483648 : Int) ≤ x1.toInt ∧ x1.toInt ≤ -1) : jCal l g 207 2 [.ref (g.2.2 + (b + 0)), .int x1] h 0 0 (kPost TTs g (EIm n) mbNK bk h [x1.toInt]) := by
  have hcls : jcN 12 = (jyN 207).cls := by decide +kernel
  have hM : mOK TTs g (EIm n) Pm KTx l mbNK.1 12 742 := ⟨TTs_cl, TTs_sg, EIm_ok, hcls, fun k K hK _ => hlow k K hK⟩
  refine jCal_of (by decide +kernel) (show 2 ≤ jmx 207 by decide +kernel) ?_
  show J l g 207 2 0 [some (.ref (g.2.2 + (b + 0))), some (.int x1), none] [] h 0 0 _
  obtain ⟨hp, hI⟩ := pt_mbN (W1 := mbNK.2.2.2.2.2.2.2.1) (o2 := none) hO0 hb hx1
  exact chk_okQ (K := mbNK) (KI := KIx) (ev' := [x1.toInt]) hM hI rfl (fun i z hz => hz) (fun v h' hq => hq) (fun C hC => absurd hC List.not_mem_nil) 300 true 0 _ _ _ mbN_ent _ bk _ [] h hp
def mbPK : aK := (207, [some (2, 0, 0, 1, 0), some (0, 2, 2147483647, 0, 0), none], [], [], [(0, -1, -1, 0, 0, [])], [], [], [(1, 0, 0, 1)], 2, 0, 0)
theorem mbP_ent : chk (TTs, KTx, KIx, [(1, 0, 0, 1)], Pm, 207, 12, 2, 742) mbPK [] [] none 300 true 0 (spState [] mbPK.2.1 mbPK.2.2.1 mbPK.2.2.2.1 []) 0 0 = true := by decide +kernel
theorem pt_mbP {W0 W1 : List aR} {bk0 bk : aB} {h0 h : jH} (hO : hOK TTs g (EIm n) W0 bk0 h0 bk h) {a1 : Nat} (ha1 : bk 1 = some a1) {x1 : Int32} (hx1 : (2 : Int) ≤ x1.toInt ∧ x1.toInt ≤ 2147483647) {o2 : Option Value} :
    PT TTs g (EIm n) W1 bk h [x1.toInt] 207 [x1.toInt] bk [some (.ref (g.2.2 + (a1 + 0))), some (.int x1), o2] [] h (spState [] [some (2, 0, 0, 1, 0), some (0, 2, 2147483647, 0, 0), none] [] [] []) ∧ eIv [x1.toInt] (spEnv [some (2, 0, 0, 1, 0), some (0, 2, 2147483647, 0, 0), none] ++ clEnv []) := by
  have hI : eIv [x1.toInt] (spEnv [some (2, 0, 0, 1, 0), some (0, 2, 2147483647, 0, 0), none] ++ clEnv []) := by
    refine ⟨rfl, fun i e z he hz => ?_⟩
    match i, he, hz with
    | 0, he, hz => cases he; cases hz; exact hx1
    | i + 1, he, _ => cases he
  refine ⟨⟨⟨hI, eFm_plain (plain_app (spEnv_plain _) clEnv_plain), fun F hF => absurd hF List.not_mem_nil, fun i v hv => ?_, trivial, fun q hq => ?_, fun B hB => ?_⟩, ⟨hO.1, hO.2.1, hO.2.2.1, UN.rf, fun _ _ q => q, hO.2.2.2.2.2⟩, (show 3 = jmx 207 by decide +kernel), fun i z hz => hz⟩, hI⟩
  · match i, hv with
    | 0, hv => cases hv; exact ⟨_, rfl, a1, ha1, rfl⟩
    | 1, hv => cases hv; exact ⟨_, rfl, x1, rfl, rfl⟩
    | 2, hv => cases hv
    | i + 3, hv => cases hv
  · exact absurd hq List.not_mem_nil
  · exact absurd hB List.not_mem_nil
set_option maxRecDepth 16384 in
theorem mbP_run (hlow : ∀ (k : Nat) (K : aK), KTx[k]? = some K → kOK TTs g (EIm n) l K) {W0 : List aR} {bk0 bk : aB} {h0 h : jH} (hO0 : hOK TTs g (EIm n) W0 bk0 h0 bk h) {b : Nat} (hb : bk 1 = some b) {x1 : Int32} (hx1 : (2 : Int) ≤ x1.toInt ∧ x1.toInt ≤ 2147483647) : jCal l g 207 2 [.ref (g.2.2 + (b + 0)), .int x1] h 0 0 (kPost TTs g (EIm n) mbPK bk h [x1.toInt]) := by
  have hcls : jcN 12 = (jyN 207).cls := by decide +kernel
  have hM : mOK TTs g (EIm n) Pm KTx l mbPK.1 12 742 := ⟨TTs_cl, TTs_sg, EIm_ok, hcls, fun k K hK _ => hlow k K hK⟩
  refine jCal_of (by decide +kernel) (show 2 ≤ jmx 207 by decide +kernel) ?_
  show J l g 207 2 0 [some (.ref (g.2.2 + (b + 0))), some (.int x1), none] [] h 0 0 _
  obtain ⟨hp, hI⟩ := pt_mbP (W1 := mbPK.2.2.2.2.2.2.2.1) (o2 := none) hO0 hb hx1
  exact chk_okQ (K := mbPK) (KI := KIx) (ev' := [x1.toInt]) hM hI rfl (fun i z hz => hz) (fun v h' hq => hq) (fun C hC => absurd hC List.not_mem_nil) 300 true 0 _ _ _ mbP_ent _ bk _ [] h hp
theorem lm_480 (hk : kOK TTs g (EIm n) l Kx_480) {W0 : List aR} {bk0 bk : aB} {h0 h : jH} (hO : hOK TTs g (EIm n) W0 bk0 h0 bk h) {a0 : Nat} (ha0 : bk 0 = some a0)  :
    jCal l g 135 9 [.ref (g.2.2 + (a0 + 0))] h 7 20000 (kPost TTs g (EIm n) Kx_480 bk h []) := by
  refine hk bk h [.ref (g.2.2 + (a0 + 0))] [] hO.1 hO.2.1 hO.2.2.1 hO.2.2.2.2.2 (show 1 ≤ jmx 135 by decide +kernel) rfl (fun q hq => ?_) ⟨⟨rfl, fun i e z he hz => ?_⟩, eFm_plain (plain_app (spEnv_plain _) clEnv_plain), fun F hF => absurd hF List.not_mem_nil, fun i v hv => ?_, trivial, fun q hq => ?_, fun B hB => absurd hB List.not_mem_nil⟩
  · have hq : q ∈ ([] : List (Nat × Int × Nat)) := hq
    exact absurd hq List.not_mem_nil
  · match i, he, hz with
    | i + 0, he, _ => cases he
  · match i, hv with
    | 0, hv => cases hv; exact ⟨_, rfl, a0, ha0, rfl⟩
    | i + 1, hv => cases hv
  · exact absurd hq List.not_mem_nil
theorem isf_ok {h : jH} {d : Nat} {x : Int32} (hx : (0 : Int) ≤ x.toInt ∧ x.toInt ≤ 1) : jCal l g 19 d [.int x] h 0 0 (fun v h' => v = some (.int 1) ∧ h' = h) := by
  refine jCal_of (by decide +kernel) (show 1 ≤ jmx 19 by decide +kernel) ?_
  show J l g 19 d 0 [some (.int x)] [] h 0 0 _
  refine j_iload_n (k4 := 0) (by decide +kernel) rfl ?_
  refine j_if_eq (off := 8) (tgt := 9) (by decide +kernel) (by decide) (fun _ => ?_) (fun hne => ?_)
  · refine j_iconst (n := 1) (by decide +kernel) ?_
    refine j_goto (off := 4) (tgt := 14) (by decide +kernel) (by decide) ?_
    exact j_ret (v := some (.int 1)) ⟨by decide +kernel, Or.inr (Or.inl ⟨by decide +kernel, Or.inr rfl⟩)⟩ ⟨rfl, rfl⟩ rfl
  · refine j_iload_n (k4 := 0) (by decide +kernel) rfl ?_
    refine j_iconst (n := 1) (by decide +kernel) ?_
    refine j_icmp_ne (off := 7) (tgt := 13) (by decide +kernel) (by decide) (fun hn1 => ?_) (fun _ => ?_)
    · exfalso
      have h0 : x.toInt ≠ 0 := fun e => hne (i32_eq (by rw [e]; rfl))
      exact hn1 (i32_eq (by rw [show x.toInt = 1 by omega]; rfl))
    · refine j_iconst (n := 1) (by decide +kernel) ?_
      refine j_goto (off := 4) (tgt := 14) (by decide +kernel) (by decide) ?_
      exact j_ret (v := some (.int 1)) ⟨by decide +kernel, Or.inr (Or.inl ⟨by decide +kernel, Or.inr rfl⟩)⟩ ⟨rfl, rfl⟩ rfl
theorem ty_st1 : tyAt TTs 0 1 = some (.inr (7, match tyAt TTs 0 1 with | some (.inr q) => q.2 | _ => [])) := rfl
set_option maxRecDepth 16384 in
theorem mdG_run (hlow : ∀ (k : Nat) (K : aK), KTx[k]? = some K → kOK TTs g (EIm n) l K) {W0 : List aR} {bk0 bk : aB} {h0 h : jH} (hO0 : hOK TTs g (EIm n) W0 bk0 h0 bk h) {b : Nat} (hb : bk 0 = some b) {x1 : Int32} (hx1 : (0 : Int) ≤ x1.toInt ∧ x1.toInt ≤ 1) : jCal l g 134 10 [.ref (g.2.2 + (b + 0)), .int x1] h 7 20000 (fun v h' => ∃ x : Int32, v = some (.int x) ∧ ∃ bk', hOK TTs g (EIm n) mdK.2.2.2.2.2.2.2.1 bk h bk' h' ∧ ∃ b6, bk' 6 = some b6) := by
  have hcls : jcN 11 = (jyN 134).cls := by decide +kernel
  have hO2 : hOK TTs g (EIm n) mdK.2.2.2.2.2.2.2.1 bk h bk h := hOK.rf hO0.1 hO0.2.1 hO0.2.2.1 hO0.2.2.2.2.2
  obtain ⟨c, hc, fs, rfl, -, hfs⟩ := hO0.1 0 b 0 _ hb ty_x0
  have hc : h[b + 0]? = some (.inr (11, fs)) := hc
  refine jCal_of (by decide +kernel) (show 2 ≤ jmx 134 by decide +kernel) ?_
  show J l g 134 10 0 [some (.ref (g.2.2 + (b + 0))), some (.int x1), none] [] h (0 + 7) (0 + 20000) _
  refine j_iload_n (k4 := 1) (by decide +kernel) rfl ?_
  refine j_callS (own := 11) (i := 51) (y2 := 19) (d2 := 1) (mc := 0) (ms := 0) (kc := 7) (ks := 20000) (As := [.int x1]) (st := []) (by decide +kernel) hcls (by decide +kernel) (by decide) (by decide +kernel) (by decide +kernel) (by decide +kernel) (by decide +kernel) (show 1 = jnp 19 by decide +kernel) (by decide) (by decide) (isf_ok hx1) (fun v h' hq => ?_)
  obtain ⟨rfl, eh⟩ := hq
  rw [eh]
  refine j_if_ne (off := 5) (tgt := 9) (by decide +kernel) (by decide) (fun _ => ?_) (fun e => absurd (by decide) e)
  show J l g 134 10 9 _ [] h (7 + 0) (20000 + 0) _
  refine j_aload_n (k4 := 0) (by decide +kernel) rfl ?_
  refine j_callV (own := 11) (i := 264) (y2 := 135) (d2 := 9) (mc := 7) (ms := 20000) (kc := 0) (ks := 0) (a := b + 0) (As := []) (st := []) (by decide +kernel) hcls (by decide +kernel) (by decide) (by decide +kernel) (by decide +kernel) (by decide +kernel) (by decide +kernel) (by decide +kernel) (show 0 = jnp 135 by decide +kernel) (by decide) (by decide) hc (fun r hr => by cases hr; decide +kernel) (lm_480 (hlow 480 _ rfl) hO2 hb) (fun v h3 hq => ?_)
  obtain ⟨bk3, os, k1, -, qq, hq1, hq2⟩ := hq
  have hq3 : qq = (2, 0, 0, 6, 0, []) := List.mem_singleton.mp hq1
  subst hq3
  obtain ⟨⟨b6', hb6', rfl⟩, -⟩ := hq2
  have hb6' : bk3 6 = some b6' := hb6'
  have hb3 := k1.2.2.2.2.1 0 b hb
  have k1 : hOK TTs g (EIm n) Kx_480.2.2.2.2.2.2.2.1 bk h bk3 h3 := k1
  have hO3 := hO2.tr (W' := Kx_480.2.2.2.2.2.2.2.1) (by decide +kernel) k1
  refine j_astore_n (k4 := 2) (by decide +kernel) (by decide +kernel) ?_
  obtain ⟨hp3, hI3⟩ := pt_mdr (W1 := mdR.2.2.2.2.2.2.2.1) hO3 hb6' hb3 (x1 := x1) hx1
  have hMr : mOK TTs g (EIm n) Pm KTx l mdR.1 11 742 := ⟨TTs_cl, TTs_sg, EIm_ok, hcls, fun k K hK _ => hlow k K hK⟩
  refine chk_okQ (K := mdR) (KI := KIx) (bk0 := bk3) (h0 := h3) (ev := [x1.toInt]) (ev' := [x1.toInt]) hMr hI3 rfl (fun i z hz => hz) (fun v h' hq => ?_) (fun C hC => absurd hC List.not_mem_nil) 300 true 14 _ _ _ md_rest _ bk3 _ [] h3 hp3
  obtain ⟨bk4, os, k4, k5, qq, hq1, hq2⟩ := hq
  have hos : os = [] := List.eq_nil_of_length_eq_zero k5.1
  subst hos
  have hq3 : qq = (0, -2147483648, 2147483647, 0, 0, []) := List.mem_singleton.mp hq1
  subst hq3
  obtain ⟨r, rfl, r1, -, -⟩ := hq2
  exact ⟨r, rfl, bk4, hO3.tr (W' := mdR.2.2.2.2.2.2.2.1) (by decide +kernel) k4, b6', k4.2.2.2.2.1 6 b6' hb6'⟩
set_option maxRecDepth 16384 in
theorem meG_run (hlow : ∀ (k : Nat) (K : aK), KTx[k]? = some K → kOK TTs g (EIm n) l K) {W0 : List aR} {bk0 bk : aB} {h0 h : jH} (hO0 : hOK TTs g (EIm n) W0 bk0 h0 bk h) {b : Nat} (hb : bk 0 = some b) {x1 : Int32} (hx1 : (0 : Int) ≤ x1.toInt ∧ x1.toInt ≤ 15) {x2 : Int32} (hx2 : (0 : Int) ≤ x2.toInt ∧ x2.toInt ≤ 1) {c0 : Int32} {fc0 : List Value} (ec0 : h[b + 37]? = some (.inr (6, fc0))) (pc0 : fc0[4]? = some (.int c0)) (hlt : x1.toInt < c0.toInt) : jCal l g 152 10 [.ref (g.2.2 + (b + 0)), .int x1, .int x2] h 7 20000 (fun v h' => ∃ x : Int32, v = some (.int x) ∧ ∃ bk', hOK TTs g (EIm n) meK.2.2.2.2.2.2.2.1 bk h bk' h' ∧ ∃ b6, bk' 6 = some b6) := by
  have hcls : jcN 11 = (jyN 152).cls := by decide +kernel
  have hO2 : hOK TTs g (EIm n) meK.2.2.2.2.2.2.2.1 bk h bk h := hOK.rf hO0.1 hO0.2.1 hO0.2.2.1 hO0.2.2.2.2.2
  obtain ⟨c, hc, fs, rfl, -, hfs⟩ := hO0.1 0 b 0 _ hb ty_x0
  have hc : h[b + 0]? = some (.inr (11, fs)) := hc
  refine jCal_of (by decide +kernel) (show 3 ≤ jmx 152 by decide +kernel) ?_
  show J l g 152 10 0 [some (.ref (g.2.2 + (b + 0))), some (.int x1), some (.int x2), none] [] h (0 + 7) (0 + 20000) _
  obtain ⟨v0, hv0, bn, hbn, rfl⟩ := hfs 0 (2, 0, 0, 0, 1) rfl
  have hbn : bk 0 = some bn := hbn
  cases hb.symm.trans hbn
  obtain ⟨cS, hcS, fS, rfl, -, hfS⟩ := hO0.1 0 b 1 _ hb ty_st1
  have hcS : h[b + 1]? = some (.inr (7, fS)) := hcS
  obtain ⟨v1, hv1, bn1, hbn1, rfl⟩ := hfS 18 (2, 0, 0, 0, 37) rfl
  have hbn1 : bk 0 = some bn1 := hbn1
  cases hb.symm.trans hbn1
  refine j_iload_n (k4 := 1) (by decide +kernel) rfl ?_
  refine j_if_lt (off := 24) (tgt := 25) (by decide +kernel) (by decide) (fun e => ?_) (fun _ => ?_)
  · have e2 := Int32.lt_iff_toInt_lt.mp e
    rw [show (0 : Int32).toInt = 0 from rfl] at e2
    omega
  refine j_iload_n (k4 := 1) (by decide +kernel) rfl ?_
  refine j_aload_n (k4 := 0) (by decide +kernel) rfl ?_
  refine j_get (own := 11) (i := 10) (ci := 11) (f := 0) (by decide +kernel) hcls (by decide +kernel) hc (fun r hr => by cases hr; decide +kernel) hv0 ?_
  refine j_get (own := 11) (i := 239) (ci := 7) (f := 18) (by decide +kernel) hcls (by decide +kernel) hcS (fun r hr => by cases hr; decide +kernel) hv1 ?_
  refine j_get (own := 11) (i := 280) (ci := 6) (f := 4) (by decide +kernel) hcls (by decide +kernel) ec0 (fun r hr => by cases hr; decide +kernel) pc0 ?_
  refine j_icmp_ge (off := 10) (tgt := 25) (by decide +kernel) (by decide) (fun e => ?_) (fun _ => ?_)
  · have e2 := Int32.le_iff_toInt_le.mp e
    omega
  refine j_iload_n (k4 := 2) (by decide +kernel) rfl ?_
  refine j_callS (own := 11) (i := 51) (y2 := 19) (d2 := 1) (mc := 0) (ms := 0) (kc := 7) (ks := 20000) (As := [.int x2]) (st := []) (by decide +kernel) hcls (by decide +kernel) (by decide) (by decide +kernel) (by decide +kernel) (by decide +kernel) (by decide +kernel) (show 1 = jnp 19 by decide +kernel) (by decide) (by decide) (isf_ok hx2) (fun v h' hq => ?_)
  obtain ⟨rfl, eh⟩ := hq
  rw [eh]
  refine j_if_ne (off := 5) (tgt := 27) (by decide +kernel) (by decide) (fun _ => ?_) (fun e => absurd (by decide) e)
  show J l g 152 10 27 _ [] h (7 + 0) (20000 + 0) _
  refine j_aload_n (k4 := 0) (by decide +kernel) rfl ?_
  refine j_callV (own := 11) (i := 264) (y2 := 135) (d2 := 9) (mc := 7) (ms := 20000) (kc := 0) (ks := 0) (a := b + 0) (As := []) (st := []) (by decide +kernel) hcls (by decide +kernel) (by decide) (by decide +kernel) (by decide +kernel) (by decide +kernel) (by decide +kernel) (by decide +kernel) (show 0 = jnp 135 by decide +kernel) (by decide) (by decide) hc (fun r hr => by cases hr; decide +kernel) (lm_480 (hlow 480 _ rfl) hO2 hb) (fun v h3 hq => ?_)
  obtain ⟨bk3, os, k1, -, qq, hq1, hq2⟩ := hq
  have hq3 : qq = (2, 0, 0, 6, 0, []) := List.mem_singleton.mp hq1
  subst hq3
  obtain ⟨⟨b6', hb6', rfl⟩, -⟩ := hq2
  have hb6' : bk3 6 = some b6' := hb6'
  have hb3 := k1.2.2.2.2.1 0 b hb
  have k1 : hOK TTs g (EIm n) Kx_480.2.2.2.2.2.2.2.1 bk h bk3 h3 := k1
  have hO3 := hO2.tr (W' := Kx_480.2.2.2.2.2.2.2.1) (by decide +kernel) k1
  refine j_astore_n (k4 := 3) (by decide +kernel) (by decide +kernel) ?_
  obtain ⟨hp3, hI3⟩ := pt_mer (W1 := meR.2.2.2.2.2.2.2.1) hO3 hb6' hb3 (x1 := x1) hx1 (x2 := x2) hx2
  have hMr : mOK TTs g (EIm n) Pm KTx l meR.1 11 742 := ⟨TTs_cl, TTs_sg, EIm_ok, hcls, fun k K hK _ => hlow k K hK⟩
  refine chk_okQ (K := meR) (KI := KIx) (bk0 := bk3) (h0 := h3) (ev := [x1.toInt, x2.toInt]) (ev' := [x1.toInt, x2.toInt]) hMr hI3 rfl (fun i z hz => hz) (fun v h' hq => ?_) (fun C hC => absurd hC List.not_mem_nil) 300 true 32 _ _ _ me_rest _ bk3 _ [] h3 hp3
  obtain ⟨bk4, os, k4, k5, qq, hq1, hq2⟩ := hq
  have hos : os = [] := List.eq_nil_of_length_eq_zero k5.1
  subst hos
  have hq3 : qq = (0, -2147483648, 2147483647, 0, 0, []) := List.mem_singleton.mp hq1
  subst hq3
  obtain ⟨r, rfl, r1, -, -⟩ := hq2
  exact ⟨r, rfl, bk4, hO3.tr (W' := meR.2.2.2.2.2.2.2.1) (by decide +kernel) k4, b6', k4.2.2.2.2.1 6 b6' hb6'⟩
end MW
