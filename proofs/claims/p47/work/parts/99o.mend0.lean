section
/-! mend and mended where the Mender is there: nothing new is made -/
section MZ
variable {l : Launch} {g : jG} {n : Int}
theorem smd0_run (hlow : ∀ (k : Nat) (K : aK), KTx[k]? = some K → kOK TTs g (EIm n) l K) {W0 : List aR} {bk0 bk : aB} {h0 h : jH} (hO0 : hOK TTs g (EIm n) W0 bk0 h0 bk h) {b b6 : Nat} (hb : bk 0 = some b) (h6 : bk 6 = some b6) : jCal l g 135 9 [.ref (g.2.2 + (b + 0))] h 0 0 (kPost TTs g (EIm n) (smK 0 0) bk h []) := by
  have hcls : jcN 11 = (jyN 135).cls := by decide +kernel
  have hM : mOK TTs g (EIm n) Pm KTx l (smK 0 0).1 11 smdN := ⟨TTs_cl, TTs_sg, EIm_ok, hcls, fun k K hK _ => hlow k K hK⟩
  have cks := cuts_ok (l := l) (own := 11) (n := smdN) (fuel := 200) (sp := []) (ev := []) (K := smK 0 0) (bk0 := bk) (h0 := h) hM ⟨rfl, fun i e z he _ => by cases he⟩ rfl sm_cks
  refine jCal_of (by decide +kernel) (show 1 ≤ jmx 135 by decide +kernel) ?_
  show J l g 135 9 0 [some (.ref (g.2.2 + (b + 0)))] [] h 0 0 _
  obtain ⟨c, hc, fs, rfl, hfl, hfs⟩ := hO0.1 0 b 0 _ hb ty_x0
  have hc : h[b + 0]? = some (.inr (11, fs)) := hc
  obtain ⟨v, hv, hvt⟩ := hfs 11 (3, 0, 0, 6, 0) rfl
  have n11 : ∀ r, jcl[11]? = some r → 11 < r.2.2 := fun r hr => by
    cases hr
    decide +kernel
  refine j_aload_n (k4 := 0) (dQ (by decide +kernel)) rfl ?_
  refine j_get (own := 11) (i := 377) (ci := 11) (f := 11) (dQ (by decide +kernel)) hcls (by decide +kernel) hc n11 hv ?_
  rcases hvt with ⟨bx, hX, rfl⟩ | ⟨hX, rfl⟩
  · refine j_ifnonnull (off := 14) (tgt := 18) (dQ (by decide +kernel)) (by decide) ?_
    refine cks smC18 List.mem_cons_self 1 (by decide) [] bk _ h ⟨⟨⟨rfl, fun i e z he _ => by cases he⟩, eFm_plain (plain_app (plain_app (plain_app (spEnv_plain _) clEnv_plain) (spEnv_plain _)) clEnv_plain), fun F hF => absurd hF List.not_mem_nil, ?_, trivial, fun q hq => absurd hq List.not_mem_nil, ?_⟩, hOK.rf hO0.1 hO0.2.1 hO0.2.2.1 hO0.2.2.2.2.2, (show (1 : Nat) = jmx 135 by decide +kernel), fun i z hz => hz⟩ rfl
    · intro i v hv
      match i, hv with
      | 0, hv => cases hv; exact ⟨_, rfl, b, hb, rfl⟩
      | n + 1, hv => cases hv
    · intro B hB
      have := List.mem_singleton.mp hB
      subst this
      exact ⟨b6, h6⟩
  · have hX : bk 6 = none := hX
    rw [h6] at hX
    cases hX
def mdK : aK := (134, [some (2, 0, 0, 0, 0), some (0, -2147483648, 2147483647, 0, 0), none], [], [], [(0, -2147483648, 2147483647, 0, 0, [])], [], [], [(0, 0, 11, 11), (0, 34, 3, 3), (0, 36, 0, 143), (6, 0, 0, 11), (6, 1, 0, 15), (6, 2, 0, 15), (6, 3, 0, 4912), (6, 4, 0, 4912), (6, 5, 0, 4912), (6, 6, 0, 271)], 10, 0, 0)
def mdC : aCu := (9, [some (2, 0, 0, 0, 0), some (0, 0, 1, 0, 0), none], [], [], ([], 0), [])
def mdR : aK := (134, [some (2, 0, 0, 0, 0), some (0, 0, 1, 0, 0), some (2, 0, 0, 6, 0)], [], [], [(0, -2147483648, 2147483647, 0, 0, [])], [], [], [(0, 0, 11, 11), (0, 34, 3, 3), (0, 36, 0, 143), (6, 0, 0, 11), (6, 1, 0, 15), (6, 2, 0, 15), (6, 3, 0, 4912), (6, 4, 0, 4912), (6, 5, 0, 4912), (6, 6, 0, 271)], 10, 0, 0)
theorem md_ent : chk (TTs, KTx, KIx, [(0, 0, 11, 11), (0, 34, 3, 3), (0, 36, 0, 143), (6, 0, 0, 11), (6, 1, 0, 15), (6, 2, 0, 15), (6, 3, 0, 4912), (6, 4, 0, 4912), (6, 5, 0, 4912), (6, 6, 0, 271)], Pm, 134, 11, 10, 742) mdK [mdC] [] none 300 true 0 (spState [] mdK.2.1 [] [] []) 0 0 = true := by decide +kernel
theorem md_rest : chk (TTs, KTx, KIx, [(0, 0, 11, 11), (0, 34, 3, 3), (0, 36, 0, 143), (6, 0, 0, 11), (6, 1, 0, 15), (6, 2, 0, 15), (6, 3, 0, 4912), (6, 4, 0, 4912), (6, 5, 0, 4912), (6, 6, 0, 271)], Pm, 134, 11, 10, 742) mdR [] [] none 300 true 14 (spState [] mdR.2.1 [] [] [6]) 0 0 = true := by decide +kernel
theorem pt_mde {W0 W1 : List aR} {bk0 bk : aB} {h0 h : jH} (hO : hOK TTs g (EIm n) W0 bk0 h0 bk h) {a0 : Nat} (ha0 : bk 0 = some a0) {x1 : Int32} (hx1 : (-2147483648 : Int) ≤ x1.toInt ∧ x1.toInt ≤ 2147483647) {o2 : Option Value} :
    PT TTs g (EIm n) W1 bk h [x1.toInt] 134 [x1.toInt] bk [some (.ref (g.2.2 + (a0 + 0))), some (.int x1), o2] [] h (spState [] [some (2, 0, 0, 0, 0), some (0, -2147483648, 2147483647, 0, 0), none] [] [] []) ∧ eIv [x1.toInt] (spEnv [some (2, 0, 0, 0, 0), some (0, -2147483648, 2147483647, 0, 0), none] ++ clEnv []) := by
  have hI : eIv [x1.toInt] (spEnv [some (2, 0, 0, 0, 0), some (0, -2147483648, 2147483647, 0, 0), none] ++ clEnv []) := by
    refine ⟨rfl, fun i e z he hz => ?_⟩
    match i, he, hz with
    | 0, he, hz => cases he; cases hz; exact hx1
    | i + 1, he, _ => cases he
  refine ⟨⟨⟨hI, eFm_plain (plain_app (spEnv_plain _) clEnv_plain), fun F hF => absurd hF List.not_mem_nil, fun i v hv => ?_, trivial, fun q hq => ?_, fun B hB => ?_⟩, ⟨hO.1, hO.2.1, hO.2.2.1, UN.rf, fun _ _ q => q, hO.2.2.2.2.2⟩, (show 3 = jmx 134 by decide +kernel), fun i z hz => hz⟩, hI⟩
  · match i, hv with
    | 0, hv => cases hv; exact ⟨_, rfl, a0, ha0, rfl⟩
    | 1, hv => cases hv; exact ⟨_, rfl, x1, rfl, rfl⟩
    | 2, hv => cases hv
    | i + 3, hv => cases hv
  · exact absurd hq List.not_mem_nil
  · exact absurd hB List.not_mem_nil
theorem pt_mdr {W0 W1 : List aR} {bk0 bk : aB} {h0 h : jH} (hO : hOK TTs g (EIm n) W0 bk0 h0 bk h) {a6 : Nat} (ha6 : bk 6 = some a6) {a0 : Nat} (ha0 : bk 0 = some a0) {x1 : Int32} (hx1 : (0 : Int) ≤ x1.toInt ∧ x1.toInt ≤ 1) :
    PT TTs g (EIm n) W1 bk h [x1.toInt] 134 [x1.toInt] bk [some (.ref (g.2.2 + (a0 + 0))), some (.int x1), some (.ref (g.2.2 + (a6 + 0)))] [] h (spState [] [some (2, 0, 0, 0, 0), some (0, 0, 1, 0, 0), some (2, 0, 0, 6, 0)] [] [] [6]) ∧ eIv [x1.toInt] (spEnv [some (2, 0, 0, 0, 0), some (0, 0, 1, 0, 0), some (2, 0, 0, 6, 0)] ++ clEnv []) := by
  have hI : eIv [x1.toInt] (spEnv [some (2, 0, 0, 0, 0), some (0, 0, 1, 0, 0), some (2, 0, 0, 6, 0)] ++ clEnv []) := by
    refine ⟨rfl, fun i e z he hz => ?_⟩
    match i, he, hz with
    | 0, he, hz => cases he; cases hz; exact hx1
    | i + 1, he, _ => cases he
  refine ⟨⟨⟨hI, eFm_plain (plain_app (spEnv_plain _) clEnv_plain), fun F hF => absurd hF List.not_mem_nil, fun i v hv => ?_, trivial, fun q hq => ?_, fun B hB => ?_⟩, ⟨hO.1, hO.2.1, hO.2.2.1, UN.rf, fun _ _ q => q, hO.2.2.2.2.2⟩, (show 3 = jmx 134 by decide +kernel), fun i z hz => hz⟩, hI⟩
  · match i, hv with
    | 0, hv => cases hv; exact ⟨_, rfl, a0, ha0, rfl⟩
    | 1, hv => cases hv; exact ⟨_, rfl, x1, rfl, rfl⟩
    | 2, hv => cases hv; exact ⟨_, rfl, a6, ha6, rfl⟩
    | i + 3, hv => cases hv
  · exact absurd hq List.not_mem_nil
  · have hB2 : B ∈ [6] := hB
    simp only [List.mem_cons, List.not_mem_nil, or_false] at hB2
    rcases hB2 with rfl
    · exact ⟨_, ha6⟩
set_option maxRecDepth 16384 in
theorem md0_run (hlow : ∀ (k : Nat) (K : aK), KTx[k]? = some K → kOK TTs g (EIm n) l K) {W0 : List aR} {bk0 bk : aB} {h0 h : jH} (hO0 : hOK TTs g (EIm n) W0 bk0 h0 bk h) {b b6 : Nat} (hb : bk 0 = some b) (h6 : bk 6 = some b6) {x1 : Int32} : jCal l g 134 10 [.ref (g.2.2 + (b + 0)), .int x1] h 0 0 (kPost TTs g (EIm n) mdK bk h [x1.toInt]) := by
  have hcls : jcN 11 = (jyN 134).cls := by decide +kernel
  have hM : mOK TTs g (EIm n) Pm KTx l mdK.1 11 742 := ⟨TTs_cl, TTs_sg, EIm_ok, hcls, fun k K hK _ => hlow k K hK⟩
  refine jCal_of (by decide +kernel) (show 2 ≤ jmx 134 by decide +kernel) ?_
  show J l g 134 10 0 [some (.ref (g.2.2 + (b + 0))), some (.int x1), none] [] h 0 0 _
  obtain ⟨hp, hI⟩ := pt_mde (W1 := mdK.2.2.2.2.2.2.2.1) (o2 := none) hO0 hb (x1 := x1) ⟨i32_lo _, i32_hi _⟩
  refine chk_okQ (K := mdK) (KI := KIx) (ev' := [x1.toInt]) hM hI rfl (fun i z hz => hz) (fun v h' hq => hq) (fun C hC μ _ _ => ?_) 300 true 0 _ _ _ md_ent _ bk _ [] h hp
  rw [List.mem_singleton.mp hC]
  intro vs bk2 al h2 hp _
  obtain ⟨⟨i1, i2, i3, i4, i5, i6, i7⟩, hO2, hlen, hpre⟩ := hp
  have hlen : al.length = 3 := hlen.trans (show jmx 134 = 3 by decide +kernel)
  have hO2 : hOK TTs g (EIm n) mdK.2.2.2.2.2.2.2.1 bk h bk2 h2 := hO2
  obtain ⟨a0, a1, a2, hal⟩ := list3 hlen
  subst hal
  obtain ⟨w0, y0, b', hb2, rfl⟩ := i4 0 (2, 0, 0) rfl
  have r0 := Option.some.inj y0
  subst r0
  have hbx := hO2.2.2.2.2.1 0 b hb
  have h62 := hO2.2.2.2.2.1 6 b6 h6
  have hb2 : bk2 0 = some b' := hb2
  cases hbx.symm.trans hb2
  obtain ⟨w1, y1, s1, rfl, z1⟩ := i4 1 (0, 1, 0) rfl
  have r1 := Option.some.inj y1
  subst r1
  have j1 := i1.2 1 (eNew 0 1 none) _ rfl z1
  dsimp only [eNew] at j1
  obtain ⟨c, hc, fs, rfl, -, -⟩ := hO2.1 0 b 0 _ hbx ty_x0
  have hc : h2[b + 0]? = some (.inr (11, fs)) := hc
  refine j_aload_n (k4 := 0) (dQ (by decide +kernel)) rfl ?_
  refine j_cV (own := 11) (i := 264) (y2 := 135) (d2 := 9) (mc := 0) (ms := 0) (kc := 0) (ks := 0) (a := b + 0) (As := []) (st := []) (dQ (by decide +kernel)) hcls (by decide +kernel) (by decide) (by decide +kernel) (show 0 = jnp 135 by decide +kernel) (by decide) (by decide) hc (fun r hr => by cases hr; decide +kernel) (smd0_run hlow hO2 hbx h62) (fun v h3 hq => ?_)
  obtain ⟨bk3, os, k1, -, qq, hq1, hq2⟩ := hq
  have hq3 : qq = (2, 0, 0, 6, 0, []) := List.mem_singleton.mp hq1
  subst hq3
  obtain ⟨⟨b6', hb6', rfl⟩, -⟩ := hq2
  have hb6' : bk3 6 = some b6' := hb6'
  have hb3 := k1.2.2.2.2.1 0 b hbx
  have k1 : hOK TTs g (EIm n) smW bk2 h2 bk3 h3 := k1
  have hO3 := hO2.tr (W' := smW) (by decide +kernel) k1
  refine j_astore_n (k4 := 2) (dQ (by decide +kernel)) (by decide +kernel) ?_
  obtain ⟨hp3, hI3⟩ := pt_mdr (W1 := mdR.2.2.2.2.2.2.2.1) hO3 hb6' hb3 (x1 := s1) j1
  have hMr : mOK TTs g (EIm n) Pm KTx l mdR.1 11 742 := ⟨TTs_cl, TTs_sg, EIm_ok, hcls, fun k K hK _ => hlow k K hK⟩
  refine chk_okQ (K := mdR) (KI := KIx) (bk0 := bk3) (h0 := h3) (ev := [s1.toInt]) (ev' := [s1.toInt]) hMr hI3 rfl (fun i z hz => hz) (fun v h' hq => ?_) (fun C hC => absurd hC List.not_mem_nil) 300 true 14 _ _ _ md_rest _ bk3 _ [] h3 hp3
  obtain ⟨bk4, os, k4, k5, qq, hq1, hq2⟩ := hq
  have hos : os = [] := List.eq_nil_of_length_eq_zero k5.1
  subst hos
  have hq3 : qq = (0, -2147483648, 2147483647, 0, 0, []) := List.mem_singleton.mp hq1
  subst hq3
  obtain ⟨r, rfl, r1, -, -⟩ := hq2
  exact ⟨bk4, [], hO3.tr (W' := mdR.2.2.2.2.2.2.2.1) (by decide +kernel) k4, ⟨rfl, fun j q x hj => by cases hj⟩, _, List.mem_cons_self, r, rfl, r1, Or.inl rfl, fun F hF => absurd hF List.not_mem_nil⟩
def meK : aK := (152, [some (2, 0, 0, 0, 0), some (0, -2147483648, 2147483647, 0, 0), some (0, -2147483648, 2147483647, 0, 0), none], [], [], [(0, -2147483648, 2147483647, 0, 0, [])], [], [], [(0, 0, 11, 11), (0, 34, 3, 3), (0, 36, 0, 143), (6, 0, 0, 11), (6, 1, 0, 15), (6, 2, 0, 15), (6, 3, 0, 4912), (6, 4, 0, 4912), (6, 5, 0, 4912), (6, 6, 0, 271)], 10, 0, 0)
def meC : aCu := (27, [some (2, 0, 0, 0, 0), some (0, 0, 15, 0, 0), some (0, 0, 1, 0, 0), none], [], [], ([], 0), [])
def meR : aK := (152, [some (2, 0, 0, 0, 0), some (0, 0, 15, 0, 0), some (0, 0, 1, 0, 0), some (2, 0, 0, 6, 0)], [], [], [(0, -2147483648, 2147483647, 0, 0, [])], [], [], [(0, 0, 11, 11), (0, 34, 3, 3), (0, 36, 0, 143), (6, 0, 0, 11), (6, 1, 0, 15), (6, 2, 0, 15), (6, 3, 0, 4912), (6, 4, 0, 4912), (6, 5, 0, 4912), (6, 6, 0, 271)], 10, 0, 0)
theorem me_ent : chk (TTs, KTx, KIx, [(0, 0, 11, 11), (0, 34, 3, 3), (0, 36, 0, 143), (6, 0, 0, 11), (6, 1, 0, 15), (6, 2, 0, 15), (6, 3, 0, 4912), (6, 4, 0, 4912), (6, 5, 0, 4912), (6, 6, 0, 271)], Pm, 152, 11, 10, 742) meK [meC] [] none 300 true 0 (spState [] meK.2.1 [] [] []) 0 0 = true := by decide +kernel
theorem me_rest : chk (TTs, KTx, KIx, [(0, 0, 11, 11), (0, 34, 3, 3), (0, 36, 0, 143), (6, 0, 0, 11), (6, 1, 0, 15), (6, 2, 0, 15), (6, 3, 0, 4912), (6, 4, 0, 4912), (6, 5, 0, 4912), (6, 6, 0, 271)], Pm, 152, 11, 10, 742) meR [] [] none 300 true 32 (spState [] meR.2.1 [] [] [6]) 0 0 = true := by decide +kernel
theorem pt_mee {W0 W1 : List aR} {bk0 bk : aB} {h0 h : jH} (hO : hOK TTs g (EIm n) W0 bk0 h0 bk h) {a0 : Nat} (ha0 : bk 0 = some a0) {x1 : Int32} (hx1 : (-2147483648 : Int) ≤ x1.toInt ∧ x1.toInt ≤ 2147483647) {x2 : Int32} (hx2 : (-2147483648 : Int) ≤ x2.toInt ∧ x2.toInt ≤ 2147483647) {o3 : Option Value} :
    PT TTs g (EIm n) W1 bk h [x1.toInt, x2.toInt] 152 [x1.toInt, x2.toInt] bk [some (.ref (g.2.2 + (a0 + 0))), some (.int x1), some (.int x2), o3] [] h (spState [] [some (2, 0, 0, 0, 0), some (0, -2147483648, 2147483647, 0, 0), some (0, -2147483648, 2147483647, 0, 0), none] [] [] []) ∧ eIv [x1.toInt, x2.toInt] (spEnv [some (2, 0, 0, 0, 0), some (0, -2147483648, 2147483647, 0, 0), some (0, -2147483648, 2147483647, 0, 0), none] ++ clEnv []) := by
  have hI : eIv [x1.toInt, x2.toInt] (spEnv [some (2, 0, 0, 0, 0), some (0, -2147483648, 2147483647, 0, 0), some (0, -2147483648, 2147483647, 0, 0), none] ++ clEnv []) := by
    refine ⟨rfl, fun i e z he hz => ?_⟩
    match i, he, hz with
    | 0, he, hz => cases he; cases hz; exact hx1
    | 1, he, hz => cases he; cases hz; exact hx2
    | i + 2, he, _ => cases he
  refine ⟨⟨⟨hI, eFm_plain (plain_app (spEnv_plain _) clEnv_plain), fun F hF => absurd hF List.not_mem_nil, fun i v hv => ?_, trivial, fun q hq => ?_, fun B hB => ?_⟩, ⟨hO.1, hO.2.1, hO.2.2.1, UN.rf, fun _ _ q => q, hO.2.2.2.2.2⟩, (show 4 = jmx 152 by decide +kernel), fun i z hz => hz⟩, hI⟩
  · match i, hv with
    | 0, hv => cases hv; exact ⟨_, rfl, a0, ha0, rfl⟩
    | 1, hv => cases hv; exact ⟨_, rfl, x1, rfl, rfl⟩
    | 2, hv => cases hv; exact ⟨_, rfl, x2, rfl, rfl⟩
    | 3, hv => cases hv
    | i + 4, hv => cases hv
  · exact absurd hq List.not_mem_nil
  · exact absurd hB List.not_mem_nil
theorem pt_mer {W0 W1 : List aR} {bk0 bk : aB} {h0 h : jH} (hO : hOK TTs g (EIm n) W0 bk0 h0 bk h) {a6 : Nat} (ha6 : bk 6 = some a6) {a0 : Nat} (ha0 : bk 0 = some a0) {x1 : Int32} (hx1 : (0 : Int) ≤ x1.toInt ∧ x1.toInt ≤ 15) {x2 : Int32} (hx2 : (0 : Int) ≤ x2.toInt ∧ x2.toInt ≤ 1) :
    PT TTs g (EIm n) W1 bk h [x1.toInt, x2.toInt] 152 [x1.toInt, x2.toInt] bk [some (.ref (g.2.2 + (a0 + 0))), some (.int x1), some (.int x2), some (.ref (g.2.2 + (a6 + 0)))] [] h (spState [] [some (2, 0, 0, 0, 0), some (0, 0, 15, 0, 0), some (0, 0, 1, 0, 0), some (2, 0, 0, 6, 0)] [] [] [6]) ∧ eIv [x1.toInt, x2.toInt] (spEnv [some (2, 0, 0, 0, 0), some (0, 0, 15, 0, 0), some (0, 0, 1, 0, 0), some (2, 0, 0, 6, 0)] ++ clEnv []) := by
  have hI : eIv [x1.toInt, x2.toInt] (spEnv [some (2, 0, 0, 0, 0), some (0, 0, 15, 0, 0), some (0, 0, 1, 0, 0), some (2, 0, 0, 6, 0)] ++ clEnv []) := by
    refine ⟨rfl, fun i e z he hz => ?_⟩
    match i, he, hz with
    | 0, he, hz => cases he; cases hz; exact hx1
    | 1, he, hz => cases he; cases hz; exact hx2
    | i + 2, he, _ => cases he
  refine ⟨⟨⟨hI, eFm_plain (plain_app (spEnv_plain _) clEnv_plain), fun F hF => absurd hF List.not_mem_nil, fun i v hv => ?_, trivial, fun q hq => ?_, fun B hB => ?_⟩, ⟨hO.1, hO.2.1, hO.2.2.1, UN.rf, fun _ _ q => q, hO.2.2.2.2.2⟩, (show 4 = jmx 152 by decide +kernel), fun i z hz => hz⟩, hI⟩
  · match i, hv with
    | 0, hv => cases hv; exact ⟨_, rfl, a0, ha0, rfl⟩
    | 1, hv => cases hv; exact ⟨_, rfl, x1, rfl, rfl⟩
    | 2, hv => cases hv; exact ⟨_, rfl, x2, rfl, rfl⟩
    | 3, hv => cases hv; exact ⟨_, rfl, a6, ha6, rfl⟩
    | i + 4, hv => cases hv
  · exact absurd hq List.not_mem_nil
  · have hB2 : B ∈ [6] := hB
    simp only [List.mem_cons, List.not_mem_nil, or_false] at hB2
    rcases hB2 with rfl
    · exact ⟨_, ha6⟩
set_option maxRecDepth 16384 in
theorem me0_run (hlow : ∀ (k : Nat) (K : aK), KTx[k]? = some K → kOK TTs g (EIm n) l K) {W0 : List aR} {bk0 bk : aB} {h0 h : jH} (hO0 : hOK TTs g (EIm n) W0 bk0 h0 bk h) {b b6 : Nat} (hb : bk 0 = some b) (h6 : bk 6 = some b6) {x1 x2 : Int32} : jCal l g 152 10 [.ref (g.2.2 + (b + 0)), .int x1, .int x2] h 0 0 (kPost TTs g (EIm n) meK bk h [x1.toInt, x2.toInt]) := by
  have hcls : jcN 11 = (jyN 152).cls := by decide +kernel
  have hM : mOK TTs g (EIm n) Pm KTx l meK.1 11 742 := ⟨TTs_cl, TTs_sg, EIm_ok, hcls, fun k K hK _ => hlow k K hK⟩
  refine jCal_of (by decide +kernel) (show 3 ≤ jmx 152 by decide +kernel) ?_
  show J l g 152 10 0 [some (.ref (g.2.2 + (b + 0))), some (.int x1), some (.int x2), none] [] h 0 0 _
  obtain ⟨hp, hI⟩ := pt_mee (W1 := meK.2.2.2.2.2.2.2.1) (o3 := none) hO0 hb (x1 := x1) ⟨i32_lo _, i32_hi _⟩ (x2 := x2) ⟨i32_lo _, i32_hi _⟩
  refine chk_okQ (K := meK) (KI := KIx) (ev' := [x1.toInt, x2.toInt]) hM hI rfl (fun i z hz => hz) (fun v h' hq => hq) (fun C hC μ _ _ => ?_) 300 true 0 _ _ _ me_ent _ bk _ [] h hp
  rw [List.mem_singleton.mp hC]
  intro vs bk2 al h2 hp _
  obtain ⟨⟨i1, i2, i3, i4, i5, i6, i7⟩, hO2, hlen, hpre⟩ := hp
  have hlen : al.length = 4 := hlen.trans (show jmx 152 = 4 by decide +kernel)
  have hO2 : hOK TTs g (EIm n) meK.2.2.2.2.2.2.2.1 bk h bk2 h2 := hO2
  obtain ⟨a0, a1, a2, a3, hal⟩ := list4 hlen
  subst hal
  obtain ⟨w0, y0, b', hb2, rfl⟩ := i4 0 (2, 0, 0) rfl
  have r0 := Option.some.inj y0
  subst r0
  have hbx := hO2.2.2.2.2.1 0 b hb
  have h62 := hO2.2.2.2.2.1 6 b6 h6
  have hb2 : bk2 0 = some b' := hb2
  cases hbx.symm.trans hb2
  obtain ⟨w1, y1, s1, rfl, z1⟩ := i4 1 (0, 2, 0) rfl
  have r1 := Option.some.inj y1
  subst r1
  have j1 := i1.2 2 (eNew 0 15 none) _ rfl z1
  dsimp only [eNew] at j1
  obtain ⟨w2, y2, s2, rfl, z2⟩ := i4 2 (0, 3, 0) rfl
  have r2 := Option.some.inj y2
  subst r2
  have j2 := i1.2 3 (eNew 0 1 none) _ rfl z2
  dsimp only [eNew] at j2
  obtain ⟨c, hc, fs, rfl, -, -⟩ := hO2.1 0 b 0 _ hbx ty_x0
  have hc : h2[b + 0]? = some (.inr (11, fs)) := hc
  refine j_aload_n (k4 := 0) (dQ (by decide +kernel)) rfl ?_
  refine j_cV (own := 11) (i := 264) (y2 := 135) (d2 := 9) (mc := 0) (ms := 0) (kc := 0) (ks := 0) (a := b + 0) (As := []) (st := []) (dQ (by decide +kernel)) hcls (by decide +kernel) (by decide) (by decide +kernel) (show 0 = jnp 135 by decide +kernel) (by decide) (by decide) hc (fun r hr => by cases hr; decide +kernel) (smd0_run hlow hO2 hbx h62) (fun v h3 hq => ?_)
  obtain ⟨bk3, os, k1, -, qq, hq1, hq2⟩ := hq
  have hq3 : qq = (2, 0, 0, 6, 0, []) := List.mem_singleton.mp hq1
  subst hq3
  obtain ⟨⟨b6', hb6', rfl⟩, -⟩ := hq2
  have hb6' : bk3 6 = some b6' := hb6'
  have hb3 := k1.2.2.2.2.1 0 b hbx
  have k1 : hOK TTs g (EIm n) smW bk2 h2 bk3 h3 := k1
  have hO3 := hO2.tr (W' := smW) (by decide +kernel) k1
  refine j_astore_n (k4 := 3) (dQ (by decide +kernel)) (by decide +kernel) ?_
  obtain ⟨hp3, hI3⟩ := pt_mer (W1 := meR.2.2.2.2.2.2.2.1) hO3 hb6' hb3 (x1 := s1) j1 (x2 := s2) j2
  have hMr : mOK TTs g (EIm n) Pm KTx l meR.1 11 742 := ⟨TTs_cl, TTs_sg, EIm_ok, hcls, fun k K hK _ => hlow k K hK⟩
  refine chk_okQ (K := meR) (KI := KIx) (bk0 := bk3) (h0 := h3) (ev := [s1.toInt, s2.toInt]) (ev' := [s1.toInt, s2.toInt]) hMr hI3 rfl (fun i z hz => hz) (fun v h' hq => ?_) (fun C hC => absurd hC List.not_mem_nil) 300 true 32 _ _ _ me_rest _ bk3 _ [] h3 hp3
  obtain ⟨bk4, os, k4, k5, qq, hq1, hq2⟩ := hq
  have hos : os = [] := List.eq_nil_of_length_eq_zero k5.1
  subst hos
  have hq3 : qq = (0, -2147483648, 2147483647, 0, 0, []) := List.mem_singleton.mp hq1
  subst hq3
  obtain ⟨r, rfl, r1, -, -⟩ := hq2
  exact ⟨bk4, [], hO3.tr (W' := meR.2.2.2.2.2.2.2.1) (by decide +kernel) k4, ⟨rfl, fun j q x hj => by cases hj⟩, _, List.mem_cons_self, r, rfl, r1, Or.inl rfl, fun F hF => absurd hF List.not_mem_nil⟩
end MZ
end
section
/-! the law's own rules: its script's length, its script's ints -/
section LR
variable {l : Launch} {g : jG} {y d pc : Nat} {al : List (Option Value)} {st : List Value} {h : jH} {kc ks : Nat} {Q : Option Value → jH → Prop}
theorem j_slen (hd : decode (jbC y) pc = .ok (.arraylength, 1)) (k : J l g y d (pc + 1) al (.int (Int32.ofNat (jsN g)) :: st) h kc ks Q) : J l g y d pc al (.ref (g.2.1 80) :: st) h kc ks Q := by
  intro p e R s m args below meth c Z MC MS X K r1 r2 r3 r4 hZ H locs cells slots ls hW hl c1 c2
  obtain ⟨hX, hlt⟩ := K.2.2.2.2.2.2
  obtain ⟨cell, h1, h2, h3, h4, h5⟩ := hX.kept (hW.2.1 _ hlt)
  exact W.alen (n := Int32.ofNat (jsN g)) X.1 X.2.1 h1 h2 (by rw [h4]) rfl rfl hd (k p e R s m args below meth c Z MC MS X K r1 r2 r3 r4 hZ H locs cells slots ls hW hl c1 c2)
theorem j_sld {z : Int32} (hz : vp_in z (jsN g)) (hd : decode (jbC y) pc = .ok (.iaload, 1)) (k : J l g y d (pc + 1) al (.int (jsX g z.toNatClampNeg) :: st) h kc ks Q) : J l g y d pc al (.int z :: .ref (g.2.1 80) :: st) h kc ks Q := by
  intro p e R s m args below meth c Z MC MS X K r1 r2 r3 r4 hZ H locs cells slots ls hW hl c1 c2
  obtain ⟨hX, hlt⟩ := K.2.2.2.2.2.2
  obtain ⟨cell, h1, h2, h3, h4, h5⟩ := hX.kept (hW.2.1 _ hlt)
  have hlt2 : z.toNatClampNeg < jsN g := Nat.not_le.mp fun q => hz (Or.inr q)
  have hin' : ¬ (z < 0 ∨ cell.slots.size ≤ z.toNatClampNeg) := by
    intro q
    rcases q with q | q
    · exact hz (Or.inl q)
    · omega
  exact W.iald (v := .int (jsX g z.toNatClampNeg)) X.1 X.2.1 h1 h2 h3 hin' (h5 _ hlt2) rfl rfl hd (k p e R s m args below meth c Z MC MS X K r1 r2 r3 r4 hZ H locs cells slots ls hW hl c1 c2)
end LR
/-- the law's walk from its walk in the J layer -/
theorem whole_start_of (HJ : ∀ (l : Launch) (g : jG), jsN g ≤ 3072 → J l g 315 100 0 (jal 315 [.ref (g.2.1 80)]) [] [] rmC rmS (fun v _ => v = some (.int 1))) (l : Launch) {p : Program} {e : Env} {s : State} {m : MethodId} {below : List Frame} {meth : Method} {c : Code} {b L : Nat} {xs : Nat → Int32} (hbd : L ≤ 3072) (C0 : lw_At p s m meth c b L xs) :
    W p l e room_1 s m #[Value.ref b] below meth c s.heap [] 0 0 (lw_Z below #[Value.ref b] s) (entryFrame m ([Value.ref b] : List Value).toArray 4) := by
  obtain ⟨g, hK, hg, h80, hN, hXs⟩ := law_g C0
  obtain ⟨hx, hb, hr, hml, hown, hts, hX, hbl, hlocks, hgv, hnm⟩ := C0
  have e1 : jbC 315 = code := rfl
  have e2 : jyN 315 = x := rfl
  have e3 : jmx 315 = 4 := by decide +kernel
  have e4 : jrT 315 = some .boolean := rfl
  have hl := lv_entry (n := 4) [Value.ref b] (show 1 ≤ 4 by decide)
  rw [lg_entry_eq]
  have hl' : jls ((lg_sl [Value.ref b] ++ List.replicate (4 - (lg_sl [Value.ref b]).length) Slot.unset).toArray) 315 (jal 315 [.ref (g.2.1 80)]) := by
    rw [h80]
    refine ⟨by rw [e3]; exact hl.1, hl.2.1, fun q hq => hl.2.2 q (jal_in hq)⟩
  refine HJ l g (by rw [hN]; exact hbd) p e room_1 s m _ below meth c _ rmC rmS ⟨hx, by rw [e1]; exact hb, by rw [e3]; exact hml, by rw [e4]; exact hr, by rw [e2]; exact hown, fun w hw => hts w (List.mem_filter.mp hw).1, hlocks, by rw [e2]; exact hnm⟩ hK (by decide) (by decide) (by decide) (by decide) ?_ s.heap [] 0 0 _ ⟨⟨by rw [hg]; rfl, fun k q hq => by cases hq⟩, fun _ _ => rfl, by rw [hg]; exact Nat.le_refl _, fun _ h => absurd h List.not_mem_nil⟩ hl' (by decide) (by decide)
  intro pc ls H locs h2 v hv hW hq
  subst hq
  have hd : decode code pc = .ok (.ireturn, 1) := by rw [← e1]; exact hv.1
  exact va_forget (fun q hq => by rw [← hg]; exact hW.2.2.2 q hq) (lw_ret hx hb hr hlocks hd)
end
section
/-! exact walks: tools -/
section XT
variable {l : Launch} {g : jG} {y d pc kc ks : Nat} {al : List (Option Value)} {st : List Value} {h : jH} {Q : Option Value → jH → Prop}
theorem x_bi {n : Int} (hd : decode (jbC y) pc = .ok (.bipush n, 2)) (he : (Int8.ofInt n).toInt32 = Int32.ofInt n) (k : J l g y d (pc + 2) al (.int (Int32.ofInt n) :: st) h kc ks Q) : J l g y d pc al st h kc ks Q := by
  rw [← he] at k
  exact j_bipush hd k
theorem x_si {n : Int} (hd : decode (jbC y) pc = .ok (.sipush n, 3)) (he : (Int16.ofInt n).toInt32 = Int32.ofInt n) (k : J l g y d (pc + 3) al (.int (Int32.ofInt n) :: st) h kc ks Q) : J l g y d pc al st h kc ks Q := by
  rw [← he] at k
  exact j_sipush hd k
theorem x_add {a b : Int32} (hd : decode (jbC y) pc = .ok (.iadd, 1)) (h1 : -2147483648 ≤ a.toInt + b.toInt ∧ a.toInt + b.toInt ≤ 2147483647) (k : ∀ r : Int32, r.toInt = a.toInt + b.toInt → J l g y d (pc + 1) al (.int r :: st) h kc ks Q) : J l g y d pc al (.int b :: .int a :: st) h kc ks Q := j_iadd hd (k _ (i32_add h1.1 h1.2))
theorem x_sub {a b : Int32} (hd : decode (jbC y) pc = .ok (.isub, 1)) (h1 : -2147483648 ≤ a.toInt - b.toInt ∧ a.toInt - b.toInt ≤ 2147483647) (k : ∀ r : Int32, r.toInt = a.toInt - b.toInt → J l g y d (pc + 1) al (.int r :: st) h kc ks Q) : J l g y d pc al (.int b :: .int a :: st) h kc ks Q := j_isub hd (k _ (i32_sub h1.1 h1.2))
/-- by a known factor -/
theorem x_mul {a b : Int32} {z : Int} (hd : decode (jbC y) pc = .ok (.imul, 1)) (hz : a.toInt * b.toInt = z) (h1 : -2147483648 ≤ z ∧ z ≤ 2147483647) (k : ∀ r : Int32, r.toInt = z → J l g y d (pc + 1) al (.int r :: st) h kc ks Q) : J l g y d pc al (.int b :: .int a :: st) h kc ks Q := j_imul hd (k _ (by rw [i32_mul (by omega) (by omega)]; exact hz))
theorem x_ald {a n : Nat} {f : Nat → Int32} {x : Int32} (i' : Nat) (hd : decode (jbC y) pc = .ok (.iaload, 1)) (hc : h[a]? = some (.inl (0, n, f))) (hi : x.toInt = (i' : Int)) (hn : i' < n) (k : J l g y d (pc + 1) al (.int (f i') :: st) h kc ks Q) : J l g y d pc al (.int x :: .ref (g.2.2 + a) :: st) h kc ks Q := by
  have e : x.toNatClampNeg = i' := i32_at hi
  refine j_iald hd hc (i32_in (by omega) (by omega)) ?_
  rw [e]
  exact k
theorem upd_eq {f : Nat → Int32} {k : Nat} {v : Int32} : upd f k v k = v := by simp [upd]
theorem upd_ne {f : Nat → Int32} {k j : Nat} {v : Int32} (h : j ≠ k) : upd f k v j = f j := by simp [upd, h]
/-- a number that is known -/
theorem x_aldv {a n : Nat} {f : Nat → Int32} {x v : Int32} (i' : Nat) (hd : decode (jbC y) pc = .ok (.iaload, 1)) (hc : h[a]? = some (.inl (0, n, f))) (hi : x.toInt = (i' : Int)) (hn : i' < n) (hv : f i' = v) (k : J l g y d (pc + 1) al (.int v :: st) h kc ks Q) : J l g y d pc al (.int x :: .ref (g.2.2 + a) :: st) h kc ks Q := by
  refine x_ald i' hd hc hi hn ?_
  rw [hv]
  exact k
theorem x_ast {a n : Nat} {f : Nat → Int32} {x v : Int32} (i' : Nat) (hd : decode (jbC y) pc = .ok (.iastore, 1)) (hc : h[a]? = some (.inl (0, n, f))) (hi : x.toInt = (i' : Int)) (hn : i' < n) (k : J l g y d (pc + 1) al st (h.set a (.inl (0, n, upd f i' v))) kc ks Q) : J l g y d pc al (.int v :: .int x :: .ref (g.2.2 + a) :: st) h kc ks Q := by
  have e : x.toNatClampNeg = i' := i32_at hi
  refine j_iast hd hc (i32_in (by omega) (by omega)) ?_
  rw [e]
  exact k
theorem i32_le {x z : Int32} : x ≤ z ↔ x.toInt ≤ z.toInt := Int32.le_iff_toInt_le
theorem i64_lt {x z : Int64} : x < z ↔ x.toInt < z.toInt := Int64.lt_iff_toInt_lt
theorem i64_le {x z : Int64} : x ≤ z ↔ x.toInt ≤ z.toInt := Int64.le_iff_toInt_le
theorem lg_cmpT (a b : Int64) : ((lg_cmp a b).toInt < 0 ↔ a.toInt < b.toInt) ∧ ((lg_cmp a b).toInt = 0 ↔ a.toInt = b.toInt) ∧ (0 < (lg_cmp a b).toInt ↔ b.toInt < a.toInt) := by
  unfold lg_cmp
  have h1 : a > b ↔ b.toInt < a.toInt := i64_lt
  have h2 : a = b ↔ a.toInt = b.toInt := Int64.toInt_inj.symm
  by_cases g1 : a > b
  · rw [if_pos g1]
    have := h1.mp g1
    refine ⟨⟨fun q => absurd q (by decide), fun q => by omega⟩, ⟨fun q => absurd q (by decide), fun q => by omega⟩, ⟨fun _ => this, fun _ => by decide⟩⟩
  · rw [if_neg g1]
    have g1' := mt h1.mpr g1
    by_cases g2 : a = b
    · rw [if_pos g2]
      have := h2.mp g2
      refine ⟨⟨fun q => absurd q (by decide), fun q => by omega⟩, ⟨fun _ => this, fun _ => by decide⟩, ⟨fun q => absurd q (by decide), fun q => by omega⟩⟩
    · rw [if_neg g2]
      have g2' := mt h2.mpr g2
      refine ⟨⟨fun _ => by omega, fun _ => by decide⟩, ⟨fun q => absurd q (by decide), fun q => absurd q g2'⟩, ⟨fun q => absurd q (by decide), fun q => by omega⟩⟩
theorem x_lcmp {a b : Int64} (hd : decode (jbC y) pc = .ok (.lcmp, 1)) (k : ∀ r : Int32, ((r.toInt < 0 ↔ a.toInt < b.toInt) ∧ (r.toInt = 0 ↔ a.toInt = b.toInt) ∧ (0 < r.toInt ↔ b.toInt < a.toInt)) → J l g y d (pc + 1) al (.int r :: st) h kc ks Q) : J l g y d pc al (.long b :: .long a :: st) h kc ks Q := j_lcmp hd (k _ (lg_cmpT a b))
theorem x_lsub {a b : Int64} (hd : decode (jbC y) pc = .ok (.lsub, 1)) (h1 : -9223372036854775808 ≤ a.toInt - b.toInt ∧ a.toInt - b.toInt ≤ 9223372036854775807) (k : ∀ r : Int64, r.toInt = a.toInt - b.toInt → J l g y d (pc + 1) al (.long r :: st) h kc ks Q) : J l g y d pc al (.long b :: .long a :: st) h kc ks Q := j_lsub hd (k _ (i64_sub h1.1 h1.2))
theorem x_i2l {a : Int32} (hd : decode (jbC y) pc = .ok (.i2l, 1)) (k : ∀ r : Int64, r.toInt = a.toInt → J l g y d (pc + 1) al (.long r :: st) h kc ks Q) : J l g y d pc al (.int a :: st) h kc ks Q := j_i2l hd (k _ (i2l_ok a))
/-! one call, two contracts: the heaps are the same to the machine -/
theorem jCal.both {av : List Value} {mc ms : Nat} {Q1 Q2 : Option Value → jH → Prop} (h1 : jCal l g y d av h mc ms Q1) (h2 : jCal l g y d av h mc ms Q2) : jCal l g y d av h mc ms (fun v h' => Q1 v h' ∧ ∃ h2, Q2 v h2 ∧ ∃ H, jhr g h' H ∧ jhr g h2 H) := by
  have hh : ∀ i : Bool, Met l (jyN y) (jws y) { frames := d, cells := mc, slots := ms, locals := 64 * d } (va_Pc av (fun U => jhr g h U.heap ∧ jK g U)) (jQc g (if i then Q1 else Q2)) mc ms (fun q => g.2.2 ≤ q) := fun i => by
    cases i with
    | true => exact h1
    | false => exact h2
  unfold jCal Met
  refine MetFree.mono (MetFree.all hh) (fun a s hp => ⟨true, hp⟩) (fun _ _ _ _ _ _ => trivial) ?_
  intro a s o t hp hq
  obtain ⟨⟨v, h', e1, e2, e3, e4⟩, hL⟩ := hq true hp
  obtain ⟨⟨v2, h2', f1, f2, f3, f4⟩, -⟩ := hq false hp
  refine ⟨⟨v, h', e1, ⟨e2, h2', ?_, _, e3, f3⟩, e3, e4⟩, hL⟩
  cases e1.symm.trans f1
  exact f2
theorem tr_arr {h1 h2 : jH} {H : Heap} {a t n1 n2 : Nat} {f1 f2 : Nat → Int32} (e1 : jhr g h1 H) (e2 : jhr g h2 H) (c1 : h1[a]? = some (.inl (t, n1, f1))) (c2 : h2[a]? = some (.inl (t, n2, f2))) : n1 = n2 ∧ ∀ z, z < n1 → f1 z = f2 z := by
  have q1 : H[g.2.2 + a]? = some (vp_cell (g.2.1 t) (n1, .inl f1)) := e1.2 a _ c1
  have q2 : H[g.2.2 + a]? = some (vp_cell (g.2.1 t) (n2, .inl f2)) := e2.2 a _ c2
  have e := Option.some.inj (q1.symm.trans q2)
  rw [vp_cell_i, vp_cell_i] at e
  have hn : n1 = n2 := by
    have h3 : (arrV (g.2.1 t) n1 (fun j => Value.int (f1 j))).slots.size = (arrV (g.2.1 t) n2 (fun j => Value.int (f2 j))).slots.size := by rw [e]
    rwa [arrV_size, arrV_size] at h3
  subst hn
  refine ⟨rfl, fun z hz => ?_⟩
  have r1 := arrV_read (g.2.1 t) (N := n1) (fun j => Value.int (f1 j)) hz
  rw [e, arrV_read (g.2.1 t) (N := n1) (fun j => Value.int (f2 j)) hz] at r1
  exact (Value.int.inj (Option.some.inj r1)).symm
theorem tr_obj {h1 h2 : jH} {H : Heap} {a ci z : Nat} {F1 F2 : List Value} {v1 v2 : Value} {r : vw_C} (e1 : jhr g h1 H) (e2 : jhr g h2 H) (c1 : h1[a]? = some (.inr (ci, F1))) (c2 : h2[a]? = some (.inr (ci, F2))) (hr : jcl[ci]? = some r) (hz : z < r.2.2) (g1 : F1[z]? = some v1) (g2 : F2[z]? = some v2) : v1 = v2 := by
  obtain ⟨r1, p1, cell1, a1, -, -, a4⟩ := e1.2 a _ c1
  obtain ⟨r2, p2, cell2, b1, -, -, b4⟩ := e2.2 a _ c2
  cases hr.symm.trans p1
  cases hr.symm.trans p2
  cases a1.symm.trans b1
  have x1 := a4 z hz
  rw [b4 z hz] at x1
  have x1 := Option.some.inj x1
  rw [vp_V, vp_V, List.getD_eq_getElem?_getD, List.getD_eq_getElem?_getD, g1, g2] at x1
  exact x1.symm
end XT
end
section
/-! numbers of two cells that go together: what the law's loop keeps of both objects -/
section RL
variable {g : jG} {n : Int}
def cv (h : jH) (a z : Nat) (x : Int) : Prop := ∃ c, h[a]? = some c ∧ plAt c (z : Int) x
theorem cv_fun {h : jH} {a z : Nat} {x y : Int} (h1 : cv h a z x) (h2 : cv h a z y) : x = y := by
  obtain ⟨c, c1, c2⟩ := h1
  obtain ⟨c', d1, d2⟩ := h2
  cases c1.symm.trans d1
  cases c with
  | inl a =>
    have c2 : 0 ≤ (z : Int) ∧ (a.2.2 (z : Int).toNat).toInt = x := c2
    have d2 : 0 ≤ (z : Int) ∧ (a.2.2 (z : Int).toNat).toInt = y := d2
    exact c2.2.symm.trans d2.2
  | inr a =>
    obtain ⟨-, w, w1, w2⟩ := c2
    obtain ⟨-, w', w3, w4⟩ := d2
    cases w1.symm.trans w3
    exact w2.symm.trans w4
theorem cv_off {EI : aB → jH → Prop} {W : List aR} {bk bk' : aB} {h h' : jH} (hO : hOK TTs g EI W bk h bk' h') {B b o z : Nat} {x : Int} (hb : bk B = some b) (ho : o < tyLen TTs B) (hz : apW W [(B, o, (z : Int), (z : Int))] = true) (hc : cv h (b + o) z x) : cv h' (b + o) z x := by
  obtain ⟨c, c1, c2⟩ := hc
  obtain ⟨c', d1, d2⟩ := hO.2.2.2.1.2 B b o c hb ho c1
  have hn : ¬ inW W B o z := ap_not (i := z) hz List.mem_cons_self (Int.le_refl _) (Int.le_refl _)
  refine ⟨c', d1, ?_⟩
  cases c with
  | inl a =>
    cases c' with
    | inr a' => exact absurd d2 id
    | inl a' =>
      have c2 : 0 ≤ (z : Int) ∧ (a.2.2 (z : Int).toNat).toInt = x := c2
      have e : a'.2.2 z = a.2.2 z := d2.2.2 z hn
      refine ⟨c2.1, ?_⟩
      show (a'.2.2 z).toInt = x
      rw [e]
      exact c2.2
  | inr a =>
    cases c' with
    | inl a' => exact absurd d2 id
    | inr a' =>
      obtain ⟨p1, w, w1, w2⟩ := c2
      have e : a'.2[z]? = a.2[z]? := d2.2.2 z hn
      exact ⟨p1, w, e.trans w1, w2⟩
theorem apW_mem {W P : List aR} (h : apW W P = true) {e : aR} (he : e ∈ P) : apW W [e] = true := by
  refine List.all_eq_true.mpr (fun w hw => ?_)
  have h1 := List.all_eq_true.mp (List.all_eq_true.mp h w hw) e he
  rw [List.all_cons, List.all_nil, Bool.and_true]
  exact h1
/-- an out cell of a contract -/
theorem out_cv {bk : aB} {h : jH} {os : List Int} {outs : List aC} (ho : outOK bk h os outs) {j B o p : Nat} {lo hi x : Int} (hj : outs[j]? = some (B, o, p, lo, hi)) (hx : os[j]? = some x) {b : Nat} (hb : bk B = some b) : cv h (b + o) p x ∧ lo ≤ x ∧ x ≤ hi := by
  obtain ⟨h1, b', c, h2, h3, h4⟩ := ho.2 j _ x hj hx
  have h2 : bk B = some b' := h2
  cases hb.symm.trans h2
  exact ⟨⟨c, h3, h4⟩, h1.1, h1.2⟩
theorem cv_arr {h : jH} {a : Nat} {t m : Nat} {f : Nat → Int32} (hc : h[a]? = some (.inl (t, m, f))) (z : Nat) : cv h a z (f z).toInt := ⟨_, hc, Int.natCast_nonneg z, rfl⟩
theorem cv_fld {h : jH} {a ci z : Nat} {fs : List Value} (hc : h[a]? = some (.inr (ci, fs))) {x : Int32} (hx : fs[z]? = some (.int x)) : cv h a z x.toInt := ⟨_, hc, Int.natCast_nonneg z, x, hx, rfl⟩
theorem cv_inl {h : jH} {a z t m : Nat} {f : Nat → Int32} {x : Int} (hc : h[a]? = some (.inl (t, m, f))) (hv : cv h a z x) : (f z).toInt = x := cv_fun (cv_arr hc z) hv
theorem cv_cell {h h' : jH} {a a' z : Nat} {x : Int} (e : h'[a']? = h[a]?) (hv : cv h a z x) : cv h' a' z x := by
  obtain ⟨c, c1, c2⟩ := hv
  exact ⟨c, e.trans c1, c2⟩
/-- of an interval, one place -/
theorem apW_iv {W : List aR} {B o : Nat} {lo hi : Int} (h : apW W [(B, o, lo, hi)] = true) {z : Nat} (h1 : lo ≤ z) (h2 : (z : Int) ≤ hi) : apW W [(B, o, (z : Int), (z : Int))] = true := by
  refine List.all_eq_true.mpr (fun w hw => ?_)
  have h3 := List.all_eq_true.mp h w hw
  rw [List.all_cons, List.all_nil, Bool.and_true] at h3 ⊢
  simp only [Bool.not_eq_true', Bool.and_eq_false_iff, decide_eq_false_iff_not] at h3 ⊢
  rcases h3 with ((h3 | h3) | h3) | h3
  · exact Or.inl (Or.inl (Or.inl h3))
  · exact Or.inl (Or.inl (Or.inr h3))
  · exact Or.inl (Or.inr (fun q => h3 (by omega)))
  · exact Or.inr (fun q => h3 (by omega))
/-- (the class's cell, its first place, how far apart, how many, the row's first place, how far apart, 0 the same number, 1 a bit of it) -/
abbrev rlT : Type := Nat × Nat × Nat × Nat × Nat × Nat × Nat
def rlE : List rlT := [(1, 3, 1, 1, 7, 1, 0), (30, 0, 1, 1, 8, 1, 0), (37, 0, 1, 1, 3, 1, 0), (44, 0, 1, 1, 5, 1, 0), (37, 4, 1, 1, 4, 1, 0), (23, 0, 1, 12, 52, 1, 0), (24, 0, 1, 12, 64, 1, 0), (25, 0, 1, 12, 5030, 1, 0), (28, 0, 1, 3, 76, 1, 0), (29, 0, 1, 300, 80, 1, 0), (41, 0, 1, 16, 456, 3, 0), (2, 2, 0, 8, 30, 1, 1)]
def sgB (x : Int) (i : Nat) : Int := ((Int32.ofInt x >>> (nI i &&& 31)) &&& Int32.ofInt 1).toInt
def rlV (k : Nat) (x : Int) (i : Nat) : Int := match k with
  | 0 => x
  | _ => sgB x i
def rlz (e : rlT) (i : Nat) : Nat := e.2.1 + e.2.2.1 * i
def rlr (e : rlT) (i : Nat) : Nat := e.2.2.2.2.1 + e.2.2.2.2.2.1 * i
def rln (e : rlT) : Nat := e.2.2.2.1
def rlk (e : rlT) : Nat := e.2.2.2.2.2.2
/-- the class's state stands at a (its cell 1), the row at c from place p on -/
def rlS (a c p : Nat) (h : jH) : Prop := ∀ e ∈ rlE, ∀ i, i < rln e → ∃ x, cv h (a + (e.1 - 1)) (rlz e i) x ∧ cv h c (p + rlr e i) (rlV (rlk e) x i)
/-- an interval of places, of the class and of the row -/
def rlX (B s : Nat) (e : rlT) : aR := (B, e.1 - s, (rlz e 0 : Int), (rlz e (rln e - 1) : Int))
def rlY (o p : Nat) (e : rlT) : aR := (1, o, ((p + rlr e 0 : Nat) : Int), ((p + rlr e (rln e - 1) : Nat) : Int))
theorem rlE_ok : rlE.all (fun e => Nat.blt e.1 (tyLen TTs 0) && Nat.blt (e.1 - 1) (tyLen TTs 2) && Nat.blt (e.1 - 1) (tyLen TTs 3) && Nat.ble 1 e.1 && Nat.blt (rlr e (rln e - 1)) 5270 && Nat.blt 0 (rln e)) = true := by decide +kernel
theorem rlE_at {e : rlT} (he : e ∈ rlE) : e.1 < tyLen TTs 0 ∧ e.1 - 1 < tyLen TTs 2 ∧ e.1 - 1 < tyLen TTs 3 ∧ 1 ≤ e.1 ∧ rlr e (rln e - 1) < 5270 ∧ 0 < rln e := by
  have h := List.all_eq_true.mp rlE_ok e he
  simp only [Bool.and_eq_true] at h
  obtain ⟨⟨⟨⟨⟨h1, h2⟩, h3⟩, h4⟩, h5⟩, h6⟩ := h
  exact ⟨blt_lt h1, blt_lt h2, blt_lt h3, Nat.le_of_ble_eq_true h4, blt_lt h5, blt_lt h6⟩
theorem rlz_le {e : rlT} {i : Nat} (hi : i < rln e) : rlz e 0 ≤ rlz e i ∧ rlz e i ≤ rlz e (rln e - 1) := by
  unfold rlz
  exact ⟨Nat.add_le_add_left (Nat.mul_le_mul_left _ (Nat.zero_le _)) _, Nat.add_le_add_left (Nat.mul_le_mul_left _ (by omega)) _⟩
theorem rlr_le {e : rlT} {i : Nat} (hi : i < rln e) : rlr e 0 ≤ rlr e i ∧ rlr e i ≤ rlr e (rln e - 1) := by
  unfold rlr
  exact ⟨Nat.add_le_add_left (Nat.mul_le_mul_left _ (Nat.zero_le _)) _, Nat.add_le_add_left (Nat.mul_le_mul_left _ (by omega)) _⟩
theorem rlX_off {W : List aR} {bk bk' : aB} {h h' : jH} {B b s : Nat} {e : rlT} (hO : hOK TTs g (EIm n) W bk h bk' h') (hb : bk B = some b) (ho : e.1 - s < tyLen TTs B) (hW : apW W [rlX B s e] = true) {i : Nat} (hi : i < rln e) {x : Int} (hx : cv h (b + (e.1 - s)) (rlz e i) x) : cv h' (b + (e.1 - s)) (rlz e i) x :=
  cv_off hO hb ho (apW_iv hW (by have := (rlz_le hi).1; omega) (by have := (rlz_le hi).2; omega)) hx
theorem rlY_off {W : List aR} {bk bk' : aB} {h h' : jH} {b o p : Nat} {e : rlT} (hO : hOK TTs g (EIm n) W bk h bk' h') (hb : bk 1 = some b) (ho : o < tyLen TTs 1) (hW : apW W [rlY o p e] = true) {i : Nat} (hi : i < rln e) {x : Int} (hx : cv h (b + o) (p + rlr e i) x) : cv h' (b + o) (p + rlr e i) x :=
  cv_off hO hb ho (apW_iv hW (by have := (rlr_le hi).1; omega) (by have := (rlr_le hi).2; omega)) hx
/-- what the relation looks at: the class's state and the row; image k's -/
def rlF0 : List aR := rlE.flatMap (fun e => [rlX 0 0 e, rlY 1 0 e])
def rlFk (k : Nat) : List aR := [(0, 0, ((1 + k : Nat) : Int), ((1 + k : Nat) : Int)), (1, 3, (k : Int), (k : Int))] ++ rlE.flatMap (fun e => [rlX (2 + k) 1 e, rlY 2 (5270 * k) e])
def rlFI : List aR := rlFk 0 ++ rlFk 1
def rlF : List aR := rlF0 ++ rlFI
def rlI (b1 k : Nat) (bk : aB) (h : jH) : Prop := (bk (2 + k) = none ∧ cv h (b1 + 3) k 0) ∨ ∃ a, bk (2 + k) = some a ∧ cv h (b1 + 3) k 1 ∧ rlS a (b1 + 2) (5270 * k) h
def lwR (bk : aB) (h : jH) : Prop := ∀ b0 b1, bk 0 = some b0 → bk 1 = some b1 → rlS (b0 + 1) (b1 + 1) 0 h ∧ rlI b1 0 bk h ∧ rlI b1 1 bk h
theorem rl_x0 {e : rlT} (he : e ∈ rlE) : rlX 0 0 e ∈ rlF0 := List.mem_flatMap.mpr ⟨e, he, List.mem_cons_self⟩
theorem rl_y0 {e : rlT} (he : e ∈ rlE) : rlY 1 0 e ∈ rlF0 := List.mem_flatMap.mpr ⟨e, he, List.mem_cons_of_mem _ List.mem_cons_self⟩
theorem rl_xk {k : Nat} {e : rlT} (he : e ∈ rlE) : rlX (2 + k) 1 e ∈ rlFk k := List.mem_append_right _ (List.mem_flatMap.mpr ⟨e, he, List.mem_cons_self⟩)
theorem rl_yk {k : Nat} {e : rlT} (he : e ∈ rlE) : rlY 2 (5270 * k) e ∈ rlFk k := List.mem_append_right _ (List.mem_flatMap.mpr ⟨e, he, List.mem_cons_of_mem _ List.mem_cons_self⟩)
theorem rl_k2 {k : Nat} (hk : k < 2) : k = 0 ∨ k = 1 := by omega
theorem rl_Fk {W : List aR} {k : Nat} (hk : k < 2) (h : apW W rlFI = true) : apW W (rlFk k) = true := List.all_eq_true.mpr (fun w hw => List.all_eq_true.mpr (fun v hv => List.all_eq_true.mp (List.all_eq_true.mp h w hw) v (by
  rcases rl_k2 hk with rfl | rfl
  · exact List.mem_append_left _ hv
  · exact List.mem_append_right _ hv)))
theorem rl_f0 {W : List aR} (h : apW W rlF = true) : apW W rlF0 = true := List.all_eq_true.mpr (fun w hw => List.all_eq_true.mpr (fun v hv => List.all_eq_true.mp (List.all_eq_true.mp h w hw) v (List.mem_append_left _ hv)))
theorem rl_fI {W : List aR} (h : apW W rlF = true) : apW W rlFI = true := List.all_eq_true.mpr (fun w hw => List.all_eq_true.mpr (fun v hv => List.all_eq_true.mp (List.all_eq_true.mp h w hw) v (List.mem_append_right _ hv)))
theorem rl_sh {b : Nat} {e : rlT} (he : e ∈ rlE) : b + 1 + (e.1 - 1) = b + (e.1 - 0) := by
  have := (rlE_at he).2.2.2.1
  omega
theorem rl0_keep {W : List aR} {bk bk' : aB} {h h' : jH} (hO : hOK TTs g (EIm n) W bk h bk' h') {b0 b1 : Nat} (hb0 : bk 0 = some b0) (hb1 : bk 1 = some b1) (hW : apW W rlF0 = true) (hR : rlS (b0 + 1) (b1 + 1) 0 h) : rlS (b0 + 1) (b1 + 1) 0 h' := fun e he i hi => by
  obtain ⟨x, x1, x2⟩ := hR e he i hi
  rw [rl_sh he] at x1 ⊢
  exact ⟨x, rlX_off hO hb0 (rlE_at he).1 (apW_mem hW (rl_x0 he)) hi x1, rlY_off hO hb1 (by decide +kernel) (apW_mem hW (rl_y0 he)) hi x2⟩
/-- an image that isn't there isn't there behind a call that doesn't write the class's field of it -/
theorem img_none {W : List aR} {bk bk' : aB} {h h' : jH} {k : Nat} (hk : k < 2) (hT : HT TTs g bk h) (hO : hOK TTs g (EIm n) W bk h bk' h') {b0 : Nat} (hb0 : bk 0 = some b0) (hz : apW W [(0, 0, ((1 + k : Nat) : Int), ((1 + k : Nat) : Int))] = true) (hn : bk (2 + k) = none) : bk' (2 + k) = none := by
  obtain ⟨c, hc, fs, rfl, -, hfs⟩ := hT 0 b0 0 _ hb0 ty_x0
  obtain ⟨fs', hc', e⟩ := hO.fld hb0 ty_x0 hc hz
  obtain ⟨c2, hc2, fs2, rfl, -, hfs2⟩ := hO.1 0 b0 0 _ (hO.2.2.2.2.1 0 b0 hb0) ty_x0
  have e3 := hc'.symm.trans hc2
  have e4 : fs' = fs2 := by
    have := Sum.inr.inj (Option.some.inj e3)
    exact congrArg Prod.snd this
  subst e4
  have h2 : k = 0 ∨ k = 1 := by omega
  rcases h2 with rfl | rfl
  · obtain ⟨v, hv, hvt⟩ := hfs 1 (3, 0, 0, 2, 0) rfl
    obtain ⟨v2, hv2, hvt2⟩ := hfs2 1 (3, 0, 0, 2, 0) rfl
    rcases hvt with ⟨a, ha, -⟩ | ⟨-, rfl⟩
    · have ha : bk 2 = some a := ha
      rw [show 2 + 0 = 2 from rfl, ha] at hn
      cases hn
    rw [e, hv] at hv2
    cases hv2
    rcases hvt2 with ⟨a, -, hh⟩ | ⟨hh, -⟩
    · cases hh
    · exact hh
  · obtain ⟨v, hv, hvt⟩ := hfs 2 (3, 0, 0, 3, 0) rfl
    obtain ⟨v2, hv2, hvt2⟩ := hfs2 2 (3, 0, 0, 3, 0) rfl
    rcases hvt with ⟨a, ha, -⟩ | ⟨-, rfl⟩
    · have ha : bk 3 = some a := ha
      rw [show 2 + 1 = 3 from rfl, ha] at hn
      cases hn
    rw [e, hv] at hv2
    cases hv2
    rcases hvt2 with ⟨a, -, hh⟩ | ⟨hh, -⟩
    · cases hh
    · exact hh
theorem rl_ty {k : Nat} (hk : k < 2) {e : rlT} (he : e ∈ rlE) : e.1 - 1 < tyLen TTs (2 + k) := by
  rcases rl_k2 hk with rfl | rfl
  · exact (rlE_at he).2.1
  · exact (rlE_at he).2.2.1
theorem rlI_keep {W : List aR} {bk bk' : aB} {h h' : jH} {k : Nat} (hk : k < 2) (hT : HT TTs g bk h) (hO : hOK TTs g (EIm n) W bk h bk' h') {b0 b1 : Nat} (hb0 : bk 0 = some b0) (hb1 : bk 1 = some b1) (hW : apW W (rlFk k) = true) (hR : rlI b1 k bk h) : rlI b1 k bk' h' := by
  have w1 := apW_mem hW (List.mem_append_left _ List.mem_cons_self)
  have w2 := apW_mem hW (List.mem_append_left _ (List.mem_cons_of_mem _ List.mem_cons_self))
  rcases hR with ⟨r1, r2⟩ | ⟨a, r1, r2, r3⟩
  · exact Or.inl ⟨img_none hk hT hO hb0 w1 r1, cv_off hO hb1 (by decide +kernel) w2 r2⟩
  · refine Or.inr ⟨a, hO.2.2.2.2.1 _ a r1, cv_off hO hb1 (by decide +kernel) w2 r2, fun e he i hi => ?_⟩
    obtain ⟨x, x1, x2⟩ := r3 e he i hi
    exact ⟨x, rlX_off hO r1 (rl_ty hk he) (apW_mem hW (rl_xk he)) hi x1, rlY_off hO hb1 (by decide +kernel) (apW_mem hW (rl_yk he)) hi x2⟩
theorem lwR_keep {W : List aR} {bk bk' : aB} {h h' : jH} (hT : HT TTs g bk h) (hO : hOK TTs g (EIm n) W bk h bk' h') (hB : ∀ B, B ≤ 1 → ∃ b, bk B = some b) (hW : apW W rlF = true) (hR : lwR bk h) : lwR bk' h' := by
  intro b0 b1 q0 q1
  obtain ⟨c0, e0⟩ := hB 0 (by decide)
  obtain ⟨c1, e1⟩ := hB 1 (by decide)
  cases (hO.2.2.2.2.1 0 c0 e0).symm.trans q0
  cases (hO.2.2.2.2.1 1 c1 e1).symm.trans q1
  obtain ⟨r0, r1, r2⟩ := hR _ _ e0 e1
  exact ⟨rl0_keep hO e0 e1 (rl_f0 hW) r0, rlI_keep (by decide) hT hO e0 e1 (rl_Fk (by decide) (rl_fI hW)) r1, rlI_keep (by decide) hT hO e0 e1 (rl_Fk (by decide) (rl_fI hW)) r2⟩
/-! one call, two contracts: a number of the exact heap is one of the other -/
def ckd (t : aCT) (c : jC) : Prop := match t, c with
  | .inl a, .inl q => q.1 = a.1 ∧ q.2.1 = a.2.1
  | .inr a, .inr q => q.1 = a.1
  | _, _ => False
def tyW (t : aCT) (z : Nat) : Prop := match t with
  | .inl a => z < a.2.1
  | .inr a => z < a.2.length ∧ ∃ r, jcl[a.1]? = some r ∧ z < r.2.2
theorem ckd_of {bk : aB} {h : jH} {B b o : Nat} {t : aCT} {c : jC} (hT : HT TTs g bk h) (hb : bk B = some b) (ht : tyAt TTs B o = some t) (hc : h[b + o]? = some c) : ckd t c := by
  obtain ⟨c', e, hct⟩ := hT B b o t hb ht
  cases hc.symm.trans e
  cases t with
  | inl a => obtain ⟨f, rfl, -⟩ := hct; exact ⟨rfl, rfl⟩
  | inr a => obtain ⟨f, rfl, -⟩ := hct; exact rfl
theorem both_cv {W : List aR} {bk bk1 : aB} {h h1 h1' : jH} {H : Heap} {B b o : Nat} {t : aCT} {c1 : jC} (hO : hOK TTs g (EIm n) W bk h bk1 h1) (e1 : jhr g h1 H) (e2 : jhr g h1' H) (hb : bk B = some b) (ht : tyAt TTs B o = some t) (hc : h1'[b + o]? = some c1) (hk : ckd t c1) {z : Nat} {x : Int} (hz : tyW t z) (hv : cv h1' (b + o) z x) : cv h1 (b + o) z x := by
  obtain ⟨c, hc', hct⟩ := hO.1 B b o t (hO.2.2.2.2.1 B b hb) ht
  obtain ⟨c2, hc2, hp⟩ := hv
  cases hc.symm.trans hc2
  refine ⟨c, hc', ?_⟩
  cases t with
  | inl a =>
    cases c1 with
    | inr q => exact absurd hk id
    | inl q =>
      obtain ⟨f, rfl, -⟩ := hct
      obtain ⟨q1, q2, f2⟩ := q
      obtain ⟨k1, k2⟩ := hk
      dsimp only at k1 k2
      subst k1 k2
      obtain ⟨-, hf⟩ := tr_arr e1 e2 hc' hc
      have hz : z < a.2.1 := hz
      have hp : 0 ≤ (z : Int) ∧ (f2 (z : Int).toNat).toInt = x := hp
      refine ⟨hp.1, ?_⟩
      show (f (z : Int).toNat).toInt = x
      have e : f (z : Int).toNat = f2 (z : Int).toNat := hf _ (by omega)
      rw [e]
      exact hp.2
  | inr a =>
    cases c1 with
    | inl q => exact absurd hk id
    | inr q =>
      obtain ⟨fs, rfl, hl, -⟩ := hct
      obtain ⟨q1, f2⟩ := q
      have k1 : q1 = a.1 := hk
      subst k1
      obtain ⟨z1, r, hr, z2⟩ := hz
      obtain ⟨p1, w, w1, w2⟩ := hp
      have w1 : f2[z]? = some (.int w) := w1
      have e : fs[z]? = some fs[z] := List.getElem?_eq_getElem (by omega)
      have e3 := tr_obj e1 e2 hc' hc hr z2 e w1
      exact ⟨p1, w, (show fs[z]? = _ by rw [e, e3]), w2⟩
end RL
end
