/-! mend and mended where the Mender is there: nothing new is made -/
section MZ
variable {l : Launch} {g : jG} {n : Int}
theorem smd0_run (hlow : ∀ (k : Nat) (K : aK), KTx[k]? = some K → kOK TTs g (EIm n) l K) {W0 : List aR} {bk0 bk : aB} {h0 h : jH} (hO0 : hOK TTs g (EIm n) W0 bk0 h0 bk h) {b b6 : Nat} (hb : bk 0 = some b) (h6 : bk 6 = some b6) : jCal l g 135 9 [.ref (g.2.2 + (b + 0))] h 0 0 (kPost TTs g (EIm n) (smK 0 0) bk h []) := by
  have hcls : jcN 11 = (jyN 135).cls := by decide +kernel
  have hM : mOK TTs g (EIm n) Pm KTx l (smK 0 0).1 11 smdN := ⟨TTs_cl, TTs_sg, EIm_ok, hcls, fun k K hK _ => hlow k K hK⟩
  have cks := cuts_ok (l := l) (own := 11) (n := smdN) (fuel := 200) (sp := []) (ev := []) (K := smK 0 0) (bk0 := bk) (h0 := h) hM ⟨rfl, fun i e z he _ => by cases he⟩ rfl sm_cks
  refine jCal_of (by decide +kernel) (show 1 ≤ jmx 135 by decide +kernel) ?_
  show J l g 135 9 0 [some (.ref (g.2.2 + (b + 0)))] [] h 0 0 _
  obtain ⟨c, hc, fs, rfl, hfl, hfs⟩ := hO0.1 0 b 0 _ hb ty_x0
  have hc : h[b + 0]? = some (.inr (11, fs)) := hc
  obtain ⟨v, hv, hvt⟩ := hfs 11 (3, 0, 0, 6, 0) rfl
  have n11 : ∀ r, jcl[11]? = some r → 11 < r.2.2 := fun r hr => by
    cases hr
    decide +kernel
  refine j_aload_n (k4 := 0) (by decide +kernel) rfl ?_
  refine j_get (own := 11) (i := 377) (ci := 11) (f := 11) (by decide +kernel) hcls (by decide +kernel) hc n11 hv ?_
  rcases hvt with ⟨bx, hX, rfl⟩ | ⟨hX, rfl⟩
  · refine j_ifnonnull (off := 14) (tgt := 18) (by decide +kernel) (by decide) ?_
    refine cks smC18 List.mem_cons_self 1 (by decide) [] bk _ h ⟨⟨⟨rfl, fun i e z he _ => by cases he⟩, eFm_plain (plain_app (plain_app (plain_app (spEnv_plain _) clEnv_plain) (spEnv_plain _)) clEnv_plain), fun F hF => absurd hF List.not_mem_nil, ?_, trivial, fun q hq => absurd hq List.not_mem_nil, ?_⟩, hOK.rf hO0.1 hO0.2.1 hO0.2.2.1 hO0.2.2.2.2.2, (show (1 : Nat) = jmx 135 by decide +kernel), fun i z hz => hz⟩ rfl
    · intro i v hv
      match i, hv with
      | 0, hv => cases hv; exact ⟨_, rfl, b, hb, rfl⟩
      | n + 1, hv => cases hv
    · intro B hB
      have := List.mem_singleton.mp hB
      subst this
      exact ⟨b6, h6⟩
  · have hX : bk 6 = none := hX
    rw [h6] at hX
    cases hX
def mdK : aK := (134, [some (2, 0, 0, 0, 0), some (0, -2147483648, 2147483647, 0, 0), none], [], [], [(0, -2147483648, 2147483647, 0, 0, [])], [], [], [(0, 0, 11, 11), (0, 34, 3, 3), (0, 36, 0, 143), (6, 0, 0, 11), (6, 1, 0, 15), (6, 2, 0, 15), (6, 3, 0, 4912), (6, 4, 0, 4912), (6, 5, 0, 4912), (6, 6, 0, 271)], 10, 0, 0)
def mdC : aCu := (9, [some (2, 0, 0, 0, 0), some (0, 0, 1, 0, 0), none], [], [], ([], 0), [])
def mdR : aK := (134, [some (2, 0, 0, 0, 0), some (0, 0, 1, 0, 0), some (2, 0, 0, 6, 0)], [], [], [(0, -2147483648, 2147483647, 0, 0, [])], [], [], [(0, 0, 11, 11), (0, 34, 3, 3), (0, 36, 0, 143), (6, 0, 0, 11), (6, 1, 0, 15), (6, 2, 0, 15), (6, 3, 0, 4912), (6, 4, 0, 4912), (6, 5, 0, 4912), (6, 6, 0, 271)], 10, 0, 0)
theorem md_ent : chk (TTs, KTx, KIx, [(0, 0, 11, 11), (0, 34, 3, 3), (0, 36, 0, 143), (6, 0, 0, 11), (6, 1, 0, 15), (6, 2, 0, 15), (6, 3, 0, 4912), (6, 4, 0, 4912), (6, 5, 0, 4912), (6, 6, 0, 271)], Pm, 134, 11, 10, 742) mdK [mdC] [] none 300 true 0 (spState [] mdK.2.1 [] [] []) 0 0 = true := by decide +kernel
theorem md_rest : chk (TTs, KTx, KIx, [(0, 0, 11, 11), (0, 34, 3, 3), (0, 36, 0, 143), (6, 0, 0, 11), (6, 1, 0, 15), (6, 2, 0, 15), (6, 3, 0, 4912), (6, 4, 0, 4912), (6, 5, 0, 4912), (6, 6, 0, 271)], Pm, 134, 11, 10, 742) mdR [] [] none 300 true 14 (spState [] mdR.2.1 [] [] [6]) 0 0 = true := by decide +kernel
theorem pt_mde {W0 W1 : List aR} {bk0 bk : aB} {h0 h : jH} (hO : hOK TTs g (EIm n) W0 bk0 h0 bk h) {a0 : Nat} (ha0 : bk 0 = some a0) {x1 : Int32} (hx1 : (-2147483648 : Int) ≤ x1.toInt ∧ x1.toInt ≤ 2147483647) {o2 : Option Value} :
    PT TTs g (EIm n) W1 bk h [x1.toInt] 134 [x1.toInt] bk [some (.ref (g.2.2 + (a0 + 0))), some (.int x1), o2] [] h (spState [] [some (2, 0, 0, 0, 0), some (0, -2147483648, 2147483647, 0, 0), none] [] [] []) ∧ eIv [x1.toInt] (spEnv [some (2, 0, 0, 0, 0), some (0, -2147483648, 2147483647, 0, 0), none] ++ clEnv []) := by
  have hI : eIv [x1.toInt] (spEnv [some (2, 0, 0, 0, 0), some (0, -2147483648, 2147483647, 0, 0), none] ++ clEnv []) := by
    refine ⟨rfl, fun i e z he hz => ?_⟩
    match i, he, hz with
    | 0, he, hz => cases he; cases hz; exact hx1
    | i + 1, he, _ => cases he
  refine ⟨⟨⟨hI, eFm_plain (plain_app (spEnv_plain _) clEnv_plain), fun F hF => absurd hF List.not_mem_nil, fun i v hv => ?_, trivial, fun q hq => ?_, fun B hB => ?_⟩, ⟨hO.1, hO.2.1, hO.2.2.1, UN.rf, fun _ _ q => q, hO.2.2.2.2.2⟩, (show 3 = jmx 134 by decide +kernel), fun i z hz => hz⟩, hI⟩
  · match i, hv with
    | 0, hv => cases hv; exact ⟨_, rfl, a0, ha0, rfl⟩
    | 1, hv => cases hv; exact ⟨_, rfl, x1, rfl, rfl⟩
    | 2, hv => cases hv
    | i + 3, hv => cases hv
  · exact absurd hq List.not_mem_nil
  · exact absurd hB List.not_mem_nil
theorem pt_mdr {W0 W1 : List aR} {bk0 bk : aB} {h0 h : jH} (hO : hOK TTs g (EIm n) W0 bk0 h0 bk h) {a6 : Nat} (ha6 : bk 6 = some a6) {a0 : Nat} (ha0 : bk 0 = some a0) {x1 : Int32} (hx1 : (0 : Int) ≤ x1.toInt ∧ x1.toInt ≤ 1) :
    PT TTs g (EIm n) W1 bk h [x1.toInt] 134 [x1.toInt] bk [some (.ref (g.2.2 + (a0 + 0))), some (.int x1), some (.ref (g.2.2 + (a6 + 0)))] [] h (spState [] [some (2, 0, 0, 0, 0), some (0, 0, 1, 0, 0), some (2, 0, 0, 6, 0)] [] [] [6]) ∧ eIv [x1.toInt] (spEnv [some (2, 0, 0, 0, 0), some (0, 0, 1, 0, 0), some (2, 0, 0, 6, 0)] ++ clEnv []) := by
  have hI : eIv [x1.toInt] (spEnv [some (2, 0, 0, 0, 0), some (0, 0, 1, 0, 0), some (2, 0, 0, 6, 0)] ++ clEnv []) := by
    refine ⟨rfl, fun i e z he hz => ?_⟩
    match i, he, hz with
    | 0, he, hz => cases he; cases hz; exact hx1
    | i + 1, he, _ => cases he
  refine ⟨⟨⟨hI, eFm_plain (plain_app (spEnv_plain _) clEnv_plain), fun F hF => absurd hF List.not_mem_nil, fun i v hv => ?_, trivial, fun q hq => ?_, fun B hB => ?_⟩, ⟨hO.1, hO.2.1, hO.2.2.1, UN.rf, fun _ _ q => q, hO.2.2.2.2.2⟩, (show 3 = jmx 134 by decide +kernel), fun i z hz => hz⟩, hI⟩
  · match i, hv with
    | 0, hv => cases hv; exact ⟨_, rfl, a0, ha0, rfl⟩
    | 1, hv => cases hv; exact ⟨_, rfl, x1, rfl, rfl⟩
    | 2, hv => cases hv; exact ⟨_, rfl, a6, ha6, rfl⟩
    | i + 3, hv => cases hv
  · exact absurd hq List.not_mem_nil
  · have hB2 : B ∈ [6] := hB
    simp only [List.mem_cons, List.not_mem_nil, or_false] at hB2
    rcases hB2 with rfl
    · exact ⟨_, ha6⟩
set_option maxRecDepth 16384 in
theorem md0_run (hlow : ∀ (k : Nat) (K : aK), KTx[k]? = some K → kOK TTs g (EIm n) l K) {W0 : List aR} {bk0 bk : aB} {h0 h : jH} (hO0 : hOK TTs g (EIm n) W0 bk0 h0 bk h) {b b6 : Nat} (hb : bk 0 = some b) (h6 : bk 6 = some b6) {x1 : Int32} : jCal l g 134 10 [.ref (g.2.2 + (b + 0)), .int x1] h 0 0 (kPost TTs g (EIm n) mdK bk h [x1.toInt]) := by
  have hcls : jcN 11 = (jyN 134).cls := by decide +kernel
  have hM : mOK TTs g (EIm n) Pm KTx l mdK.1 11 742 := ⟨TTs_cl, TTs_sg, EIm_ok, hcls, fun k K hK _ => hlow k K hK⟩
  refine jCal_of (by decide +kernel) (show 2 ≤ jmx 134 by decide +kernel) ?_
  show J l g 134 10 0 [some (.ref (g.2.2 + (b + 0))), some (.int x1), none] [] h 0 0 _
  obtain ⟨hp, hI⟩ := pt_mde (W1 := mdK.2.2.2.2.2.2.2.1) (o2 := none) hO0 hb (x1 := x1) ⟨i32_lo _, i32_hi _⟩
  refine chk_okQ (K := mdK) (KI := KIx) (ev' := [x1.toInt]) hM hI rfl (fun i z hz => hz) (fun v h' hq => hq) (fun C hC μ _ _ => ?_) 300 true 0 _ _ _ md_ent _ bk _ [] h hp
  rw [List.mem_singleton.mp hC]
  intro vs bk2 al h2 hp _
  obtain ⟨⟨i1, i2, i3, i4, i5, i6, i7⟩, hO2, hlen, hpre⟩ := hp
  have hlen : al.length = 3 := hlen.trans (show jmx 134 = 3 by decide +kernel)
  have hO2 : hOK TTs g (EIm n) mdK.2.2.2.2.2.2.2.1 bk h bk2 h2 := hO2
  obtain ⟨a0, a1, a2, hal⟩ := list3 hlen
  subst hal
  obtain ⟨w0, y0, b', hb2, rfl⟩ := i4 0 (2, 0, 0) rfl
  have r0 := Option.some.inj y0
  subst r0
  have hbx := hO2.2.2.2.2.1 0 b hb
  have h62 := hO2.2.2.2.2.1 6 b6 h6
  have hb2 : bk2 0 = some b' := hb2
  cases hbx.symm.trans hb2
  obtain ⟨w1, y1, s1, rfl, z1⟩ := i4 1 (0, 1, 0) rfl
  have r1 := Option.some.inj y1
  subst r1
  have j1 := i1.2 1 (eNew 0 1 none) _ rfl z1
  dsimp only [eNew] at j1
  obtain ⟨c, hc, fs, rfl, -, -⟩ := hO2.1 0 b 0 _ hbx ty_x0
  have hc : h2[b + 0]? = some (.inr (11, fs)) := hc
  refine j_aload_n (k4 := 0) (by decide +kernel) rfl ?_
  refine j_callV (own := 11) (i := 264) (y2 := 135) (d2 := 9) (mc := 0) (ms := 0) (kc := 0) (ks := 0) (a := b + 0) (As := []) (st := []) (by decide +kernel) hcls (by decide +kernel) (by decide) (by decide +kernel) (by decide +kernel) (by decide +kernel) (by decide +kernel) (by decide +kernel) (show 0 = jnp 135 by decide +kernel) (by decide) (by decide) hc (fun r hr => by cases hr; decide +kernel) (smd0_run hlow hO2 hbx h62) (fun v h3 hq => ?_)
  obtain ⟨bk3, os, k1, -, qq, hq1, hq2⟩ := hq
  have hq3 : qq = (2, 0, 0, 6, 0, []) := List.mem_singleton.mp hq1
  subst hq3
  obtain ⟨⟨b6', hb6', rfl⟩, -⟩ := hq2
  have hb6' : bk3 6 = some b6' := hb6'
  have hb3 := k1.2.2.2.2.1 0 b hbx
  have k1 : hOK TTs g (EIm n) smW bk2 h2 bk3 h3 := k1
  have hO3 := hO2.tr (W' := smW) (by decide +kernel) k1
  refine j_astore_n (k4 := 2) (by decide +kernel) (by decide +kernel) ?_
  obtain ⟨hp3, hI3⟩ := pt_mdr (W1 := mdR.2.2.2.2.2.2.2.1) hO3 hb6' hb3 (x1 := s1) j1
  have hMr : mOK TTs g (EIm n) Pm KTx l mdR.1 11 742 := ⟨TTs_cl, TTs_sg, EIm_ok, hcls, fun k K hK _ => hlow k K hK⟩
  refine chk_okQ (K := mdR) (KI := KIx) (bk0 := bk3) (h0 := h3) (ev := [s1.toInt]) (ev' := [s1.toInt]) hMr hI3 rfl (fun i z hz => hz) (fun v h' hq => ?_) (fun C hC => absurd hC List.not_mem_nil) 300 true 14 _ _ _ md_rest _ bk3 _ [] h3 hp3
  obtain ⟨bk4, os, k4, k5, qq, hq1, hq2⟩ := hq
  have hos : os = [] := List.eq_nil_of_length_eq_zero k5.1
  subst hos
  have hq3 : qq = (0, -2147483648, 2147483647, 0, 0, []) := List.mem_singleton.mp hq1
  subst hq3
  obtain ⟨r, rfl, r1, -, -⟩ := hq2
  exact ⟨bk4, [], hO3.tr (W' := mdR.2.2.2.2.2.2.2.1) (by decide +kernel) k4, ⟨rfl, fun j q x hj => by cases hj⟩, _, List.mem_cons_self, r, rfl, r1, Or.inl rfl, fun F hF => absurd hF List.not_mem_nil⟩
def meK : aK := (152, [some (2, 0, 0, 0, 0), some (0, -2147483648, 2147483647, 0, 0), some (0, -2147483648, 2147483647, 0, 0), none], [], [], [(0, -2147483648, 2147483647, 0, 0, [])], [], [], [(0, 0, 11, 11), (0, 34, 3, 3), (0, 36, 0, 143), (6, 0, 0, 11), (6, 1, 0, 15), (6, 2, 0, 15), (6, 3, 0, 4912), (6, 4, 0, 4912), (6, 5, 0, 4912), (6, 6, 0, 271)], 10, 0, 0)
def meC : aCu := (27, [some (2, 0, 0, 0, 0), some (0, 0, 15, 0, 0), some (0, 0, 1, 0, 0), none], [], [], ([], 0), [])
def meR : aK := (152, [some (2, 0, 0, 0, 0), some (0, 0, 15, 0, 0), some (0, 0, 1, 0, 0), some (2, 0, 0, 6, 0)], [], [], [(0, -2147483648, 2147483647, 0, 0, [])], [], [], [(0, 0, 11, 11), (0, 34, 3, 3), (0, 36, 0, 143), (6, 0, 0, 11), (6, 1, 0, 15), (6, 2, 0, 15), (6, 3, 0, 4912), (6, 4, 0, 4912), (6, 5, 0, 4912), (6, 6, 0, 271)], 10, 0, 0)
theorem me_ent : chk (TTs, KTx, KIx, [(0, 0, 11, 11), (0, 34, 3, 3), (0, 36, 0, 143), (6, 0, 0, 11), (6, 1, 0, 15), (6, 2, 0, 15), (6, 3, 0, 4912), (6, 4, 0, 4912), (6, 5, 0, 4912), (6, 6, 0, 271)], Pm, 152, 11, 10, 742) meK [meC] [] none 300 true 0 (spState [] meK.2.1 [] [] []) 0 0 = true := by decide +kernel
theorem me_rest : chk (TTs, KTx, KIx, [(0, 0, 11, 11), (0, 34, 3, 3), (0, 36, 0, 143), (6, 0, 0, 11), (6, 1, 0, 15), (6, 2, 0, 15), (6, 3, 0, 4912), (6, 4, 0, 4912), (6, 5, 0, 4912), (6, 6, 0, 271)], Pm, 152, 11, 10, 742) meR [] [] none 300 true 32 (spState [] meR.2.1 [] [] [6]) 0 0 = true := by decide +kernel
theorem pt_mee {W0 W1 : List aR} {bk0 bk : aB} {h0 h : jH} (hO : hOK TTs g (EIm n) W0 bk0 h0 bk h) {a0 : Nat} (ha0 : bk 0 = some a0) {x1 : Int32} (hx1 : (-2147483648 : Int) ≤ x1.toInt ∧ x1.toInt ≤ 2147483647) {x2 : Int32} (hx2 : (-2147483648 : Int) ≤ x2.toInt ∧ x2.toInt ≤ 2147483647) {o3 : Option Value} :
    PT TTs g (EIm n) W1 bk h [x1.toInt, x2.toInt] 152 [x1.toInt, x2.toInt] bk [some (.ref (g.2.2 + (a0 + 0))), some (.int x1), some (.int x2), o3] [] h (spState [] [some (2, 0, 0, 0, 0), some (0, -2147483648, 2147483647, 0, 0), some (0, -2147483648, 2147483647, 0, 0), none] [] [] []) ∧ eIv [x1.toInt, x2.toInt] (spEnv [some (2, 0, 0, 0, 0), some (0, -2147483648, 2147483647, 0, 0), some (0, -2147483648, 2147483647, 0, 0), none] ++ clEnv []) := by
  have hI : eIv [x1.toInt, x2.toInt] (spEnv [some (2, 0, 0, 0, 0), some (0, -2147483648, 2147483647, 0, 0), some (0, -2147483648, 2147483647, 0, 0), none] ++ clEnv []) := by
    refine ⟨rfl, fun i e z he hz => ?_⟩
    match i, he, hz with
    | 0, he, hz => cases he; cases hz; exact hx1
    | 1, he, hz => cases he; cases hz; exact hx2
    | i + 2, he, _ => cases he
  refine ⟨⟨⟨hI, eFm_plain (plain_app (spEnv_plain _) clEnv_plain), fun F hF => absurd hF List.not_mem_nil, fun i v hv => ?_, trivial, fun q hq => ?_, fun B hB => ?_⟩, ⟨hO.1, hO.2.1, hO.2.2.1, UN.rf, fun _ _ q => q, hO.2.2.2.2.2⟩, (show 4 = jmx 152 by decide +kernel), fun i z hz => hz⟩, hI⟩
  · match i, hv with
    | 0, hv => cases hv; exact ⟨_, rfl, a0, ha0, rfl⟩
    | 1, hv => cases hv; exact ⟨_, rfl, x1, rfl, rfl⟩
    | 2, hv => cases hv; exact ⟨_, rfl, x2, rfl, rfl⟩
    | 3, hv => cases hv
    | i + 4, hv => cases hv
  · exact absurd hq List.not_mem_nil
  · exact absurd hB List.not_mem_nil
theorem pt_mer {W0 W1 : List aR} {bk0 bk : aB} {h0 h : jH} (hO : hOK TTs g (EIm n) W0 bk0 h0 bk h) {a6 : Nat} (ha6 : bk 6 = some a6) {a0 : Nat} (ha0 : bk 0 = some a0) {x1 : Int32} (hx1 : (0 : Int) ≤ x1.toInt ∧ x1.toInt ≤ 15) {x2 : Int32} (hx2 : (0 : Int) ≤ x2.toInt ∧ x2.toInt ≤ 1) :
    PT TTs g (EIm n) W1 bk h [x1.toInt, x2.toInt] 152 [x1.toInt, x2.toInt] bk [some (.ref (g.2.2 + (a0 + 0))), some (.int x1), some (.int x2), some (.ref (g.2.2 + (a6 + 0)))] [] h (spState [] [some (2, 0, 0, 0, 0), some (0, 0, 15, 0, 0), some (0, 0, 1, 0, 0), some (2, 0, 0, 6, 0)] [] [] [6]) ∧ eIv [x1.toInt, x2.toInt] (spEnv [some (2, 0, 0, 0, 0), some (0, 0, 15, 0, 0), some (0, 0, 1, 0, 0), some (2, 0, 0, 6, 0)] ++ clEnv []) := by
  have hI : eIv [x1.toInt, x2.toInt] (spEnv [some (2, 0, 0, 0, 0), some (0, 0, 15, 0, 0), some (0, 0, 1, 0, 0), some (2, 0, 0, 6, 0)] ++ clEnv []) := by
    refine ⟨rfl, fun i e z he hz => ?_⟩
    match i, he, hz with
    | 0, he, hz => cases he; cases hz; exact hx1
    | 1, he, hz => cases he; cases hz; exact hx2
    | i + 2, he, _ => cases he
  refine ⟨⟨⟨hI, eFm_plain (plain_app (spEnv_plain _) clEnv_plain), fun F hF => absurd hF List.not_mem_nil, fun i v hv => ?_, trivial, fun q hq => ?_, fun B hB => ?_⟩, ⟨hO.1, hO.2.1, hO.2.2.1, UN.rf, fun _ _ q => q, hO.2.2.2.2.2⟩, (show 4 = jmx 152 by decide +kernel), fun i z hz => hz⟩, hI⟩
  · match i, hv with
    | 0, hv => cases hv; exact ⟨_, rfl, a0, ha0, rfl⟩
    | 1, hv => cases hv; exact ⟨_, rfl, x1, rfl, rfl⟩
    | 2, hv => cases hv; exact ⟨_, rfl, x2, rfl, rfl⟩
    | 3, hv => cases hv; exact ⟨_, rfl, a6, ha6, rfl⟩
    | i + 4, hv => cases hv
  · exact absurd hq List.not_mem_nil
  · have hB2 : B ∈ [6] := hB
    simp only [List.mem_cons, List.not_mem_nil, or_false] at hB2
    rcases hB2 with rfl
    · exact ⟨_, ha6⟩
set_option maxRecDepth 16384 in
theorem me0_run (hlow : ∀ (k : Nat) (K : aK), KTx[k]? = some K → kOK TTs g (EIm n) l K) {W0 : List aR} {bk0 bk : aB} {h0 h : jH} (hO0 : hOK TTs g (EIm n) W0 bk0 h0 bk h) {b b6 : Nat} (hb : bk 0 = some b) (h6 : bk 6 = some b6) {x1 x2 : Int32} : jCal l g 152 10 [.ref (g.2.2 + (b + 0)), .int x1, .int x2] h 0 0 (kPost TTs g (EIm n) meK bk h [x1.toInt, x2.toInt]) := by
  have hcls : jcN 11 = (jyN 152).cls := by decide +kernel
  have hM : mOK TTs g (EIm n) Pm KTx l meK.1 11 742 := ⟨TTs_cl, TTs_sg, EIm_ok, hcls, fun k K hK _ => hlow k K hK⟩
  refine jCal_of (by decide +kernel) (show 3 ≤ jmx 152 by decide +kernel) ?_
  show J l g 152 10 0 [some (.ref (g.2.2 + (b + 0))), some (.int x1), some (.int x2), none] [] h 0 0 _
  obtain ⟨hp, hI⟩ := pt_mee (W1 := meK.2.2.2.2.2.2.2.1) (o3 := none) hO0 hb (x1 := x1) ⟨i32_lo _, i32_hi _⟩ (x2 := x2) ⟨i32_lo _, i32_hi _⟩
  refine chk_okQ (K := meK) (KI := KIx) (ev' := [x1.toInt, x2.toInt]) hM hI rfl (fun i z hz => hz) (fun v h' hq => hq) (fun C hC μ _ _ => ?_) 300 true 0 _ _ _ me_ent _ bk _ [] h hp
  rw [List.mem_singleton.mp hC]
  intro vs bk2 al h2 hp _
  obtain ⟨⟨i1, i2, i3, i4, i5, i6, i7⟩, hO2, hlen, hpre⟩ := hp
  have hlen : al.length = 4 := hlen.trans (show jmx 152 = 4 by decide +kernel)
  have hO2 : hOK TTs g (EIm n) meK.2.2.2.2.2.2.2.1 bk h bk2 h2 := hO2
  obtain ⟨a0, a1, a2, a3, hal⟩ := list4 hlen
  subst hal
  obtain ⟨w0, y0, b', hb2, rfl⟩ := i4 0 (2, 0, 0) rfl
  have r0 := Option.some.inj y0
  subst r0
  have hbx := hO2.2.2.2.2.1 0 b hb
  have h62 := hO2.2.2.2.2.1 6 b6 h6
  have hb2 : bk2 0 = some b' := hb2
  cases hbx.symm.trans hb2
  obtain ⟨w1, y1, s1, rfl, z1⟩ := i4 1 (0, 2, 0) rfl
  have r1 := Option.some.inj y1
  subst r1
  have j1 := i1.2 2 (eNew 0 15 none) _ rfl z1
  dsimp only [eNew] at j1
  obtain ⟨w2, y2, s2, rfl, z2⟩ := i4 2 (0, 3, 0) rfl
  have r2 := Option.some.inj y2
  subst r2
  have j2 := i1.2 3 (eNew 0 1 none) _ rfl z2
  dsimp only [eNew] at j2
  obtain ⟨c, hc, fs, rfl, -, -⟩ := hO2.1 0 b 0 _ hbx ty_x0
  have hc : h2[b + 0]? = some (.inr (11, fs)) := hc
  refine j_aload_n (k4 := 0) (by decide +kernel) rfl ?_
  refine j_callV (own := 11) (i := 264) (y2 := 135) (d2 := 9) (mc := 0) (ms := 0) (kc := 0) (ks := 0) (a := b + 0) (As := []) (st := []) (by decide +kernel) hcls (by decide +kernel) (by decide) (by decide +kernel) (by decide +kernel) (by decide +kernel) (by decide +kernel) (by decide +kernel) (show 0 = jnp 135 by decide +kernel) (by decide) (by decide) hc (fun r hr => by cases hr; decide +kernel) (smd0_run hlow hO2 hbx h62) (fun v h3 hq => ?_)
  obtain ⟨bk3, os, k1, -, qq, hq1, hq2⟩ := hq
  have hq3 : qq = (2, 0, 0, 6, 0, []) := List.mem_singleton.mp hq1
  subst hq3
  obtain ⟨⟨b6', hb6', rfl⟩, -⟩ := hq2
  have hb6' : bk3 6 = some b6' := hb6'
  have hb3 := k1.2.2.2.2.1 0 b hbx
  have k1 : hOK TTs g (EIm n) smW bk2 h2 bk3 h3 := k1
  have hO3 := hO2.tr (W' := smW) (by decide +kernel) k1
  refine j_astore_n (k4 := 3) (by decide +kernel) (by decide +kernel) ?_
  obtain ⟨hp3, hI3⟩ := pt_mer (W1 := meR.2.2.2.2.2.2.2.1) hO3 hb6' hb3 (x1 := s1) j1 (x2 := s2) j2
  have hMr : mOK TTs g (EIm n) Pm KTx l meR.1 11 742 := ⟨TTs_cl, TTs_sg, EIm_ok, hcls, fun k K hK _ => hlow k K hK⟩
  refine chk_okQ (K := meR) (KI := KIx) (bk0 := bk3) (h0 := h3) (ev := [s1.toInt, s2.toInt]) (ev' := [s1.toInt, s2.toInt]) hMr hI3 rfl (fun i z hz => hz) (fun v h' hq => ?_) (fun C hC => absurd hC List.not_mem_nil) 300 true 32 _ _ _ me_rest _ bk3 _ [] h3 hp3
  obtain ⟨bk4, os, k4, k5, qq, hq1, hq2⟩ := hq
  have hos : os = [] := List.eq_nil_of_length_eq_zero k5.1
  subst hos
  have hq3 : qq = (0, -2147483648, 2147483647, 0, 0, []) := List.mem_singleton.mp hq1
  subst hq3
  obtain ⟨r, rfl, r1, -, -⟩ := hq2
  exact ⟨bk4, [], hO3.tr (W' := meR.2.2.2.2.2.2.2.1) (by decide +kernel) k4, ⟨rfl, fun j q x hj => by cases hj⟩, _, List.mem_cons_self, r, rfl, r1, Or.inl rfl, fun F hF => absurd hF List.not_mem_nil⟩
end MZ
