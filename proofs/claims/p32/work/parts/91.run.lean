/-! run of the class -/
section RC
variable {l : Launch} {g : jG} {n : Int}
def rnW : List aR := [(0, 0, 4, 4), (0, 0, 7, 7), (0, 0, 9, 9), (0, 0, 10, 10)] ++ cfW Kx_486 ++ cfW Kx_728 ++ cfW Kx_729 ++ cfW Kx_730 ++ cfW Kx_731 ++ cfW Kx_732 ++ cfW Kx_733
def rnK (kc ks : Nat) : aK := (94, [some (2, 0, 0, 0, 0), none], [], [], [(0, -6, 60, 0, 0, [])], [], [], rnW, 9, kc, ks)
def rnC28 : aCu := (28, [some (2, 0, 0, 0, 0), some (0, 1, 60, 0, 0)], [], [], ([], 1), [])
def rnC64 : aCu := (64, [some (2, 0, 0, 0, 0), some (0, 1, 60, 0, 0)], [], [], ([], 0), [4, 5])
theorem rn_ck : chk (TTs, KTx, KIx, rnW, Pm, 94, 11, 9, 737) (rnK 42 3498) [rnC28] [] none 300 true 0 (spState [] [some (2, 0, 0, 0, 0), none] [] [] []) 42 3498 = true := by decide +kernel
theorem rn_cks : [rnC64].all (fun C => Nat.beq C.2.1.length (jmx 94) && chk (TTs, KTx, KIx, rnW, Pm, 94, 11, 9, 737) (rnK 0 0) [rnC64] [] (some C.2.2.2.2.1) 300 true C.1 (spState (kEnv (rnK 0 0)) C.2.1 C.2.2.1 C.2.2.2.1 C.2.2.2.2.2) 0 0) = true := by decide +kernel
theorem EIm_new {bk : aB} {h : jH} {X b : Nat} {c0 : jC} {H : List cC} (hT : HT TTs g bk h) (hD : BD TTs bk) (hE : EIm n bk h) (hb : bk 0 = some b) (hX : X ≠ 1) : EIm n (bkN bk X h.length) ((chp g h H).set (b + 0) c0) := by
  intro b1 f F K q1 q2 q3 q4
  rw [bkN_ne (Ne.symm hX)] at q1
  have same : ∀ (o : Nat) (c : jC), o < tyLen TTs 1 → h[b1 + o]? = some c → ((chp g h H).set (b + 0) c0)[b1 + o]? = some c := fun o c hlo hco => by
    have hlt : b1 + o < h.length := (List.getElem?_eq_some_iff.mp hco).1
    have hne : ¬ b + 0 = b1 + o := fun e => absurd (hD 0 1 b b1 0 o hb q1 (by decide +kernel) hlo e).1 (by decide)
    rw [List.getElem?_set_ne hne, chp, List.getElem?_append_left hlt]
    exact hco
  obtain ⟨f', w1, -⟩ := m_arr hT q1 ty_m1
  obtain ⟨F', w2, -⟩ := m_arr hT q1 ty_m2
  obtain ⟨K', w3, -⟩ := m_arr hT q1 ty_m3
  cases (same 1 _ (by decide +kernel) w1).symm.trans q2
  cases (same 2 _ (by decide +kernel) w2).symm.trans q3
  cases (same 3 _ (by decide +kernel) w3).symm.trans q4
  exact hE b1 f F K q1 w1 w2 w3
set_option maxRecDepth 16384 in
theorem rnC_ok (hlow : ∀ (k : Nat) (K : aK), KTx[k]? = some K → kOK TTs g (EIm n) l K) {bk : aB} {h : jH} {b : Nat} (hT : HT TTs g bk h) (hD : BD TTs bk) (hE : EIm n bk h) (hb1 : ∀ B, B ≤ 1 → ∃ b, bk B = some b) (hb : bk 0 = some b) :
    jCal l g 94 9 [jad g b 0] h 42 3498 (kPost TTs g (EIm n) (rnK 0 0) bk h []) := by
  have hcls : jcN 11 = (jyN 94).cls := by decide +kernel
  have hM : ∀ kc ks, mOK TTs g (EIm n) Pm KTx l (rnK kc ks).1 11 737 := fun _ _ => ⟨TTs_cl, TTs_sg, EIm_ok, hcls, fun k K hK _ => hlow k K hK⟩
  have cks := cuts_ok (l := l) (own := 11) (n := 737) (fuel := 300) (sp := []) (ev := []) (K := rnK 0 0) (bk0 := bk) (h0 := h) (hM 0 0) ⟨rfl, fun i e z he _ => by cases he⟩ rfl rn_cks
  have n11 : ∀ f, f < 12 → ∀ r, jcl[11]? = some r → f < r.2.2 := fun f hf r hr => by
    cases hr
    have : (12 : Nat) = nfX11 := by decide +kernel
    show f < nfX11
    omega
  have xl : xTs.length = 12 := by decide +kernel
  have s64 : ∀ (bk' : aB) (h' : jH) (x : Int32), 1 ≤ x.toInt → x.toInt ≤ 60 → hOK TTs g (EIm n) rnW bk h bk' h' → (∃ a, bk' 4 = some a) → (∃ a, bk' 5 = some a) → J l g 94 9 64 [some (jad g b 0), some (.int x)] [] h' 0 0 (kPost TTs g (EIm n) (rnK 0 0) bk h []) := by
    intro bk' h' x x1 x2 hO h4 h5
    refine cks rnC64 List.mem_cons_self 0 (by decide) [x.toInt] bk' _ h' ⟨⟨⟨rfl, fun i e z he hz => ?_⟩, eFm_plain (plain_app (plain_app (plain_app (spEnv_plain _) clEnv_plain) (spEnv_plain _)) clEnv_plain), fun F hF => absurd hF List.not_mem_nil, ?_, trivial, fun q hq => absurd hq List.not_mem_nil, ?_⟩, hO, (show (2 : Nat) = jmx 94 by decide +kernel), fun i z hz => by cases hz⟩ rfl
    · match i, he, hz with
      | 0, he, hz =>
        cases he
        cases hz
        exact ⟨x1, x2⟩
      | i + 1, he, _ => cases he
    · intro i w hw
      match i, hw with
      | 0, hw => cases hw; exact ⟨_, rfl, b, hO.2.2.2.2.1 0 b hb, rfl⟩
      | 1, hw => cases hw; exact ⟨_, rfl, x, rfl, rfl⟩
      | m + 2, hw => cases hw
    · intro B hB
      rcases List.mem_cons.mp hB with e | hB
      · rw [e]
        exact h4
      · rw [List.mem_singleton.mp hB]
        exact h5
  have s46 : ∀ (bk' : aB) (h' : jH) (x : Int32), 1 ≤ x.toInt → x.toInt ≤ 60 → hOK TTs g (EIm n) rnW bk h bk' h' → (∃ a, bk' 4 = some a) → J l g 94 9 46 [some (jad g b 0), some (.int x)] [] h' 21 1749 (kPost TTs g (EIm n) (rnK 0 0) bk h []) := by
    intro bk' h' x x1 x2 hO h4
    have hb' := hO.2.2.2.2.1 0 b hb
    obtain ⟨c, hc, fs, rfl, hfl, hfs⟩ := hO.1 0 b 0 _ hb' ty_x0
    obtain ⟨v, hv, hvt⟩ := hfs 10 (3, 0, 0, 5, 0) rfl
    refine j_aload_n (k4 := 0) (by decide +kernel) rfl ?_
    refine j_get (own := 11) (i := 183) (ci := 11) (f := 10) (by decide +kernel) hcls (by decide +kernel) hc (n11 10 (by decide)) hv ?_
    rcases hvt with ⟨a, hXa, rfl⟩ | ⟨hXn, rfl⟩
    · refine j_ifnonnull (off := 14) (tgt := 64) (by decide +kernel) (by decide) ?_
      exact (s64 bk' h' x x1 x2 hO h4 ⟨a, hXa⟩).room (by omega) (by omega)
    · have hXn : bk' 5 = none := hXn
      refine j_ifnonnullN (off := 14) (by decide +kernel) ?_
      refine j_aload_n (k4 := 0) (by decide +kernel) rfl ?_
      obtain ⟨L, H, hL, hcev, htyp⟩ := iniB_ok ini_5
      have hLl : L.length = 15 := by
        have e := hL
        cases e
        rfl
      have hcH : (chp g h' H)[b + 0]? = some (.inr (11, fs)) := by
        rw [chp, List.getElem?_append_left (List.getElem?_eq_some_iff.mp hc).1]
        exact hc
      refine J.room (kc := 1 + (20 + 0)) (ks := L.length + (1734 + 0)) ?_ (by omega) (by rw [hLl]; omega)
      refine new_run (i := 180) (j := 182) (y2 := 96) (own2 := 9) (fuel := 500) (d2 := 8) (by decide +kernel) (by decide +kernel) (by decide +kernel) hcls (by decide +kernel) hL (Or.inr (by decide +kernel)) (by decide) (by decide +kernel) (by decide +kernel) (by decide +kernel) (by decide +kernel) (by decide +kernel) (by decide +kernel) (by decide +kernel) (by decide +kernel) (by decide) (by show (1 + 0 : Nat) ≤ 7; decide) hcev ?_
      refine j_put (own := 11) (i := 183) (ci := 11) (f := 10) (ty := .object "TrainDescriber$Trial") (by decide +kernel) hcls (by decide +kernel) hcH rfl (by decide +kernel) (by rw [hfl, xl]; decide) (by decide +kernel) (by decide +kernel) rfl rfl ?_
      refine s64 (bkN bk' 5 h'.length) _ x x1 x2 ⟨HT_new (H := H) hO.1 hO.2.1 hXn (show TTs[5]? = some TT_5 from rfl) (by decide +kernel) htyp on_5 hb' hc ⟨_, _, ty_x0, rfl, rfl, rfl, rfl⟩, BD_new hO.1 hO.2.1 hXn, EIm_new hO.1 hO.2.1 hO.2.2.1 hb' (by decide), hO.2.2.2.1.tr hO.2.2.2.2.1 ((UN_new (H := H) hO.2.1 hb' (by decide +kernel) hc).mono (by decide +kernel)), fun B c hB => bkN_old hXn (hO.2.2.2.2.1 B c hB), fun B hB => ?_⟩ (by obtain ⟨a, ha⟩ := h4; exact ⟨a, bkN_old hXn ha⟩) ⟨_, bkN_self⟩
      obtain ⟨c, hc⟩ := hO.2.2.2.2.2 B hB
      exact ⟨c, bkN_old hXn hc⟩
  have s28 : ∀ (bk' : aB) (h' : jH) (x : Int32), 1 ≤ x.toInt → x.toInt ≤ 60 → hOK TTs g (EIm n) rnW bk h bk' h' → J l g 94 9 28 [some (jad g b 0), some (.int x)] [] h' 42 3498 (kPost TTs g (EIm n) (rnK 0 0) bk h []) := by
    intro bk' h' x x1 x2 hO
    have hb' := hO.2.2.2.2.1 0 b hb
    obtain ⟨c, hc, fs, rfl, hfl, hfs⟩ := hO.1 0 b 0 _ hb' ty_x0
    obtain ⟨v, hv, hvt⟩ := hfs 9 (3, 0, 0, 4, 0) rfl
    refine j_aload_n (k4 := 0) (by decide +kernel) rfl ?_
    refine j_get (own := 11) (i := 176) (ci := 11) (f := 9) (by decide +kernel) hcls (by decide +kernel) hc (n11 9 (by decide)) hv ?_
    rcases hvt with ⟨a, hXa, rfl⟩ | ⟨hXn, rfl⟩
    · refine j_ifnonnull (off := 14) (tgt := 46) (by decide +kernel) (by decide) ?_
      exact (s46 bk' h' x x1 x2 hO ⟨a, hXa⟩).room (by omega) (by omega)
    · have hXn : bk' 4 = none := hXn
      refine j_ifnonnullN (off := 14) (by decide +kernel) ?_
      refine j_aload_n (k4 := 0) (by decide +kernel) rfl ?_
      obtain ⟨L, H, hL, hcev, htyp⟩ := iniB_ok ini_4
      have hLl : L.length = 15 := by
        have e := hL
        cases e
        rfl
      have hcH : (chp g h' H)[b + 0]? = some (.inr (11, fs)) := by
        rw [chp, List.getElem?_append_left (List.getElem?_eq_some_iff.mp hc).1]
        exact hc
      refine J.room (kc := 1 + (20 + 21)) (ks := L.length + (1734 + 1749)) ?_ (by omega) (by rw [hLl]; omega)
      refine new_run (i := 180) (j := 182) (y2 := 96) (own2 := 9) (fuel := 500) (d2 := 8) (by decide +kernel) (by decide +kernel) (by decide +kernel) hcls (by decide +kernel) hL (Or.inr (by decide +kernel)) (by decide) (by decide +kernel) (by decide +kernel) (by decide +kernel) (by decide +kernel) (by decide +kernel) (by decide +kernel) (by decide +kernel) (by decide +kernel) (by decide) (by show (1 + 0 : Nat) ≤ 7; decide) hcev ?_
      refine j_put (own := 11) (i := 176) (ci := 11) (f := 9) (ty := .object "TrainDescriber$Trial") (by decide +kernel) hcls (by decide +kernel) hcH rfl (by decide +kernel) (by rw [hfl, xl]; decide) (by decide +kernel) (by decide +kernel) rfl rfl ?_
      refine s46 (bkN bk' 4 h'.length) _ x x1 x2 ⟨HT_new (H := H) hO.1 hO.2.1 hXn (show TTs[4]? = some TT_4 from rfl) (by decide +kernel) htyp on_4 hb' hc ⟨_, _, ty_x0, rfl, rfl, rfl, rfl⟩, BD_new hO.1 hO.2.1 hXn, EIm_new hO.1 hO.2.1 hO.2.2.1 hb' (by decide), hO.2.2.2.1.tr hO.2.2.2.2.1 ((UN_new (H := H) hO.2.1 hb' (by decide +kernel) hc).mono (by decide +kernel)), fun B c hB => bkN_old hXn (hO.2.2.2.2.1 B c hB), fun B hB => ?_⟩ ⟨_, bkN_self⟩
      obtain ⟨c, hc⟩ := hO.2.2.2.2.2 B hB
      exact ⟨c, bkN_old hXn hc⟩
  refine jCal_of (show plainName (jyN 94).cls = true by decide +kernel) (show 1 ≤ jmx 94 by decide +kernel) ?_
  show J l g 94 9 0 [some (jad g b 0), none] [] h 42 3498 _
  refine chk_ok (KI := KIx) (d := 9) (K := rnK 42 3498) (cs := [rnC28]) (sp := []) (m0 := none) (ev := []) (ev' := []) (bk0 := bk) (h0 := h) (hM 42 3498) ⟨rfl, fun i e z he _ => by cases he⟩ rfl (fun i z hz => hz) (fun C hC μ' u1 u2 vs bk2 al h2 hp hμ => ?_) 300 true 0 _ 42 3498 rn_ck [] bk _ [] h ⟨⟨⟨rfl, fun i e z he _ => by cases he⟩, eFm_plain (plain_app (plain_app (show plain [] from fun e he => by cases he) (spEnv_plain _)) clEnv_plain), fun F hF => absurd hF List.not_mem_nil, ?_, trivial, fun q hq => absurd hq List.not_mem_nil, fun B hB => absurd hB List.not_mem_nil⟩, ⟨hT, hD, hE, UN.rf, fun _ _ q => q, hb1⟩, (show (2 : Nat) = jmx 94 by decide +kernel), fun i z hz => hz⟩
  · rw [List.mem_singleton.mp hC] at hp ⊢
    have hlen : al.length = 2 := hp.2.2.1.trans (show jmx 94 = 2 by decide +kernel)
    obtain ⟨a0, a1, rfl⟩ : ∃ a0 a1, al = [a0, a1] := by
      match al, hlen with
      | [a0, a1], _ => exact ⟨a0, a1, rfl⟩
    obtain ⟨w0, e0, b0, hb0, rfl⟩ := hp.1.2.2.2.1 0 (2, 0, 0) rfl
    obtain ⟨w1, e1, x, rfl, hx⟩ := hp.1.2.2.2.1 1 (0, 0, 0) rfl
    have r0 := Option.some.inj e0
    have r1 := Option.some.inj e1
    clear e0 e1
    subst r0
    subst r1
    have hb0 : bk2 0 = some b0 := hb0
    cases (hp.2.1.2.2.2.2.1 0 b hb).symm.trans hb0
    obtain ⟨x1, x2⟩ := hp.1.1.2 0 (eNew 1 60 none) x.toInt rfl hx
    exact s28 bk2 h2 x x1 x2 hp.2.1
  · intro i w hw
    match i, hw with
    | 0, hw => cases hw; exact ⟨_, rfl, b, hb, rfl⟩
    | 1, hw => cases hw
    | m + 2, hw => cases hw
end RC
