/-! solvedMender keeps its contract -/
section SD
variable {l : Launch} {g : jG} {n : Int}
theorem smd_ok (hlow : ∀ (k : Nat) (K : aK), KTx[k]? = some K → k < smdN → kOK TTs g (EIm n) l K) : kOK TTs g (EIm n) l (smK 7 20000) := by
  intro bk h av ev hT hD hE hb1 hl hn _ hg
  have hev : ev = [] := List.length_eq_zero_iff.mp hn
  subst hev
  have hcls : jcN 11 = (jyN 135).cls := by decide +kernel
  have hM : mOK TTs g (EIm n) Pm KTx l (smK 0 0).1 11 smdN := ⟨TTs_cl, TTs_sg, EIm_ok, hcls, hlow⟩
  have cks := cuts_ok (l := l) (own := 11) (n := smdN) (fuel := 200) (sp := []) (ev := []) (K := smK 0 0) (bk0 := bk) (h0 := h) hM ⟨rfl, fun i e z he _ => by cases he⟩ rfl sm_cks
  have hlen : (jal 135 av).length = 1 := (jal_len hl).trans (show jmx 135 = 1 by decide +kernel)
  obtain ⟨a0, hal⟩ := List.length_eq_one_iff.mp hlen
  have l0 := hg.2.2.2.1 0 (2, 0, 0) rfl
  have hal2 : jal (smK 7 20000).1 av = [a0] := hal
  rw [hal2] at l0
  obtain ⟨w0, e0, b, hb, rfl⟩ := l0
  have r0 := Option.some.inj e0
  clear e0
  subst r0
  have hb : bk 0 = some b := hb
  have go : ∀ (C : aCu) (μ : Int) (bk' : aB) (h' : jH) (b6 : Nat), C ∈ [smC18, smC49] → C.2 = ([some (2, 0, 0, 0, 0)], [], [], ([], μ), [6]) → 0 ≤ μ → hOK TTs g (EIm n) smW bk h bk' h' → bk' 6 = some b6 → J l g 135 9 C.1 [some (.ref (g.2.2 + (b + 0)))] [] h' 0 0 (kPost TTs g (EIm n) (smK 0 0) bk h []) := by
    intro C μ bk' h' b6 hC e hμ hO h6
    obtain ⟨pc, rest⟩ := C
    have e : rest = ([some (2, 0, 0, 0, 0)], [], [], ([], μ), [6]) := e
    subst e
    refine cks _ hC μ hμ [] bk' _ h' ⟨⟨⟨rfl, fun i e z he _ => by cases he⟩, eFm_plain (plain_app (plain_app (plain_app (spEnv_plain _) clEnv_plain) (spEnv_plain _)) clEnv_plain), fun F hF => absurd hF List.not_mem_nil, ?_, trivial, fun q hq => absurd hq List.not_mem_nil, ?_⟩, hO, (show (1 : Nat) = jmx 135 by decide +kernel), fun i z hz => hz⟩ (by show some ((0 : Int) + μ) = _; congr 1; omega)
    · intro i v hv
      match i, hv with
      | 0, hv => cases hv; exact ⟨_, rfl, b, hO.2.2.2.2.1 0 b hb, rfl⟩
      | n + 1, hv => cases hv
    · intro B hB
      have := List.mem_singleton.mp hB
      subst this
      exact ⟨b6, h6⟩
  obtain ⟨c, hc, fs, rfl, hfl, hfs⟩ := hT 0 b 0 _ hb ty_x0
  obtain ⟨v, hv, hvt⟩ := hfs 11 (3, 0, 0, 6, 0) rfl
  obtain ⟨vn, hvn, bn, hbn, rfl⟩ := hfs 0 (2, 0, 0, 0, 1) rfl
  have hbn : bk 0 = some bn := hbn
  cases hb.symm.trans hbn
  obtain ⟨cs, hcs, ss, rfl, hsl, hss⟩ := hT 0 b 1 _ hb ty_x1
  obtain ⟨v17, hv17, b17, hb17, rfl⟩ := hss 17 (2, 0, 0, 0, 34) rfl
  obtain ⟨v18, hv18, b18, hb18, rfl⟩ := hss 18 (2, 0, 0, 0, 37) rfl
  have hb17 : bk 0 = some b17 := hb17
  have hb18 : bk 0 = some b18 := hb18
  cases hb.symm.trans hb17
  cases hb.symm.trans hb18
  have n11 : ∀ f, f < 12 → ∀ r, jcl[11]? = some r → f < r.2.2 := fun f hf r hr => by
    cases hr
    have : (12 : Nat) = nfX11 := by decide +kernel
    show f < nfX11
    omega
  refine jCal_of (show plainName (jyN 135).cls = true by decide +kernel) hl ?_
  rw [hal2]
  show J l g 135 9 0 [some (.ref (g.2.2 + (b + 0)))] [] h 7 20000 (kPost TTs g (EIm n) (smK 0 0) bk h [])
  refine j_aload_n (k4 := 0) (by decide +kernel) rfl ?_
  refine j_get (own := 11) (i := 377) (ci := 11) (f := 11) (by decide +kernel) hcls (by decide +kernel) hc (n11 11 (by decide)) hv ?_
  rcases hvt with ⟨b6, h6, rfl⟩ | ⟨h6, rfl⟩
  · refine j_ifnonnull (off := 14) (tgt := 18) (by decide +kernel) (by decide) ?_
    exact (go smC18 1 bk h b6 List.mem_cons_self rfl (by decide) ⟨hT, hD, hE, UN.rf, fun _ _ q => q, hb1⟩ h6).room (by omega) (by omega)
  · refine j_ifnonnullN (off := 14) (by decide +kernel) ?_
    obtain ⟨L, H, hL, hcev, htyp⟩ := iniB_ok ini_6
    have hLl : L.length = 12 := by
      have e := hL
      cases e
      rfl
    have hs := ini_6s
    rw [hL] at hs
    dsimp only at hs
    rw [hcev] at hs
    dsimp only at hs
    split at hs
    · rename_i o hH0
      simp only [Bool.and_eq_true, decide_eq_true_eq] at hs
      obtain ⟨⟨s1, s2⟩, s3⟩ := hs
      have hm0 := chp_get (g := g) (h0 := h) hH0
      rw [show ccel g h.length (.inr o) = .inr (o.1, o.2.map (cval g h.length)) from rfl, s1] at hm0
      have hfm0 : (o.2.map (cval g h.length))[0]? = some (.int 0) := by rw [List.getElem?_map, s3]; rfl
      have hfml : (o.2.map (cval g h.length)).length = 12 := by rw [List.length_map]; exact s2
      generalize o.2.map (cval g h.length) = fm at hm0 hfm0 hfml
      have hfl12 : fs.length = 12 := by rw [hfl]; decide +kernel
      have hlt0 : b + 0 < h.length := (List.getElem?_eq_some_iff.mp hc).1
      have hlt1 : b + 1 < h.length := (List.getElem?_eq_some_iff.mp hcs).1
      have hcH : (chp g h H)[b + 0]? = some (.inr (11, fs)) := by rw [chp, List.getElem?_append_left hlt0]; exact hc
      have hsH : (chp g h H)[b + 1]? = some (.inr (7, ss)) := by rw [chp, List.getElem?_append_left hlt1]; exact hcs
      have hml : h.length + 0 < (chp g h H).length := (List.getElem?_eq_some_iff.mp hm0).1
      refine j_aload_n (k4 := 0) (by decide +kernel) rfl ?_
      refine J.room (kc := 1 + (6 + 0)) (ks := L.length + (15043 + 0)) ?_ (by omega) (by rw [hLl]; omega)
      refine new_run (i := 269) (j := 385) (y2 := 136) (own2 := 2) (fuel := 500) (d2 := 8) (by decide +kernel) (by decide +kernel) (by decide +kernel) hcls (by decide +kernel) hL (Or.inr (by decide +kernel)) (by decide) (by decide +kernel) (by decide +kernel) (by decide +kernel) (by decide +kernel) (by decide +kernel) (by decide +kernel) (by decide +kernel) (by decide +kernel) (by decide) (by show (1 + 0 : Nat) ≤ 7; decide) hcev ?_
      refine j_put (own := 11) (i := 377) (ci := 11) (f := 11) (ty := .object "TrainDescriber$Mender") (by decide +kernel) hcls (by decide +kernel) hcH rfl (by decide +kernel) (by omega) (by decide +kernel) (by decide +kernel) rfl rfl ?_
      have o1 : ((chp g h H).set (b + 0) (.inr (11, fs.set 11 (.ref (g.2.2 + h.length)))))[b + 0]? = some (.inr (11, fs.set 11 (.ref (g.2.2 + h.length)))) := List.getElem?_set_self (by omega)
      have m1 : ((chp g h H).set (b + 0) (.inr (11, fs.set 11 (.ref (g.2.2 + h.length)))))[h.length]? = some (.inr (2, fm)) := by rw [List.getElem?_set_ne (by omega)]; exact hm0
      have t1 : ((chp g h H).set (b + 0) (.inr (11, fs.set 11 (.ref (g.2.2 + h.length)))))[b + 1]? = some (.inr (7, ss)) := by rw [List.getElem?_set_ne (by omega)]; exact hsH
      have f11 : (fs.set 11 (.ref (g.2.2 + h.length)))[11]? = some (.ref (g.2.2 + h.length)) := List.getElem?_set_self (by omega)
      have f0 : (fs.set 11 (.ref (g.2.2 + h.length)))[0]? = some (.ref (g.2.2 + (b + 1))) := by rw [List.getElem?_set_ne (by decide)]; exact hvn
      have n2 : ∀ r, jcl[2]? = some r → 0 < r.2.2 := fun r hr => by cases hr; decide +kernel
      have n7 : ∀ f, f < 19 → ∀ r, jcl[7]? = some r → f < r.2.2 := fun f hf r hr => by
        cases hr
        have : (19 : Nat) < nfX7 + 1 := by decide +kernel
        show f < nfX7
        omega
      refine j_aload_n (k4 := 0) (by decide +kernel) rfl ?_
      refine j_get (own := 11) (i := 377) (ci := 11) (f := 11) (by decide +kernel) hcls (by decide +kernel) o1 (n11 11 (by decide)) f11 ?_
      refine j_get (own := 11) (i := 381) (ci := 2) (f := 0) (by decide +kernel) hcls (by decide +kernel) m1 n2 hfm0 ?_
      refine j_if_ne (off := 24) (tgt := 49) (by decide +kernel) (by decide) (fun e => absurd rfl e) (fun _ => ?_)
      refine j_aload_n (k4 := 0) (by decide +kernel) rfl ?_
      refine j_get (own := 11) (i := 377) (ci := 11) (f := 11) (by decide +kernel) hcls (by decide +kernel) o1 (n11 11 (by decide)) f11 ?_
      refine j_aload_n (k4 := 0) (by decide +kernel) rfl ?_
      refine j_get (own := 11) (i := 10) (ci := 11) (f := 0) (by decide +kernel) hcls (by decide +kernel) o1 (n11 0 (by decide)) f0 ?_
      refine j_get (own := 11) (i := 239) (ci := 7) (f := 18) (by decide +kernel) hcls (by decide +kernel) t1 (n7 18 (by decide)) hv18 ?_
      refine j_aload_n (k4 := 0) (by decide +kernel) rfl ?_
      refine j_get (own := 11) (i := 10) (ci := 11) (f := 0) (by decide +kernel) hcls (by decide +kernel) o1 (n11 0 (by decide)) f0 ?_
      refine j_get (own := 11) (i := 228) (ci := 7) (f := 17) (by decide +kernel) hcls (by decide +kernel) t1 (n7 17 (by decide)) hv17 ?_
      have hT2 := HT_mend (H := H) hT hD h6 hb hc htyp hm0
      have hE2 : EIm n (bkN bk 6 h.length) (((chp g h H).set (b + 0) (.inr (11, fs.set 11 (jad g h.length 0)))).set (h.length + 0) (.inr (2, fm.set 11 (jad g b 37)))) := by
        intro b1 f F K q1 q2 q3 q4
        rw [bkN_ne (by decide)] at q1
        have same : ∀ (o : Nat) (c : jC), o < tyLen TTs 1 → h[b1 + o]? = some c → (((chp g h H).set (b + 0) (.inr (11, fs.set 11 (jad g h.length 0)))).set (h.length + 0) (.inr (2, fm.set 11 (jad g b 37))))[b1 + o]? = some c := fun o c hlo hco => by
          have hlt : b1 + o < h.length := (List.getElem?_eq_some_iff.mp hco).1
          have hne : ¬ b + 0 = b1 + o := fun e => absurd (hD 0 1 b b1 0 o hb q1 (by decide +kernel) hlo e).1 (by decide)
          rw [List.getElem?_set_ne (by omega), List.getElem?_set_ne hne, chp, List.getElem?_append_left hlt]
          exact hco
        obtain ⟨f', w1, -⟩ := m_arr hT q1 ty_m1
        obtain ⟨F', w2, -⟩ := m_arr hT q1 ty_m2
        obtain ⟨K', w3, -⟩ := m_arr hT q1 ty_m3
        cases (same 1 _ (by decide +kernel) w1).symm.trans q2
        cases (same 2 _ (by decide +kernel) w2).symm.trans q3
        cases (same 3 _ (by decide +kernel) w3).symm.trans q4
        exact hE b1 f F K q1 w1 w2 w3
      have hb1' : ∀ B, B ≤ 1 → ∃ c, bkN bk 6 h.length B = some c := fun B hB => by
        obtain ⟨c, hc⟩ := hb1 B hB
        exact ⟨c, bkN_old h6 hc⟩
      show J l g 135 9 46 _ (([jad g b 37, jad g b 34] : List Value).reverse ++ .ref (g.2.2 + h.length) :: []) _ (0 + 0) (0 + 0) _
      refine j_callV (own := 11) (i := 386) (y2 := 137) (d2 := 6) (by decide +kernel) hcls (by decide +kernel) (by decide) (by decide +kernel) (by decide +kernel) (by decide +kernel) (by decide +kernel) (by decide +kernel) (show 2 = jnp 137 by decide +kernel) (by decide) (by decide) m1 (fun r hr => by cases hr; decide +kernel) (solve_run (fun k K hK hk => hlow k K hK (Nat.lt_trans hk (by decide))) (bkN_old h6 hb) bkN_self m1 hfml hT2 (BD_new hT hD h6) hE2 hb1') (fun v h' hq => ?_)
      obtain ⟨bk', os, hO, -, q, hq1, hq2⟩ := hq
      have hq3 := List.mem_singleton.mp hq1
      subst hq3
      have hv0 : v = none := hq2.1
      subst hv0
      have U0 : UN TTs smW bk h ((chp g h H).set (b + 0) (.inr (11, fs.set 11 (jad g h.length 0)))) := (UN_new (H := H) hD hb (by decide +kernel) hc).mono (by decide +kernel)
      have U1 : UN TTs smW bk ((chp g h H).set (b + 0) (.inr (11, fs.set 11 (jad g h.length 0)))) (((chp g h H).set (b + 0) (.inr (11, fs.set 11 (jad g h.length 0)))).set (h.length + 0) (.inr (2, fm.set 11 (jad g b 37)))) := by
        refine ⟨by simp only [List.length_set]; exact Nat.le_refl _, fun B c0 o c hB ho hc => ⟨c, ?_, offW.rf⟩⟩
        have hlt : c0 + o < h.length := by
          rw [tyLen] at ho
          cases hbt : TTs[B]? with
          | none => rw [hbt] at ho; exact absurd ho (Nat.not_lt_zero _)
          | some Lb =>
            rw [hbt] at ho
            have ht : tyAt TTs B o = some Lb[o] := by rw [tyAt, hbt]; exact List.getElem?_eq_getElem ho
            obtain ⟨c', k1, -⟩ := hT B c0 o _ hB ht
            exact (List.getElem?_eq_some_iff.mp k1).1
        rw [List.getElem?_set_ne (by omega)]
        exact hc
      have U2 : UN TTs smW bk (((chp g h H).set (b + 0) (.inr (11, fs.set 11 (jad g h.length 0)))).set (h.length + 0) (.inr (2, fm.set 11 (jad g b 37)))) h' := by
        have := hO.2.2.2.1
        have h3 := this.mono (W' := smW) (by decide +kernel)
        exact ⟨h3.1, fun B b o c hB => h3.2 B b o c (bkN_old h6 hB)⟩
      exact go smC49 0 bk' h' h.length (List.mem_cons_of_mem _ List.mem_cons_self) rfl (by decide) ⟨hO.1, hO.2.1, hO.2.2.1, (U0.tr (fun _ _ q => q) U1).tr (fun _ _ q => q) U2, fun B c hB => hO.2.2.2.2.1 B c (bkN_old h6 hB), hO.2.2.2.2.2⟩ (hO.2.2.2.2.1 6 _ bkN_self)
    · cases hs
end SD
