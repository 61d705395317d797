/-! the reference's parser: readPlain, readTest -/
section PF
variable {l : Launch} {g : jG} {n : Int}
theorem be01 {be : Nat} (h : be ≤ 1) (hz : ¬ Int32.ofInt (be : Int) = 0) : be = 1 := by
  have : ¬ be = 0 := fun q => hz ((bad_t h).mpr q)
  omega
set_option maxRecDepth 16384 in
theorem plain_run (hlow : ∀ (k : Nat) (K : aK), KTx[k]? = some K → kOK TTs g (EIm n) l K) {W0 : List aR} {bk0 bk : aB} {h0 h : jH} (hO : hOK TTs g (EIm n) W0 bk0 h0 bk h) {b T F G s be q c m w : Nat} {N O A P : Nat → Int32} (hb : bk 1 = some b) (hS : pS h b T F G s be q c m w N O A P) (hL : pL T F G s) (hbe : be = 0) {s0 : Nat} {O0 A0 : Nat → Int32} (hcm : c + m ≤ F) (hw8 : w ≤ 8) (hR : RR s0 O0 A0 P w be 0 O A c m) :
    jCal l g 227 6 [.ref (g.2.2 + (b + 0))] h 0 0 (fun v h' => ∃ wh bk' F' G' s' be' c' m' w' O' A' P', v = some (iN wh) ∧ wh ≤ 1 ∧ hOK TTs g (EIm n) pW bk h bk' h' ∧ pS h' b T F' G' s' be' q c' m' w' N O' A' P' ∧ pL T F' G' s' ∧ F ≤ F' ∧ be' ≤ 1 ∧ (be' = 0 → F < F') ∧ c' + m' ≤ F' ∧ w' ≤ 8 ∧ RR s0 O0 A0 P' w' be' wh O' A' c' m') := by
  refine jCal_of (by decide +kernel) (show 1 ≤ jmx 227 by decide +kernel) ?_
  show J l g 227 6 0 [some (.ref (g.2.2 + (b + 0)))] [] h 0 0 _
  have hcls : jcN 12 = (jyN 227).cls := by decide +kernel
  have hL0 := hL
  obtain ⟨L1, L2, L3, L4, L5⟩ := hL0
  have r0 : ∀ (v : Int32), v = Int32.ofInt ((0 : Nat) : Int) → ∀ pc, (pc = 21 ∨ pc = 73) → jrv 227 pc (some (.int v)) := by
    intro v hv pc hpc
    rcases hpc with rfl | rfl
    · exact ⟨by decide +kernel, Or.inr (Or.inl ⟨by decide +kernel, Or.inl (by rw [hv]; decide)⟩)⟩
    · exact ⟨by decide +kernel, Or.inr (Or.inl ⟨by decide +kernel, Or.inl (by rw [hv]; decide)⟩)⟩
  obtain ⟨fs, ho, hf⟩ := hS.get
  obtain ⟨Qw, hcw, hQw⟩ := word_run hlow hO hb hS (by omega) 14836
  refine j_aload_n (k4 := 0) (by decide +kernel) rfl ?_
  refine j_ldc2 (own := 12) (i := 207) (v := 14836) hcls (by decide +kernel) (by decide +kernel) ?_
  refine j_callV (own := 12) (i := 190) (y2 := 223) (d2 := 1) (mc := 0) (ms := 0) (kc := 0) (ks := 0) (a := b + 0) (As := [.long 14836]) (st := []) (by decide +kernel) hcls (by decide +kernel) (by decide) (by decide +kernel) (by decide +kernel) (by decide +kernel) (by decide +kernel) (by decide +kernel) (show 1 = jnp 223 by decide +kernel) (by decide) (by decide) ho (fun r hr => by cases hr; decide +kernel) hcw (fun v h2 hq => ?_)
  obtain ⟨r, bk2, rfl, r1, a1, a2, a3⟩ := hQw v h2 hq
  have hb2 := a1.2.2.2.2.1 1 b hb
  have hO2 := a1.w1 (W' := pW) (by decide)
  obtain ⟨fs2, ho2, hf2⟩ := a2.get
  rcases r1 with rfl | rfl
  · refine j_if_eq (off := 15) (tgt := 22) (by decide +kernel) (by decide) (fun _ => ?_) (fun e => absurd rfl e)
    obtain ⟨Qs, hcs, hQs⟩ := sgn_run hlow a1 hb2 a2 (by omega) ((Int8.ofInt 40).toInt32)
    refine j_aload_n (k4 := 0) (by decide +kernel) rfl ?_
    refine j_bipush (n := 40) (by decide +kernel) ?_
    refine j_callV (own := 12) (i := 212) (y2 := 229) (d2 := 1) (mc := 0) (ms := 0) (kc := 0) (ks := 0) (a := b + 0) (As := [.int ((Int8.ofInt 40).toInt32)]) (st := []) (by decide +kernel) hcls (by decide +kernel) (by decide) (by decide +kernel) (by decide +kernel) (by decide +kernel) (by decide +kernel) (by decide +kernel) (show 1 = jnp 229 by decide +kernel) (by decide) (by decide) ho2 (fun r hr => by cases hr; decide +kernel) hcs (fun v h3 hq => ?_)
    obtain ⟨r, bk3, rfl, r1, d1, d2, d3⟩ := hQs v h3 hq
    have hb3 := d1.2.2.2.2.1 1 b hb2
    have hO3 := hO2.tr (W' := []) (by decide) d1
    obtain ⟨fs3, ho3, hf3⟩ := d2.get
    obtain ⟨g6, g7, g8, g9, g12, g13, g15, g20, g21⟩ := hf3
    rcases r1 with rfl | rfl
    · refine j_if_eq (off := 46) (tgt := 74) (by decide +kernel) (by decide) (fun _ => ?_) (fun e => absurd rfl e)
      refine j_aload_n (k4 := 0) (by decide +kernel) rfl ?_
      refine j_callV (own := 12) (i := 218) (y2 := 230) (d2 := 5) (mc := 0) (ms := 0) (kc := 0) (ks := 0) (a := b + 0) (As := []) (st := []) (by decide +kernel) hcls (by decide +kernel) (by decide) (by decide +kernel) (by decide +kernel) (by decide +kernel) (by decide +kernel) (by decide +kernel) (show 0 = jnp 230 by decide +kernel) (by decide) (by decide) ho3 (fun r hr => by cases hr; decide +kernel) (mleaf_run hlow d1 hb3 d2 hL hbe hcm hR) (fun v h4 hq => ?_)
      obtain ⟨rfl, bk4, F4, G4, s4, be4, c4, O4, A4, e1, e2, e3, e4, e5, e6, e7, e8⟩ := hq
      refine j_iconst (n := 1) (by decide +kernel) ?_
      exact j_ret (v := some (iN 1)) ⟨by decide +kernel, Or.inr (Or.inl ⟨by decide +kernel, Or.inr (by decide)⟩)⟩ ⟨1, bk4, F4, G4, s4, be4, c4, m, w, O4, A4, P, rfl, by decide, hO3.tr (by decide) e1, e2, e3, e4, e5, e6, e7, hw8, e8⟩ rfl
    · have hs1 := d3 rfl
      refine j_if_eq (off := 46) (tgt := 74) (by decide +kernel) (by decide) (fun e => absurd e (by decide)) (fun _ => ?_)
      have at46 : ∀ x : Int32, (x = 0 ∨ (x = 1 ∧ w < 8)) → J l g 227 6 46 [some (.ref (g.2.2 + (b + 0)))] [.int x, .ref (g.2.2 + (b + 0))] h3 0 0 (fun v h' => ∃ wh bk' F' G' s' be' c' m' w' O' A' P', v = some (iN wh) ∧ wh ≤ 1 ∧ hOK TTs g (EIm n) pW bk h bk' h' ∧ pS h' b T F' G' s' be' q c' m' w' N O' A' P' ∧ pL T F' G' s' ∧ F ≤ F' ∧ be' ≤ 1 ∧ (be' = 0 → F < F') ∧ c' + m' ≤ F' ∧ w' ≤ 8 ∧ RR s0 O0 A0 P' w' be' wh O' A' c' m') := by
        intro x hx
        obtain ⟨Qm, hcal, hQm⟩ := must_run hlow d1 hb3 d2 hL (by omega) (x := x) (by rcases hx with rfl | ⟨rfl, -⟩ <;> decide)
        refine j_callV (own := 12) (i := 171) (y2 := 224) (d2 := 3) (mc := 0) (ms := 0) (kc := 0) (ks := 0) (a := b + 0) (As := [.int x]) (st := []) (by decide +kernel) hcls (by decide +kernel) (by decide) (by decide +kernel) (by decide +kernel) (by decide +kernel) (by decide +kernel) (by decide +kernel) (show 1 = jnp 224 by decide +kernel) (by decide) (by decide) ho3 (fun r hr => by cases hr; decide +kernel) hcal (fun v h4 hq => ?_)
        obtain ⟨rfl, bk4, F4, G4, s4, be4, e1, e2, e3, e4, e5, e6, e7⟩ := hQm v h4 hq
        have hb4 := e1.2.2.2.2.1 1 b hb3
        have hO4 := hO3.tr (W' := muW) (by decide) e1
        obtain ⟨fs4, ho4, hf4⟩ := e2.get
        obtain ⟨k6, k7, k8, k9, k12, k13, k15, k20, k21⟩ := hf4
        refine j_aload_n (k4 := 0) (by decide +kernel) rfl ?_
        refine j_get (own := 12) (i := 135) (ci := 12) (f := 12) (by decide +kernel) hcls (by decide +kernel) ho4 (n12 12 (by decide)) k12 ?_
        refine j_if_ne (off := 19) (tgt := 72) (by decide +kernel) (by decide) (fun z => ?_) (fun z => ?_)
        · have e : be4 = 1 := be01 e6 z
          refine j_iconst (n := 0) (by decide +kernel) ?_
          exact j_ret (v := some (iN 0)) (r0 _ rfl 73 (Or.inr rfl)) ⟨0, bk4, F4, G4, s4, be4, c, m, w, O, A, P, rfl, by decide, hO4, e2, e3, e4, e6, fun q => by omega, by omega, hw8, hR.bad e⟩ rfl
        · have e : be4 = 0 := (bad_t e6).mp (Classical.not_not.mp z)
          subst e
          obtain ⟨x1, x2⟩ := e7 rfl
          have hw : w < 8 := by
            rcases hx with rfl | ⟨rfl, q⟩
            · exact absurd x1 (by decide)
            · exact q
          have hwt : (Int32.ofInt ((w + 1 : Nat) : Int)).toInt = ((w + 1 : Nat) : Int) := i32_n (by omega)
          refine j_aload_n (k4 := 0) (by decide +kernel) rfl ?_
          refine j_dup (by decide +kernel) rfl ?_
          refine j_get (own := 12) (i := 215) (ci := 12) (f := 21) (by decide +kernel) hcls (by decide +kernel) ho4 (n12 21 (by decide)) k21 ?_
          refine j_iconst (n := 1) (by decide +kernel) ?_
          refine j_iadd (by decide +kernel) ?_
          rw [iN_add (by omega)]
          refine j_put (own := 12) (i := 215) (ci := 12) (f := 21) (by decide +kernel) hcls (by decide +kernel) ho4 rfl (by decide +kernel) (by rw [mf_len hO4.1 hb4 ho4]; decide) (by decide +kernel) (ty := .int) (by decide +kernel) rfl rfl ?_
          have hO5 := hO4.sf (k := 21) (v := Int32.ofInt ((w + 1 : Nat) : Int)) hb4 ty_m0 ho4 (show mTs[21]? = some (0, 0, 8, 0, 0) from rfl) (by omega) (by omega) (by decide) (by decide)
          have hS5 := e2.setF (pF.set21 (x := w + 1) ⟨k6, k7, k8, k9, k12, k13, k15, k20, k21⟩)
          have ho5 := List.getElem?_set_self (l := h4) (i := b + 0) (a := .inr (12, fs4.set 21 (iN (w + 1)))) (List.getElem?_eq_some_iff.mp ho4).1
          have hO5 : hOK TTs g (EIm n) pW bk h bk4 (h4.set (b + 0) (.inr (12, fs4.set 21 (iN (w + 1))))) := hO5
          show J l g 227 6 66 [some (.ref (g.2.2 + (b + 0)))] [] (h4.set (b + 0) (.inr (12, fs4.set 21 (iN (w + 1))))) 0 0 _
          generalize h4.set (b + 0) (.inr (12, fs4.set 21 (iN (w + 1)))) = h5 at hO5 hS5 ho5
          refine j_aload_n (k4 := 0) (by decide +kernel) rfl ?_
          refine j_bipush (n := 13) (by decide +kernel) ?_
          refine j_callV (own := 12) (i := 209) (y2 := 228) (d2 := 0) (mc := 0) (ms := 0) (kc := 0) (ks := 0) (a := b + 0) (As := [.int ((Int8.ofInt 13).toInt32)]) (st := []) (by decide +kernel) hcls (by decide +kernel) (by decide) (by decide +kernel) (by decide +kernel) (by decide +kernel) (by decide +kernel) (by decide +kernel) (show 1 = jnp 228 by decide +kernel) (by decide) (by decide) ho5 (fun r hr => by cases hr; decide +kernel) (push_run hO5 hb4 hS5 (by have := e3.1; have := e3.2.1; omega) (by decide)) (fun v h6 hq => ?_)
          obtain ⟨rfl, bk6, k1, k2⟩ := hq
          refine j_iconst (n := 0) (by decide +kernel) ?_
          have hR6 := RR.push (op := (Int8.ofInt 13).toInt32) (be := be) hR (Or.inr (by decide))
          rw [if_pos (by decide)] at hR6
          subst hbe
          exact j_ret (v := some (iN 0)) (r0 _ rfl 73 (Or.inr rfl)) ⟨0, bk6, F4, G4, s4, 0, c, m + 1, w + 1, O, A, _, rfl, by decide, hO5.tr (by decide) k1, k2, e3, e4, by decide, fun _ => by omega, by omega, by omega, hR6⟩ rfl
      refine j_aload_n (k4 := 0) (by decide +kernel) rfl ?_
      refine j_aload_n (k4 := 0) (by decide +kernel) rfl ?_
      refine j_get (own := 12) (i := 215) (ci := 12) (f := 21) (by decide +kernel) hcls (by decide +kernel) ho3 (n12 21 (by decide)) g21 ?_
      refine j_bipush (n := 8) (by decide +kernel) ?_
      have hwt : (Int32.ofInt (w : Int)).toInt = (w : Int) := i32_n (by omega)
      refine j_icmp_ge (off := 7) (tgt := 45) (by decide +kernel) (by decide) (fun _ => ?_) (fun z => ?_)
      · refine j_iconst (n := 0) (by decide +kernel) ?_
        exact at46 0 (Or.inl rfl)
      · refine j_iconst (n := 1) (by decide +kernel) ?_
        refine j_goto (off := 4) (tgt := 46) (by decide +kernel) (by decide) ?_
        refine at46 1 (Or.inr ⟨rfl, ?_⟩)
        have z2 : ¬ ((Int8.ofInt 8).toInt32).toInt ≤ (Int32.ofInt (w : Int)).toInt := fun q => z (le32.mpr q)
        rw [hwt, show ((Int8.ofInt 8).toInt32).toInt = 8 by decide] at z2
        omega
  · have hs1 := a3 rfl
    refine j_if_eq (off := 15) (tgt := 22) (by decide +kernel) (by decide) (fun e => absurd e (by decide)) (fun _ => ?_)
    refine j_aload_n (k4 := 0) (by decide +kernel) rfl ?_
    refine j_bipush (n := 10) (by decide +kernel) ?_
    refine j_callV (own := 12) (i := 209) (y2 := 228) (d2 := 0) (mc := 0) (ms := 0) (kc := 0) (ks := 0) (a := b + 0) (As := [.int ((Int8.ofInt 10).toInt32)]) (st := []) (by decide +kernel) hcls (by decide +kernel) (by decide) (by decide +kernel) (by decide +kernel) (by decide +kernel) (by decide +kernel) (by decide +kernel) (show 1 = jnp 228 by decide +kernel) (by decide) (by decide) ho2 (fun r hr => by cases hr; decide +kernel) (push_run a1 hb2 a2 (by omega) (by decide)) (fun v h3 hq => ?_)
    obtain ⟨rfl, bk3, k1, k2⟩ := hq
    have hb3 := k1.2.2.2.2.1 1 b hb2
    have hO3 := hO2.tr (W' := pW) (by decide) k1
    obtain ⟨fs3, ho3, hf3⟩ := k2.get
    obtain ⟨Qn, hcn, hQn⟩ := next_run hlow k1 hb3 k2 hL
    refine j_aload_n (k4 := 0) (by decide +kernel) rfl ?_
    refine j_callV (own := 12) (i := 139) (y2 := 219) (d2 := 2) (mc := 0) (ms := 0) (kc := 0) (ks := 0) (a := b + 0) (As := []) (st := []) (by decide +kernel) hcls (by decide +kernel) (by decide) (by decide +kernel) (by decide +kernel) (by decide +kernel) (by decide +kernel) (by decide +kernel) (show 0 = jnp 219 by decide +kernel) (by decide) (by decide) ho3 (fun r hr => by cases hr; decide +kernel) hcn (fun v h4 hq => ?_)
    obtain ⟨rfl, bk4, F4, G4, s4, e1, e2, e3, e4⟩ := hQn v h4 hq
    have hR6 := RR.push (op := (Int8.ofInt 10).toInt32) (be := be) hR (Or.inl (by decide))
    rw [if_neg (by decide), Nat.add_zero] at hR6
    refine j_iconst (n := 0) (by decide +kernel) ?_
    exact j_ret (v := some (iN 0)) (r0 _ rfl 21 (Or.inl rfl)) ⟨0, bk4, F4, G4, s4, be, c, m + 1, w, O, A, _, rfl, by decide, hO3.tr (by decide) e1, e2, e3, by omega, by omega, fun _ => by omega, by omega, hw8, hR6⟩ rfl
end PF
