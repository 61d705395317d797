/-! rules of the reference keeps its contract: the reading -/
section PK
variable {l : Launch} {g : jG} {n : Int}
set_option maxRecDepth 16384 in
set_option maxHeartbeats 4000000 in
theorem mrules_ok (hlow : ∀ (k : Nat) (K : aK), KTx[k]? = some K → kOK TTs g (EIm n) l K) {bk : aB} {h : jH} {b : Nat} (hT : HT TTs g bk h) (hD : BD TTs bk) (hE : EIm n bk h) (hb1 : ∀ B, B ≤ 1 → ∃ b, bk B = some b) (hb : bk 1 = some b) :
    jCal l g 217 9 [.ref (g.2.2 + (b + 0))] h 0 0 (kPost TTs g (EIm n) mlK bk h []) := by
  refine jCal_of (by decide +kernel) (show 1 ≤ jmx 217 by decide +kernel) ?_
  show J l g 217 9 0 [some (.ref (g.2.2 + (b + 0))), none, none] [] h 0 0 _
  have hcls : jcN 12 = (jyN 217).cls := by decide +kernel
  have hOa : hOK TTs g (EIm n) mlW bk h bk h := hOK.rf hT hD hE hb1
  obtain ⟨c0, hc0, fs0, rfl, -, -⟩ := hT 1 b 0 _ hb ty_m0
  have hc0 : h[b + 0]? = some (.inr (12, fs0)) := hc0
  -- thrown
  refine j_aload_n (k4 := 0) (dQ (by decide +kernel)) rfl ?_
  refine j_iconst (n := 0) (dQ (by decide +kernel)) ?_
  refine j_put (own := 12) (i := 94) (ci := 12) (f := 0) (dQ (by decide +kernel)) hcls (by decide +kernel) hc0 rfl (by decide +kernel) (by rw [mf_len hT hb hc0]; decide) (by decide +kernel) (ty := .int) (by decide +kernel) rfl rfl ?_
  have hO0 := hOa.sf (k := 0) (v := Int32.ofInt 0) hb ty_m0 hc0 (show mTs[0]? = some (0, -2147483648, 2147483647, 0, 0) from rfl) (by decide) (by decide) (by decide) (by decide)
  have hO0 : hOK TTs g (EIm n) mlW bk h bk (h.set (b + 0) (.inr (12, fs0.set 0 (.int (Int32.ofInt 0))))) := hO0
  show J l g 217 9 5 [some (.ref (g.2.2 + (b + 0))), none, none] [] (h.set (b + 0) (.inr (12, fs0.set 0 (.int (Int32.ofInt 0))))) 0 0 _
  generalize h.set (b + 0) (.inr (12, fs0.set 0 (.int (Int32.ofInt 0)))) = hA at hO0
  obtain ⟨T, Fa, Ga, sa, bea, qa, ca, ma, wa, Na, Oa, Aa, Pa, hSa, hT4⟩ := pS.of hO0 hb
  -- the end of the reading
  have at74 : ∀ (bk1 : aB) (h1 : jH) (F1 G1 s1 be1 q1 c1 m1 w1 : Nat) (N1 O1 A1 P1 : Nat → Int32), hOK TTs g (EIm n) mlW bk h bk1 h1 → pS h1 b T F1 G1 s1 be1 q1 c1 m1 w1 N1 O1 A1 P1 → pL T F1 G1 s1 → be1 ≤ 1 → c1 ≤ F1 → q1 ≤ 16 → (be1 = 0 → clOK N1 O1 A1 q1 c1) → J l g 217 9 74 [some (.ref (g.2.2 + (b + 0))), none, none] [] h1 0 0 (kPost TTs g (EIm n) mlK bk h []) := by
    intro bk1 h1 F1 G1 s1 be1 q1 c1 m1 w1 N1 O1 A1 P1 hO1 hS1 hL1 hb1e hcF hq16 hcl
    have hbx := hO1.2.2.2.2.1 1 b hb
    obtain ⟨fs1, ho1, g6, g7, g8, g9, g12, g13, g15, g20, g21⟩ := hS1.get
    refine j_aload_n (k4 := 0) (dQ (by decide +kernel)) rfl ?_
    refine j_iconst (n := 0) (dQ (by decide +kernel)) ?_
    refine j_put (own := 12) (i := 125) (ci := 12) (f := 6) (dQ (by decide +kernel)) hcls (by decide +kernel) ho1 rfl (by decide +kernel) (by rw [mf_len hO1.1 hbx ho1]; decide) (by decide +kernel) (ty := .int) (by decide +kernel) rfl rfl ?_
    have hO2 := hO1.sf (k := 6) (v := Int32.ofInt ((0 : Nat) : Int)) hbx ty_m0 ho1 (show mTs[6]? = some (0, 0, 400, 0, 0) from rfl) (by decide) (by decide) (by decide) (by decide)
    have hS2 := hS1.setF (pF.set6 (x := 0) ⟨g6, g7, g8, g9, g12, g13, g15, g20, g21⟩)
    have hO2 : hOK TTs g (EIm n) mlW bk h bk1 (h1.set (b + 0) (.inr (12, fs1.set 6 (iN 0)))) := hO2
    show J l g 217 9 79 [some (.ref (g.2.2 + (b + 0))), none, none] [] (h1.set (b + 0) (.inr (12, fs1.set 6 (iN 0)))) 0 0 _
    generalize h1.set (b + 0) (.inr (12, fs1.set 6 (iN 0))) = h2 at hO2 hS2
    obtain ⟨fs2, ho2, i6, i7, i8, i9, i12, i13, i15, i20, i21⟩ := hS2.get
    have hLt := hL1.1
    have hLt2 := hL1.2.1
    have hLt3 := hL1.2.2.1
    refine j_aload_n (k4 := 0) (dQ (by decide +kernel)) rfl ?_
    refine j_get (own := 12) (i := 135) (ci := 12) (f := 12) (dQ (by decide +kernel)) hcls (by decide +kernel) ho2 (n12 12 (by decide)) i12 ?_
    refine j_if_eq (off := 10) (tgt := 93) (dQ (by decide +kernel)) (by decide) (fun z => ?_) (fun _ => ?_)
    · have e : be1 = 0 := (bad_t hb1e).mp z
      subst e
      exact ml_93 hlow hb hO2 hS2 hq16 (by omega) (hcl rfl)
    · refine j_aload_n (k4 := 0) (dQ (by decide +kernel)) rfl ?_
      refine j_bipush (n := -6) (dQ (by decide +kernel)) ?_
      exact ml_tell hlow hb hO2 (Or.inl rfl) (by decide) (by decide)
  have at55 : ∀ (bk1 : aB) (h1 : jH) (F1 G1 s1 be1 q1 c1 m1 w1 : Nat) (N1 O1 A1 P1 : Nat → Int32), hOK TTs g (EIm n) mlW bk h bk1 h1 → pS h1 b T F1 G1 s1 be1 q1 c1 m1 w1 N1 O1 A1 P1 → pL T F1 G1 s1 → be1 ≤ 1 → c1 ≤ F1 → q1 ≤ 16 → (be1 = 0 → clOK N1 O1 A1 q1 c1) → J l g 217 9 55 [some (.ref (g.2.2 + (b + 0))), none, none] [] h1 0 0 (kPost TTs g (EIm n) mlK bk h []) := by
    intro bk1 h1 F1 G1 s1 be1 q1 c1 m1 w1 N1 O1 A1 P1 hO1 hS1 hL1 hb1e hcF hq16 hcl
    have hbx := hO1.2.2.2.2.1 1 b hb
    obtain ⟨fs1, ho1, g6, g7, g8, g9, g12, g13, g15, g20, g21⟩ := hS1.get
    refine j_aload_n (k4 := 0) (dQ (by decide +kernel)) rfl ?_
    refine j_get (own := 12) (i := 135) (ci := 12) (f := 12) (dQ (by decide +kernel)) hcls (by decide +kernel) ho1 (n12 12 (by decide)) g12 ?_
    refine j_if_ne (off := 15) (tgt := 74) (dQ (by decide +kernel)) (by decide) (fun _ => ?_) (fun _ => ?_)
    · exact at74 bk1 h1 F1 G1 s1 be1 q1 c1 m1 w1 N1 O1 A1 P1 hO1 hS1 hL1 hb1e hcF hq16 hcl
    · refine j_aload_n (k4 := 0) (dQ (by decide +kernel)) rfl ?_
      refine j_get (own := 12) (i := 156) (ci := 12) (f := 9) (dQ (by decide +kernel)) hcls (by decide +kernel) ho1 (n12 9 (by decide)) g9 ?_
      refine j_if_eq (off := 8) (tgt := 74) (dQ (by decide +kernel)) (by decide) (fun _ => ?_) (fun _ => ?_)
      · exact at74 bk1 h1 F1 G1 s1 be1 q1 c1 m1 w1 N1 O1 A1 P1 hO1 hS1 hL1 hb1e hcF hq16 hcl
      · obtain ⟨Qm, hcal, hQm⟩ := must_run hlow hO1 hbx hS1 hL1 hb1e (x := Int32.ofInt 0) (by decide)
        refine j_aload_n (k4 := 0) (dQ (by decide +kernel)) rfl ?_
        refine j_iconst (n := 0) (dQ (by decide +kernel)) ?_
        refine j_cV (own := 12) (i := 171) (y2 := 224) (d2 := 3) (mc := 0) (ms := 0) (kc := 0) (ks := 0) (a := b + 0) (As := [.int (Int32.ofInt 0)]) (st := []) (dQ (by decide +kernel)) hcls (by decide +kernel) (by decide) (by decide +kernel) (show 1 = jnp 224 by decide +kernel) (by decide) (by decide) ho1 (fun r hr => by cases hr; decide +kernel) hcal (fun v h2 hq => ?_)
        obtain ⟨rfl, bk2, F2, G2, s2, be2, e1, e2, e3, e4, e5, e6, e7⟩ := hQm v h2 hq
        exact at74 bk2 h2 F2 G2 s2 be2 q1 c1 m1 w1 N1 O1 A1 P1 (hO1.tr (by decide) e1) e2 e3 e6 (by omega) hq16 (fun e => absurd (e7 e).1 (by decide))
  have loop : ∀ (k : Nat) (bk1 : aB) (h1 : jH) (F1 G1 s1 be1 q1 c1 m1 w1 : Nat) (N1 O1 A1 P1 : Nat → Int32), 401 - F1 ≤ k → hOK TTs g (EIm n) mlW bk h bk1 h1 → pS h1 b T F1 G1 s1 be1 q1 c1 m1 w1 N1 O1 A1 P1 → pL T F1 G1 s1 → be1 ≤ 1 → c1 ≤ F1 → q1 ≤ 16 → (be1 = 0 → clOK N1 O1 A1 q1 c1) → J l g 217 9 28 [some (.ref (g.2.2 + (b + 0))), none, none] [] h1 0 0 (kPost TTs g (EIm n) mlK bk h []) := by
    intro k
    induction k with
    | zero =>
      intro bk1 h1 F1 G1 s1 be1 q1 c1 m1 w1 N1 O1 A1 P1 hk hO1 hS1 hL1
      exfalso
      obtain ⟨L1, L2, L3, -⟩ := hL1
      omega
    | succ k ih =>
      intro bk1 h1 F1 G1 s1 be1 q1 c1 m1 w1 N1 O1 A1 P1 hk hO1 hS1 hL1 hb1e hcF hq16 hcl
      have hbx := hO1.2.2.2.2.1 1 b hb
      obtain ⟨fs1, ho1, g6, g7, g8, g9, g12, g13, g15, g20, g21⟩ := hS1.get
      obtain ⟨L1, L2, L3, L4, L5⟩ := hL1
      have hL1 : pL T F1 G1 s1 := ⟨L1, L2, L3, L4, L5⟩
      refine j_aload_n (k4 := 0) (dQ (by decide +kernel)) rfl ?_
      refine j_get (own := 12) (i := 135) (ci := 12) (f := 12) (dQ (by decide +kernel)) hcls (by decide +kernel) ho1 (n12 12 (by decide)) g12 ?_
      refine j_if_ne (off := 23) (tgt := 55) (dQ (by decide +kernel)) (by decide) (fun _ => ?_) (fun z => ?_)
      · exact at55 bk1 h1 F1 G1 s1 be1 q1 c1 m1 w1 N1 O1 A1 P1 hO1 hS1 hL1 hb1e hcF hq16 hcl
      · have e : be1 = 0 := (bad_t hb1e).mp (Classical.not_not.mp z)
        subst e
        obtain ⟨Qs, hcs, hQs⟩ := sgn_run hlow hO1 hbx hS1 L5 ((Int8.ofInt 59).toInt32)
        refine j_aload_n (k4 := 0) (dQ (by decide +kernel)) rfl ?_
        refine j_bipush (n := 59) (dQ (by decide +kernel)) ?_
        refine j_cV (own := 12) (i := 212) (y2 := 229) (d2 := 1) (mc := 0) (ms := 0) (kc := 0) (ks := 0) (a := b + 0) (As := [.int ((Int8.ofInt 59).toInt32)]) (st := []) (dQ (by decide +kernel)) hcls (by decide +kernel) (by decide) (by decide +kernel) (show 1 = jnp 229 by decide +kernel) (by decide) (by decide) ho1 (fun r hr => by cases hr; decide +kernel) hcs (fun v h3 hq => ?_)
        obtain ⟨r, bk3, rfl, r1, d1, d2, d3⟩ := hQs v h3 hq
        have hb3 := d1.2.2.2.2.1 1 b hbx
        have hO3 := hO1.tr (W' := []) (by decide) d1
        obtain ⟨fs3, ho3, hf3⟩ := d2.get
        rcases r1 with rfl | rfl
        · refine j_if_eq (off := 14) (tgt := 55) (dQ (by decide +kernel)) (by decide) (fun _ => ?_) (fun e => absurd rfl e)
          exact at55 bk3 h3 F1 G1 s1 0 q1 c1 m1 w1 N1 O1 A1 P1 hO3 d2 hL1 (by decide) hcF hq16 hcl
        · have hs1 := d3 rfl
          refine j_if_eq (off := 14) (tgt := 55) (dQ (by decide +kernel)) (by decide) (fun e => absurd e (by decide)) (fun _ => ?_)
          obtain ⟨Qn, hcn, hQn⟩ := next_run hlow d1 hb3 d2 hL1
          refine j_aload_n (k4 := 0) (dQ (by decide +kernel)) rfl ?_
          refine j_cV (own := 12) (i := 139) (y2 := 219) (d2 := 2) (mc := 0) (ms := 0) (kc := 0) (ks := 0) (a := b + 0) (As := []) (st := []) (dQ (by decide +kernel)) hcls (by decide +kernel) (by decide) (by decide +kernel) (show 0 = jnp 219 by decide +kernel) (by decide) (by decide) ho3 (fun r hr => by cases hr; decide +kernel) hcn (fun v h4 hq => ?_)
          obtain ⟨rfl, bk4, F4, G4, s4, e1, e2, e3, e4⟩ := hQn v h4 hq
          have hb4 := e1.2.2.2.2.1 1 b hb3
          have hO4 := hO3.tr (W' := muW) (by decide) e1
          obtain ⟨fs4, ho4, hf4⟩ := e2.get
          refine j_aload_n (k4 := 0) (dQ (by decide +kernel)) rfl ?_
          refine j_cV (own := 12) (i := 258) (y2 := 222) (d2 := 8) (mc := 0) (ms := 0) (kc := 0) (ks := 0) (a := b + 0) (As := []) (st := []) (dQ (by decide +kernel)) hcls (by decide +kernel) (by decide) (by decide +kernel) (show 0 = jnp 222 by decide +kernel) (by decide) (by decide) ho4 (fun r hr => by cases hr; decide +kernel) (clause_run hlow e1 hb4 e2 e3 rfl (by omega) hq16 (hcl rfl)) (fun v h5 hq => ?_)
          obtain ⟨rfl, bk5, F5, G5, s5, be5, q5, c5, m5, w5, N5, O5, A5, P5, p1, p2, p3, p4, p5, p6, p7, p8, p9⟩ := hq
          refine j_goto (off := -24) (tgt := 28) (dQ (by decide +kernel)) (by decide) ?_
          exact ih bk5 h5 F5 G5 s5 be5 q5 c5 m5 w5 N5 O5 A5 P5 (by omega) (hO4.tr (by decide) p1) p2 p3 p5 p7 p8 p9
  -- the beginning
  obtain ⟨fsA, hoA, hfA⟩ := hSa.get
  obtain ⟨Qb, hcb, hQb⟩ := begin_run hlow hO0 hb hSa hT4
  refine j_aload_n (k4 := 0) (dQ (by decide +kernel)) rfl ?_
  refine j_cV (own := 12) (i := 255) (y2 := 218) (d2 := 3) (mc := 0) (ms := 0) (kc := 0) (ks := 0) (a := b + 0) (As := []) (st := []) (dQ (by decide +kernel)) hcls (by decide +kernel) (by decide) (by decide +kernel) (show 0 = jnp 218 by decide +kernel) (by decide) (by decide) hoA (fun r hr => by cases hr; decide +kernel) hcb (fun v h1 hq => ?_)
  obtain ⟨rfl, bk1, F1, G1, s1, e1, e2, e3⟩ := hQb v h1 hq
  have hbx := e1.2.2.2.2.1 1 b hb
  have hO1 := hO0.tr (W' := muW) (by decide) e1
  obtain ⟨fs1, ho1, g6, g7, g8, g9, g12, g13, g15, g20, g21⟩ := e2.get
  refine j_aload_n (k4 := 0) (dQ (by decide +kernel)) rfl ?_
  refine j_iconst (n := 0) (dQ (by decide +kernel)) ?_
  refine j_put (own := 12) (i := 236) (ci := 12) (f := 13) (dQ (by decide +kernel)) hcls (by decide +kernel) ho1 rfl (by decide +kernel) (by rw [mf_len hO1.1 hbx ho1]; decide) (by decide +kernel) (ty := .int) (by decide +kernel) rfl rfl ?_
  have hO1 := hO1.sf (k := 13) (v := Int32.ofInt ((0 : Nat) : Int)) hbx ty_m0 ho1 (show mTs[13]? = some (0, 0, 16, 0, 0) from rfl) (by decide) (by decide) (by decide) (by decide)
  have e2 := e2.setF (pF.set13 (x := 0) ⟨g6, g7, g8, g9, g12, g13, g15, g20, g21⟩)
  have hO1 : hOK TTs g (EIm n) mlW bk h bk1 (h1.set (b + 0) (.inr (12, fs1.set 13 (iN 0)))) := hO1
  show J l g 217 9 14 [some (.ref (g.2.2 + (b + 0))), none, none] [] (h1.set (b + 0) (.inr (12, fs1.set 13 (iN 0)))) 0 0 _
  generalize h1.set (b + 0) (.inr (12, fs1.set 13 (iN 0))) = h1 at hO1 e2

  obtain ⟨fs1, ho1, g6, g7, g8, g9, g12, g13, g15, g20, g21⟩ := e2.get
  refine j_aload_n (k4 := 0) (dQ (by decide +kernel)) rfl ?_
  refine j_iconst (n := 0) (dQ (by decide +kernel)) ?_
  refine j_put (own := 12) (i := 175) (ci := 12) (f := 15) (dQ (by decide +kernel)) hcls (by decide +kernel) ho1 rfl (by decide +kernel) (by rw [mf_len hO1.1 hbx ho1]; decide) (by decide +kernel) (ty := .int) (by decide +kernel) rfl rfl ?_
  have hO1 := hO1.sf (k := 15) (v := Int32.ofInt ((0 : Nat) : Int)) hbx ty_m0 ho1 (show mTs[15]? = some (0, 0, 400, 0, 0) from rfl) (by decide) (by decide) (by decide) (by decide)
  have e2 := e2.setF (pF.set15 (x := 0) ⟨g6, g7, g8, g9, g12, g13, g15, g20, g21⟩)
  have hO1 : hOK TTs g (EIm n) mlW bk h bk1 (h1.set (b + 0) (.inr (12, fs1.set 15 (iN 0)))) := hO1
  show J l g 217 9 19 [some (.ref (g.2.2 + (b + 0))), none, none] [] (h1.set (b + 0) (.inr (12, fs1.set 15 (iN 0)))) 0 0 _
  generalize h1.set (b + 0) (.inr (12, fs1.set 15 (iN 0))) = h1 at hO1 e2

  obtain ⟨fs1, ho1, g6, g7, g8, g9, g12, g13, g15, g20, g21⟩ := e2.get
  refine j_aload_n (k4 := 0) (dQ (by decide +kernel)) rfl ?_
  refine j_iconst (n := 0) (dQ (by decide +kernel)) ?_
  refine j_put (own := 12) (i := 198) (ci := 12) (f := 18) (dQ (by decide +kernel)) hcls (by decide +kernel) ho1 rfl (by decide +kernel) (by rw [mf_len hO1.1 hbx ho1]; decide) (by decide +kernel) (ty := .int) (by decide +kernel) rfl rfl ?_
  have hO2 := hO1.sf (k := 18) (v := Int32.ofInt ((0 : Nat) : Int)) hbx ty_m0 ho1 (show mTs[18]? = some (0, -2147483648, 2147483647, 0, 0) from rfl) (by decide) (by decide) (by decide) (by decide)
  have hS2 := e2.setF (pF.set (k := 18) (v := iN 0) ⟨g6, g7, g8, g9, g12, g13, g15, g20, g21⟩ (by decide))
  have hO2 : hOK TTs g (EIm n) mlW bk h bk1 (h1.set (b + 0) (.inr (12, fs1.set 18 (iN 0)))) := hO2
  show J l g 217 9 24 [some (.ref (g.2.2 + (b + 0))), none, none] [] (h1.set (b + 0) (.inr (12, fs1.set 18 (iN 0)))) 0 0 _
  generalize h1.set (b + 0) (.inr (12, fs1.set 18 (iN 0))) = h2 at hO2 hS2
  obtain ⟨fs2, ho2, hf2⟩ := hS2.get
  refine j_aload_n (k4 := 0) (dQ (by decide +kernel)) rfl ?_
  refine j_cV (own := 12) (i := 258) (y2 := 222) (d2 := 8) (mc := 0) (ms := 0) (kc := 0) (ks := 0) (a := b + 0) (As := []) (st := []) (dQ (by decide +kernel)) hcls (by decide +kernel) (by decide) (by decide +kernel) (show 0 = jnp 222 by decide +kernel) (by decide) (by decide) ho2 (fun r hr => by cases hr; decide +kernel) (clause_run hlow hO2 hbx hS2 e3 rfl (by omega) (by omega) (fun k hk => absurd hk (by omega))) (fun v h5 hq => ?_)
  obtain ⟨rfl, bk5, F5, G5, s5, be5, q5, c5, m5, w5, N5, O5, A5, P5, p1, p2, p3, p4, p5, p6, p7, p8, p9⟩ := hq
  exact loop (401 - F5) bk5 h5 F5 G5 s5 be5 q5 c5 m5 w5 N5 O5 A5 P5 (Nat.le_refl _) (hO2.tr (by decide) p1) p2 p3 p5 p7 p8 p9
end PK
