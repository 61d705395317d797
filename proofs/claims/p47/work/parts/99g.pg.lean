/-! the reference's parser: readTest -/
section PG
variable {l : Launch} {g : jG} {n : Int}
set_option maxRecDepth 16384 in
set_option maxHeartbeats 4000000 in
theorem test_run (hlow : ∀ (k : Nat) (K : aK), KTx[k]? = some K → kOK TTs g (EIm n) l K) {W0 : List aR} {bk0 bk : aB} {h0 h : jH} (hO : hOK TTs g (EIm n) W0 bk0 h0 bk h) {b T F G s be q c m w : Nat} {N O A P : Nat → Int32} (hb : bk 1 = some b) (hS : pS h b T F G s be q c m w N O A P) (hL : pL T F G s) (hbe : be = 0) (hcF : c ≤ F) :
    jCal l g 226 7 [.ref (g.2.2 + (b + 0))] h 0 0 (fun v h' => v = none ∧ ∃ bk' F' G' s' be' c' m' w' O' A' P', hOK TTs g (EIm n) pW bk h bk' h' ∧ pS h' b T F' G' s' be' q c' m' w' N O' A' P' ∧ pL T F' G' s' ∧ F ≤ F' ∧ be' ≤ 1 ∧ c' ≤ F' ∧ c ≤ c' ∧ (∀ i, i < c → O' i = O i ∧ A' i = A i) ∧ (be' = 0 → rg O' A' (c' - c) c 0 = some 1)) := by
  refine jCal_of (by decide +kernel) (show 1 ≤ jmx 226 by decide +kernel) ?_
  show J l g 226 7 0 [some (.ref (g.2.2 + (b + 0))), none, none, none] [] h 0 0 _
  have hcls : jcN 12 = (jyN 226).cls := by decide +kernel
  have c1_1 : (Int32.ofInt 1).toInt = 1 := by decide
  have fin : ∀ (bk1 : aB) (h1 : jH) (F1 G1 s1 be1 c1 m1 w1 : Nat) (O1 A1 P1 : Nat → Int32) (wh : Nat) (o1 o2 o3 : Option Value), hOK TTs g (EIm n) pW bk h bk1 h1 → pS h1 b T F1 G1 s1 be1 q c1 m1 w1 N O1 A1 P1 → pL T F1 G1 s1 → F ≤ F1 → be1 ≤ 1 → c1 + m1 ≤ F1 → w1 ≤ 8 → RR c O A P1 w1 be1 wh O1 A1 c1 m1 → (be1 = 1 ∨ (wh = 1 ∧ w1 = 0)) → J l g 226 7 159 [some (.ref (g.2.2 + (b + 0))), o1, o2, o3] [] h1 0 0 (fun v h' => v = none ∧ ∃ bk' F' G' s' be' c' m' w' O' A' P', hOK TTs g (EIm n) pW bk h bk' h' ∧ pS h' b T F' G' s' be' q c' m' w' N O' A' P' ∧ pL T F' G' s' ∧ F ≤ F' ∧ be' ≤ 1 ∧ c' ≤ F' ∧ c ≤ c' ∧ (∀ i, i < c → O' i = O i ∧ A' i = A i) ∧ (be' = 0 → rg O' A' (c' - c) c 0 = some 1)) := by
    intro bk1 h1 F1 G1 s1 be1 c1 m1 w1 O1 A1 P1 wh o1 o2 o3 hO1 hS1 hL1 hF1 hb1e hcm hw8 hR hex
    have hb1 := hO1.2.2.2.2.1 1 b hb
    obtain ⟨fs1, ho1, hf1⟩ := hS1.get
    have hR1 : RR c O A P1 w1 be1 1 O1 A1 c1 m1 := by
      rcases hex with e | ⟨e, -⟩
      · exact hR.bad e
      · rw [e] at hR; exact hR
    refine j_aload_n (k4 := 0) (dQ (by decide +kernel)) rfl ?_
    refine j_iconst (n := 1) (dQ (by decide +kernel)) ?_
    refine j_cV (own := 12) (i := 229) (y2 := 232) (d2 := 1) (mc := 0) (ms := 0) (kc := 0) (ks := 0) (a := b + 0) (As := [.int (Int32.ofInt 1)]) (st := []) (dQ (by decide +kernel)) hcls (by decide +kernel) (by decide) (by decide +kernel) (show 1 = jnp 232 by decide +kernel) (by decide) (by decide) ho1 (fun r hr => by cases hr; decide +kernel) (settle_run hO1 hb1 hS1 (by have := hL1.1; have := hL1.2.1; have := hL1.2.2.1; omega) (R := fun O2 A2 c2 m2 => RR c O A P1 w1 be1 1 O2 A2 c2 m2) (by decide) hR1 (fun O2 A2 c2 m2 q1 q2 => q1.settle (by rw [c1_1]; decide) q2)) (fun v h2 hq => ?_)
    obtain ⟨rfl, bk2, c2, m2, O2, A2, k1, k2, k3, k4, k5⟩ := hq
    rw [c1_1] at k5
    refine j_ret (v := none) ⟨by decide +kernel, by decide +kernel⟩ ⟨rfl, bk2, F1, G1, s1, be1, c2, m2, w1, O2, A2, P1, hO1.tr (by decide) k1, k2, hL1, hF1, hb1e, by omega, k4.1, k4.2.1, fun e => ?_⟩ rfl
    rcases hex with e2 | ⟨-, e2⟩
    · omega
    · rw [e2] at k4
      exact k4.done e k5
  have bad14 : ∀ (bk1 : aB) (h1 : jH) (F1 G1 s1 be1 c1 m1 w1 : Nat) (O1 A1 P1 : Nat → Int32) (wh : Nat) (o1 o2 o3 : Option Value), hOK TTs g (EIm n) pW bk h bk1 h1 → pS h1 b T F1 G1 s1 be1 q c1 m1 w1 N O1 A1 P1 → pL T F1 G1 s1 → F ≤ F1 → be1 ≤ 1 → c1 + m1 ≤ F1 → w1 ≤ 8 → RR c O A P1 w1 be1 wh O1 A1 c1 m1 → be1 = 1 → J l g 226 7 14 [some (.ref (g.2.2 + (b + 0))), o1, o2, o3] [] h1 0 0 (fun v h' => v = none ∧ ∃ bk' F' G' s' be' c' m' w' O' A' P', hOK TTs g (EIm n) pW bk h bk' h' ∧ pS h' b T F' G' s' be' q c' m' w' N O' A' P' ∧ pL T F' G' s' ∧ F ≤ F' ∧ be' ≤ 1 ∧ c' ≤ F' ∧ c ≤ c' ∧ (∀ i, i < c → O' i = O i ∧ A' i = A i) ∧ (be' = 0 → rg O' A' (c' - c) c 0 = some 1)) := by
    intro bk1 h1 F1 G1 s1 be1 c1 m1 w1 O1 A1 P1 wh o1 o2 o3 hO1 hS1 hL1 hF1 hb1e hcm hw8 hR e
    obtain ⟨fs1, ho1, g6, g7, g8, g9, g12, g13, g15, g20, g21⟩ := hS1.get
    refine j_aload_n (k4 := 0) (dQ (by decide +kernel)) rfl ?_
    refine j_get (own := 12) (i := 135) (ci := 12) (f := 12) (dQ (by decide +kernel)) hcls (by decide +kernel) ho1 (n12 12 (by decide)) g12 ?_
    refine j_if_ne (off := 141) (tgt := 159) (dQ (by decide +kernel)) (by decide) (fun _ => ?_) (fun z => absurd (Classical.not_not.mp z) (fun q => by have := (bad_t hb1e).mp q; omega))
    exact fin bk1 h1 F1 G1 s1 be1 c1 m1 w1 O1 A1 P1 wh o1 o2 o3 hO1 hS1 hL1 hF1 hb1e hcm hw8 hR (Or.inl e)
  -- a word
  have wd : ∀ (x : Int64) (pc : Nat) (al : List (Option Value)) (st : List Value) (bk1 : aB) (h1 : jH) (F1 G1 s1 be1 c1 m1 w1 : Nat) (O1 A1 P1 : Nat → Int32), (pc = 41 ∨ pc = 51 ∨ pc = 61) → st = [.long x, .ref (g.2.2 + (b + 0))] → hOK TTs g (EIm n) pW bk h bk1 h1 → pS h1 b T F1 G1 s1 be1 q c1 m1 w1 N O1 A1 P1 → s1 ≤ 3 → (∀ (r : Int32) (bk2 : aB) (h2 : jH), hOK TTs g (EIm n) pW bk h bk2 h2 → pS h2 b T F1 G1 s1 be1 q c1 m1 w1 N O1 A1 P1 → (r = 0 ∨ (r = 1 ∧ 1 ≤ s1)) → J l g 226 7 (pc + 3) al [.int r] h2 0 0 (fun v h' => v = none ∧ ∃ bk' F' G' s' be' c' m' w' O' A' P', hOK TTs g (EIm n) pW bk h bk' h' ∧ pS h' b T F' G' s' be' q c' m' w' N O' A' P' ∧ pL T F' G' s' ∧ F ≤ F' ∧ be' ≤ 1 ∧ c' ≤ F' ∧ c ≤ c' ∧ (∀ i, i < c → O' i = O i ∧ A' i = A i) ∧ (be' = 0 → rg O' A' (c' - c) c 0 = some 1))) → J l g 226 7 pc al st h1 0 0 (fun v h' => v = none ∧ ∃ bk' F' G' s' be' c' m' w' O' A' P', hOK TTs g (EIm n) pW bk h bk' h' ∧ pS h' b T F' G' s' be' q c' m' w' N O' A' P' ∧ pL T F' G' s' ∧ F ≤ F' ∧ be' ≤ 1 ∧ c' ≤ F' ∧ c ≤ c' ∧ (∀ i, i < c → O' i = O i ∧ A' i = A i) ∧ (be' = 0 → rg O' A' (c' - c) c 0 = some 1)) := by
    intro x pc al st bk1 h1 F1 G1 s1 be1 c1 m1 w1 O1 A1 P1 hpc hst hO1 hS1 hs3 k
    subst hst
    have hb1 := hO1.2.2.2.2.1 1 b hb
    obtain ⟨fs1, ho1, hf1⟩ := hS1.get
    obtain ⟨Qm, hcal, hQm⟩ := word_run hlow hO1 hb1 hS1 hs3 x
    have go : ∀ v h2, Qm v h2 → ∃ r : Int32, v = some (.int r) ∧ J l g 226 7 (pc + 3) al [.int r] h2 0 0 (fun v h' => v = none ∧ ∃ bk' F' G' s' be' c' m' w' O' A' P', hOK TTs g (EIm n) pW bk h bk' h' ∧ pS h' b T F' G' s' be' q c' m' w' N O' A' P' ∧ pL T F' G' s' ∧ F ≤ F' ∧ be' ≤ 1 ∧ c' ≤ F' ∧ c ≤ c' ∧ (∀ i, i < c → O' i = O i ∧ A' i = A i) ∧ (be' = 0 → rg O' A' (c' - c) c 0 = some 1)) := fun v h2 hq => by
      obtain ⟨r, bk2, rfl, r1, a1, a2, a3⟩ := hQm v h2 hq
      refine ⟨r, rfl, k r bk2 h2 (hO1.tr (by decide) a1) a2 ?_⟩
      rcases r1 with rfl | rfl
      · exact Or.inl rfl
      · exact Or.inr ⟨rfl, a3 rfl⟩
    rcases hpc with rfl | rfl | rfl
    · refine j_cV (own := 12) (i := 190) (y2 := 223) (d2 := 1) (mc := 0) (ms := 0) (kc := 0) (ks := 0) (a := b + 0) (As := [.long x]) (st := []) (dQ (by decide +kernel)) hcls (by decide +kernel) (by decide) (by decide +kernel) (show 1 = jnp 223 by decide +kernel) (by decide) (by decide) ho1 (fun r hr => by cases hr; decide +kernel) hcal (fun v h2 hq => ?_)
      obtain ⟨r, rfl, hJ⟩ := go v h2 hq
      exact hJ
    · refine j_cV (own := 12) (i := 190) (y2 := 223) (d2 := 1) (mc := 0) (ms := 0) (kc := 0) (ks := 0) (a := b + 0) (As := [.long x]) (st := []) (dQ (by decide +kernel)) hcls (by decide +kernel) (by decide) (by decide +kernel) (show 1 = jnp 223 by decide +kernel) (by decide) (by decide) ho1 (fun r hr => by cases hr; decide +kernel) hcal (fun v h2 hq => ?_)
      obtain ⟨r, rfl, hJ⟩ := go v h2 hq
      exact hJ
    · refine j_cV (own := 12) (i := 190) (y2 := 223) (d2 := 1) (mc := 0) (ms := 0) (kc := 0) (ks := 0) (a := b + 0) (As := [.long x]) (st := []) (dQ (by decide +kernel)) hcls (by decide +kernel) (by decide) (by decide +kernel) (show 1 = jnp 223 by decide +kernel) (by decide) (by decide) ho1 (fun r hr => by cases hr; decide +kernel) hcal (fun v h2 hq => ?_)
      obtain ⟨r, rfl, hJ⟩ := go v h2 hq
      exact hJ
  have loop : ∀ (k : Nat) (bk1 : aB) (h1 : jH) (F1 G1 s1 be1 c1 m1 w1 : Nat) (O1 A1 P1 : Nat → Int32) (wh mo : Nat) (o3 : Option Value), (401 - F1) + mo ≤ k → hOK TTs g (EIm n) pW bk h bk1 h1 → pS h1 b T F1 G1 s1 be1 q c1 m1 w1 N O1 A1 P1 → pL T F1 G1 s1 → F ≤ F1 → be1 ≤ 1 → c1 + m1 ≤ F1 → w1 ≤ 8 → wh ≤ 1 → mo ≤ 1 → RR c O A P1 w1 be1 wh O1 A1 c1 m1 → (mo = 0 → wh = 1 ∧ w1 = 0) → J l g 226 7 14 [some (.ref (g.2.2 + (b + 0))), some (iN wh), some (iN mo), o3] [] h1 0 0 (fun v h' => v = none ∧ ∃ bk' F' G' s' be' c' m' w' O' A' P', hOK TTs g (EIm n) pW bk h bk' h' ∧ pS h' b T F' G' s' be' q c' m' w' N O' A' P' ∧ pL T F' G' s' ∧ F ≤ F' ∧ be' ≤ 1 ∧ c' ≤ F' ∧ c ≤ c' ∧ (∀ i, i < c → O' i = O i ∧ A' i = A i) ∧ (be' = 0 → rg O' A' (c' - c) c 0 = some 1)) := by
    intro k
    induction k with
    | zero =>
      intro bk1 h1 F1 G1 s1 be1 c1 m1 w1 O1 A1 P1 wh mo o3 hk hO1 hS1 hL1
      exfalso
      obtain ⟨L1, L2, L3, -⟩ := hL1
      omega
    | succ k ih =>
      intro bk1 h1 F1 G1 s1 be1 c1 m1 w1 O1 A1 P1 wh mo o3 hk hO1 hS1 hL1 hF1 hb1e hcm hw8 hwh hmo hR hex
      have be2 : be1 = 0 ∨ be1 = 1 := by omega
      rcases be2 with e0 | e0
      rotate_left
      · exact bad14 bk1 h1 F1 G1 s1 be1 c1 m1 w1 O1 A1 P1 wh _ _ _ hO1 hS1 hL1 hF1 hb1e hcm hw8 hR e0
      subst e0
      obtain ⟨L1, L2, L3, L4, L5⟩ := hL1
      have hL1 : pL T F1 G1 s1 := ⟨L1, L2, L3, L4, L5⟩
      have hb1 := hO1.2.2.2.2.1 1 b hb
      obtain ⟨fs1, ho1, g6, g7, g8, g9, g12, g13, g15, g20, g21⟩ := hS1.get
      refine j_aload_n (k4 := 0) (dQ (by decide +kernel)) rfl ?_
      refine j_get (own := 12) (i := 135) (ci := 12) (f := 12) (dQ (by decide +kernel)) hcls (by decide +kernel) ho1 (n12 12 (by decide)) g12 ?_
      refine j_if_ne (off := 141) (tgt := 159) (dQ (by decide +kernel)) (by decide) (fun z => absurd (by decide) z) (fun _ => ?_)
      refine j_iload_n (k4 := 2) (dQ (by decide +kernel)) rfl ?_
      have mo2 : mo = 0 ∨ mo = 1 := by omega
      rcases mo2 with rfl | rfl
      · refine j_if_eq (off := 137) (tgt := 159) (dQ (by decide +kernel)) (by decide) (fun _ => ?_) (fun z => absurd (by decide) z)
        exact fin bk1 h1 F1 G1 s1 0 c1 m1 w1 O1 A1 P1 wh _ _ _ hO1 hS1 hL1 hF1 hb1e hcm hw8 hR (Or.inr (hex rfl))
      refine j_if_eq (off := 137) (tgt := 159) (dQ (by decide +kernel)) (by decide) (fun z => absurd z (by decide)) (fun _ => ?_)
      refine j_iload_n (k4 := 1) (dQ (by decide +kernel)) rfl ?_
      have wh2 : wh = 0 ∨ wh = 1 := by omega
      rcases wh2 with rfl | rfl
      · refine j_if_ne (off := 11) (tgt := 37) (dQ (by decide +kernel)) (by decide) (fun z => absurd (by decide) z) (fun _ => ?_)
        refine j_aload_n (k4 := 0) (dQ (by decide +kernel)) rfl ?_
        refine j_cV (own := 12) (i := 221) (y2 := 227) (d2 := 6) (mc := 0) (ms := 0) (kc := 0) (ks := 0) (a := b + 0) (As := []) (st := []) (dQ (by decide +kernel)) hcls (by decide +kernel) (by decide) (by decide +kernel) (show 0 = jnp 227 by decide +kernel) (by decide) (by decide) ho1 (fun r hr => by cases hr; decide +kernel) (plain_run hlow hO1 hb1 hS1 hL1 rfl hcm hw8 hR) (fun v h2 hq => ?_)
        obtain ⟨wh2, bk2, F2, G2, s2, be2, c2, m2, w2, O2, A2, P2, rfl, a1, a2, a3, a4, a5, a6, a7, a8, a9, a10⟩ := hq
        refine j_istore_n (k4 := 1) (dQ (by decide +kernel)) (by decide +kernel) ?_
        refine j_goto (off := -20) (tgt := 14) (dQ (by decide +kernel)) (by decide) ?_
        show J l g 226 7 14 [some (.ref (g.2.2 + (b + 0))), some (iN wh2), some (iN 1), o3] [] h2 0 0 _
        have hO2 := hO1.tr (W' := pW) (by decide) a2
        have be3 : be2 = 0 ∨ be2 = 1 := by omega
        rcases be3 with e0 | e0
        · have := a7 e0
          have := a4.1
          have := a4.2.1
          exact ih bk2 h2 F2 G2 s2 be2 c2 m2 w2 O2 A2 P2 wh2 1 o3 (by omega) hO2 a3 a4 (by omega) a6 a8 a9 a1 (by decide) a10 (fun q => absurd q (by decide))
        · exact bad14 bk2 h2 F2 G2 s2 be2 c2 m2 w2 O2 A2 P2 wh2 _ _ _ hO2 a3 a4 (by omega) a6 a8 a9 a10 e0
      refine j_if_ne (off := 11) (tgt := 37) (dQ (by decide +kernel)) (by decide) (fun _ => ?_) (fun z => absurd (Classical.not_not.mp z) (by decide))
      -- and, or
      have at57 : ∀ (bk2 : aB) (h2 : jH), hOK TTs g (EIm n) pW bk h bk2 h2 → pS h2 b T F1 G1 s1 0 q c1 m1 w1 N O1 A1 P1 → 1 ≤ s1 → J l g 226 7 57 [some (.ref (g.2.2 + (b + 0))), some (iN 1), some (iN 1), o3] [] h2 0 0 (fun v h' => v = none ∧ ∃ bk' F' G' s' be' c' m' w' O' A' P', hOK TTs g (EIm n) pW bk h bk' h' ∧ pS h' b T F' G' s' be' q c' m' w' N O' A' P' ∧ pL T F' G' s' ∧ F ≤ F' ∧ be' ≤ 1 ∧ c' ≤ F' ∧ c ≤ c' ∧ (∀ i, i < c → O' i = O i ∧ A' i = A i) ∧ (be' = 0 → rg O' A' (c' - c) c 0 = some 1)) := by
        intro bk2 h2 hO2 hS2 hs1
        refine j_aload_n (k4 := 0) (dQ (by decide +kernel)) rfl ?_
        refine j_ldc2 (own := 12) (i := 225) (v := 1476) hcls (by decide +kernel) (by decide +kernel) ?_
        refine wd _ 61 _ _ bk2 h2 F1 G1 s1 0 c1 m1 w1 O1 A1 P1 (Or.inr (Or.inr rfl)) rfl hO2 hS2 L5 (fun r bk3 h3 hO3 hS3 hr => ?_)
        refine j_istore_n (k4 := 3) (dQ (by decide +kernel)) (by decide +kernel) ?_
        show J l g 226 7 65 [some (.ref (g.2.2 + (b + 0))), some (iN 1), some (iN 1), some (.int r)] [] h3 0 0 _
        have hb3 := hO3.2.2.2.2.1 1 b hb
        obtain ⟨fs3, ho3, hf3⟩ := hS3.get
        have at75 : ∀ le : Int32, (le.toInt = 1 ∨ le.toInt = 2) → J l g 226 7 75 [some (.ref (g.2.2 + (b + 0))), some (iN 1), some (iN 1), some (.int r)] [.int le, .ref (g.2.2 + (b + 0))] h3 0 0 (fun v h' => v = none ∧ ∃ bk' F' G' s' be' c' m' w' O' A' P', hOK TTs g (EIm n) pW bk h bk' h' ∧ pS h' b T F' G' s' be' q c' m' w' N O' A' P' ∧ pL T F' G' s' ∧ F ≤ F' ∧ be' ≤ 1 ∧ c' ≤ F' ∧ c ≤ c' ∧ (∀ i, i < c → O' i = O i ∧ A' i = A i) ∧ (be' = 0 → rg O' A' (c' - c) c 0 = some 1)) := by
          intro le hle
          refine j_cV (own := 12) (i := 229) (y2 := 232) (d2 := 1) (mc := 0) (ms := 0) (kc := 0) (ks := 0) (a := b + 0) (As := [.int le]) (st := []) (dQ (by decide +kernel)) hcls (by decide +kernel) (by decide) (by decide +kernel) (show 1 = jnp 232 by decide +kernel) (by decide) (by decide) ho3 (fun r hr => by cases hr; decide +kernel) (settle_run hO3 hb3 hS3 (by omega) (R := fun O2 A2 c2 m2 => RR c O A P1 w1 0 1 O2 A2 c2 m2) (by decide) hR (fun O2 A2 c2 m2 q1 q2 => q1.settle (by omega) q2)) (fun v h4 hq => ?_)
          obtain ⟨rfl, bk4, c4, m4, O4, A4, k1, k2, k3, k4, k5⟩ := hq
          have hb4 := k1.2.2.2.2.1 1 b hb3
          have hO4 := hO3.tr (W' := pW) (by decide) k1
          obtain ⟨fs4, ho4, hf4⟩ := k2.get
          have at90 : ∀ op : Int32, (op.toInt = 11 ∨ op.toInt = 12) → J l g 226 7 90 [some (.ref (g.2.2 + (b + 0))), some (iN 1), some (iN 1), some (.int r)] [.int op, .ref (g.2.2 + (b + 0))] h4 0 0 (fun v h' => v = none ∧ ∃ bk' F' G' s' be' c' m' w' O' A' P', hOK TTs g (EIm n) pW bk h bk' h' ∧ pS h' b T F' G' s' be' q c' m' w' N O' A' P' ∧ pL T F' G' s' ∧ F ≤ F' ∧ be' ≤ 1 ∧ c' ≤ F' ∧ c ≤ c' ∧ (∀ i, i < c → O' i = O i ∧ A' i = A i) ∧ (be' = 0 → rg O' A' (c' - c) c 0 = some 1)) := by
            intro op hop
            refine j_cV (own := 12) (i := 209) (y2 := 228) (d2 := 0) (mc := 0) (ms := 0) (kc := 0) (ks := 0) (a := b + 0) (As := [.int op]) (st := []) (dQ (by decide +kernel)) hcls (by decide +kernel) (by decide) (by decide +kernel) (show 1 = jnp 228 by decide +kernel) (by decide) (by decide) ho4 (fun r hr => by cases hr; decide +kernel) (push_run hO4 hb4 k2 (by omega) (by omega)) (fun v h5 hq => ?_)
            obtain ⟨rfl, bk5, p1, p2⟩ := hq
            have hb5 := p1.2.2.2.2.1 1 b hb4
            have hO5 := hO4.tr (W' := pW) (by decide) p1
            obtain ⟨fs5, ho5, hf5⟩ := p2.get
            obtain ⟨Qn, hcn, hQn⟩ := next_run hlow p1 hb5 p2 hL1
            refine j_aload_n (k4 := 0) (dQ (by decide +kernel)) rfl ?_
            refine j_cV (own := 12) (i := 139) (y2 := 219) (d2 := 2) (mc := 0) (ms := 0) (kc := 0) (ks := 0) (a := b + 0) (As := []) (st := []) (dQ (by decide +kernel)) hcls (by decide +kernel) (by decide) (by decide +kernel) (show 0 = jnp 219 by decide +kernel) (by decide) (by decide) ho5 (fun r hr => by cases hr; decide +kernel) hcn (fun v h6 hq => ?_)
            obtain ⟨rfl, bk6, F6, G6, s6, e1, e2, e3, e4⟩ := hQn v h6 hq
            refine j_iconst (n := 0) (dQ (by decide +kernel)) ?_
            refine j_istore_n (k4 := 1) (dQ (by decide +kernel)) (by decide +kernel) ?_
            refine j_goto (off := -85) (tgt := 14) (dQ (by decide +kernel)) (by decide) ?_
            show J l g 226 7 14 [some (.ref (g.2.2 + (b + 0))), some (iN 0), some (iN 1), some (.int r)] [] h6 0 0 _
            have := e3.1
            have := e3.2.1
            exact ih bk6 h6 F6 G6 s6 0 c4 (m4 + 1) w1 O4 A4 _ 0 1 _ (by omega) (hO5.tr (by decide) e1) e2 e3 (by omega) (by decide) (by omega) hw8 (by decide) (by decide) (k4.op hop) (fun q => absurd q (by decide))
          refine j_aload_n (k4 := 0) (dQ (by decide +kernel)) rfl ?_
          refine j_iload_n (k4 := 3) (dQ (by decide +kernel)) rfl ?_
          refine j_if_eq (off := 8) (tgt := 88) (dQ (by decide +kernel)) (by decide) (fun _ => ?_) (fun _ => ?_)
          · refine j_bipush (n := 12) (dQ (by decide +kernel)) ?_
            exact at90 _ (Or.inr (by decide))
          · refine j_bipush (n := 11) (dQ (by decide +kernel)) ?_
            refine j_goto (off := 5) (tgt := 90) (dQ (by decide +kernel)) (by decide) ?_
            exact at90 _ (Or.inl (by decide))
        refine j_aload_n (k4 := 0) (dQ (by decide +kernel)) rfl ?_
        refine j_iload_n (k4 := 3) (dQ (by decide +kernel)) rfl ?_
        refine j_if_eq (off := 7) (tgt := 74) (dQ (by decide +kernel)) (by decide) (fun _ => ?_) (fun _ => ?_)
        · refine j_iconst (n := 1) (dQ (by decide +kernel)) ?_
          exact at75 _ (Or.inl (by decide))
        · refine j_iconst (n := 2) (dQ (by decide +kernel)) ?_
          refine j_goto (off := 4) (tgt := 75) (dQ (by decide +kernel)) (by decide) ?_
          exact at75 _ (Or.inr (by decide))
      -- a bracket's end, or the test's
      have at102 : ∀ (bk2 : aB) (h2 : jH), hOK TTs g (EIm n) pW bk h bk2 h2 → pS h2 b T F1 G1 s1 0 q c1 m1 w1 N O1 A1 P1 → J l g 226 7 102 [some (.ref (g.2.2 + (b + 0))), some (iN 1), some (iN 1), o3] [] h2 0 0 (fun v h' => v = none ∧ ∃ bk' F' G' s' be' c' m' w' O' A' P', hOK TTs g (EIm n) pW bk h bk' h' ∧ pS h' b T F' G' s' be' q c' m' w' N O' A' P' ∧ pL T F' G' s' ∧ F ≤ F' ∧ be' ≤ 1 ∧ c' ≤ F' ∧ c ≤ c' ∧ (∀ i, i < c → O' i = O i ∧ A' i = A i) ∧ (be' = 0 → rg O' A' (c' - c) c 0 = some 1)) := by
        intro bk2 h2 hO2 hS2
        have hb2 := hO2.2.2.2.2.1 1 b hb
        obtain ⟨fs2, ho2, i6, i7, i8, i9, i12, i13, i15, i20, i21⟩ := hS2.get
        have hwt : (Int32.ofInt (w1 : Int)).toInt = (w1 : Int) := i32_n (by omega)
        refine j_aload_n (k4 := 0) (dQ (by decide +kernel)) rfl ?_
        refine j_get (own := 12) (i := 215) (ci := 12) (f := 21) (dQ (by decide +kernel)) hcls (by decide +kernel) ho2 (n12 21 (by decide)) i21 ?_
        refine j_if_le (off := 48) (tgt := 154) (dQ (by decide +kernel)) (by decide) (fun z => ?_) (fun z => ?_)
        · have hw0 : w1 = 0 := by
            have := le32.mp z
            rw [hwt, i32z] at this
            omega
          refine j_iconst (n := 0) (dQ (by decide +kernel)) ?_
          refine j_istore_n (k4 := 2) (dQ (by decide +kernel)) (by decide +kernel) ?_
          refine j_goto (off := -142) (tgt := 14) (dQ (by decide +kernel)) (by decide) ?_
          show J l g 226 7 14 [some (.ref (g.2.2 + (b + 0))), some (iN 1), some (iN 0), o3] [] h2 0 0 _
          exact ih bk2 h2 F1 G1 s1 0 c1 m1 w1 O1 A1 P1 1 0 o3 (by omega) hO2 hS2 hL1 hF1 hb1e hcm hw8 (by decide) (by decide) hR (fun _ => ⟨rfl, hw0⟩)
        · have hw1 : 0 < w1 := by
            have z2 : ¬ (Int32.ofInt (w1 : Int)).toInt ≤ (0 : Int32).toInt := fun q => z (le32.mpr q)
            rw [hwt, i32z] at z2
            omega
          obtain ⟨w0, rfl⟩ : ∃ w0, w1 = w0 + 1 := ⟨w1 - 1, by omega⟩
          obtain ⟨Qs, hcs, hQs⟩ := sgn_run hlow hO2 hb2 hS2 L5 ((Int8.ofInt 41).toInt32)
          refine j_aload_n (k4 := 0) (dQ (by decide +kernel)) rfl ?_
          refine j_aload_n (k4 := 0) (dQ (by decide +kernel)) rfl ?_
          refine j_bipush (n := 41) (dQ (by decide +kernel)) ?_
          refine j_cV (own := 12) (i := 212) (y2 := 229) (d2 := 1) (mc := 0) (ms := 0) (kc := 0) (ks := 0) (a := b + 0) (As := [.int ((Int8.ofInt 41).toInt32)]) (st := [.ref (g.2.2 + (b + 0))]) (dQ (by decide +kernel)) hcls (by decide +kernel) (by decide) (by decide +kernel) (show 1 = jnp 229 by decide +kernel) (by decide) (by show (1 + 0 : Nat) ≤ 8; decide) ho2 (fun r hr => by cases hr; decide +kernel) hcs (fun v h3 hq => ?_)
          obtain ⟨r, bk3, rfl, r1, d1, d2, d3⟩ := hQs v h3 hq
          have hb3 := d1.2.2.2.2.1 1 b hb2
          have hO3 := hO2.tr (W' := []) (by decide) d1
          obtain ⟨fs3, ho3, hf3⟩ := d2.get
          obtain ⟨Qm, hcal, hQm⟩ := must_run hlow d1 hb3 d2 hL1 (by decide) (x := r) (by rcases r1 with rfl | rfl <;> decide)
          refine j_cV (own := 12) (i := 171) (y2 := 224) (d2 := 3) (mc := 0) (ms := 0) (kc := 0) (ks := 0) (a := b + 0) (As := [.int r]) (st := []) (dQ (by decide +kernel)) hcls (by decide +kernel) (by decide) (by decide +kernel) (show 1 = jnp 224 by decide +kernel) (by decide) (by decide) ho3 (fun r hr => by cases hr; decide +kernel) hcal (fun v h4 hq => ?_)
          obtain ⟨rfl, bk4, F4, G4, s4, be4, e1, e2, e3, e4, e5, e6, e7⟩ := hQm v h4 hq
          have hb4 := e1.2.2.2.2.1 1 b hb3
          have hO4 := hO3.tr (W' := muW) (by decide) e1
          obtain ⟨fs4, ho4, k6, k7, k8, k9, k12, k13, k15, k20, k21⟩ := e2.get
          have := e3.1
          have := e3.2.1
          refine j_aload_n (k4 := 0) (dQ (by decide +kernel)) rfl ?_
          refine j_get (own := 12) (i := 135) (ci := 12) (f := 12) (dQ (by decide +kernel)) hcls (by decide +kernel) ho4 (n12 12 (by decide)) k12 ?_
          refine j_if_ne (off := -109) (tgt := 14) (dQ (by decide +kernel)) (by decide) (fun z => ?_) (fun z => ?_)
          · have e : be4 = 1 := be01 e6 z
            exact bad14 bk4 h4 F4 G4 s4 be4 c1 m1 (w0 + 1) O1 A1 P1 1 _ _ _ hO4 e2 e3 (by omega) e6 (by omega) hw8 (hR.bad e) e
          · have e : be4 = 0 := (bad_t e6).mp (Classical.not_not.mp z)
            subst e
            obtain ⟨x1, x2⟩ := e7 rfl
            have hs1 : 1 ≤ s1 := by
              rcases r1 with rfl | rfl
              · exact absurd x1 (by decide)
              · exact d3 rfl
            refine j_aload_n (k4 := 0) (dQ (by decide +kernel)) rfl ?_
            refine j_iconst (n := 1) (dQ (by decide +kernel)) ?_
            refine j_cV (own := 12) (i := 229) (y2 := 232) (d2 := 1) (mc := 0) (ms := 0) (kc := 0) (ks := 0) (a := b + 0) (As := [.int (Int32.ofInt 1)]) (st := []) (dQ (by decide +kernel)) hcls (by decide +kernel) (by decide) (by decide +kernel) (show 1 = jnp 232 by decide +kernel) (by decide) (by decide) ho4 (fun r hr => by cases hr; decide +kernel) (settle_run hO4 hb4 e2 (by omega) (R := fun O2 A2 c2 m2 => RR c O A P1 (w0 + 1) 0 1 O2 A2 c2 m2) (by decide) hR (fun O2 A2 c2 m2 q1 q2 => q1.settle (by rw [c1_1]; decide) q2)) (fun v h5 hq => ?_)
            obtain ⟨rfl, bk5, c5, m5, O5, A5, p1, p2, p3, p4, p5⟩ := hq
            rw [c1_1] at p5
            obtain ⟨m6, rfl, hR6⟩ := p4.close rfl p5
            have hb5 := p1.2.2.2.2.1 1 b hb4
            have hO5 := hO4.tr (W' := pW) (by decide) p1
            obtain ⟨fs5, ho5, y6, y7, y8, y9, y12, y13, y15, y20, y21⟩ := p2.get
            have hmt : (Int32.ofInt (m6 : Int)).toInt = (m6 : Int) := i32_n (by omega)
            have hw0t : (Int32.ofInt (w0 : Int)).toInt = (w0 : Int) := i32_n (by omega)
            refine j_aload_n (k4 := 0) (dQ (by decide +kernel)) rfl ?_
            refine j_dup (dQ (by decide +kernel)) rfl ?_
            refine j_get (own := 12) (i := 178) (ci := 12) (f := 20) (dQ (by decide +kernel)) hcls (by decide +kernel) ho5 (n12 20 (by decide)) y20 ?_
            refine j_iconst (n := 1) (dQ (by decide +kernel)) ?_
            refine j_isub (dQ (by decide +kernel)) ?_
            rw [show Int32.ofInt ((m6 + 1 : Nat) : Int) - Int32.ofInt 1 = Int32.ofInt (m6 : Int) from i32_sub1 (by omega)]
            refine j_put (own := 12) (i := 178) (ci := 12) (f := 20) (dQ (by decide +kernel)) hcls (by decide +kernel) ho5 rfl (by decide +kernel) (by rw [mf_len hO5.1 hb5 ho5]; decide) (by decide +kernel) (ty := .int) (by decide +kernel) rfl rfl ?_
            have hO6 := hO5.sf (k := 20) (v := Int32.ofInt (m6 : Int)) hb5 ty_m0 ho5 (show mTs[20]? = some (0, 0, 400, 0, 0) from rfl) (by omega) (by omega) (by decide) (by decide)
            have hS6 := p2.setF (pF.set20 (x := m6) ⟨y6, y7, y8, y9, y12, y13, y15, y20, y21⟩)
            have hO6 : hOK TTs g (EIm n) pW bk h bk5 (h5.set (b + 0) (.inr (12, fs5.set 20 (iN m6)))) := hO6
            show J l g 226 7 141 [some (.ref (g.2.2 + (b + 0))), some (iN 1), some (iN 1), o3] [] (h5.set (b + 0) (.inr (12, fs5.set 20 (iN m6)))) 0 0 _
            generalize h5.set (b + 0) (.inr (12, fs5.set 20 (iN m6))) = h6 at hO6 hS6
            obtain ⟨fs6, ho6, u6, u7, u8, u9, u12, u13, u15, u20, u21⟩ := hS6.get
            refine j_aload_n (k4 := 0) (dQ (by decide +kernel)) rfl ?_
            refine j_dup (dQ (by decide +kernel)) rfl ?_
            refine j_get (own := 12) (i := 215) (ci := 12) (f := 21) (dQ (by decide +kernel)) hcls (by decide +kernel) ho6 (n12 21 (by decide)) u21 ?_
            refine j_iconst (n := 1) (dQ (by decide +kernel)) ?_
            refine j_isub (dQ (by decide +kernel)) ?_
            rw [show Int32.ofInt ((w0 + 1 : Nat) : Int) - Int32.ofInt 1 = Int32.ofInt (w0 : Int) from i32_sub1 (by omega)]
            refine j_put (own := 12) (i := 215) (ci := 12) (f := 21) (dQ (by decide +kernel)) hcls (by decide +kernel) ho6 rfl (by decide +kernel) (by rw [mf_len hO6.1 hb5 ho6]; decide) (by decide +kernel) (ty := .int) (by decide +kernel) rfl rfl ?_
            have hO7 := hO6.sf (k := 21) (v := Int32.ofInt (w0 : Int)) hb5 ty_m0 ho6 (show mTs[21]? = some (0, 0, 8, 0, 0) from rfl) (by omega) (by omega) (by decide) (by decide)
            have hS7 := hS6.setF (pF.set21 (x := w0) ⟨u6, u7, u8, u9, u12, u13, u15, u20, u21⟩)
            have hO7 : hOK TTs g (EIm n) pW bk h bk5 (h6.set (b + 0) (.inr (12, fs6.set 21 (iN w0)))) := hO7
            refine j_goto (off := -137) (tgt := 14) (dQ (by decide +kernel)) (by decide) ?_
            exact ih bk5 _ F4 G4 s4 0 c5 m6 w0 O5 A5 P1 1 1 o3 (by omega) hO7 hS7 e3 (by omega) (by decide) (by omega) (by omega) (by decide) (by decide) hR6 (fun q => absurd q (by decide))
      refine j_aload_n (k4 := 0) (dQ (by decide +kernel)) rfl ?_
      refine j_ldc2 (own := 12) (i := 225) (v := 1476) hcls (by decide +kernel) (by decide +kernel) ?_
      refine wd _ 41 _ _ bk1 h1 F1 G1 s1 0 c1 m1 w1 O1 A1 P1 (Or.inl rfl) rfl hO1 hS1 L5 (fun r bk2 h2 hO2 hS2 hr => ?_)
      rcases hr with rfl | ⟨rfl, hs1⟩
      · refine j_if_ne (off := 13) (tgt := 57) (dQ (by decide +kernel)) (by decide) (fun e => absurd rfl e) (fun _ => ?_)
        refine j_aload_n (k4 := 0) (dQ (by decide +kernel)) rfl ?_
        refine j_ldc2 (own := 12) (i := 227) (v := 498) hcls (by decide +kernel) (by decide +kernel) ?_
        refine wd _ 51 _ _ bk2 h2 F1 G1 s1 0 c1 m1 w1 O1 A1 P1 (Or.inr (Or.inl rfl)) rfl hO2 hS2 L5 (fun r bk3 h3 hO3 hS3 hr => ?_)
        rcases hr with rfl | ⟨rfl, hs1⟩
        · refine j_if_eq (off := 48) (tgt := 102) (dQ (by decide +kernel)) (by decide) (fun _ => ?_) (fun e => absurd rfl e)
          exact at102 bk3 h3 hO3 hS3
        · refine j_if_eq (off := 48) (tgt := 102) (dQ (by decide +kernel)) (by decide) (fun e => absurd e (by decide)) (fun _ => ?_)
          exact at57 bk3 h3 hO3 hS3 hs1
      · refine j_if_ne (off := 13) (tgt := 57) (dQ (by decide +kernel)) (by decide) (fun _ => ?_) (fun e => absurd (Classical.not_not.mp e) (by decide))
        exact at57 bk2 h2 hO2 hS2 hs1
  -- the beginning
  obtain ⟨fs, ho, f6, f7, f8, f9, f12, f13, f15, f20, f21⟩ := hS.get
  have hOa : hOK TTs g (EIm n) pW bk h bk h := hOK.rf hO.1 hO.2.1 hO.2.2.1 hO.2.2.2.2.2
  refine j_aload_n (k4 := 0) (dQ (by decide +kernel)) rfl ?_
  refine j_iconst (n := 0) (dQ (by decide +kernel)) ?_
  refine j_put (own := 12) (i := 178) (ci := 12) (f := 20) (dQ (by decide +kernel)) hcls (by decide +kernel) ho rfl (by decide +kernel) (by rw [mf_len hO.1 hb ho]; decide) (by decide +kernel) (ty := .int) (by decide +kernel) rfl rfl ?_
  have hO6 := hOa.sf (k := 20) (v := Int32.ofInt ((0 : Nat) : Int)) hb ty_m0 ho (show mTs[20]? = some (0, 0, 400, 0, 0) from rfl) (by decide) (by decide) (by decide) (by decide)
  have hS6 := hS.setF (pF.set20 (x := 0) ⟨f6, f7, f8, f9, f12, f13, f15, f20, f21⟩)
  have hO6 : hOK TTs g (EIm n) pW bk h bk (h.set (b + 0) (.inr (12, fs.set 20 (iN 0)))) := hO6
  show J l g 226 7 5 [some (.ref (g.2.2 + (b + 0))), none, none, none] [] (h.set (b + 0) (.inr (12, fs.set 20 (iN 0)))) 0 0 _
  generalize h.set (b + 0) (.inr (12, fs.set 20 (iN 0))) = h6 at hO6 hS6
  obtain ⟨fs6, ho6, u6, u7, u8, u9, u12, u13, u15, u20, u21⟩ := hS6.get
  refine j_aload_n (k4 := 0) (dQ (by decide +kernel)) rfl ?_
  refine j_iconst (n := 0) (dQ (by decide +kernel)) ?_
  refine j_put (own := 12) (i := 215) (ci := 12) (f := 21) (dQ (by decide +kernel)) hcls (by decide +kernel) ho6 rfl (by decide +kernel) (by rw [mf_len hO6.1 hb ho6]; decide) (by decide +kernel) (ty := .int) (by decide +kernel) rfl rfl ?_
  have hO7 := hO6.sf (k := 21) (v := Int32.ofInt ((0 : Nat) : Int)) hb ty_m0 ho6 (show mTs[21]? = some (0, 0, 8, 0, 0) from rfl) (by decide) (by decide) (by decide) (by decide)
  have hS7 := hS6.setF (pF.set21 (x := 0) ⟨u6, u7, u8, u9, u12, u13, u15, u20, u21⟩)
  refine j_iconst (n := 0) (dQ (by decide +kernel)) ?_
  refine j_istore_n (k4 := 1) (dQ (by decide +kernel)) (by decide +kernel) ?_
  refine j_iconst (n := 1) (dQ (by decide +kernel)) ?_
  refine j_istore_n (k4 := 2) (dQ (by decide +kernel)) (by decide +kernel) ?_
  exact loop (401 - F + 1) bk _ F G s be c 0 0 O A P 0 1 none (by omega) hO7 hS7 hL (Nat.le_refl _) (by omega) (by omega) (by decide) (by decide) (by decide) ⟨Nat.le_refl _, fun i hi => ⟨rfl, rfl⟩, fun _ => ⟨fun j hj => absurd hj (by omega), rfl, by rw [Nat.sub_self]; rfl⟩⟩ (fun q => absurd q (by decide))
end PG
