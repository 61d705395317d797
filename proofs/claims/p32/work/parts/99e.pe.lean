/-! the reference's parser: leaf, readPlain -/
section PE
variable {l : Launch} {g : jG} {n : Int}
theorem pS.get {h : jH} {b T F G s be q c m w : Nat} {N O A P : Nat → Int32} (hS : pS h b T F G s be q c m w N O A P) : ∃ fs, h[b + 0]? = some (.inr (12, fs)) ∧ pF fs T F G s be q c m w := hS.1
theorem bad_t {be : Nat} (h : be ≤ 1) : (Int32.ofInt (be : Int) = 0 ↔ be = 0) := by
  have : be = 0 ∨ be = 1 := by omega
  rcases this with rfl | rfl
  · exact ⟨fun _ => rfl, fun _ => by decide⟩
  · exact ⟨fun e => absurd e (by decide), fun e => absurd e (by decide)⟩
set_option maxRecDepth 16384 in
theorem mleaf_run (hlow : ∀ (k : Nat) (K : aK), KTx[k]? = some K → kOK TTs g (EIm n) l K) {W0 : List aR} {bk0 bk : aB} {h0 h : jH} (hO : hOK TTs g (EIm n) W0 bk0 h0 bk h) {b T F G s be q c m w : Nat} {N O A P : Nat → Int32} (hb : bk 1 = some b) (hS : pS h b T F G s be q c m w N O A P) (hL : pL T F G s) (hbe : be = 0) {s0 : Nat} {O0 A0 : Nat → Int32} (hcm : c + m ≤ F) (hR : RR s0 O0 A0 P w be 0 O A c m) :
    jCal l g 230 5 [.ref (g.2.2 + (b + 0))] h 0 0 (fun v h' => v = none ∧ ∃ bk' F' G' s' be' c' O' A', hOK TTs g (EIm n) pW bk h bk' h' ∧ pS h' b T F' G' s' be' q c' m w N O' A' P ∧ pL T F' G' s' ∧ F ≤ F' ∧ be' ≤ 1 ∧ (be' = 0 → F < F') ∧ c' + m ≤ F' ∧ RR s0 O0 A0 P w be' 1 O' A' c' m) := by
  refine jCal_of (by decide +kernel) (show 1 ≤ jmx 230 by decide +kernel) ?_
  show J l g 230 5 0 [some (.ref (g.2.2 + (b + 0))), none, none] [] h 0 0 _
  have hcls : jcN 12 = (jyN 230).cls := by decide +kernel
  obtain ⟨L1, L2, L3, L4, L5⟩ := hL
  have hL : pL T F G s := ⟨L1, L2, L3, L4, L5⟩
  -- the number's end
  have at112 : ∀ (op : Int32) (hi : Int64) (bk1 : aB) (h1 : jH) (F1 G1 s1 : Nat) (o2 : Option Value), hOK TTs g (EIm n) pW bk h bk1 h1 → pS h1 b T F1 G1 s1 0 q c m w N O A P → pL T F1 G1 s1 → F < F1 → hi.toInt ≤ 15 → (op.toInt = 1 ∨ op.toInt = 2 ∨ (op.toInt = 3 ∧ hi.toInt ≤ 11)) → J l g 230 5 112 [some (.ref (g.2.2 + (b + 0))), some (.int op), o2] [.long hi, .long (Int64.ofNat 0), .ref (g.2.2 + (b + 0))] h1 0 0 (fun v h' => v = none ∧ ∃ bk' F' G' s' be' c' O' A', hOK TTs g (EIm n) pW bk h bk' h' ∧ pS h' b T F' G' s' be' q c' m w N O' A' P ∧ pL T F' G' s' ∧ F ≤ F' ∧ be' ≤ 1 ∧ (be' = 0 → F < F') ∧ c' + m ≤ F' ∧ RR s0 O0 A0 P w be' 1 O' A' c' m) := by
    intro op hi bk1 h1 F1 G1 s1 o2 hO1 hS1 hL1 hF1 hhi hop
    have hb1 := hO1.2.2.2.2.1 1 b hb
    obtain ⟨fs1, ho1, hf1⟩ := hS1.get
    refine j_callV (own := 12) (i := 203) (y2 := 225) (d2 := 4) (mc := 0) (ms := 0) (kc := 0) (ks := 0) (a := b + 0) (As := [.long (Int64.ofNat 0), .long hi]) (st := []) (by decide +kernel) hcls (by decide +kernel) (by decide) (by decide +kernel) (by decide +kernel) (by decide +kernel) (by decide +kernel) (by decide +kernel) (show 2 = jnp 225 by decide +kernel) (by decide) (by decide) ho1 (fun r hr => by cases hr; decide +kernel) (number_run hlow hO1 hb1 hS1 hL1 (by decide) (lo := Int64.ofNat 0) (hi := hi) (by decide) (by omega)) (fun v h2 hq => ?_)
    obtain ⟨x, rfl, bk2, F2, G2, s2, be2, a1, a2, a3, a4, a5, a6, a7⟩ := hq
    have hb2 := a1.2.2.2.2.1 1 b hb1
    have hO2 := hO1.tr (W' := muW) (by decide) a1
    obtain ⟨fs2, ho2, g6, g7, g8, g9, g12, g13, g15, g20, g21⟩ := a2.get
    refine j_istore_n (k4 := 2) (by decide +kernel) (by decide +kernel) ?_
    show J l g 230 5 116 [some (.ref (g.2.2 + (b + 0))), some (.int op), some (.int x)] [] h2 0 0 _
    refine j_aload_n (k4 := 0) (by decide +kernel) rfl ?_
    refine j_get (own := 12) (i := 135) (ci := 12) (f := 12) (by decide +kernel) hcls (by decide +kernel) ho2 (n12 12 (by decide)) g12 ?_
    refine j_if_ne (off := 9) (tgt := 129) (by decide +kernel) (by decide) (fun z => ?_) (fun z => ?_)
    · have e : be2 = 1 := by
        have : ¬ be2 = 0 := fun q => z ((bad_t a6).mpr q)
        omega
      exact j_ret (v := none) ⟨by decide +kernel, by decide +kernel⟩ ⟨rfl, bk2, F2, G2, s2, be2, c, O, A, hO2, a2, a3, by omega, a6, fun q => by omega, by omega, hR.bad e⟩ rfl
    · have e : be2 = 0 := (bad_t a6).mp (Classical.not_not.mp z)
      subst e
      obtain ⟨x1, x2, x3⟩ := a7 rfl
      have x1 : 0 ≤ x.toInt := x1
      refine j_aload_n (k4 := 0) (by decide +kernel) rfl ?_
      refine j_iload_n (k4 := 1) (by decide +kernel) rfl ?_
      refine j_iload_n (k4 := 2) (by decide +kernel) rfl ?_
      have hT3 := a3.2.2.1
      have hG3 := a3.1
      have hT4 := a3.2.1
      refine j_callV (own := 12) (i := 184) (y2 := 231) (d2 := 0) (mc := 0) (ms := 0) (kc := 0) (ks := 0) (a := b + 0) (As := [.int op, .int x]) (st := []) (by decide +kernel) hcls (by decide +kernel) (by decide) (by decide +kernel) (by decide +kernel) (by decide +kernel) (by decide +kernel) (by decide +kernel) (show 2 = jnp 231 by decide +kernel) (by decide) (by decide) ho2 (fun r hr => by cases hr; decide +kernel) (emit_run hO2 hb2 a2 (by omega) (by omega) (by omega)) (fun v h3 hq => ?_)
      obtain ⟨rfl, bk3, k3, k4⟩ := hq
      subst hbe
      exact j_ret (v := none) ⟨by decide +kernel, by decide +kernel⟩ ⟨rfl, bk3, F2, G2, s2, 0, c + 1, _, _, hO2.tr (by decide) k3, k4, a3, by omega, by decide, fun _ => by omega, by omega, hR.leaf (by omega)⟩ rfl
  -- the word's end
  have at43 : ∀ (op : Int32) (bk1 : aB) (h1 : jH), hOK TTs g (EIm n) [] bk h bk1 h1 → pS h1 b T F G s be q c m w N O A P → (op.toInt = -1 ∨ (1 ≤ s ∧ (op.toInt = 1 ∨ op.toInt = 2 ∨ op.toInt = 3))) → J l g 230 5 43 [some (.ref (g.2.2 + (b + 0))), none, none] [.int op] h1 0 0 (fun v h' => v = none ∧ ∃ bk' F' G' s' be' c' O' A', hOK TTs g (EIm n) pW bk h bk' h' ∧ pS h' b T F' G' s' be' q c' m w N O' A' P ∧ pL T F' G' s' ∧ F ≤ F' ∧ be' ≤ 1 ∧ (be' = 0 → F < F') ∧ c' + m ≤ F' ∧ RR s0 O0 A0 P w be' 1 O' A' c' m) := by
    intro op bk1 h1 hO1 hS1 hop
    have hb1 := hO1.2.2.2.2.1 1 b hb
    have hO1w := hO1.w1 (W' := pW) (by decide)
    obtain ⟨fs1, ho1, hf1⟩ := hS1.get
    have at64 : ∀ x : Int32, (x = 0 ∨ (x = 1 ∧ ¬ op.toInt = -1)) → J l g 230 5 64 [some (.ref (g.2.2 + (b + 0))), some (.int op), none] [.int x, .ref (g.2.2 + (b + 0))] h1 0 0 (fun v h' => v = none ∧ ∃ bk' F' G' s' be' c' O' A', hOK TTs g (EIm n) pW bk h bk' h' ∧ pS h' b T F' G' s' be' q c' m w N O' A' P ∧ pL T F' G' s' ∧ F ≤ F' ∧ be' ≤ 1 ∧ (be' = 0 → F < F') ∧ c' + m ≤ F' ∧ RR s0 O0 A0 P w be' 1 O' A' c' m) := by
      intro x hx
      obtain ⟨Qm, hcal, hQm⟩ := must_run hlow hO1 hb1 hS1 hL (by omega) (x := x) (by rcases hx with rfl | ⟨rfl, -⟩ <;> decide)
      refine j_callV (own := 12) (i := 171) (y2 := 224) (d2 := 3) (mc := 0) (ms := 0) (kc := 0) (ks := 0) (a := b + 0) (As := [.int x]) (st := []) (by decide +kernel) hcls (by decide +kernel) (by decide) (by decide +kernel) (by decide +kernel) (by decide +kernel) (by decide +kernel) (by decide +kernel) (show 1 = jnp 224 by decide +kernel) (by decide) (by decide) ho1 (fun r hr => by cases hr; decide +kernel) hcal (fun v h2 hq => ?_)
      obtain ⟨rfl, bk2, F2, G2, s2, be2, a1, a2, a3, a4, a5, a6, a7⟩ := hQm v h2 hq
      have hb2 := a1.2.2.2.2.1 1 b hb1
      have hO2 := hO1w.tr (W' := muW) (by decide) a1
      obtain ⟨fs2, ho2, hf2⟩ := a2.get
      obtain ⟨g6, g7, g8, g9, g12, g13, g15, g20, g21⟩ := hf2
      refine j_aload_n (k4 := 0) (by decide +kernel) rfl ?_
      refine j_get (own := 12) (i := 135) (ci := 12) (f := 12) (by decide +kernel) hcls (by decide +kernel) ho2 (n12 12 (by decide)) g12 ?_
      refine j_if_eq (off := 4) (tgt := 75) (by decide +kernel) (by decide) (fun z => ?_) (fun z => ?_)
      · have e : be2 = 0 := (bad_t a6).mp z
        subst e
        obtain ⟨x1, x2⟩ := a7 rfl
        have hop2 : 1 ≤ s ∧ (op.toInt = 1 ∨ op.toInt = 2 ∨ op.toInt = 3) := by
          rcases hop with q | q
          · rcases hx with rfl | ⟨rfl, q2⟩
            · exact absurd x1 (by decide)
            · exact absurd q q2
          · exact q
        obtain ⟨nl, f18, -, -⟩ := m_int (q := 18) (lo := -2147483648) (hi := 2147483647) hO2.1 hb2 ho2 rfl
        refine j_aload_n (k4 := 0) (by decide +kernel) rfl ?_
        refine j_dup (by decide +kernel) rfl ?_
        refine j_get (own := 12) (i := 198) (ci := 12) (f := 18) (by decide +kernel) hcls (by decide +kernel) ho2 (n12 18 (by decide)) f18 ?_
        refine j_iconst (n := 1) (by decide +kernel) ?_
        refine j_iadd (by decide +kernel) ?_
        refine j_put (own := 12) (i := 198) (ci := 12) (f := 18) (by decide +kernel) hcls (by decide +kernel) ho2 rfl (by decide +kernel) (by rw [mf_len hO2.1 hb2 ho2]; decide) (by decide +kernel) (ty := .int) (by decide +kernel) rfl rfl ?_
        have hO3 := hO2.sf (k := 18) (v := nl + Int32.ofInt 1) hb2 ty_m0 ho2 (show mTs[18]? = some (0, -2147483648, 2147483647, 0, 0) from rfl) (i32_lo _) (i32_hi _) (by decide) (by decide)
        have hS3 := a2.setF (pF.set (k := 18) (v := .int (nl + Int32.ofInt 1)) ⟨g6, g7, g8, g9, g12, g13, g15, g20, g21⟩ (by decide))
        have hF3 : F < F2 := by omega
        generalize h2.set (b + 0) (.inr (12, fs2.set 18 (.int (nl + Int32.ofInt 1)))) = h3 at hO3 hS3
        refine j_aload_n (k4 := 0) (by decide +kernel) rfl ?_
        refine j_lconst (n := 0) (by decide +kernel) ?_
        refine j_iload_n (k4 := 1) (by decide +kernel) rfl ?_
        refine j_iconst (n := 1) (by decide +kernel) ?_
        refine j_icmp_ne (off := 9) (tgt := 98) (by decide +kernel) (by decide) (fun y1 => ?_) (fun y1 => ?_)
        · refine j_iload_n (k4 := 1) (by decide +kernel) rfl ?_
          refine j_iconst (n := 2) (by decide +kernel) ?_
          refine j_icmp_ne (off := 9) (tgt := 109) (by decide +kernel) (by decide) (fun y2 => ?_) (fun y2 => ?_)
          · have n1 : ¬ op.toInt = 1 := fun q => y1 (i32_eq (q.trans (by decide)))
            have n2 : ¬ op.toInt = 2 := fun q => y2 (i32_eq (q.trans (by decide)))
            refine j_ldc2 (own := 12) (i := 108) (v := 11) hcls (by decide +kernel) (by decide +kernel) ?_
            exact at112 op 11 bk2 h3 F2 G2 s2 _ hO3 hS3 a3 hF3 (by decide) (Or.inr (Or.inr ⟨by omega, by decide⟩))
          · have n2 : op.toInt = 2 := by rw [Classical.not_not.mp y2]; decide
            refine j_ldc2 (own := 12) (i := 201) (v := 7) hcls (by decide +kernel) (by decide +kernel) ?_
            refine j_goto (off := 6) (tgt := 112) (by decide +kernel) (by decide) ?_
            exact at112 op 7 bk2 h3 F2 G2 s2 _ hO3 hS3 a3 hF3 (by decide) (Or.inr (Or.inl n2))
        · have n1 : op.toInt = 1 := by rw [Classical.not_not.mp y1]; decide
          refine j_ldc2 (own := 12) (i := 110) (v := 15) hcls (by decide +kernel) (by decide +kernel) ?_
          refine j_goto (off := 17) (tgt := 112) (by decide +kernel) (by decide) ?_
          exact at112 op 15 bk2 h3 F2 G2 s2 _ hO3 hS3 a3 hF3 (by decide) (Or.inl n1)
      · have e : be2 = 1 := by
          have : ¬ be2 = 0 := fun q => z ((bad_t a6).mpr q)
          omega
        exact j_ret (v := none) ⟨by decide +kernel, by decide +kernel⟩ ⟨rfl, bk2, F2, G2, s2, be2, c, O, A, hO2, a2, a3, a4, a6, fun q => by omega, by omega, hR.bad e⟩ rfl
    obtain ⟨nl, f18, -, -⟩ := m_int (q := 18) (lo := -2147483648) (hi := 2147483647) hO1.1 hb1 ho1 rfl
    refine j_istore_n (k4 := 1) (by decide +kernel) (by decide +kernel) ?_
    refine j_aload_n (k4 := 0) (by decide +kernel) rfl ?_
    refine j_iload_n (k4 := 1) (by decide +kernel) rfl ?_
    refine j_iconst (n := -1) (by decide +kernel) ?_
    refine j_icmp_eq (off := 16) (tgt := 63) (by decide +kernel) (by decide) (fun _ => ?_) (fun y => ?_)
    · refine j_iconst (n := 0) (by decide +kernel) ?_
      exact at64 0 (Or.inl rfl)
    · have hne : ¬ op.toInt = -1 := fun q => y (i32_eq (q.trans (by decide)))
      refine j_aload_n (k4 := 0) (by decide +kernel) rfl ?_
      refine j_get (own := 12) (i := 198) (ci := 12) (f := 18) (by decide +kernel) hcls (by decide +kernel) ho1 (n12 18 (by decide)) f18 ?_
      refine j_bipush (n := 50) (by decide +kernel) ?_
      refine j_icmp_ge (off := 7) (tgt := 63) (by decide +kernel) (by decide) (fun _ => ?_) (fun _ => ?_)
      · refine j_iconst (n := 0) (by decide +kernel) ?_
        exact at64 0 (Or.inl rfl)
      · refine j_iconst (n := 1) (by decide +kernel) ?_
        refine j_goto (off := 4) (tgt := 64) (by decide +kernel) (by decide) ?_
        exact at64 1 (Or.inr ⟨rfl, hne⟩)
  have hO0 : hOK TTs g (EIm n) [] bk h bk h := hOK.rf hO.1 hO.2.1 hO.2.2.1 hO.2.2.2.2.2
  -- a word
  have wd : ∀ (i : Nat) (x : Int64) (pc : Nat) (bk1 : aB) (h1 : jH), hOK TTs g (EIm n) [] bk h bk1 h1 → pS h1 b T F G s be q c m w N O A P → (pc = 4 ∨ pc = 18 ∨ pc = 32) → (∀ (r : Int32) (bk2 : aB) (h2 : jH), hOK TTs g (EIm n) [] bk h bk2 h2 → pS h2 b T F G s be q c m w N O A P → (r = 0 ∨ (r = 1 ∧ 1 ≤ s)) → J l g 230 5 (pc + 3) [some (.ref (g.2.2 + (b + 0))), none, none] [.int r] h2 0 0 (fun v h' => v = none ∧ ∃ bk' F' G' s' be' c' O' A', hOK TTs g (EIm n) pW bk h bk' h' ∧ pS h' b T F' G' s' be' q c' m w N O' A' P ∧ pL T F' G' s' ∧ F ≤ F' ∧ be' ≤ 1 ∧ (be' = 0 → F < F') ∧ c' + m ≤ F' ∧ RR s0 O0 A0 P w be' 1 O' A' c' m)) → J l g 230 5 pc [some (.ref (g.2.2 + (b + 0))), none, none] [.long x, .ref (g.2.2 + (b + 0))] h1 0 0 (fun v h' => v = none ∧ ∃ bk' F' G' s' be' c' O' A', hOK TTs g (EIm n) pW bk h bk' h' ∧ pS h' b T F' G' s' be' q c' m w N O' A' P ∧ pL T F' G' s' ∧ F ≤ F' ∧ be' ≤ 1 ∧ (be' = 0 → F < F') ∧ c' + m ≤ F' ∧ RR s0 O0 A0 P w be' 1 O' A' c' m) := by
    intro i x pc bk1 h1 hO1 hS1 hpc k
    have hb1 := hO1.2.2.2.2.1 1 b hb
    obtain ⟨fs1, ho1, hf1⟩ := hS1.get
    obtain ⟨Qm, hcal, hQm⟩ := word_run hlow hO1 hb1 hS1 (by omega) x
    have go : ∀ v h2, Qm v h2 → ∃ r : Int32, v = some (.int r) ∧ J l g 230 5 (pc + 3) [some (.ref (g.2.2 + (b + 0))), none, none] [.int r] h2 0 0 (fun v h' => v = none ∧ ∃ bk' F' G' s' be' c' O' A', hOK TTs g (EIm n) pW bk h bk' h' ∧ pS h' b T F' G' s' be' q c' m w N O' A' P ∧ pL T F' G' s' ∧ F ≤ F' ∧ be' ≤ 1 ∧ (be' = 0 → F < F') ∧ c' + m ≤ F' ∧ RR s0 O0 A0 P w be' 1 O' A' c' m) := fun v h2 hq => by
      obtain ⟨r, bk2, rfl, r1, a1, a2, a3⟩ := hQm v h2 hq
      refine ⟨r, rfl, k r bk2 h2 (hO1.tr (by decide) a1) a2 ?_⟩
      rcases r1 with rfl | rfl
      · exact Or.inl rfl
      · exact Or.inr ⟨rfl, a3 rfl⟩
    rcases hpc with rfl | rfl | rfl
    · refine j_callV (own := 12) (i := 190) (y2 := 223) (d2 := 1) (mc := 0) (ms := 0) (kc := 0) (ks := 0) (a := b + 0) (As := [.long x]) (st := []) (by decide +kernel) hcls (by decide +kernel) (by decide) (by decide +kernel) (by decide +kernel) (by decide +kernel) (by decide +kernel) (by decide +kernel) (show 1 = jnp 223 by decide +kernel) (by decide) (by decide) ho1 (fun r hr => by cases hr; decide +kernel) hcal (fun v h2 hq => ?_)
      obtain ⟨r, rfl, hJ⟩ := go v h2 hq
      exact hJ
    · refine j_callV (own := 12) (i := 190) (y2 := 223) (d2 := 1) (mc := 0) (ms := 0) (kc := 0) (ks := 0) (a := b + 0) (As := [.long x]) (st := []) (by decide +kernel) hcls (by decide +kernel) (by decide) (by decide +kernel) (by decide +kernel) (by decide +kernel) (by decide +kernel) (by decide +kernel) (show 1 = jnp 223 by decide +kernel) (by decide) (by decide) ho1 (fun r hr => by cases hr; decide +kernel) hcal (fun v h2 hq => ?_)
      obtain ⟨r, rfl, hJ⟩ := go v h2 hq
      exact hJ
    · refine j_callV (own := 12) (i := 190) (y2 := 223) (d2 := 1) (mc := 0) (ms := 0) (kc := 0) (ks := 0) (a := b + 0) (As := [.long x]) (st := []) (by decide +kernel) hcls (by decide +kernel) (by decide) (by decide +kernel) (by decide +kernel) (by decide +kernel) (by decide +kernel) (by decide +kernel) (show 1 = jnp 223 by decide +kernel) (by decide) (by decide) ho1 (fun r hr => by cases hr; decide +kernel) hcal (fun v h2 hq => ?_)
      obtain ⟨r, rfl, hJ⟩ := go v h2 hq
      exact hJ
  refine j_aload_n (k4 := 0) (by decide +kernel) rfl ?_
  refine j_ldc2 (own := 12) (i := 188) (v := 21562475) hcls (by decide +kernel) (by decide +kernel) ?_
  refine wd 0 _ 4 bk h hO0 hS (Or.inl rfl) (fun r bk1 h1 hO1 hS1 hr => ?_)
  rcases hr with rfl | ⟨rfl, hs1⟩
  · refine j_if_eq (off := 7) (tgt := 14) (by decide +kernel) (by decide) (fun _ => ?_) (fun e => absurd rfl e)
    refine j_aload_n (k4 := 0) (by decide +kernel) rfl ?_
    refine j_ldc2 (own := 12) (i := 194) (v := 647215148) hcls (by decide +kernel) (by decide +kernel) ?_
    refine wd 0 _ 18 bk1 h1 hO1 hS1 (Or.inr (Or.inl rfl)) (fun r bk1 h1 hO1 hS1 hr => ?_)
    rcases hr with rfl | ⟨rfl, hs1⟩
    · refine j_if_eq (off := 7) (tgt := 28) (by decide +kernel) (by decide) (fun _ => ?_) (fun e => absurd rfl e)
      refine j_aload_n (k4 := 0) (by decide +kernel) rfl ?_
      refine j_ldc2 (own := 12) (i := 196) (v := 218508) hcls (by decide +kernel) (by decide +kernel) ?_
      refine wd 0 _ 32 bk1 h1 hO1 hS1 (Or.inr (Or.inr rfl)) (fun r bk1 h1 hO1 hS1 hr => ?_)
      rcases hr with rfl | ⟨rfl, hs1⟩
      · refine j_if_eq (off := 7) (tgt := 42) (by decide +kernel) (by decide) (fun _ => ?_) (fun e => absurd rfl e)
        refine j_iconst (n := -1) (by decide +kernel) ?_
        exact at43 (Int32.ofInt (-1)) bk1 h1 hO1 hS1 (Or.inl (by decide))
      · refine j_if_eq (off := 7) (tgt := 42) (by decide +kernel) (by decide) (fun e => absurd e (by decide)) (fun _ => ?_)
        refine j_iconst (n := 3) (by decide +kernel) ?_
        refine j_goto (off := 4) (tgt := 43) (by decide +kernel) (by decide) ?_
        exact at43 (Int32.ofInt 3) bk1 h1 hO1 hS1 (Or.inr ⟨hs1, by decide⟩)
    · refine j_if_eq (off := 7) (tgt := 28) (by decide +kernel) (by decide) (fun e => absurd e (by decide)) (fun _ => ?_)
      refine j_iconst (n := 2) (by decide +kernel) ?_
      refine j_goto (off := 18) (tgt := 43) (by decide +kernel) (by decide) ?_
      exact at43 (Int32.ofInt 2) bk1 h1 hO1 hS1 (Or.inr ⟨hs1, by decide⟩)
  · refine j_if_eq (off := 7) (tgt := 14) (by decide +kernel) (by decide) (fun e => absurd e (by decide)) (fun _ => ?_)
    refine j_iconst (n := 1) (by decide +kernel) ?_
    refine j_goto (off := 32) (tgt := 43) (by decide +kernel) (by decide) ?_
    exact at43 (Int32.ofInt 1) bk1 h1 hO1 hS1 (Or.inr ⟨hs1, by decide⟩)
end PE
