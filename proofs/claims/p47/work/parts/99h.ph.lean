/-! the reference's parser: readClause -/
section PH
variable {l : Launch} {g : jG} {n : Int}
/-- a clause's columns, as far as the j-th -/
def clF (c : Nat) (N : Nat → Int32) (k j : Nat) : Prop := ((N (8 * k)).toInt = 0 ∨ (N (8 * k)).toInt = 1) ∧ (1 ≤ j → 0 ≤ (N (8 * k + 1)).toInt ∧ (N (8 * k + 1)).toInt ≤ 11) ∧ (2 ≤ j → (N (8 * k)).toInt = 0 → 0 ≤ (N (8 * k + 2)).toInt ∧ (N (8 * k + 2)).toInt ≤ 11) ∧ (3 ≤ j → 0 ≤ (N (8 * k + 3)).toInt ∧ (N (8 * k + 3)).toInt ≤ 1) ∧ (4 ≤ j → 0 ≤ (N (8 * k + 4)).toInt ∧ (N (8 * k + 4)).toInt ≤ 15) ∧ (5 ≤ j → (N (8 * k + 5)).toInt = (c : Int))
def clOK (N O A : Nat → Int32) (q c : Nat) : Prop := ∀ k, k < q → ∃ s e : Nat, clF s N k 5 ∧ (N (8 * k + 6)).toInt = (e : Int) ∧ s ≤ e ∧ e ≤ c ∧ ∃ D, rg O A (e - s) s 0 = some D
theorem clF.cg {c k j : Nat} {N N' : Nat → Int32} (h : clF c N k j) (hN : ∀ i, 8 * k ≤ i → i ≤ 8 * k + 5 → N' i = N i) : clF c N' k j := by
  obtain ⟨a0, a1, a2, a3, a4, a5⟩ := h
  have e0 := hN (8 * k) (by omega) (by omega)
  have e1 := hN (8 * k + 1) (by omega) (by omega)
  have e2 := hN (8 * k + 2) (by omega) (by omega)
  have e3 := hN (8 * k + 3) (by omega) (by omega)
  have e4 := hN (8 * k + 4) (by omega) (by omega)
  have e5 := hN (8 * k + 5) (by omega) (by omega)
  rw [clF, e0, e1, e2, e3, e4, e5]
  exact ⟨a0, a1, a2, a3, a4, a5⟩
theorem clOK.cg {N O A N' O' A' : Nat → Int32} {q c c' : Nat} (h : clOK N O A q c) (hc : c ≤ c') (hN : ∀ i, i < 8 * q → N' i = N i) (hO : ∀ i, i < c → O' i = O i ∧ A' i = A i) : clOK N' O' A' q c' := by
  intro k hk
  obtain ⟨s, e, a1, a2, a3, a4, D, a5⟩ := h k hk
  refine ⟨s, e, a1.cg (fun i h1 h2 => hN i (by omega)), by rw [hN _ (by omega)]; exact a2, a3, by omega, D, ?_⟩
  rw [rg_cg (O := O) (A := A) (O' := O') (A' := A') (e - s) s 0 (fun i h1 h2 => hO i (by omega))]
  exact a5
/-- a column more -/
theorem clF.up {c k j : Nat} {N : Nat → Int32} {v : Int32} (h : clF c N k j) (hj : j < 5) (h1 : j = 0 → 0 ≤ v.toInt ∧ v.toInt ≤ 11) (h2 : j = 1 → 0 ≤ v.toInt ∧ v.toInt ≤ 11) (h3 : j = 2 → 0 ≤ v.toInt ∧ v.toInt ≤ 1) (h4 : j = 3 → 0 ≤ v.toInt ∧ v.toInt ≤ 15) (h5 : j = 4 → v.toInt = (c : Int)) : clF c (upd N (8 * k + (j + 1)) v) k (j + 1) := by
  obtain ⟨a0, a1, a2, a3, a4, a5⟩ := h
  have ne : ∀ i, i ≤ 5 → ¬ i = j + 1 → upd N (8 * k + (j + 1)) v (8 * k + i) = N (8 * k + i) := fun i _ hi => if_neg (by omega)
  have e0 : upd N (8 * k + (j + 1)) v (8 * k) = N (8 * k) := if_neg (by omega)
  have es : upd N (8 * k + (j + 1)) v (8 * k + (j + 1)) = v := if_pos rfl
  refine ⟨by rw [e0]; exact a0, fun q => ?_, fun q => ?_, fun q => ?_, fun q => ?_, fun q => ?_⟩
  · by_cases e : 1 = j + 1
    · have hj0 : j = 0 := by omega
      subst hj0
      rw [show upd N (8 * k + (0 + 1)) v (8 * k + 1) = v from if_pos rfl]
      exact h1 rfl
    · rw [ne 1 (by omega) e]; exact a1 (by omega)
  · by_cases e : 2 = j + 1
    · rw [e, es]; exact fun _ => h2 (by omega)
    · rw [ne 2 (by omega) e, e0]; exact a2 (by omega)
  · by_cases e : 3 = j + 1
    · rw [e, es]; exact h3 (by omega)
    · rw [ne 3 (by omega) e]; exact a3 (by omega)
  · by_cases e : 4 = j + 1
    · rw [e, es]; exact h4 (by omega)
    · rw [ne 4 (by omega) e]; exact a4 (by omega)
  · by_cases e : 5 = j + 1
    · rw [e, es]; exact h5 (by omega)
    · rw [ne 5 (by omega) e]; exact a5 (by omega)
theorem clF.skip {c k : Nat} {N : Nat → Int32} (h : clF c N k 1) (h1 : (N (8 * k)).toInt = 1) : clF c N k 2 := by
  obtain ⟨a0, a1, a2, a3, a4, a5⟩ := h
  exact ⟨a0, fun _ => a1 (by omega), fun _ e => by omega, fun e => by omega, fun e => by omega, fun e => by omega⟩
set_option maxRecDepth 16384 in
set_option maxHeartbeats 8000000 in
theorem clause_run (hlow : ∀ (k : Nat) (K : aK), KTx[k]? = some K → kOK TTs g (EIm n) l K) {W0 : List aR} {bk0 bk : aB} {h0 h : jH} (hO : hOK TTs g (EIm n) W0 bk0 h0 bk h) {b T F G s be q c m w : Nat} {N O A P : Nat → Int32} (hb : bk 1 = some b) (hS : pS h b T F G s be q c m w N O A P) (hL : pL T F G s) (hbe : be = 0) (hcF : c ≤ F) (hq16 : q ≤ 16) (hcl : clOK N O A q c) :
    jCal l g 222 8 [.ref (g.2.2 + (b + 0))] h 0 0 (fun v h' => v = none ∧ ∃ bk' F' G' s' be' q' c' m' w' N' O' A' P', hOK TTs g (EIm n) pW bk h bk' h' ∧ pS h' b T F' G' s' be' q' c' m' w' N' O' A' P' ∧ pL T F' G' s' ∧ F ≤ F' ∧ be' ≤ 1 ∧ (be' = 0 → F < F') ∧ c' ≤ F' ∧ q' ≤ 16 ∧ (be' = 0 → clOK N' O' A' q' c')) := by
  refine jCal_of (by decide +kernel) (show 1 ≤ jmx 222 by decide +kernel) ?_
  show J l g 222 8 0 [some (.ref (g.2.2 + (b + 0))), none, none] [] h 0 0 _
  have hcls : jcN 12 = (jyN 222).cls := by decide +kernel
  have ix : ∀ j : Nat, q < 16 → j ≤ 7 → (Int32.ofInt ((8 * q : Nat) : Int) + Int32.ofInt (j : Int)).toInt = ((8 * q + j : Nat) : Int) := fun j h1 h2 => by
    have e1 : (Int32.ofInt ((8 * q : Nat) : Int)).toInt = ((8 * q : Nat) : Int) := i32_n (by omega)
    have e2 : (Int32.ofInt (j : Int)).toInt = (j : Int) := i32_n (by omega)
    rw [i32_add (by rw [e1, e2]; omega) (by rw [e1, e2]; omega), e1, e2]
    omega
  have c6 : (Int8.ofInt 6).toInt32 = Int32.ofInt ((6 : Nat) : Int) := by decide
  have at244 : ∀ (r : Int32) (bk1 : aB) (h1 : jH) (F1 G1 s1 be1 c1 m1 w1 : Nat) (N1 O1 A1 P1 : Nat → Int32), q < 16 → hOK TTs g (EIm n) pW bk h bk1 h1 → pS h1 b T F1 G1 s1 be1 (q + 1) c1 m1 w1 N1 O1 A1 P1 → pL T F1 G1 s1 → F < F1 → be1 ≤ 1 → (∀ i, i < 8 * q → N1 i = N i) → (be1 = 0 → clF c N1 q 5) → c1 ≤ F1 → c ≤ c1 → (∀ i, i < c → O1 i = O i ∧ A1 i = A i) → (be1 = 0 → ∃ D, rg O1 A1 (c1 - c) c 0 = some D) → J l g 222 8 244 [some (.ref (g.2.2 + (b + 0))), some (.int r), some (iN (8 * q))] [] h1 0 0 (fun v h' => v = none ∧ ∃ bk' F' G' s' be' q' c' m' w' N' O' A' P', hOK TTs g (EIm n) pW bk h bk' h' ∧ pS h' b T F' G' s' be' q' c' m' w' N' O' A' P' ∧ pL T F' G' s' ∧ F ≤ F' ∧ be' ≤ 1 ∧ (be' = 0 → F < F') ∧ c' ≤ F' ∧ q' ≤ 16 ∧ (be' = 0 → clOK N' O' A' q' c')) := by
    intro r bk1 h1 F1 G1 s1 be1 c1 m1 w1 N1 O1 A1 P1 hq hO1 hS1 hL1 hF1 hb1e hN1 hK hcF1 hcc hOA hrg
    have hb1 := hO1.2.2.2.2.1 1 b hb
    obtain ⟨fs1, ho1, g6, g7, g8, g9, g12, g13, g15, g20, g21⟩ := hS1.get
    have hLt := hL1.1
    have hLt2 := hL1.2.1
    have hLt3 := hL1.2.2.1
    have h86 := ix 6 hq (by decide)
    refine j_aload_n (k4 := 0) (dQ (by decide +kernel)) rfl ?_
    refine j_get (own := 12) (i := 27) (ci := 12) (f := 14) (dQ (by decide +kernel)) hcls (by decide +kernel) ho1 (n12 14 (by decide)) (m_ref hO1.1 hb1 ho1 rfl) ?_
    refine j_iload_n (k4 := 2) (dQ (by decide +kernel)) rfl ?_
    refine j_bipush (n := 6) (dQ (by decide +kernel)) ?_
    rw [c6]
    refine j_iadd (dQ (by decide +kernel)) ?_
    refine j_aload_n (k4 := 0) (dQ (by decide +kernel)) rfl ?_
    refine j_get (own := 12) (i := 175) (ci := 12) (f := 15) (dQ (by decide +kernel)) hcls (by decide +kernel) ho1 (n12 15 (by decide)) g15 ?_
    refine j_iast (dQ (by decide +kernel)) hS1.2.1 (i32_in (by rw [h86]; omega) (by rw [h86]; omega)) ?_
    rw [i32_at h86]
    have hO2 := hO1.st (i := 8 * q + 6) (v := Int32.ofInt (c1 : Int)) (lo := 0) (hi := 127) hb1 ty_m5 hS1.2.1 (sg1 ⟨i32_lo _, i32_hi _⟩) (by decide) (by omega) (by omega) (by decide)
    have hS2 := hS1.setN (X := upd N1 (8 * q + 6) (Int32.ofInt (c1 : Int)))
    have hc1t : (Int32.ofInt (c1 : Int)).toInt = (c1 : Int) := i32_n (by omega)
    refine j_ret (v := none) ⟨by decide +kernel, by decide +kernel⟩ ⟨rfl, bk1, F1, G1, s1, be1, q + 1, c1, m1, w1, _, O1, A1, P1, hO2, hS2, hL1, by omega, hb1e, fun _ => hF1, hcF1, by omega, fun e => ?_⟩ rfl
    intro k hk
    by_cases hkq : k = q
    · subst hkq
      obtain ⟨D, hD⟩ := hrg e
      refine ⟨c, c1, (hK e).cg (fun i h1 h2 => if_neg (by omega)), ?_, hcc, Nat.le_refl _, D, hD⟩
      rw [show upd N1 (8 * k + 6) (Int32.ofInt (c1 : Int)) (8 * k + 6) = Int32.ofInt (c1 : Int) from if_pos rfl]
      exact hc1t
    · exact clOK.cg hcl hcc (fun i hi => by rw [show upd N1 (8 * q + 6) (Int32.ofInt (c1 : Int)) i = N1 i from if_neg (by omega)]; exact hN1 i hi) hOA k (by omega)
  have wd : ∀ (x : Int64) (pc : Nat) (al : List (Option Value)) (st st0 : List Value) (bk1 : aB) (h1 : jH) (F1 G1 s1 be1 q1 : Nat) (N1 : Nat → Int32), (pc = 4 ∨ pc = 17 ∨ pc = 106 ∨ pc = 133 ∨ pc = 150 ∨ pc = 167 ∨ pc = 177 ∨ pc = 230) → st = .long x :: .ref (g.2.2 + (b + 0)) :: st0 → (st0.map fun v => v.category).sum ≤ 8 → hOK TTs g (EIm n) pW bk h bk1 h1 → pS h1 b T F1 G1 s1 be1 q1 c m w N1 O A P → s1 ≤ 3 → (∀ (r : Int32) (bk2 : aB) (h2 : jH), hOK TTs g (EIm n) pW bk h bk2 h2 → pS h2 b T F1 G1 s1 be1 q1 c m w N1 O A P → (r = 0 ∨ (r = 1 ∧ 1 ≤ s1)) → J l g 222 8 (pc + 3) al (.int r :: st0) h2 0 0 (fun v h' => v = none ∧ ∃ bk' F' G' s' be' q' c' m' w' N' O' A' P', hOK TTs g (EIm n) pW bk h bk' h' ∧ pS h' b T F' G' s' be' q' c' m' w' N' O' A' P' ∧ pL T F' G' s' ∧ F ≤ F' ∧ be' ≤ 1 ∧ (be' = 0 → F < F') ∧ c' ≤ F' ∧ q' ≤ 16 ∧ (be' = 0 → clOK N' O' A' q' c'))) → J l g 222 8 pc al st h1 0 0 (fun v h' => v = none ∧ ∃ bk' F' G' s' be' q' c' m' w' N' O' A' P', hOK TTs g (EIm n) pW bk h bk' h' ∧ pS h' b T F' G' s' be' q' c' m' w' N' O' A' P' ∧ pL T F' G' s' ∧ F ≤ F' ∧ be' ≤ 1 ∧ (be' = 0 → F < F') ∧ c' ≤ F' ∧ q' ≤ 16 ∧ (be' = 0 → clOK N' O' A' q' c')) := by
    intro x pc al st st0 bk1 h1 F1 G1 s1 be1 q1 N1 hpc hst hcat hO1 hS1 hs3 k
    subst hst
    have hb1 := hO1.2.2.2.2.1 1 b hb
    obtain ⟨fs1, ho1, hf1⟩ := hS1.get
    obtain ⟨Qm, hcal, hQm⟩ := word_run hlow hO1 hb1 hS1 hs3 x
    have go : ∀ v h2, Qm v h2 → ∃ r : Int32, v = some (.int r) ∧ J l g 222 8 (pc + 3) al (.int r :: st0) h2 0 0 (fun v h' => v = none ∧ ∃ bk' F' G' s' be' q' c' m' w' N' O' A' P', hOK TTs g (EIm n) pW bk h bk' h' ∧ pS h' b T F' G' s' be' q' c' m' w' N' O' A' P' ∧ pL T F' G' s' ∧ F ≤ F' ∧ be' ≤ 1 ∧ (be' = 0 → F < F') ∧ c' ≤ F' ∧ q' ≤ 16 ∧ (be' = 0 → clOK N' O' A' q' c')) := fun v h2 hq => by
      obtain ⟨r, bk2, rfl, r1, a1, a2, a3⟩ := hQm v h2 hq
      refine ⟨r, rfl, k r bk2 h2 (hO1.tr (by decide) a1) a2 ?_⟩
      rcases r1 with rfl | rfl
      · exact Or.inl rfl
      · exact Or.inr ⟨rfl, a3 rfl⟩
    rcases hpc with rfl | rfl | rfl | rfl | rfl | rfl | rfl | rfl
    · refine j_cV (own := 12) (i := 190) (y2 := 223) (d2 := 1) (mc := 0) (ms := 0) (kc := 0) (ks := 0) (a := b + 0) (As := [.long x]) (st := st0) (dQ (by decide +kernel)) hcls (by decide +kernel) (by decide) (by decide +kernel) (show 1 = jnp 223 by decide +kernel) (by decide) hcat ho1 (fun r hr => by cases hr; decide +kernel) hcal (fun v h2 hq => ?_)
      obtain ⟨r, rfl, hJ⟩ := go v h2 hq
      exact hJ
    · refine j_cV (own := 12) (i := 190) (y2 := 223) (d2 := 1) (mc := 0) (ms := 0) (kc := 0) (ks := 0) (a := b + 0) (As := [.long x]) (st := st0) (dQ (by decide +kernel)) hcls (by decide +kernel) (by decide) (by decide +kernel) (show 1 = jnp 223 by decide +kernel) (by decide) hcat ho1 (fun r hr => by cases hr; decide +kernel) hcal (fun v h2 hq => ?_)
      obtain ⟨r, rfl, hJ⟩ := go v h2 hq
      exact hJ
    · refine j_cV (own := 12) (i := 190) (y2 := 223) (d2 := 1) (mc := 0) (ms := 0) (kc := 0) (ks := 0) (a := b + 0) (As := [.long x]) (st := st0) (dQ (by decide +kernel)) hcls (by decide +kernel) (by decide) (by decide +kernel) (show 1 = jnp 223 by decide +kernel) (by decide) hcat ho1 (fun r hr => by cases hr; decide +kernel) hcal (fun v h2 hq => ?_)
      obtain ⟨r, rfl, hJ⟩ := go v h2 hq
      exact hJ
    · refine j_cV (own := 12) (i := 190) (y2 := 223) (d2 := 1) (mc := 0) (ms := 0) (kc := 0) (ks := 0) (a := b + 0) (As := [.long x]) (st := st0) (dQ (by decide +kernel)) hcls (by decide +kernel) (by decide) (by decide +kernel) (show 1 = jnp 223 by decide +kernel) (by decide) hcat ho1 (fun r hr => by cases hr; decide +kernel) hcal (fun v h2 hq => ?_)
      obtain ⟨r, rfl, hJ⟩ := go v h2 hq
      exact hJ
    · refine j_cV (own := 12) (i := 190) (y2 := 223) (d2 := 1) (mc := 0) (ms := 0) (kc := 0) (ks := 0) (a := b + 0) (As := [.long x]) (st := st0) (dQ (by decide +kernel)) hcls (by decide +kernel) (by decide) (by decide +kernel) (show 1 = jnp 223 by decide +kernel) (by decide) hcat ho1 (fun r hr => by cases hr; decide +kernel) hcal (fun v h2 hq => ?_)
      obtain ⟨r, rfl, hJ⟩ := go v h2 hq
      exact hJ
    · refine j_cV (own := 12) (i := 190) (y2 := 223) (d2 := 1) (mc := 0) (ms := 0) (kc := 0) (ks := 0) (a := b + 0) (As := [.long x]) (st := st0) (dQ (by decide +kernel)) hcls (by decide +kernel) (by decide) (by decide +kernel) (show 1 = jnp 223 by decide +kernel) (by decide) hcat ho1 (fun r hr => by cases hr; decide +kernel) hcal (fun v h2 hq => ?_)
      obtain ⟨r, rfl, hJ⟩ := go v h2 hq
      exact hJ
    · refine j_cV (own := 12) (i := 190) (y2 := 223) (d2 := 1) (mc := 0) (ms := 0) (kc := 0) (ks := 0) (a := b + 0) (As := [.long x]) (st := st0) (dQ (by decide +kernel)) hcls (by decide +kernel) (by decide) (by decide +kernel) (show 1 = jnp 223 by decide +kernel) (by decide) hcat ho1 (fun r hr => by cases hr; decide +kernel) hcal (fun v h2 hq => ?_)
      obtain ⟨r, rfl, hJ⟩ := go v h2 hq
      exact hJ
    · refine j_cV (own := 12) (i := 190) (y2 := 223) (d2 := 1) (mc := 0) (ms := 0) (kc := 0) (ks := 0) (a := b + 0) (As := [.long x]) (st := st0) (dQ (by decide +kernel)) hcls (by decide +kernel) (by decide) (by decide +kernel) (show 1 = jnp 223 by decide +kernel) (by decide) hcat ho1 (fun r hr => by cases hr; decide +kernel) hcal (fun v h2 hq => ?_)
      obtain ⟨r, rfl, hJ⟩ := go v h2 hq
      exact hJ
  have ms : ∀ (x : Int32) (pc : Nat) (al : List (Option Value)) (st : List Value) (bk1 : aB) (h1 : jH) (F1 G1 s1 be1 q1 : Nat) (N1 : Nat → Int32), (pc = 37 ∨ pc = 109 ∨ pc = 136 ∨ pc = 188) → st = [.int x, .ref (g.2.2 + (b + 0))] → (x = 0 ∨ x = 1) → hOK TTs g (EIm n) pW bk h bk1 h1 → pS h1 b T F1 G1 s1 be1 q1 c m w N1 O A P → pL T F1 G1 s1 → be1 ≤ 1 → (∀ (bk2 : aB) (h2 : jH) (F2 G2 s2 be2 : Nat), hOK TTs g (EIm n) pW bk h bk2 h2 → pS h2 b T F2 G2 s2 be2 q1 c m w N1 O A P → pL T F2 G2 s2 → F1 ≤ F2 → be1 ≤ be2 → be2 ≤ 1 → (be2 = 0 → x = 1 ∧ G1 ≤ F2) → J l g 222 8 (pc + 3) al [] h2 0 0 (fun v h' => v = none ∧ ∃ bk' F' G' s' be' q' c' m' w' N' O' A' P', hOK TTs g (EIm n) pW bk h bk' h' ∧ pS h' b T F' G' s' be' q' c' m' w' N' O' A' P' ∧ pL T F' G' s' ∧ F ≤ F' ∧ be' ≤ 1 ∧ (be' = 0 → F < F') ∧ c' ≤ F' ∧ q' ≤ 16 ∧ (be' = 0 → clOK N' O' A' q' c'))) → J l g 222 8 pc al st h1 0 0 (fun v h' => v = none ∧ ∃ bk' F' G' s' be' q' c' m' w' N' O' A' P', hOK TTs g (EIm n) pW bk h bk' h' ∧ pS h' b T F' G' s' be' q' c' m' w' N' O' A' P' ∧ pL T F' G' s' ∧ F ≤ F' ∧ be' ≤ 1 ∧ (be' = 0 → F < F') ∧ c' ≤ F' ∧ q' ≤ 16 ∧ (be' = 0 → clOK N' O' A' q' c')) := by
    intro x pc al st bk1 h1 F1 G1 s1 be1 q1 N1 hpc hst hx hO1 hS1 hL1 hb1e k
    subst hst
    have hb1 := hO1.2.2.2.2.1 1 b hb
    obtain ⟨fs1, ho1, hf1⟩ := hS1.get
    obtain ⟨Qm, hcal, hQm⟩ := must_run hlow hO1 hb1 hS1 hL1 hb1e (x := x) (by rcases hx with rfl | rfl <;> decide)
    have go : ∀ v h2, Qm v h2 → v = none ∧ J l g 222 8 (pc + 3) al [] h2 0 0 (fun v h' => v = none ∧ ∃ bk' F' G' s' be' q' c' m' w' N' O' A' P', hOK TTs g (EIm n) pW bk h bk' h' ∧ pS h' b T F' G' s' be' q' c' m' w' N' O' A' P' ∧ pL T F' G' s' ∧ F ≤ F' ∧ be' ≤ 1 ∧ (be' = 0 → F < F') ∧ c' ≤ F' ∧ q' ≤ 16 ∧ (be' = 0 → clOK N' O' A' q' c')) := fun v h2 hq => by
      obtain ⟨rfl, bk2, F2, G2, s2, be2, e1, e2, e3, e4, e5, e6, e7⟩ := hQm v h2 hq
      refine ⟨rfl, k bk2 h2 F2 G2 s2 be2 (hO1.tr (by decide) e1) e2 e3 e4 e5 e6 (fun e => ⟨?_, (e7 e).2⟩)⟩
      rcases hx with rfl | rfl
      · exact absurd (e7 e).1 (by decide)
      · rfl
    rcases hpc with rfl | rfl | rfl | rfl
    · refine j_cV (own := 12) (i := 171) (y2 := 224) (d2 := 3) (mc := 0) (ms := 0) (kc := 0) (ks := 0) (a := b + 0) (As := [.int x]) (st := []) (dQ (by decide +kernel)) hcls (by decide +kernel) (by decide) (by decide +kernel) (show 1 = jnp 224 by decide +kernel) (by decide) (by decide) ho1 (fun r hr => by cases hr; decide +kernel) hcal (fun v h2 hq => ?_)
      obtain ⟨rfl, hJ⟩ := go v h2 hq
      exact hJ
    · refine j_cV (own := 12) (i := 171) (y2 := 224) (d2 := 3) (mc := 0) (ms := 0) (kc := 0) (ks := 0) (a := b + 0) (As := [.int x]) (st := []) (dQ (by decide +kernel)) hcls (by decide +kernel) (by decide) (by decide +kernel) (show 1 = jnp 224 by decide +kernel) (by decide) (by decide) ho1 (fun r hr => by cases hr; decide +kernel) hcal (fun v h2 hq => ?_)
      obtain ⟨rfl, hJ⟩ := go v h2 hq
      exact hJ
    · refine j_cV (own := 12) (i := 171) (y2 := 224) (d2 := 3) (mc := 0) (ms := 0) (kc := 0) (ks := 0) (a := b + 0) (As := [.int x]) (st := []) (dQ (by decide +kernel)) hcls (by decide +kernel) (by decide) (by decide +kernel) (show 1 = jnp 224 by decide +kernel) (by decide) (by decide) ho1 (fun r hr => by cases hr; decide +kernel) hcal (fun v h2 hq => ?_)
      obtain ⟨rfl, hJ⟩ := go v h2 hq
      exact hJ
    · refine j_cV (own := 12) (i := 171) (y2 := 224) (d2 := 3) (mc := 0) (ms := 0) (kc := 0) (ks := 0) (a := b + 0) (As := [.int x]) (st := []) (dQ (by decide +kernel)) hcls (by decide +kernel) (by decide) (by decide +kernel) (show 1 = jnp 224 by decide +kernel) (by decide) (by decide) ho1 (fun r hr => by cases hr; decide +kernel) hcal (fun v h2 hq => ?_)
      obtain ⟨rfl, hJ⟩ := go v h2 hq
      exact hJ
  have at219 : ∀ (r : Int32) (bk1 : aB) (h1 : jH) (F1 G1 s1 be1 : Nat) (N1 : Nat → Int32), q < 16 → hOK TTs g (EIm n) pW bk h bk1 h1 → pS h1 b T F1 G1 s1 be1 (q + 1) c m w N1 O A P → pL T F1 G1 s1 → F < F1 → be1 ≤ 1 → (∀ i, i < 8 * q → N1 i = N i) → (be1 = 0 → clF c N1 q 5) → J l g 222 8 219 [some (.ref (g.2.2 + (b + 0))), some (.int r), some (iN (8 * q))] [] h1 0 0 (fun v h' => v = none ∧ ∃ bk' F' G' s' be' q' c' m' w' N' O' A' P', hOK TTs g (EIm n) pW bk h bk' h' ∧ pS h' b T F' G' s' be' q' c' m' w' N' O' A' P' ∧ pL T F' G' s' ∧ F ≤ F' ∧ be' ≤ 1 ∧ (be' = 0 → F < F') ∧ c' ≤ F' ∧ q' ≤ 16 ∧ (be' = 0 → clOK N' O' A' q' c')) := by
    intro r bk1 h1 F1 G1 s1 be1 N1 hq hO1 hS1 hL1 hF1 hb1e hN1 hK
    have hq0 := hq
    have hb1 := hO1.2.2.2.2.1 1 b hb
    obtain ⟨fs1, ho1, g6, g7, g8, g9, g12, g13, g15, g20, g21⟩ := hS1.get
    refine j_aload_n (k4 := 0) (dQ (by decide +kernel)) rfl ?_
    refine j_get (own := 12) (i := 135) (ci := 12) (f := 12) (dQ (by decide +kernel)) hcls (by decide +kernel) ho1 (n12 12 (by decide)) g12 ?_
    refine j_if_ne (off := 21) (tgt := 244) (dQ (by decide +kernel)) (by decide) (fun z => ?_) (fun z => ?_)
    · have e : be1 = 1 := be01 hb1e z
      exact at244 r bk1 h1 F1 G1 s1 be1 c m w N1 O A P hq hO1 hS1 hL1 hF1 hb1e hN1 hK (by omega) (Nat.le_refl _) (fun _ _ => ⟨rfl, rfl⟩) (fun e2 => by omega)
    · have e : be1 = 0 := (bad_t hb1e).mp (Classical.not_not.mp z)
      subst e
      refine j_aload_n (k4 := 0) (dQ (by decide +kernel)) rfl ?_
      refine j_ldc2 (own := 12) (i := 247) (v := 294) hcls (by decide +kernel) (by decide +kernel) ?_
      refine wd _ 230 _ _ [] bk1 h1 F1 G1 s1 0 (q + 1) N1 (by decide) rfl (by decide) hO1 hS1 hL1.2.2.2.2 (fun r2 bk2 h2 hO2 hS2 hr => ?_)
      rcases hr with rfl | ⟨rfl, hs1⟩
      · refine j_if_eq (off := 11) (tgt := 244) (dQ (by decide +kernel)) (by decide) (fun _ => ?_) (fun e => absurd rfl e)
        exact at244 r bk2 h2 F1 G1 s1 0 c m w N1 O A P hq hO2 hS2 hL1 hF1 (by decide) hN1 hK (by omega) (Nat.le_refl _) (fun _ _ => ⟨rfl, rfl⟩) (fun _ => ⟨0, by rw [Nat.sub_self]; rfl⟩)
      · refine j_if_eq (off := 11) (tgt := 244) (dQ (by decide +kernel)) (by decide) (fun e => absurd e (by decide)) (fun _ => ?_)
        have hb2 := hO2.2.2.2.2.1 1 b hb
        obtain ⟨fs2, ho2, hf2⟩ := hS2.get
        obtain ⟨Qn, hcn, hQn⟩ := next_run hlow hO2 hb2 hS2 hL1
        refine j_aload_n (k4 := 0) (dQ (by decide +kernel)) rfl ?_
        refine j_cV (own := 12) (i := 139) (y2 := 219) (d2 := 2) (mc := 0) (ms := 0) (kc := 0) (ks := 0) (a := b + 0) (As := []) (st := []) (dQ (by decide +kernel)) hcls (by decide +kernel) (by decide) (by decide +kernel) (show 0 = jnp 219 by decide +kernel) (by decide) (by decide) ho2 (fun r hr => by cases hr; decide +kernel) hcn (fun v h3 hq => ?_)
        obtain ⟨rfl, bk3, F3, G3, s3, e1, e2, e3, e4⟩ := hQn v h3 hq
        have hb3 := e1.2.2.2.2.1 1 b hb2
        obtain ⟨fs3, ho3, hf3⟩ := e2.get
        have hO3 := hO2.tr (W' := muW) (by decide) e1
        have hFF := hL1.1
        refine j_aload_n (k4 := 0) (dQ (by decide +kernel)) rfl ?_
        refine j_cV (own := 12) (i := 249) (y2 := 226) (d2 := 7) (mc := 0) (ms := 0) (kc := 0) (ks := 0) (a := b + 0) (As := []) (st := []) (dQ (by decide +kernel)) hcls (by decide +kernel) (by decide) (by decide +kernel) (show 0 = jnp 226 by decide +kernel) (by decide) (by decide) ho3 (fun r hr => by cases hr; decide +kernel) (test_run hlow e1 hb3 e2 e3 rfl (by omega)) (fun v h5 hq => ?_)
        obtain ⟨rfl, bk5, F5, G5, s5, be5, c5, m5, w5, O5, A5, P5, p1, p2, p3, p4, p5, p6, p7, p8, p9⟩ := hq
        exact at244 r bk5 h5 F5 G5 s5 be5 c5 m5 w5 N1 O5 A5 P5 hq0 (hO3.tr (by decide) p1) p2 p3 (by omega) p5 hN1 (fun _ => hK rfl) p6 p7 p8 (fun e => ⟨1, p9 e⟩)
  have at207 : ∀ (r : Int32) (bk1 : aB) (h1 : jH) (F1 G1 s1 be1 : Nat) (N1 : Nat → Int32), q < 16 → hOK TTs g (EIm n) pW bk h bk1 h1 → pS h1 b T F1 G1 s1 be1 (q + 1) c m w N1 O A P → pL T F1 G1 s1 → F < F1 → be1 ≤ 1 → (∀ i, i < 8 * q → N1 i = N i) → (be1 = 0 → clF c N1 q 4) → J l g 222 8 207 [some (.ref (g.2.2 + (b + 0))), some (.int r), some (iN (8 * q))] [] h1 0 0 (fun v h' => v = none ∧ ∃ bk' F' G' s' be' q' c' m' w' N' O' A' P', hOK TTs g (EIm n) pW bk h bk' h' ∧ pS h' b T F' G' s' be' q' c' m' w' N' O' A' P' ∧ pL T F' G' s' ∧ F ≤ F' ∧ be' ≤ 1 ∧ (be' = 0 → F < F') ∧ c' ≤ F' ∧ q' ≤ 16 ∧ (be' = 0 → clOK N' O' A' q' c')) := by
    intro r bk1 h1 F1 G1 s1 be1 N1 hq hO1 hS1 hL1 hF1 hb1e hN1 hK
    have hb1 := hO1.2.2.2.2.1 1 b hb
    obtain ⟨fs1, ho1, g6, g7, g8, g9, g12, g13, g15, g20, g21⟩ := hS1.get
    have hLt := hL1.1
    have hLt2 := hL1.2.1
    have hLt3 := hL1.2.2.1
    have h8 := ix 5 hq (by decide)
    refine j_aload_n (k4 := 0) (dQ (by decide +kernel)) rfl ?_
    refine j_get (own := 12) (i := 27) (ci := 12) (f := 14) (dQ (by decide +kernel)) hcls (by decide +kernel) ho1 (n12 14 (by decide)) (m_ref hO1.1 hb1 ho1 rfl) ?_
    refine j_iload_n (k4 := 2) (dQ (by decide +kernel)) rfl ?_
    refine j_iconst (n := 5) (dQ (by decide +kernel)) ?_
    refine j_iadd (dQ (by decide +kernel)) ?_
    refine j_aload_n (k4 := 0) (dQ (by decide +kernel)) rfl ?_
    refine j_get (own := 12) (i := 175) (ci := 12) (f := 15) (dQ (by decide +kernel)) hcls (by decide +kernel) ho1 (n12 15 (by decide)) g15 ?_
    refine j_iast (dQ (by decide +kernel)) hS1.2.1 (i32_in (show 0 ≤ (Int32.ofInt ((8 * q : Nat) : Int) + Int32.ofInt ((5 : Nat) : Int)).toInt by rw [h8]; omega) (show (Int32.ofInt ((8 * q : Nat) : Int) + Int32.ofInt ((5 : Nat) : Int)).toInt < _ by rw [h8]; omega)) ?_
    rw [show (Int32.ofInt ((8 * q : Nat) : Int) + Int32.ofInt 5).toNatClampNeg = 8 * q + 5 from i32_at h8]
    have hO2 := hO1.st (i := 8 * q + 5) (v := Int32.ofInt (c : Int)) (lo := 0) (hi := 127) hb1 ty_m5 hS1.2.1 (sg1 ⟨i32_lo _, i32_hi _⟩) (by decide) (by omega) (by omega) (by decide)
    have hS2 := hS1.setN (X := upd N1 (8 * q + 5) (Int32.ofInt (c : Int)))
    refine at219 r bk1 _ F1 G1 s1 be1 _ hq hO2 hS2 hL1 hF1 hb1e (fun i hi => ?_) (fun e => ?_)
    · rw [show upd N1 (8 * q + 5) (Int32.ofInt (c : Int)) i = N1 i from if_neg (by omega)]; exact hN1 i hi
    · exact (hK e).up (j := 4) (by decide) (by omega) (by omega) (by omega) (by omega) (fun _ => i32_n (by omega))
  have at191 : ∀ (r : Int32) (bk1 : aB) (h1 : jH) (F1 G1 s1 be1 : Nat) (N1 : Nat → Int32), q < 16 → hOK TTs g (EIm n) pW bk h bk1 h1 → pS h1 b T F1 G1 s1 be1 (q + 1) c m w N1 O A P → pL T F1 G1 s1 → F < F1 → be1 ≤ 1 → (∀ i, i < 8 * q → N1 i = N i) → (be1 = 0 → clF c N1 q 3) → J l g 222 8 191 [some (.ref (g.2.2 + (b + 0))), some (.int r), some (iN (8 * q))] [] h1 0 0 (fun v h' => v = none ∧ ∃ bk' F' G' s' be' q' c' m' w' N' O' A' P', hOK TTs g (EIm n) pW bk h bk' h' ∧ pS h' b T F' G' s' be' q' c' m' w' N' O' A' P' ∧ pL T F' G' s' ∧ F ≤ F' ∧ be' ≤ 1 ∧ (be' = 0 → F < F') ∧ c' ≤ F' ∧ q' ≤ 16 ∧ (be' = 0 → clOK N' O' A' q' c')) := by
    intro r bk1 h1 F1 G1 s1 be1 N1 hq hO1 hS1 hL1 hF1 hb1e hN1 hK
    have hq0 := hq
    have hb1 := hO1.2.2.2.2.1 1 b hb
    obtain ⟨fs1, ho1, g6, g7, g8, g9, g12, g13, g15, g20, g21⟩ := hS1.get
    have h8 := ix 4 hq (by decide)
    refine j_aload_n (k4 := 0) (dQ (by decide +kernel)) rfl ?_
    refine j_get (own := 12) (i := 27) (ci := 12) (f := 14) (dQ (by decide +kernel)) hcls (by decide +kernel) ho1 (n12 14 (by decide)) (m_ref hO1.1 hb1 ho1 rfl) ?_
    refine j_iload_n (k4 := 2) (dQ (by decide +kernel)) rfl ?_
    refine j_iconst (n := 4) (dQ (by decide +kernel)) ?_
    refine j_iadd (dQ (by decide +kernel)) ?_
    refine j_aload_n (k4 := 0) (dQ (by decide +kernel)) rfl ?_
    refine j_lconst (n := 0) (dQ (by decide +kernel)) ?_
    refine j_ldc2 (own := 12) (i := 110) (v := 15) hcls (by decide +kernel) (by decide +kernel) ?_
    refine j_cV (own := 12) (i := 203) (y2 := 225) (d2 := 4) (mc := 0) (ms := 0) (kc := 0) (ks := 0) (a := b + 0) (As := [.long (Int64.ofNat 0), .long 15]) (st := [.int (Int32.ofInt ((8 * q : Nat) : Int) + Int32.ofInt 4), .ref (g.2.2 + (b + 5))]) (dQ (by decide +kernel)) hcls (by decide +kernel) (by decide) (by decide +kernel) (show 2 = jnp 225 by decide +kernel) (by decide) (by show (1 + (1 + 0) : Nat) ≤ 8; decide) ho1 (fun r hr => by cases hr; decide +kernel) (number_run hlow hO1 hb1 hS1 hL1 hb1e (lo := Int64.ofNat 0) (hi := 15) (by decide) (by decide)) (fun v h2 hq => ?_)
    obtain ⟨x, rfl, bk2, F2, G2, s2, be2, a1, a2, a3, a4, a5, a6, a7⟩ := hq
    have hb2 := a1.2.2.2.2.1 1 b hb1
    have hO2 := hO1.tr (W' := muW) (by decide) a1
    refine j_iast (dQ (by decide +kernel)) a2.2.1 (i32_in (show 0 ≤ (Int32.ofInt ((8 * q : Nat) : Int) + Int32.ofInt ((4 : Nat) : Int)).toInt by rw [h8]; omega) (show (Int32.ofInt ((8 * q : Nat) : Int) + Int32.ofInt ((4 : Nat) : Int)).toInt < _ by rw [h8]; omega)) ?_
    rw [show (Int32.ofInt ((8 * q : Nat) : Int) + Int32.ofInt 4).toNatClampNeg = 8 * q + 4 from i32_at h8]
    have hO3 := hO2.st (i := 8 * q + 4) (v := x) (lo := 0) (hi := 127) hb2 ty_m5 a2.2.1 (sg1 ⟨i32_lo _, i32_hi _⟩) (by decide) (by omega) (by omega) (by decide)
    have hS3 := a2.setN (X := upd N1 (8 * q + 4) x)
    refine at207 r bk2 _ F2 G2 s2 be2 _ hq0 hO3 hS3 a3 (by omega) a6 (fun i hi => ?_) (fun e => ?_)
    · rw [show upd N1 (8 * q + 4) x i = N1 i from if_neg (by omega)]; exact hN1 i hi
    · have e7 := a7 e
      have e71 : 0 ≤ x.toInt := e7.1
      have e72 : x.toInt ≤ 15 := e7.2.1
      exact (hK (by omega)).up (j := 3) (by decide) (by omega) (by omega) (by omega) (by omega) (by omega)
  have at162 : ∀ (r : Int32) (bk1 : aB) (h1 : jH) (F1 G1 s1 be1 : Nat) (N1 : Nat → Int32), q < 16 → hOK TTs g (EIm n) pW bk h bk1 h1 → pS h1 b T F1 G1 s1 be1 (q + 1) c m w N1 O A P → pL T F1 G1 s1 → F < F1 → be1 ≤ 1 → (∀ i, i < 8 * q → N1 i = N i) → (be1 = 0 → clF c N1 q 3) → J l g 222 8 162 [some (.ref (g.2.2 + (b + 0))), some (.int r), some (iN (8 * q))] [] h1 0 0 (fun v h' => v = none ∧ ∃ bk' F' G' s' be' q' c' m' w' N' O' A' P', hOK TTs g (EIm n) pW bk h bk' h' ∧ pS h' b T F' G' s' be' q' c' m' w' N' O' A' P' ∧ pL T F' G' s' ∧ F ≤ F' ∧ be' ≤ 1 ∧ (be' = 0 → F < F') ∧ c' ≤ F' ∧ q' ≤ 16 ∧ (be' = 0 → clOK N' O' A' q' c')) := by
    intro r bk1 h1 F1 G1 s1 be1 N1 hq hO1 hS1 hL1 hF1 hb1e hN1 hK
    have at188 : ∀ (x : Int32) (bk2 : aB) (h2 : jH), (x = 0 ∨ x = 1) → hOK TTs g (EIm n) pW bk h bk2 h2 → pS h2 b T F1 G1 s1 be1 (q + 1) c m w N1 O A P → J l g 222 8 188 [some (.ref (g.2.2 + (b + 0))), some (.int r), some (iN (8 * q))] [.int x, .ref (g.2.2 + (b + 0))] h2 0 0 (fun v h' => v = none ∧ ∃ bk' F' G' s' be' q' c' m' w' N' O' A' P', hOK TTs g (EIm n) pW bk h bk' h' ∧ pS h' b T F' G' s' be' q' c' m' w' N' O' A' P' ∧ pL T F' G' s' ∧ F ≤ F' ∧ be' ≤ 1 ∧ (be' = 0 → F < F') ∧ c' ≤ F' ∧ q' ≤ 16 ∧ (be' = 0 → clOK N' O' A' q' c')) := by
      intro x bk2 h2 hx hO2 hS2
      refine ms x 188 _ _ bk2 h2 F1 G1 s1 be1 (q + 1) N1 (by decide) rfl hx hO2 hS2 hL1 hb1e (fun bk3 h3 F3 G3 s3 be3 e1 e2 e3 e4 e5 e6 e7 => ?_)
      exact at191 r bk3 h3 F3 G3 s3 be3 N1 hq e1 e2 e3 (by omega) e6 hN1 (fun e => hK (by omega))
    refine j_aload_n (k4 := 0) (dQ (by decide +kernel)) rfl ?_
    refine j_aload_n (k4 := 0) (dQ (by decide +kernel)) rfl ?_
    refine j_ldc2 (own := 12) (i := 243) (v := 150000) hcls (by decide +kernel) (by decide +kernel) ?_
    refine wd _ 167 _ _ [.ref (g.2.2 + (b + 0))] bk1 h1 F1 G1 s1 be1 (q + 1) N1 (by decide) rfl (by show (1 + 0 : Nat) ≤ 8; decide) hO1 hS1 hL1.2.2.2.2 (fun r2 bk2 h2 hO2 hS2 hr => ?_)
    rcases hr with rfl | ⟨rfl, hs1⟩
    · refine j_if_ne (off := 13) (tgt := 183) (dQ (by decide +kernel)) (by decide) (fun e => absurd rfl e) (fun _ => ?_)
      refine j_aload_n (k4 := 0) (dQ (by decide +kernel)) rfl ?_
      refine j_ldc2 (own := 12) (i := 245) (v := 533611) hcls (by decide +kernel) (by decide +kernel) ?_
      refine wd _ 177 _ _ [.ref (g.2.2 + (b + 0))] bk2 h2 F1 G1 s1 be1 (q + 1) N1 (by decide) rfl (by show (1 + 0 : Nat) ≤ 8; decide) hO2 hS2 hL1.2.2.2.2 (fun r2 bk3 h3 hO3 hS3 hr => ?_)
      rcases hr with rfl | ⟨rfl, hs1⟩
      · refine j_if_eq (off := 7) (tgt := 187) (dQ (by decide +kernel)) (by decide) (fun _ => ?_) (fun e => absurd rfl e)
        refine j_iconst (n := 0) (dQ (by decide +kernel)) ?_
        exact at188 0 bk3 h3 (Or.inl rfl) hO3 hS3
      · refine j_if_eq (off := 7) (tgt := 187) (dQ (by decide +kernel)) (by decide) (fun e => absurd e (by decide)) (fun _ => ?_)
        refine j_iconst (n := 1) (dQ (by decide +kernel)) ?_
        refine j_goto (off := 4) (tgt := 188) (dQ (by decide +kernel)) (by decide) ?_
        exact at188 1 bk3 h3 (Or.inr rfl) hO3 hS3
    · refine j_if_ne (off := 13) (tgt := 183) (dQ (by decide +kernel)) (by decide) (fun _ => ?_) (fun e => absurd (Classical.not_not.mp e) (by decide))
      refine j_iconst (n := 1) (dQ (by decide +kernel)) ?_
      refine j_goto (off := 4) (tgt := 188) (dQ (by decide +kernel)) (by decide) ?_
      exact at188 1 bk2 h2 (Or.inr rfl) hO2 hS2
  have at139 : ∀ (r : Int32) (bk1 : aB) (h1 : jH) (F1 G1 s1 be1 : Nat) (N1 : Nat → Int32), q < 16 → hOK TTs g (EIm n) pW bk h bk1 h1 → pS h1 b T F1 G1 s1 be1 (q + 1) c m w N1 O A P → pL T F1 G1 s1 → F < F1 → be1 ≤ 1 → (∀ i, i < 8 * q → N1 i = N i) → (be1 = 0 → clF c N1 q 2) → J l g 222 8 139 [some (.ref (g.2.2 + (b + 0))), some (.int r), some (iN (8 * q))] [] h1 0 0 (fun v h' => v = none ∧ ∃ bk' F' G' s' be' q' c' m' w' N' O' A' P', hOK TTs g (EIm n) pW bk h bk' h' ∧ pS h' b T F' G' s' be' q' c' m' w' N' O' A' P' ∧ pL T F' G' s' ∧ F ≤ F' ∧ be' ≤ 1 ∧ (be' = 0 → F < F') ∧ c' ≤ F' ∧ q' ≤ 16 ∧ (be' = 0 → clOK N' O' A' q' c')) := by
    intro r bk1 h1 F1 G1 s1 be1 N1 hq hO1 hS1 hL1 hF1 hb1e hN1 hK
    have hb1 := hO1.2.2.2.2.1 1 b hb
    obtain ⟨fs1, ho1, hf1⟩ := hS1.get
    have h8 := ix 3 hq (by decide)
    have at161 : ∀ (x : Int32) (bk2 : aB) (h2 : jH), (x = Int32.ofInt 0 ∨ x = Int32.ofInt 1) → hOK TTs g (EIm n) pW bk h bk2 h2 → pS h2 b T F1 G1 s1 be1 (q + 1) c m w N1 O A P → J l g 222 8 161 [some (.ref (g.2.2 + (b + 0))), some (.int r), some (iN (8 * q))] [.int x, .int (Int32.ofInt ((8 * q : Nat) : Int) + Int32.ofInt 3), .ref (g.2.2 + (b + 5))] h2 0 0 (fun v h' => v = none ∧ ∃ bk' F' G' s' be' q' c' m' w' N' O' A' P', hOK TTs g (EIm n) pW bk h bk' h' ∧ pS h' b T F' G' s' be' q' c' m' w' N' O' A' P' ∧ pL T F' G' s' ∧ F ≤ F' ∧ be' ≤ 1 ∧ (be' = 0 → F < F') ∧ c' ≤ F' ∧ q' ≤ 16 ∧ (be' = 0 → clOK N' O' A' q' c')) := by
      intro x bk2 h2 hx hO2 hS2
      have hb2 := hO2.2.2.2.2.1 1 b hb
      refine j_iast (dQ (by decide +kernel)) hS2.2.1 (i32_in (show 0 ≤ (Int32.ofInt ((8 * q : Nat) : Int) + Int32.ofInt ((3 : Nat) : Int)).toInt by rw [h8]; omega) (show (Int32.ofInt ((8 * q : Nat) : Int) + Int32.ofInt ((3 : Nat) : Int)).toInt < _ by rw [h8]; omega)) ?_
      rw [show (Int32.ofInt ((8 * q : Nat) : Int) + Int32.ofInt 3).toNatClampNeg = 8 * q + 3 from i32_at h8]
      have hO3 := hO2.st (i := 8 * q + 3) (v := x) (lo := 0) (hi := 127) hb2 ty_m5 hS2.2.1 (sg1 ⟨i32_lo _, i32_hi _⟩) (by decide) (by omega) (by omega) (by decide)
      have hS3 := hS2.setN (X := upd N1 (8 * q + 3) x)
      refine at162 r bk2 _ F1 G1 s1 be1 _ hq hO3 hS3 hL1 hF1 hb1e (fun i hi => ?_) (fun e => ?_)
      · rw [show upd N1 (8 * q + 3) x i = N1 i from if_neg (by omega)]; exact hN1 i hi
      · exact (hK e).up (j := 2) (by decide) (by omega) (by omega) (fun _ => by rcases hx with rfl | rfl <;> decide) (by omega) (by omega)
    refine j_aload_n (k4 := 0) (dQ (by decide +kernel)) rfl ?_
    refine j_get (own := 12) (i := 27) (ci := 12) (f := 14) (dQ (by decide +kernel)) hcls (by decide +kernel) ho1 (n12 14 (by decide)) (m_ref hO1.1 hb1 ho1 rfl) ?_
    refine j_iload_n (k4 := 2) (dQ (by decide +kernel)) rfl ?_
    refine j_iconst (n := 3) (dQ (by decide +kernel)) ?_
    refine j_iadd (dQ (by decide +kernel)) ?_
    refine j_aload_n (k4 := 0) (dQ (by decide +kernel)) rfl ?_
    refine j_ldc2 (own := 12) (i := 243) (v := 150000) hcls (by decide +kernel) (by decide +kernel) ?_
    refine wd _ 150 _ _ [.int (Int32.ofInt ((8 * q : Nat) : Int) + Int32.ofInt 3), .ref (g.2.2 + (b + 5))] bk1 h1 F1 G1 s1 be1 (q + 1) N1 (by decide) rfl (by show (1 + (1 + 0) : Nat) ≤ 8; decide) hO1 hS1 hL1.2.2.2.2 (fun r2 bk2 h2 hO2 hS2 hr => ?_)
    rcases hr with rfl | ⟨rfl, hs1⟩
    · refine j_if_eq (off := 7) (tgt := 160) (dQ (by decide +kernel)) (by decide) (fun _ => ?_) (fun e => absurd rfl e)
      refine j_iconst (n := 0) (dQ (by decide +kernel)) ?_
      exact at161 _ bk2 h2 (Or.inl rfl) hO2 hS2
    · refine j_if_eq (off := 7) (tgt := 160) (dQ (by decide +kernel)) (by decide) (fun e => absurd e (by decide)) (fun _ => ?_)
      refine j_iconst (n := 1) (dQ (by decide +kernel)) ?_
      refine j_goto (off := 4) (tgt := 161) (dQ (by decide +kernel)) (by decide) ?_
      exact at161 _ bk2 h2 (Or.inr rfl) hO2 hS2
  have at128 : ∀ (r : Int32) (bk1 : aB) (h1 : jH) (F1 G1 s1 be1 : Nat) (N1 : Nat → Int32), q < 16 → hOK TTs g (EIm n) pW bk h bk1 h1 → pS h1 b T F1 G1 s1 be1 (q + 1) c m w N1 O A P → pL T F1 G1 s1 → F < F1 → be1 ≤ 1 → (∀ i, i < 8 * q → N1 i = N i) → (be1 = 0 → clF c N1 q 2) → J l g 222 8 128 [some (.ref (g.2.2 + (b + 0))), some (.int r), some (iN (8 * q))] [] h1 0 0 (fun v h' => v = none ∧ ∃ bk' F' G' s' be' q' c' m' w' N' O' A' P', hOK TTs g (EIm n) pW bk h bk' h' ∧ pS h' b T F' G' s' be' q' c' m' w' N' O' A' P' ∧ pL T F' G' s' ∧ F ≤ F' ∧ be' ≤ 1 ∧ (be' = 0 → F < F') ∧ c' ≤ F' ∧ q' ≤ 16 ∧ (be' = 0 → clOK N' O' A' q' c')) := by
    intro r bk1 h1 F1 G1 s1 be1 N1 hq hO1 hS1 hL1 hF1 hb1e hN1 hK
    refine j_aload_n (k4 := 0) (dQ (by decide +kernel)) rfl ?_
    refine j_aload_n (k4 := 0) (dQ (by decide +kernel)) rfl ?_
    refine j_ldc2 (own := 12) (i := 241) (v := 52) hcls (by decide +kernel) (by decide +kernel) ?_
    refine wd _ 133 _ _ [.ref (g.2.2 + (b + 0))] bk1 h1 F1 G1 s1 be1 (q + 1) N1 (by decide) rfl (by show (1 + 0 : Nat) ≤ 8; decide) hO1 hS1 hL1.2.2.2.2 (fun r2 bk2 h2 hO2 hS2 hr => ?_)
    refine ms r2 136 _ _ bk2 h2 F1 G1 s1 be1 (q + 1) N1 (by decide) rfl (by rcases hr with e | ⟨e, -⟩; exact Or.inl e; exact Or.inr e) hO2 hS2 hL1 hb1e (fun bk3 h3 F3 G3 s3 be3 e1 e2 e3 e4 e5 e6 e7 => ?_)
    exact at139 r bk3 h3 F3 G3 s3 be3 N1 hq e1 e2 e3 (by omega) e6 hN1 (fun e => hK (by omega))
  have at112 : ∀ (r : Int32) (bk1 : aB) (h1 : jH) (F1 G1 s1 be1 : Nat) (N1 : Nat → Int32), q < 16 → hOK TTs g (EIm n) pW bk h bk1 h1 → pS h1 b T F1 G1 s1 be1 (q + 1) c m w N1 O A P → pL T F1 G1 s1 → F < F1 → be1 ≤ 1 → (∀ i, i < 8 * q → N1 i = N i) → (be1 = 0 → clF c N1 q 1) → J l g 222 8 112 [some (.ref (g.2.2 + (b + 0))), some (.int r), some (iN (8 * q))] [] h1 0 0 (fun v h' => v = none ∧ ∃ bk' F' G' s' be' q' c' m' w' N' O' A' P', hOK TTs g (EIm n) pW bk h bk' h' ∧ pS h' b T F' G' s' be' q' c' m' w' N' O' A' P' ∧ pL T F' G' s' ∧ F ≤ F' ∧ be' ≤ 1 ∧ (be' = 0 → F < F') ∧ c' ≤ F' ∧ q' ≤ 16 ∧ (be' = 0 → clOK N' O' A' q' c')) := by
    intro r bk1 h1 F1 G1 s1 be1 N1 hq hO1 hS1 hL1 hF1 hb1e hN1 hK
    have hq0 := hq
    have hb1 := hO1.2.2.2.2.1 1 b hb
    obtain ⟨fs1, ho1, g6, g7, g8, g9, g12, g13, g15, g20, g21⟩ := hS1.get
    have h8 := ix 2 hq (by decide)
    refine j_aload_n (k4 := 0) (dQ (by decide +kernel)) rfl ?_
    refine j_get (own := 12) (i := 27) (ci := 12) (f := 14) (dQ (by decide +kernel)) hcls (by decide +kernel) ho1 (n12 14 (by decide)) (m_ref hO1.1 hb1 ho1 rfl) ?_
    refine j_iload_n (k4 := 2) (dQ (by decide +kernel)) rfl ?_
    refine j_iconst (n := 2) (dQ (by decide +kernel)) ?_
    refine j_iadd (dQ (by decide +kernel)) ?_
    refine j_aload_n (k4 := 0) (dQ (by decide +kernel)) rfl ?_
    refine j_lconst (n := 0) (dQ (by decide +kernel)) ?_
    refine j_ldc2 (own := 12) (i := 108) (v := 11) hcls (by decide +kernel) (by decide +kernel) ?_
    refine j_cV (own := 12) (i := 203) (y2 := 225) (d2 := 4) (mc := 0) (ms := 0) (kc := 0) (ks := 0) (a := b + 0) (As := [.long (Int64.ofNat 0), .long 11]) (st := [.int (Int32.ofInt ((8 * q : Nat) : Int) + Int32.ofInt 2), .ref (g.2.2 + (b + 5))]) (dQ (by decide +kernel)) hcls (by decide +kernel) (by decide) (by decide +kernel) (show 2 = jnp 225 by decide +kernel) (by decide) (by show (1 + (1 + 0) : Nat) ≤ 8; decide) ho1 (fun r hr => by cases hr; decide +kernel) (number_run hlow hO1 hb1 hS1 hL1 hb1e (lo := Int64.ofNat 0) (hi := 11) (by decide) (by decide)) (fun v h2 hq => ?_)
    obtain ⟨x, rfl, bk2, F2, G2, s2, be2, a1, a2, a3, a4, a5, a6, a7⟩ := hq
    have hb2 := a1.2.2.2.2.1 1 b hb1
    have hO2 := hO1.tr (W' := muW) (by decide) a1
    refine j_iast (dQ (by decide +kernel)) a2.2.1 (i32_in (show 0 ≤ (Int32.ofInt ((8 * q : Nat) : Int) + Int32.ofInt ((2 : Nat) : Int)).toInt by rw [h8]; omega) (show (Int32.ofInt ((8 * q : Nat) : Int) + Int32.ofInt ((2 : Nat) : Int)).toInt < _ by rw [h8]; omega)) ?_
    rw [show (Int32.ofInt ((8 * q : Nat) : Int) + Int32.ofInt 2).toNatClampNeg = 8 * q + 2 from i32_at h8]
    have hO3 := hO2.st (i := 8 * q + 2) (v := x) (lo := 0) (hi := 127) hb2 ty_m5 a2.2.1 (sg1 ⟨i32_lo _, i32_hi _⟩) (by decide) (by omega) (by omega) (by decide)
    have hS3 := a2.setN (X := upd N1 (8 * q + 2) x)
    refine at128 r bk2 _ F2 G2 s2 be2 _ hq0 hO3 hS3 a3 (by omega) a6 (fun i hi => ?_) (fun e => ?_)
    · rw [show upd N1 (8 * q + 2) x i = N1 i from if_neg (by omega)]; exact hN1 i hi
    · have e7 := a7 e
      have e71 : 0 ≤ x.toInt := e7.1
      have e72 : x.toInt ≤ 11 := e7.2.1
      exact (hK (by omega)).up (j := 1) (by decide) (by omega) (by omega) (by omega) (by omega) (by omega)
  have at97 : ∀ (r : Int32) (bk1 : aB) (h1 : jH) (F1 G1 s1 be1 : Nat) (N1 : Nat → Int32), q < 16 → hOK TTs g (EIm n) pW bk h bk1 h1 → pS h1 b T F1 G1 s1 be1 (q + 1) c m w N1 O A P → pL T F1 G1 s1 → F < F1 → be1 ≤ 1 → (∀ i, i < 8 * q → N1 i = N i) → (be1 = 0 → clF c N1 q 1) → (r = 0 ∨ r = 1) → (r = 0 → (N1 (8 * q)).toInt = 1) → J l g 222 8 97 [some (.ref (g.2.2 + (b + 0))), some (.int r), some (iN (8 * q))] [] h1 0 0 (fun v h' => v = none ∧ ∃ bk' F' G' s' be' q' c' m' w' N' O' A' P', hOK TTs g (EIm n) pW bk h bk' h' ∧ pS h' b T F' G' s' be' q' c' m' w' N' O' A' P' ∧ pL T F' G' s' ∧ F ≤ F' ∧ be' ≤ 1 ∧ (be' = 0 → F < F') ∧ c' ≤ F' ∧ q' ≤ 16 ∧ (be' = 0 → clOK N' O' A' q' c')) := by
    intro r bk1 h1 F1 G1 s1 be1 N1 hq hO1 hS1 hL1 hF1 hb1e hN1 hK hr01 hr0
    refine j_iload_n (k4 := 1) (dQ (by decide +kernel)) rfl ?_
    rcases hr01 with rfl | rfl
    · refine j_if_eq (off := 30) (tgt := 128) (dQ (by decide +kernel)) (by decide) (fun _ => ?_) (fun e => absurd rfl e)
      exact at128 0 bk1 h1 F1 G1 s1 be1 N1 hq hO1 hS1 hL1 hF1 hb1e hN1 (fun e => (hK e).skip (hr0 rfl))
    · refine j_if_eq (off := 30) (tgt := 128) (dQ (by decide +kernel)) (by decide) (fun e => absurd e (by decide)) (fun _ => ?_)
      refine j_aload_n (k4 := 0) (dQ (by decide +kernel)) rfl ?_
      refine j_aload_n (k4 := 0) (dQ (by decide +kernel)) rfl ?_
      refine j_ldc2 (own := 12) (i := 239) (v := 655) hcls (by decide +kernel) (by decide +kernel) ?_
      refine wd _ 106 _ _ [.ref (g.2.2 + (b + 0))] bk1 h1 F1 G1 s1 be1 (q + 1) N1 (by decide) rfl (by show (1 + 0 : Nat) ≤ 8; decide) hO1 hS1 hL1.2.2.2.2 (fun r2 bk2 h2 hO2 hS2 hr => ?_)
      refine ms r2 109 _ _ bk2 h2 F1 G1 s1 be1 (q + 1) N1 (by decide) rfl (by rcases hr with e | ⟨e, -⟩; exact Or.inl e; exact Or.inr e) hO2 hS2 hL1 hb1e (fun bk3 h3 F3 G3 s3 be3 e1 e2 e3 e4 e5 e6 e7 => ?_)
      exact at112 1 bk3 h3 F3 G3 s3 be3 N1 hq e1 e2 e3 (by omega) e6 hN1 (fun e => hK (by omega))
  have at81 : ∀ (r : Int32) (bk1 : aB) (h1 : jH) (F1 G1 s1 be1 : Nat) (N1 : Nat → Int32), q < 16 → hOK TTs g (EIm n) pW bk h bk1 h1 → pS h1 b T F1 G1 s1 be1 (q + 1) c m w N1 O A P → pL T F1 G1 s1 → F < F1 → be1 ≤ 1 → (∀ i, i < 8 * q → N1 i = N i) → (be1 = 0 → clF c N1 q 0) → (r = 0 ∨ r = 1) → (r = 0 → (N1 (8 * q)).toInt = 1) → J l g 222 8 81 [some (.ref (g.2.2 + (b + 0))), some (.int r), some (iN (8 * q))] [] h1 0 0 (fun v h' => v = none ∧ ∃ bk' F' G' s' be' q' c' m' w' N' O' A' P', hOK TTs g (EIm n) pW bk h bk' h' ∧ pS h' b T F' G' s' be' q' c' m' w' N' O' A' P' ∧ pL T F' G' s' ∧ F ≤ F' ∧ be' ≤ 1 ∧ (be' = 0 → F < F') ∧ c' ≤ F' ∧ q' ≤ 16 ∧ (be' = 0 → clOK N' O' A' q' c')) := by
    intro r bk1 h1 F1 G1 s1 be1 N1 hq hO1 hS1 hL1 hF1 hb1e hN1 hK hr01 hr0
    have hq0 := hq
    have hb1 := hO1.2.2.2.2.1 1 b hb
    obtain ⟨fs1, ho1, g6, g7, g8, g9, g12, g13, g15, g20, g21⟩ := hS1.get
    have h8 := ix 1 hq (by decide)
    refine j_aload_n (k4 := 0) (dQ (by decide +kernel)) rfl ?_
    refine j_get (own := 12) (i := 27) (ci := 12) (f := 14) (dQ (by decide +kernel)) hcls (by decide +kernel) ho1 (n12 14 (by decide)) (m_ref hO1.1 hb1 ho1 rfl) ?_
    refine j_iload_n (k4 := 2) (dQ (by decide +kernel)) rfl ?_
    refine j_iconst (n := 1) (dQ (by decide +kernel)) ?_
    refine j_iadd (dQ (by decide +kernel)) ?_
    refine j_aload_n (k4 := 0) (dQ (by decide +kernel)) rfl ?_
    refine j_lconst (n := 0) (dQ (by decide +kernel)) ?_
    refine j_ldc2 (own := 12) (i := 108) (v := 11) hcls (by decide +kernel) (by decide +kernel) ?_
    refine j_cV (own := 12) (i := 203) (y2 := 225) (d2 := 4) (mc := 0) (ms := 0) (kc := 0) (ks := 0) (a := b + 0) (As := [.long (Int64.ofNat 0), .long 11]) (st := [.int (Int32.ofInt ((8 * q : Nat) : Int) + Int32.ofInt 1), .ref (g.2.2 + (b + 5))]) (dQ (by decide +kernel)) hcls (by decide +kernel) (by decide) (by decide +kernel) (show 2 = jnp 225 by decide +kernel) (by decide) (by show (1 + (1 + 0) : Nat) ≤ 8; decide) ho1 (fun r hr => by cases hr; decide +kernel) (number_run hlow hO1 hb1 hS1 hL1 hb1e (lo := Int64.ofNat 0) (hi := 11) (by decide) (by decide)) (fun v h2 hq => ?_)
    obtain ⟨x, rfl, bk2, F2, G2, s2, be2, a1, a2, a3, a4, a5, a6, a7⟩ := hq
    have hb2 := a1.2.2.2.2.1 1 b hb1
    have hO2 := hO1.tr (W' := muW) (by decide) a1
    refine j_iast (dQ (by decide +kernel)) a2.2.1 (i32_in (show 0 ≤ (Int32.ofInt ((8 * q : Nat) : Int) + Int32.ofInt ((1 : Nat) : Int)).toInt by rw [h8]; omega) (show (Int32.ofInt ((8 * q : Nat) : Int) + Int32.ofInt ((1 : Nat) : Int)).toInt < _ by rw [h8]; omega)) ?_
    rw [show (Int32.ofInt ((8 * q : Nat) : Int) + Int32.ofInt 1).toNatClampNeg = 8 * q + 1 from i32_at h8]
    have hO3 := hO2.st (i := 8 * q + 1) (v := x) (lo := 0) (hi := 127) hb2 ty_m5 a2.2.1 (sg1 ⟨i32_lo _, i32_hi _⟩) (by decide) (by omega) (by omega) (by decide)
    have hS3 := a2.setN (X := upd N1 (8 * q + 1) x)
    refine at97 r bk2 _ F2 G2 s2 be2 _ hq0 hO3 hS3 a3 (by omega) a6 (fun i hi => ?_) (fun e => ?_) hr01 (fun e => ?_)
    · rw [show upd N1 (8 * q + 1) x i = N1 i from if_neg (by omega)]; exact hN1 i hi
    · have e7 := a7 e
      have e71 : 0 ≤ x.toInt := e7.1
      have e72 : x.toInt ≤ 11 := e7.2.1
      exact (hK (by omega)).up (j := 0) (by decide) (by omega) (by omega) (by omega) (by omega) (by omega)
    · rw [show upd N1 (8 * q + 1) x (8 * q) = N1 (8 * q) from if_neg (by omega)]; exact hr0 e
  have at48 : ∀ (r : Int32) (o2 : Option Value) (bk1 : aB) (h1 : jH) (F1 G1 s1 : Nat), q < 16 → (r = 0 ∨ r = 1) → hOK TTs g (EIm n) pW bk h bk1 h1 → pS h1 b T F1 G1 s1 0 q c m w N O A P → pL T F1 G1 s1 → F < F1 → J l g 222 8 48 [some (.ref (g.2.2 + (b + 0))), some (.int r), o2] [] h1 0 0 (fun v h' => v = none ∧ ∃ bk' F' G' s' be' q' c' m' w' N' O' A' P', hOK TTs g (EIm n) pW bk h bk' h' ∧ pS h' b T F' G' s' be' q' c' m' w' N' O' A' P' ∧ pL T F' G' s' ∧ F ≤ F' ∧ be' ≤ 1 ∧ (be' = 0 → F < F') ∧ c' ≤ F' ∧ q' ≤ 16 ∧ (be' = 0 → clOK N' O' A' q' c')) := by
    intro r o2 bk1 h1 F1 G1 s1 hq hr01 hO1 hS1 hL1 hF1
    have hb1 := hO1.2.2.2.2.1 1 b hb
    obtain ⟨fs1, ho1, g6, g7, g8, g9, g12, g13, g15, g20, g21⟩ := hS1.get
    have hqt : (Int32.ofInt (q : Int)).toInt = (q : Int) := i32_n (by omega)
    have hq1t : (Int32.ofInt ((q + 1 : Nat) : Int)).toInt = ((q + 1 : Nat) : Int) := i32_n (by omega)
    have c8 : ((Int8.ofInt 8).toInt32).toInt = 8 := by decide
    have hmul : (Int8.ofInt 8).toInt32 * Int32.ofInt (q : Int) = Int32.ofInt ((8 * q : Nat) : Int) := i32_eq (by rw [i32_mul (by rw [hqt, c8]; omega) (by rw [hqt, c8]; omega), hqt, c8, i32_n (by omega)]; omega)
    have h8 : (Int32.ofInt ((8 * q : Nat) : Int)).toInt = ((8 * q : Nat) : Int) := i32_n (by omega)
    refine j_bipush (n := 8) (dQ (by decide +kernel)) ?_
    refine j_aload_n (k4 := 0) (dQ (by decide +kernel)) rfl ?_
    refine j_get (own := 12) (i := 236) (ci := 12) (f := 13) (dQ (by decide +kernel)) hcls (by decide +kernel) ho1 (n12 13 (by decide)) g13 ?_
    refine j_imul (dQ (by decide +kernel)) ?_
    rw [hmul]
    refine j_istore_n (k4 := 2) (dQ (by decide +kernel)) (by decide +kernel) ?_
    refine j_aload_n (k4 := 0) (dQ (by decide +kernel)) rfl ?_
    refine j_dup (dQ (by decide +kernel)) rfl ?_
    refine j_get (own := 12) (i := 236) (ci := 12) (f := 13) (dQ (by decide +kernel)) hcls (by decide +kernel) ho1 (n12 13 (by decide)) g13 ?_
    refine j_iconst (n := 1) (dQ (by decide +kernel)) ?_
    refine j_iadd (dQ (by decide +kernel)) ?_
    rw [iN_add (by omega)]
    refine j_put (own := 12) (i := 236) (ci := 12) (f := 13) (dQ (by decide +kernel)) hcls (by decide +kernel) ho1 rfl (by decide +kernel) (by rw [mf_len hO1.1 hb1 ho1]; decide) (by decide +kernel) (ty := .int) (by decide +kernel) rfl rfl ?_
    have hO2 := hO1.sf (k := 13) (v := Int32.ofInt ((q + 1 : Nat) : Int)) hb1 ty_m0 ho1 (show mTs[13]? = some (0, 0, 16, 0, 0) from rfl) (by omega) (by omega) (by decide) (by decide)
    have hS2 := hS1.setF (pF.set13 (x := q + 1) ⟨g6, g7, g8, g9, g12, g13, g15, g20, g21⟩)
    have hO2 : hOK TTs g (EIm n) pW bk h bk1 (h1.set (b + 0) (.inr (12, fs1.set 13 (iN (q + 1))))) := hO2
    show J l g 222 8 66 [some (.ref (g.2.2 + (b + 0))), some (.int r), some (iN (8 * q))] [] (h1.set (b + 0) (.inr (12, fs1.set 13 (iN (q + 1))))) 0 0 _
    generalize h1.set (b + 0) (.inr (12, fs1.set 13 (iN (q + 1)))) = h2 at hO2 hS2
    obtain ⟨fs2, ho2, hf2⟩ := hS2.get
    have at80 : ∀ x : Int32, ((r = 1 ∧ x = Int32.ofInt 0) ∨ (r = 0 ∧ x = Int32.ofInt 1)) → J l g 222 8 80 [some (.ref (g.2.2 + (b + 0))), some (.int r), some (iN (8 * q))] [.int x, .int (Int32.ofInt ((8 * q : Nat) : Int)), .ref (g.2.2 + (b + 5))] h2 0 0 (fun v h' => v = none ∧ ∃ bk' F' G' s' be' q' c' m' w' N' O' A' P', hOK TTs g (EIm n) pW bk h bk' h' ∧ pS h' b T F' G' s' be' q' c' m' w' N' O' A' P' ∧ pL T F' G' s' ∧ F ≤ F' ∧ be' ≤ 1 ∧ (be' = 0 → F < F') ∧ c' ≤ F' ∧ q' ≤ 16 ∧ (be' = 0 → clOK N' O' A' q' c')) := by
      intro x hx
      refine j_iast (dQ (by decide +kernel)) hS2.2.1 (i32_in (by rw [h8]; omega) (by rw [h8]; omega)) ?_
      rw [i32_at h8]
      have hO3 := hO2.st (i := 8 * q) (v := x) (lo := 0) (hi := 127) hb1 ty_m5 hS2.2.1 (sg1 ⟨i32_lo _, i32_hi _⟩) (by decide) (by omega) (by omega) (by decide)
      have hS3 := hS2.setN (X := upd N (8 * q) x)
      have eu : upd N (8 * q) x (8 * q) = x := if_pos rfl
      refine at81 r bk1 _ F1 G1 s1 0 _ hq hO3 hS3 hL1 hF1 (by decide) (fun i hi => if_neg (by omega)) (fun _ => ?_) hr01 (fun e => ?_)
      · refine ⟨?_, fun q => by omega, fun q => by omega, fun q => by omega, fun q => by omega, fun q => by omega⟩
        rw [eu]
        rcases hx with ⟨-, rfl⟩ | ⟨-, rfl⟩
        · exact Or.inl (by decide)
        · exact Or.inr (by decide)
      · rw [eu]
        rcases hx with ⟨e2, -⟩ | ⟨-, rfl⟩
        · rw [e] at e2; exact absurd e2 (by decide)
        · decide
    refine j_aload_n (k4 := 0) (dQ (by decide +kernel)) rfl ?_
    refine j_get (own := 12) (i := 27) (ci := 12) (f := 14) (dQ (by decide +kernel)) hcls (by decide +kernel) ho2 (n12 14 (by decide)) (m_ref hO2.1 hb1 ho2 rfl) ?_
    refine j_iload_n (k4 := 2) (dQ (by decide +kernel)) rfl ?_
    refine j_iload_n (k4 := 1) (dQ (by decide +kernel)) rfl ?_
    rcases hr01 with rfl | rfl
    · refine j_if_eq (off := 7) (tgt := 79) (dQ (by decide +kernel)) (by decide) (fun _ => ?_) (fun e => absurd rfl e)
      refine j_iconst (n := 1) (dQ (by decide +kernel)) ?_
      exact at80 _ (Or.inr ⟨rfl, rfl⟩)
    · refine j_if_eq (off := 7) (tgt := 79) (dQ (by decide +kernel)) (by decide) (fun e => absurd e (by decide)) (fun _ => ?_)
      refine j_iconst (n := 0) (dQ (by decide +kernel)) ?_
      refine j_goto (off := 4) (tgt := 80) (dQ (by decide +kernel)) (by decide) ?_
      exact at80 _ (Or.inl ⟨rfl, rfl⟩)
  -- the clause's word
  have hOa : hOK TTs g (EIm n) pW bk h bk h := hOK.rf hO.1 hO.2.1 hO.2.2.1 hO.2.2.2.2.2
  have at37 : ∀ (x r : Int32) (bk1 : aB) (h1 : jH), (x = 0 ∨ (x = 1 ∧ q < 16 ∧ 1 ≤ s)) → (r = 0 ∨ r = 1) → hOK TTs g (EIm n) pW bk h bk1 h1 → pS h1 b T F G s be q c m w N O A P → J l g 222 8 37 [some (.ref (g.2.2 + (b + 0))), some (.int r), none] [.int x, .ref (g.2.2 + (b + 0))] h1 0 0 (fun v h' => v = none ∧ ∃ bk' F' G' s' be' q' c' m' w' N' O' A' P', hOK TTs g (EIm n) pW bk h bk' h' ∧ pS h' b T F' G' s' be' q' c' m' w' N' O' A' P' ∧ pL T F' G' s' ∧ F ≤ F' ∧ be' ≤ 1 ∧ (be' = 0 → F < F') ∧ c' ≤ F' ∧ q' ≤ 16 ∧ (be' = 0 → clOK N' O' A' q' c')) := by
    intro x r bk1 h1 hx hr01 hO1 hS1
    refine ms x 37 _ _ bk1 h1 F G s be q N (by decide) rfl (by rcases hx with e | ⟨e, -⟩; exact Or.inl e; exact Or.inr e) hO1 hS1 hL (by omega) (fun bk3 h3 F3 G3 s3 be3 e1 e2 e3 e4 e5 e6 e7 => ?_)
    obtain ⟨fs3, ho3, g6, g7, g8, g9, g12, g13, g15, g20, g21⟩ := e2.get
    refine j_aload_n (k4 := 0) (dQ (by decide +kernel)) rfl ?_
    refine j_get (own := 12) (i := 135) (ci := 12) (f := 12) (dQ (by decide +kernel)) hcls (by decide +kernel) ho3 (n12 12 (by decide)) g12 ?_
    refine j_if_eq (off := 4) (tgt := 48) (dQ (by decide +kernel)) (by decide) (fun z => ?_) (fun z => ?_)
    · have e : be3 = 0 := (bad_t e6).mp z
      subst e
      obtain ⟨x1, x2⟩ := e7 rfl
      have hx2 : q < 16 ∧ 1 ≤ s := by
        rcases hx with rfl | ⟨-, e⟩
        · exact absurd x1 (by decide)
        · exact e
      have hs := hL.2.2.2.1
      exact at48 r none bk3 h3 F3 G3 s3 hx2.1 hr01 e1 e2 e3 (by omega)
    · have e : be3 = 1 := be01 e6 z
      exact j_ret (v := none) ⟨by decide +kernel, by decide +kernel⟩ ⟨rfl, bk3, F3, G3, s3, be3, q, c, m, w, N, O, A, P, e1, e2, e3, e4, e6, fun q => by omega, by omega, hq16, fun q => by omega⟩ rfl
  have at23 : ∀ (r : Int32) (bk1 : aB) (h1 : jH), (r = 0 ∨ r = 1) → 1 ≤ s → hOK TTs g (EIm n) pW bk h bk1 h1 → pS h1 b T F G s be q c m w N O A P → J l g 222 8 23 [some (.ref (g.2.2 + (b + 0))), some (.int r), none] [.ref (g.2.2 + (b + 0))] h1 0 0 (fun v h' => v = none ∧ ∃ bk' F' G' s' be' q' c' m' w' N' O' A' P', hOK TTs g (EIm n) pW bk h bk' h' ∧ pS h' b T F' G' s' be' q' c' m' w' N' O' A' P' ∧ pL T F' G' s' ∧ F ≤ F' ∧ be' ≤ 1 ∧ (be' = 0 → F < F') ∧ c' ≤ F' ∧ q' ≤ 16 ∧ (be' = 0 → clOK N' O' A' q' c')) := by
    intro r bk1 h1 hr01 hs1 hO1 hS1
    obtain ⟨fs1, ho1, g6, g7, g8, g9, g12, g13, g15, g20, g21⟩ := hS1.get
    have hqt : (Int32.ofInt (q : Int)).toInt = (q : Int) := i32_n (by omega)
    refine j_aload_n (k4 := 0) (dQ (by decide +kernel)) rfl ?_
    refine j_get (own := 12) (i := 236) (ci := 12) (f := 13) (dQ (by decide +kernel)) hcls (by decide +kernel) ho1 (n12 13 (by decide)) g13 ?_
    refine j_bipush (n := 16) (dQ (by decide +kernel)) ?_
    refine j_icmp_ge (off := 7) (tgt := 36) (dQ (by decide +kernel)) (by decide) (fun _ => ?_) (fun z => ?_)
    · refine j_iconst (n := 0) (dQ (by decide +kernel)) ?_
      exact at37 0 r bk1 h1 (Or.inl rfl) hr01 hO1 hS1
    · refine j_iconst (n := 1) (dQ (by decide +kernel)) ?_
      refine j_goto (off := 4) (tgt := 37) (dQ (by decide +kernel)) (by decide) ?_
      refine at37 1 r bk1 h1 (Or.inr ⟨rfl, ?_, hs1⟩) hr01 hO1 hS1
      have z2 : ¬ ((Int8.ofInt 16).toInt32).toInt ≤ (Int32.ofInt (q : Int)).toInt := fun e => z (le32.mpr e)
      rw [hqt, show ((Int8.ofInt 16).toInt32).toInt = 16 by decide] at z2
      omega
  refine j_aload_n (k4 := 0) (dQ (by decide +kernel)) rfl ?_
  refine j_ldc2 (own := 12) (i := 232) (v := 643248) hcls (by decide +kernel) (by decide +kernel) ?_
  refine wd _ 4 _ _ [] bk h F G s be q N (by decide) rfl (by decide) hOa hS hL.2.2.2.2 (fun r bk1 h1 hO1 hS1 hr => ?_)
  refine j_istore_n (k4 := 1) (dQ (by decide +kernel)) (by decide +kernel) ?_
  show J l g 222 8 8 [some (.ref (g.2.2 + (b + 0))), some (.int r), none] [] h1 0 0 _
  refine j_aload_n (k4 := 0) (dQ (by decide +kernel)) rfl ?_
  refine j_iload_n (k4 := 1) (dQ (by decide +kernel)) rfl ?_
  rcases hr with rfl | ⟨rfl, hs1⟩
  · refine j_if_ne (off := 13) (tgt := 23) (dQ (by decide +kernel)) (by decide) (fun e => absurd rfl e) (fun _ => ?_)
    refine j_aload_n (k4 := 0) (dQ (by decide +kernel)) rfl ?_
    refine j_ldc2 (own := 12) (i := 234) (v := 3544114) hcls (by decide +kernel) (by decide +kernel) ?_
    refine wd _ 17 _ _ [.ref (g.2.2 + (b + 0))] bk1 h1 F G s be q N (by decide) rfl (by show (1 + 0 : Nat) ≤ 8; decide) hO1 hS1 hL.2.2.2.2 (fun r2 bk2 h2 hO2 hS2 hr => ?_)
    rcases hr with rfl | ⟨rfl, hs1⟩
    · refine j_if_eq (off := 16) (tgt := 36) (dQ (by decide +kernel)) (by decide) (fun _ => ?_) (fun e => absurd rfl e)
      refine j_iconst (n := 0) (dQ (by decide +kernel)) ?_
      exact at37 0 0 bk2 h2 (Or.inl rfl) (Or.inl rfl) hO2 hS2
    · refine j_if_eq (off := 16) (tgt := 36) (dQ (by decide +kernel)) (by decide) (fun e => absurd e (by decide)) (fun _ => ?_)
      exact at23 0 bk2 h2 (Or.inl rfl) hs1 hO2 hS2
  · refine j_if_ne (off := 13) (tgt := 23) (dQ (by decide +kernel)) (by decide) (fun _ => ?_) (fun e => absurd (Classical.not_not.mp e) (by decide))
    exact at23 1 bk1 h1 (Or.inr rfl) hs1 hO1 hS1
end PH
