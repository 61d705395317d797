/-! the reference's parser: number, emit, push, settle -/
section PB
variable {l : Launch} {g : jG} {n : Int}
theorem pS.same {bk bk' : aB} {h h' : jH} {b T F G s be q c m w : Nat} {N O A P : Nat → Int32} (k1 : hOK TTs g (EIm n) [] bk h bk' h') (hb : bk 1 = some b) (hS : pS h b T F G s be q c m w N O A P) : pS h' b T F G s be q c m w N O A P := by
  obtain ⟨⟨fs, ho, hf⟩, s5, s6, s7, s8⟩ := hS
  exact ⟨⟨fs, k1.cell hb (tyAt_lt ty_m0) ho rfl, hf⟩, k1.cell hb (tyAt_lt ty_m5) s5 rfl, k1.cell hb (tyAt_lt ty_m6) s6 rfl, k1.cell hb (tyAt_lt ty_m7) s7 rfl, k1.cell hb (tyAt_lt ty_m8) s8 rfl⟩
theorem m_long {bk : aB} {h : jH} {b k : Nat} {lo hi : Int} {fs : List Value} (hT : HT TTs g bk h) (hb : bk 1 = some b) (ho : h[b + 0]? = some (.inr (12, fs))) (hq : mTs[k]? = some (1, lo, hi, 0, 0)) : ∃ x : Int64, fs[k]? = some (.long x) := by
  obtain ⟨c, c1, fs', rfl, -, c2⟩ := hT 1 b 0 _ hb ty_m0
  cases ho.symm.trans c1
  obtain ⟨v, v1, x, rfl, v3⟩ := c2 k _ hq
  exact ⟨x, v1⟩
set_option maxRecDepth 16384 in
theorem number_run (hlow : ∀ (k : Nat) (K : aK), KTx[k]? = some K → kOK TTs g (EIm n) l K) {W0 : List aR} {bk0 bk : aB} {h0 h : jH} (hO : hOK TTs g (EIm n) W0 bk0 h0 bk h) {b T F G s be q c m w : Nat} {N O A P : Nat → Int32} (hb : bk 1 = some b) (hS : pS h b T F G s be q c m w N O A P) (hL : pL T F G s) (hbe : be ≤ 1) {lo hi : Int64} (hlo : 0 ≤ lo.toInt) (hhi : hi.toInt ≤ 1000) :
    jCal l g 225 4 [.ref (g.2.2 + (b + 0)), .long lo, .long hi] h 0 0 (fun v h' => ∃ x : Int32, v = some (.int x) ∧ ∃ bk' F' G' s' be', hOK TTs g (EIm n) muW bk h bk' h' ∧ pS h' b T F' G' s' be' q c m w N O A P ∧ pL T F' G' s' ∧ F ≤ F' ∧ be ≤ be' ∧ be' ≤ 1 ∧ (be' = 0 → lo.toInt ≤ x.toInt ∧ x.toInt ≤ hi.toInt ∧ G ≤ F')) := by
  refine jCal_of (by decide +kernel) (show 5 ≤ jmx 225 by decide +kernel) ?_
  show J l g 225 4 0 [some (.ref (g.2.2 + (b + 0))), some (.long lo), none, some (.long hi), none, none] [] h 0 0 _
  have hcls : jcN 12 = (jyN 225).cls := by decide +kernel
  have hS0 := hS
  obtain ⟨⟨fs, ho, f6, f7, f8, f9, f12, f13, f15, f20, f21⟩, s5, s6, s7, s8⟩ := hS
  obtain ⟨wv, f10⟩ := m_long (k := 10) hO.1 hb ho rfl
  have ts : (Int32.ofInt (s : Int)).toInt = (s : Int) := i32_n (by have := hL.2.2.2.2; omega)
  have mu : ∀ (x : Int32) (bk1 : aB) (h1 : jH), hOK TTs g (EIm n) [] bk h bk1 h1 → (x = 0 ∨ (x = 1 ∧ lo.toInt ≤ wv.toInt ∧ wv.toInt ≤ hi.toInt)) → J l g 225 4 33 [some (.ref (g.2.2 + (b + 0))), some (.long lo), none, some (.long hi), none, some (.int wv.toInt32)] [.int x, .ref (g.2.2 + (b + 0))] h1 0 0 (fun v h' => ∃ x : Int32, v = some (.int x) ∧ ∃ bk' F' G' s' be', hOK TTs g (EIm n) muW bk h bk' h' ∧ pS h' b T F' G' s' be' q c m w N O A P ∧ pL T F' G' s' ∧ F ≤ F' ∧ be ≤ be' ∧ be' ≤ 1 ∧ (be' = 0 → lo.toInt ≤ x.toInt ∧ x.toInt ≤ hi.toInt ∧ G ≤ F')) := by
    intro x bk1 h1 k1 hx
    have hb1 := k1.2.2.2.2.1 1 b hb
    obtain ⟨Qm, hcal, hQm⟩ := must_run hlow k1 hb1 (hS0.same k1 hb) hL hbe (x := x) (by rcases hx with rfl | ⟨rfl, -⟩ <;> decide)
    have hc1 := k1.cell hb (tyAt_lt ty_m0) ho rfl
    refine j_callV (own := 12) (i := 171) (y2 := 224) (d2 := 3) (mc := 0) (ms := 0) (kc := 0) (ks := 0) (a := b + 0) (As := [.int x]) (st := []) (by decide +kernel) hcls (by decide +kernel) (by decide) (by decide +kernel) (by decide +kernel) (by decide +kernel) (by decide +kernel) (by decide +kernel) (show 1 = jnp 224 by decide +kernel) (by decide) (by decide) hc1 (fun r hr => by cases hr; decide +kernel) hcal (fun v h2 hq => ?_)
    obtain ⟨rfl, bk2, F', G', s', be', a1, a2, a3, a4, a5, a6, a7⟩ := hQm v h2 hq
    refine j_iload (i := 5) (by decide +kernel) rfl ?_
    refine j_ret (v := some (.int wv.toInt32)) ⟨by decide +kernel, Or.inl (by decide +kernel)⟩ ⟨wv.toInt32, rfl, bk2, F', G', s', be', (k1.w1 (W' := muW) (by decide)).tr (by decide) a1, a2, a3, a4, a5, a6, fun e => ?_⟩ rfl
    obtain ⟨e1, e2⟩ := a7 e
    rcases hx with rfl | ⟨rfl, e3, e4⟩
    · exact absurd e1 (by decide)
    · rw [l2i_ok (by omega) (by omega)]
      exact ⟨e3, e4, e2⟩
  refine j_aload_n (k4 := 0) (by decide +kernel) rfl ?_
  refine j_get (own := 12) (i := 145) (ci := 12) (f := 10) (by decide +kernel) hcls (by decide +kernel) ho (n12 10 (by decide)) f10 ?_
  refine j_l2i (by decide +kernel) ?_
  refine j_istore (i := 5) (by decide +kernel) (by decide +kernel) ?_
  refine j_aload_n (k4 := 0) (by decide +kernel) rfl ?_
  refine j_aload_n (k4 := 0) (by decide +kernel) rfl ?_
  refine j_get (own := 12) (i := 156) (ci := 12) (f := 9) (by decide +kernel) hcls (by decide +kernel) ho (n12 9 (by decide)) f9 ?_
  refine j_iconst (n := 2) (by decide +kernel) ?_
  refine j_icmp_ne (off := 19) (tgt := 32) (by decide +kernel) (by decide) (fun _ => ?_) (fun _ => ?_)
  · refine j_iconst (n := 0) (by decide +kernel) ?_
    exact mu 0 bk h (hOK.rf hO.1 hO.2.1 hO.2.2.1 hO.2.2.2.2.2) (Or.inl rfl)
  · refine j_aload_n (k4 := 0) (by decide +kernel) rfl ?_
    refine j_get (own := 12) (i := 145) (ci := 12) (f := 10) (by decide +kernel) hcls (by decide +kernel) ho (n12 10 (by decide)) f10 ?_
    refine j_lload_n (k4 := 1) (by decide +kernel) rfl ?_
    refine j_lload_n (k4 := 3) (by decide +kernel) rfl ?_
    refine j_callS' (own := 12) (i := 100) (y2 := 205) (d2 := 1) (mc := 0) (ms := 0) (kc := 0) (ks := 0) (As := [.long wv, .long lo, .long hi]) (st := [.ref (g.2.2 + (b + 0))]) (by decide +kernel) hcls (by decide +kernel) (by decide) (by decide +kernel) (show 3 = jnp 205 by decide +kernel) (by decide) (by show (1 + 0 : Nat) ≤ 8; decide) (use_505 (hlow 505 _ rfl) hO (x0 := wv) (x2 := lo) (x4 := hi)) (fun v h1 hq => ?_)
    obtain ⟨bk1, os, k1, -, qq, hq1, hq2⟩ := hq
    have hq3 : qq = (0, 0, 1, 0, 0, [([(0, 1), (1, -1)], 0), ([(0, -1), (2, 1)], 0)]) := List.mem_singleton.mp hq1
    subst hq3
    obtain ⟨r, rfl, -, ht, -⟩ := hq2
    have k1 : hOK TTs g (EIm n) [] bk h bk1 h1 := k1
    rcases ht with ht | ⟨t1, t2⟩ | ⟨t1, -⟩
    · cases ht
    · have e1 : r = 1 := i32_eq (t1.trans rfl)
      subst e1
      obtain ⟨z1, a1, b1⟩ := t2 ([(0, 1), (1, -1)], 0) (by decide)
      obtain ⟨z2, a2, b2⟩ := t2 ([(0, -1), (2, 1)], 0) (by decide)
      have a1 : some (1 * wv.toInt + (-1 * lo.toInt + 0) + 0) = some z1 := a1
      have a2 : some (-1 * wv.toInt + (1 * hi.toInt + 0) + 0) = some z2 := a2
      have a1 := Option.some.inj a1
      have a2 := Option.some.inj a2
      refine j_if_eq (off := 7) (tgt := 32) (by decide +kernel) (by decide) (fun e => absurd e (by decide)) (fun _ => ?_)
      refine j_iconst (n := 1) (by decide +kernel) ?_
      refine j_goto (off := 4) (tgt := 33) (by decide +kernel) (by decide) ?_
      exact mu 1 bk1 h1 k1 (Or.inr ⟨rfl, by omega, by omega⟩)
    · have e1 : r = 0 := i32_eq (t1.trans rfl)
      subst e1
      refine j_if_eq (off := 7) (tgt := 32) (by decide +kernel) (by decide) (fun _ => ?_) (fun e => absurd rfl e)
      refine j_iconst (n := 0) (by decide +kernel) ?_
      exact mu 0 bk1 h1 k1 (Or.inl rfl)
def pW : List aR := [(1, 0, 7, 13), (1, 0, 15, 15), (1, 0, 18, 18), (1, 0, 20, 21), (1, 5, 0, 127), (1, 6, 0, 399), (1, 7, 0, 399), (1, 8, 0, 399)]
theorem pF.set {fs : List Value} {T F G s be q c m w k : Nat} {v : Value} (hf : pF fs T F G s be q c m w) (hk : k ≠ 6 ∧ k ≠ 7 ∧ k ≠ 8 ∧ k ≠ 9 ∧ k ≠ 12 ∧ k ≠ 13 ∧ k ≠ 15 ∧ k ≠ 20 ∧ k ≠ 21) : pF (fs.set k v) T F G s be q c m w := by
  obtain ⟨f6, f7, f8, f9, f12, f13, f15, f20, f21⟩ := hf
  obtain ⟨k1, k2, k3, k4, k5, k6, k7, k8, k9⟩ := hk
  refine ⟨?_, ?_, ?_, ?_, ?_, ?_, ?_, ?_, ?_⟩ <;> (rw [List.getElem?_set_ne (by assumption)]; assumption)
theorem pF.set13 {fs : List Value} {T F G s be q c m w x : Nat} (hf : pF fs T F G s be q c m w) : pF (fs.set 13 (iN x)) T F G s be x c m w := by
  obtain ⟨f6, f7, f8, f9, f12, f13, f15, f20, f21⟩ := hf
  exact ⟨by rw [List.getElem?_set_ne (by decide)]; exact f6, by rw [List.getElem?_set_ne (by decide)]; exact f7, by rw [List.getElem?_set_ne (by decide)]; exact f8, by rw [List.getElem?_set_ne (by decide)]; exact f9, by rw [List.getElem?_set_ne (by decide)]; exact f12, List.getElem?_set_self (List.getElem?_eq_some_iff.mp f13).1, by rw [List.getElem?_set_ne (by decide)]; exact f15, by rw [List.getElem?_set_ne (by decide)]; exact f20, by rw [List.getElem?_set_ne (by decide)]; exact f21⟩
theorem pF.set15 {fs : List Value} {T F G s be q c m w x : Nat} (hf : pF fs T F G s be q c m w) : pF (fs.set 15 (iN x)) T F G s be q x m w := by
  obtain ⟨f6, f7, f8, f9, f12, f13, f15, f20, f21⟩ := hf
  exact ⟨by rw [List.getElem?_set_ne (by decide)]; exact f6, by rw [List.getElem?_set_ne (by decide)]; exact f7, by rw [List.getElem?_set_ne (by decide)]; exact f8, by rw [List.getElem?_set_ne (by decide)]; exact f9, by rw [List.getElem?_set_ne (by decide)]; exact f12, by rw [List.getElem?_set_ne (by decide)]; exact f13, List.getElem?_set_self (List.getElem?_eq_some_iff.mp f15).1, by rw [List.getElem?_set_ne (by decide)]; exact f20, by rw [List.getElem?_set_ne (by decide)]; exact f21⟩
theorem pF.set20 {fs : List Value} {T F G s be q c m w x : Nat} (hf : pF fs T F G s be q c m w) : pF (fs.set 20 (iN x)) T F G s be q c x w := by
  obtain ⟨f6, f7, f8, f9, f12, f13, f15, f20, f21⟩ := hf
  exact ⟨by rw [List.getElem?_set_ne (by decide)]; exact f6, by rw [List.getElem?_set_ne (by decide)]; exact f7, by rw [List.getElem?_set_ne (by decide)]; exact f8, by rw [List.getElem?_set_ne (by decide)]; exact f9, by rw [List.getElem?_set_ne (by decide)]; exact f12, by rw [List.getElem?_set_ne (by decide)]; exact f13, by rw [List.getElem?_set_ne (by decide)]; exact f15, List.getElem?_set_self (List.getElem?_eq_some_iff.mp f20).1, by rw [List.getElem?_set_ne (by decide)]; exact f21⟩
theorem pF.set21 {fs : List Value} {T F G s be q c m w x : Nat} (hf : pF fs T F G s be q c m w) : pF (fs.set 21 (iN x)) T F G s be q c m x := by
  obtain ⟨f6, f7, f8, f9, f12, f13, f15, f20, f21⟩ := hf
  exact ⟨by rw [List.getElem?_set_ne (by decide)]; exact f6, by rw [List.getElem?_set_ne (by decide)]; exact f7, by rw [List.getElem?_set_ne (by decide)]; exact f8, by rw [List.getElem?_set_ne (by decide)]; exact f9, by rw [List.getElem?_set_ne (by decide)]; exact f12, by rw [List.getElem?_set_ne (by decide)]; exact f13, by rw [List.getElem?_set_ne (by decide)]; exact f15, by rw [List.getElem?_set_ne (by decide)]; exact f20, List.getElem?_set_self (List.getElem?_eq_some_iff.mp f21).1⟩
theorem pS.setN {h : jH} {b T F G s be q c m w : Nat} {N O A P X : Nat → Int32} (hS : pS h b T F G s be q c m w N O A P) : pS (h.set (b + 5) (.inl (0, 128, X))) b T F G s be q c m w X O A P := by
  obtain ⟨⟨fs, ho, hf⟩, s5, s6, s7, s8⟩ := hS
  exact ⟨⟨fs, by rw [List.getElem?_set_ne (by omega)]; exact ho, hf⟩, List.getElem?_set_self (List.getElem?_eq_some_iff.mp s5).1, by rw [List.getElem?_set_ne (by omega)]; exact s6, by rw [List.getElem?_set_ne (by omega)]; exact s7, by rw [List.getElem?_set_ne (by omega)]; exact s8⟩
theorem pS.setO {h : jH} {b T F G s be q c m w : Nat} {N O A P X : Nat → Int32} (hS : pS h b T F G s be q c m w N O A P) : pS (h.set (b + 6) (.inl (0, 400, X))) b T F G s be q c m w N X A P := by
  obtain ⟨⟨fs, ho, hf⟩, s5, s6, s7, s8⟩ := hS
  exact ⟨⟨fs, by rw [List.getElem?_set_ne (by omega)]; exact ho, hf⟩, by rw [List.getElem?_set_ne (by omega)]; exact s5, List.getElem?_set_self (List.getElem?_eq_some_iff.mp s6).1, by rw [List.getElem?_set_ne (by omega)]; exact s7, by rw [List.getElem?_set_ne (by omega)]; exact s8⟩
theorem pS.setA {h : jH} {b T F G s be q c m w : Nat} {N O A P X : Nat → Int32} (hS : pS h b T F G s be q c m w N O A P) : pS (h.set (b + 7) (.inl (0, 400, X))) b T F G s be q c m w N O X P := by
  obtain ⟨⟨fs, ho, hf⟩, s5, s6, s7, s8⟩ := hS
  exact ⟨⟨fs, by rw [List.getElem?_set_ne (by omega)]; exact ho, hf⟩, by rw [List.getElem?_set_ne (by omega)]; exact s5, by rw [List.getElem?_set_ne (by omega)]; exact s6, List.getElem?_set_self (List.getElem?_eq_some_iff.mp s7).1, by rw [List.getElem?_set_ne (by omega)]; exact s8⟩
theorem pS.setP {h : jH} {b T F G s be q c m w : Nat} {N O A P X : Nat → Int32} (hS : pS h b T F G s be q c m w N O A P) : pS (h.set (b + 8) (.inl (0, 400, X))) b T F G s be q c m w N O A X := by
  obtain ⟨⟨fs, ho, hf⟩, s5, s6, s7, s8⟩ := hS
  exact ⟨⟨fs, by rw [List.getElem?_set_ne (by omega)]; exact ho, hf⟩, by rw [List.getElem?_set_ne (by omega)]; exact s5, by rw [List.getElem?_set_ne (by omega)]; exact s6, by rw [List.getElem?_set_ne (by omega)]; exact s7, List.getElem?_set_self (List.getElem?_eq_some_iff.mp s8).1⟩
theorem pS.setF {h : jH} {b T F G s be q c m w T' F' G' s' be' q' c' m' w' : Nat} {N O A P : Nat → Int32} {fs : List Value} (hS : pS h b T F G s be q c m w N O A P) (hf : pF fs T' F' G' s' be' q' c' m' w') : pS (h.set (b + 0) (.inr (12, fs))) b T' F' G' s' be' q' c' m' w' N O A P := by
  obtain ⟨⟨fs0, ho, -⟩, s5, s6, s7, s8⟩ := hS
  exact ⟨⟨fs, List.getElem?_set_self (List.getElem?_eq_some_iff.mp ho).1, hf⟩, by rw [List.getElem?_set_ne (by omega)]; exact s5, by rw [List.getElem?_set_ne (by omega)]; exact s6, by rw [List.getElem?_set_ne (by omega)]; exact s7, by rw [List.getElem?_set_ne (by omega)]; exact s8⟩
theorem iN_add {k : Nat} (h : k ≤ 1000) : Int32.ofInt (k : Int) + Int32.ofInt 1 = Int32.ofInt ((k + 1 : Nat) : Int) := i32_eq (by rw [i32_addn (i32_n (by omega)) (by omega) (by omega), i32_n (by omega)]; omega)
theorem mf_len {bk : aB} {h : jH} {b : Nat} {fs : List Value} (hT : HT TTs g bk h) (hb : bk 1 = some b) (ho : h[b + 0]? = some (.inr (12, fs))) : fs.length = 42 := by
  obtain ⟨c, c1, fs', rfl, c2, -⟩ := hT 1 b 0 _ hb ty_m0
  cases ho.symm.trans c1
  exact c2.trans (by decide +kernel)
set_option maxRecDepth 16384 in
theorem emit_run {W0 : List aR} {bk0 bk : aB} {h0 h : jH} (hO : hOK TTs g (EIm n) W0 bk0 h0 bk h) {b T F G s be q c m w : Nat} {N O A P : Nat → Int32} (hb : bk 1 = some b) (hS : pS h b T F G s be q c m w N O A P) (hc4 : c < 400) {op ar : Int32} (hop : 0 ≤ op.toInt ∧ op.toInt ≤ 13) (har : 0 ≤ ar.toInt ∧ ar.toInt ≤ 15) {d : Nat} :
    jCal l g 231 d [.ref (g.2.2 + (b + 0)), .int op, .int ar] h 0 0 (fun v h' => v = none ∧ ∃ bk', hOK TTs g (EIm n) pW bk h bk' h' ∧ pS h' b T F G s be q (c + 1) m w N (upd O c op) (upd A c ar) P) := by
  refine jCal_of (by decide +kernel) (show 3 ≤ jmx 231 by decide +kernel) ?_
  show J l g 231 d 0 [some (.ref (g.2.2 + (b + 0))), some (.int op), some (.int ar)] [] h 0 0 _
  have hcls : jcN 12 = (jyN 231).cls := by decide +kernel
  have hS0 := hS
  obtain ⟨⟨fs, ho, f6, f7, f8, f9, f12, f13, f15, f20, f21⟩, s5, s6, s7, s8⟩ := hS
  have hct : (Int32.ofInt (c : Int)).toInt = (c : Int) := i32_n (by omega)
  have hOa : hOK TTs g (EIm n) pW bk h bk h := hOK.rf hO.1 hO.2.1 hO.2.2.1 hO.2.2.2.2.2
  refine j_aload_n (k4 := 0) (by decide +kernel) rfl ?_
  refine j_get (own := 12) (i := 30) (ci := 12) (f := 16) (by decide +kernel) hcls (by decide +kernel) ho (n12 16 (by decide)) (m_ref hO.1 hb ho rfl) ?_
  refine j_aload_n (k4 := 0) (by decide +kernel) rfl ?_
  refine j_get (own := 12) (i := 175) (ci := 12) (f := 15) (by decide +kernel) hcls (by decide +kernel) ho (n12 15 (by decide)) f15 ?_
  refine j_iload_n (k4 := 1) (by decide +kernel) rfl ?_
  refine j_iast (by decide +kernel) s6 (i32_in (by rw [hct]; omega) (by rw [hct]; omega)) ?_
  rw [i32_at hct]
  have hO1 := hOa.st (i := c) (v := op) (lo := 0) (hi := 399) hb ty_m6 s6 (sg1 hop) (by decide) (by omega) (by omega) (by decide)
  have hS1 := hS0.setO (X := upd O c op)
  have ho1 : (h.set (b + 6) (.inl (0, 400, upd O c op)))[b + 0]? = some (.inr (12, fs)) := by rw [List.getElem?_set_ne (by omega)]; exact ho
  generalize h.set (b + 6) (.inl (0, 400, upd O c op)) = h1 at hO1 hS1 ho1
  refine j_aload_n (k4 := 0) (by decide +kernel) rfl ?_
  refine j_get (own := 12) (i := 33) (ci := 12) (f := 17) (by decide +kernel) hcls (by decide +kernel) ho1 (n12 17 (by decide)) (m_ref hO1.1 hb ho1 rfl) ?_
  refine j_aload_n (k4 := 0) (by decide +kernel) rfl ?_
  refine j_get (own := 12) (i := 175) (ci := 12) (f := 15) (by decide +kernel) hcls (by decide +kernel) ho1 (n12 15 (by decide)) f15 ?_
  refine j_iload_n (k4 := 2) (by decide +kernel) rfl ?_
  refine j_iast (by decide +kernel) hS1.2.2.2.1 (i32_in (by rw [hct]; omega) (by rw [hct]; omega)) ?_
  rw [i32_at hct]
  have hO2 := hO1.st (i := c) (v := ar) (lo := 0) (hi := 399) hb ty_m7 hS1.2.2.2.1 (sg1 har) (by decide) (by omega) (by omega) (by decide)
  have hS2 := hS1.setA (X := upd A c ar)
  have ho2 : (h1.set (b + 7) (.inl (0, 400, upd A c ar)))[b + 0]? = some (.inr (12, fs)) := by rw [List.getElem?_set_ne (by omega)]; exact ho1
  generalize h1.set (b + 7) (.inl (0, 400, upd A c ar)) = h2 at hO2 hS2 ho2
  refine j_aload_n (k4 := 0) (by decide +kernel) rfl ?_
  refine j_dup (by decide +kernel) rfl ?_
  refine j_get (own := 12) (i := 175) (ci := 12) (f := 15) (by decide +kernel) hcls (by decide +kernel) ho2 (n12 15 (by decide)) f15 ?_
  refine j_iconst (n := 1) (by decide +kernel) ?_
  refine j_iadd (by decide +kernel) ?_
  rw [iN_add (by omega)]
  refine j_put (own := 12) (i := 175) (ci := 12) (f := 15) (by decide +kernel) hcls (by decide +kernel) ho2 rfl (by decide +kernel) (by rw [mf_len hO2.1 hb ho2]; decide) (by decide +kernel) (ty := .int) (by decide +kernel) rfl rfl ?_
  have hc1t : (Int32.ofInt ((c + 1 : Nat) : Int)).toInt = ((c + 1 : Nat) : Int) := i32_n (by omega)
  have hO3 := hO2.sf (k := 15) (v := Int32.ofInt ((c + 1 : Nat) : Int)) hb ty_m0 ho2 (show mTs[15]? = some (0, 0, 400, 0, 0) from rfl) (by omega) (by omega) (by decide) (by decide)
  exact j_ret (v := none) ⟨by decide +kernel, by decide +kernel⟩ ⟨rfl, bk, hO3, hS2.setF (pF.set15 (x := c + 1) ⟨f6, f7, f8, f9, f12, f13, f15, f20, f21⟩)⟩ rfl
set_option maxRecDepth 16384 in
theorem push_run {W0 : List aR} {bk0 bk : aB} {h0 h : jH} (hO : hOK TTs g (EIm n) W0 bk0 h0 bk h) {b T F G s be q c m w : Nat} {N O A P : Nat → Int32} (hb : bk 1 = some b) (hS : pS h b T F G s be q c m w N O A P) (hm4 : m < 400) {op : Int32} (hop : 0 ≤ op.toInt ∧ op.toInt ≤ 13) {d : Nat} :
    jCal l g 228 d [.ref (g.2.2 + (b + 0)), .int op] h 0 0 (fun v h' => v = none ∧ ∃ bk', hOK TTs g (EIm n) pW bk h bk' h' ∧ pS h' b T F G s be q c (m + 1) w N O A (upd P m op)) := by
  refine jCal_of (by decide +kernel) (show 2 ≤ jmx 228 by decide +kernel) ?_
  show J l g 228 d 0 [some (.ref (g.2.2 + (b + 0))), some (.int op)] [] h 0 0 _
  have hcls : jcN 12 = (jyN 228).cls := by decide +kernel
  have hS0 := hS
  obtain ⟨⟨fs, ho, f6, f7, f8, f9, f12, f13, f15, f20, f21⟩, s5, s6, s7, s8⟩ := hS
  have hmt : (Int32.ofInt (m : Int)).toInt = (m : Int) := i32_n (by omega)
  have hOa : hOK TTs g (EIm n) pW bk h bk h := hOK.rf hO.1 hO.2.1 hO.2.2.1 hO.2.2.2.2.2
  refine j_aload_n (k4 := 0) (by decide +kernel) rfl ?_
  refine j_get (own := 12) (i := 36) (ci := 12) (f := 19) (by decide +kernel) hcls (by decide +kernel) ho (n12 19 (by decide)) (m_ref hO.1 hb ho rfl) ?_
  refine j_aload_n (k4 := 0) (by decide +kernel) rfl ?_
  refine j_get (own := 12) (i := 178) (ci := 12) (f := 20) (by decide +kernel) hcls (by decide +kernel) ho (n12 20 (by decide)) f20 ?_
  refine j_iload_n (k4 := 1) (by decide +kernel) rfl ?_
  refine j_iast (by decide +kernel) s8 (i32_in (by rw [hmt]; omega) (by rw [hmt]; omega)) ?_
  rw [i32_at hmt]
  have hO2 := hOa.st (i := m) (v := op) (lo := 0) (hi := 399) hb ty_m8 s8 (sg1 hop) (by decide) (by omega) (by omega) (by decide)
  have hS2 := hS0.setP (X := upd P m op)
  have ho2 : (h.set (b + 8) (.inl (0, 400, upd P m op)))[b + 0]? = some (.inr (12, fs)) := by rw [List.getElem?_set_ne (by omega)]; exact ho
  generalize h.set (b + 8) (.inl (0, 400, upd P m op)) = h2 at hO2 hS2 ho2
  refine j_aload_n (k4 := 0) (by decide +kernel) rfl ?_
  refine j_dup (by decide +kernel) rfl ?_
  refine j_get (own := 12) (i := 178) (ci := 12) (f := 20) (by decide +kernel) hcls (by decide +kernel) ho2 (n12 20 (by decide)) f20 ?_
  refine j_iconst (n := 1) (by decide +kernel) ?_
  refine j_iadd (by decide +kernel) ?_
  rw [iN_add (by omega)]
  refine j_put (own := 12) (i := 178) (ci := 12) (f := 20) (by decide +kernel) hcls (by decide +kernel) ho2 rfl (by decide +kernel) (by rw [mf_len hO2.1 hb ho2]; decide) (by decide +kernel) (ty := .int) (by decide +kernel) rfl rfl ?_
  have hm1t : (Int32.ofInt ((m + 1 : Nat) : Int)).toInt = ((m + 1 : Nat) : Int) := i32_n (by omega)
  have hO3 := hO2.sf (k := 20) (v := Int32.ofInt ((m + 1 : Nat) : Int)) hb ty_m0 ho2 (show mTs[20]? = some (0, 0, 400, 0, 0) from rfl) (by omega) (by omega) (by decide) (by decide)
  exact j_ret (v := none) ⟨by decide +kernel, by decide +kernel⟩ ⟨rfl, bk, hO3, hS2.setF (pF.set20 (x := m + 1) ⟨f6, f7, f8, f9, f12, f13, f15, f20, f21⟩)⟩ rfl
end PB
