/-! reached: its beginning by hand, the rest checked -/
section RC
variable {l : Launch} {g : jG} {d kc ks : Nat} {Q : Option Value → jH → Prop} {h : jH}
def kd3 (f : Nat → Int32) (k : Nat) : Prop := (f (k + 1)).toInt = 0 ∨ (f (k + 1)).toInt = 2 ∨ (f (k + 1)).toInt = 6
theorem i32_eqv {x : Int32} {z : Int} (hz : -2147483648 ≤ z ∧ z ≤ 2147483647) : x = Int32.ofInt z ↔ x.toInt = z := by
  constructor
  · intro h; rw [h]; exact i32_ofInt hz.1 hz.2
  · intro h; rw [← h, Int32.ofInt_toInt]
theorem coming_run {b k : Nat} {fs : List Value} {f : Nat → Int32} {kk : Int32} (hkk : kk.toInt = (k : Int)) (hk : k ≤ 5000) (ho : h[b]? = some (.inr (12, fs))) (hf : fs[2]? = some (.ref (g.2.2 + (b + 1)))) (hr : h[b + 1]? = some (.inl (0, 5270, f))) :
    jCal l g 297 d [.ref (g.2.2 + b), .int kk] h kc ks (fun v h' => h' = h ∧ ((v = some (.int 1) ∧ kd3 f k) ∨ (v = some (.int 0) ∧ ¬ kd3 f k))) := by
  refine jCal_of (by decide +kernel) (show 2 ≤ jmx 297 by decide +kernel) ?_
  show J l g 297 d 0 [some (.ref (g.2.2 + b)), some (.int kk)] [] h kc ks _
  have hn2 : ∀ r, jcl[12]? = some r → 2 < r.2.2 := fun r hr => by cases hr; decide +kernel
  have hcls : jcN 12 = (jyN 297).cls := by decide +kernel
  have h12 : (12, 7, 12, 2) ∈ jeF := by decide +kernel
  have d1 : (kk + Int32.ofInt 1).toInt = ((k + 1 : Nat) : Int) := by
    rw [i32_addn hkk (by omega) (by omega)]
    omega
  have c1 := i32_at d1
  have hb := Int32.toInt_lt (f (k + 1))
  have hyes : kd3 f k → J l g 297 d 36 [some (.ref (g.2.2 + b)), some (.int kk)] [] h kc ks (fun v h' => h' = h ∧ ((v = some (.int 1) ∧ kd3 f k) ∨ (v = some (.int 0) ∧ ¬ kd3 f k))) := fun hy => by
    refine j_iconst (n := 1) (by decide +kernel) ?_
    refine j_goto (off := 4) (tgt := 41) (by decide +kernel) (by decide) ?_
    exact j_ret (v := some (.int 1)) ⟨by decide +kernel, Or.inr (Or.inl ⟨by decide +kernel, Or.inr rfl⟩)⟩ ⟨rfl, Or.inl ⟨rfl, hy⟩⟩ rfl
  refine j_aload_n (k4 := 0) (by decide +kernel) rfl ?_
  refine j_get (own := 12) (i := 7) (ci := 12) (f := 2) (by decide +kernel) hcls h12 ho hn2 hf ?_
  refine j_iload_n (k4 := 1) (by decide +kernel) rfl ?_
  refine j_iconst (n := 1) (by decide +kernel) ?_
  refine j_iadd (by decide +kernel) ?_
  refine j_iald (by decide +kernel) hr (i32_in (by omega) (by omega)) ?_
  rw [c1]
  refine j_if_eq (off := 28) (tgt := 36) (by decide +kernel) (by decide) (fun e => hyes (Or.inl (by rw [e]; rfl))) (fun e0 => ?_)
  refine j_aload_n (k4 := 0) (by decide +kernel) rfl ?_
  refine j_get (own := 12) (i := 7) (ci := 12) (f := 2) (by decide +kernel) hcls h12 ho hn2 hf ?_
  refine j_iload_n (k4 := 1) (by decide +kernel) rfl ?_
  refine j_iconst (n := 1) (by decide +kernel) ?_
  refine j_iadd (by decide +kernel) ?_
  refine j_iald (by decide +kernel) hr (i32_in (by omega) (by omega)) ?_
  rw [c1]
  refine j_iconst (n := 2) (by decide +kernel) ?_
  refine j_icmp_eq (off := 16) (tgt := 36) (by decide +kernel) (by decide) (fun e => hyes (Or.inr (Or.inl (by rw [e]; rfl)))) (fun e2 => ?_)
  refine j_aload_n (k4 := 0) (by decide +kernel) rfl ?_
  refine j_get (own := 12) (i := 7) (ci := 12) (f := 2) (by decide +kernel) hcls h12 ho hn2 hf ?_
  refine j_iload_n (k4 := 1) (by decide +kernel) rfl ?_
  refine j_iconst (n := 1) (by decide +kernel) ?_
  refine j_iadd (by decide +kernel) ?_
  refine j_iald (by decide +kernel) hr (i32_in (by omega) (by omega)) ?_
  rw [c1]
  refine j_bipush (n := 6) (by decide +kernel) ?_
  refine j_icmp_ne (off := 7) (tgt := 40) (by decide +kernel) (by decide) (fun e6 => ?_) (fun e6 => ?_)
  · refine j_iconst (n := 0) (by decide +kernel) ?_
    refine j_ret (v := some (.int 0)) ⟨by decide +kernel, Or.inr (Or.inl ⟨by decide +kernel, Or.inl rfl⟩)⟩ ⟨rfl, Or.inr ⟨rfl, ?_⟩⟩ rfl
    rintro (q | q | q)
    · exact e0 (((i32_eqv (z := 0) (by omega)).mpr q).trans rfl)
    · exact e2 ((i32_eqv (z := 2) (by omega)).mpr q)
    · exact e6 (((i32_eqv (z := 6) (by omega)).mpr q).trans (by decide))
  · refine hyes (Or.inr (Or.inr ?_))
    rw [Classical.not_not.mp e6]
    decide
def rchK : aK := (302, [some (2, 0, 0, 1, 0), some (0, 624, 1119, 5, 0), some (0, 0, 9999, 0, 0), none, none, none], [], [], [(0, -2147483648, 2147483647, 0, 0, [])], [], [], [(1, 21, 0, 143)], 3, 0, 0)
def rchC : List aCu := [(28, [some (2, 0, 0, 1, 0), some (0, 624, 1119, 0, 0), some (0, 0, 9999, 0, 0), some (0, 0, 11, 0, 0), none, none], [], [], ([], 13), []), (38, [some (2, 0, 0, 1, 0), some (0, 624, 1119, 0, 0), some (0, 0, 9999, 0, 0), some (0, 0, 11, 0, 0), some (0, -2147483648, 2147483647, 0, 0), some (0, 0, 12, 0, 0)], [], [], ([(6, -1)], 12), [])]
theorem rch_chk : rchC.all (fun C => Nat.beq C.2.1.length (jmx 302) && chk (TTs, KTx, KIx, [(1, 21, 0, 143)], Pm, 302, 12, 3, rchN) rchK rchC [] (some C.2.2.2.2.1) 400 true C.1 (spState (kEnv rchK) C.2.1 C.2.2.1 C.2.2.2.1 C.2.2.2.2.2) 0 0) = true := by decide +kernel
theorem row_col {f : Nat → Int32} {t j : Nat} {q : Int × Int} (hty : ∀ i, i < 5270 → sgOK ROWs i (f i).toInt) (ht : t < 100) (hj : j < 5) (hq : [((0 : Int), (9999 : Int)), (0, 7), (-1, 11), (-1, 11), (0, 999)][j]? = some q) : q.1 ≤ (f (624 + 5 * t + j)).toInt ∧ (f (624 + 5 * t + j)).toInt ≤ q.2 :=
  hty (624 + 5 * t + j) (by omega) (624, 500, 5, [(0, 9999), (0, 7), (-1, 11), (-1, 11), (0, 999)]) (by decide +kernel) (by show 624 ≤ _; omega) (by show _ < 624 + 500; omega) q (by show [((0 : Int), (9999 : Int)), (0, 7), (-1, 11), (-1, 11), (0, 999)][(624 + 5 * t + j - 624) % 5]? = some q; rw [show (624 + 5 * t + j - 624) % 5 = j by omega]; exact hq)
theorem reached_ok {n : Int} (hlow : ∀ (k : Nat) (K : aK), KTx[k]? = some K → k < rchN → kOK TTs g (EIm n) l K) : kOK TTs g (EIm n) l rchK := by
  intro bk h av ev hT hD hE hb1 hl hn hst hg
  have hn2 : ev.length = 2 := hn
  obtain ⟨g1, g2, g3, g4, g5, g6, g7⟩ := hg
  have hlen : (jal 302 av).length = 6 := (jal_len hl).trans (show jmx 302 = 6 by decide +kernel)
  obtain ⟨a0, a1, a2, a3, a4, a5, hal⟩ := list6 hlen
  have l0 := g4 0 (2, 1, 0) rfl
  have l1 := g4 1 (0, 0, 0) rfl
  have l2 := g4 2 (0, 1, 0) rfl
  have hal2 : jal rchK.1 av = [a0, a1, a2, a3, a4, a5] := hal
  rw [hal2] at l0 l1 l2
  obtain ⟨w0, e0, b, hb, rfl⟩ := l0
  obtain ⟨w1, e1, kk, rfl, v1⟩ := l1
  obtain ⟨w2, e2, mi, rfl, v2⟩ := l2
  have r0 := Option.some.inj e0
  have r1 := Option.some.inj e1
  have r2 := Option.some.inj e2
  clear e0 e1 e2
  subst r0 r1 r2
  have i1 := g1.2 0 (eNew 624 1119 none) _ rfl v1
  have i2 := g1.2 1 (eNew 0 9999 none) _ rfl v2
  dsimp only [eNew] at i1 i2
  have hs5 : (kk.toInt - 624) % 5 = 0 := hst (0, 624, 5) (by decide +kernel) _ v1
  obtain ⟨t, ht⟩ : ∃ t : Nat, kk.toInt = ((624 + 5 * t : Nat) : Int) := ⟨((kk.toInt - 624) / 5).toNat, by omega⟩
  have htb : t < 100 := by omega
  have hb : bk 1 = some b := hb
  obtain ⟨f, hr, hty⟩ := m_arr hT hb ty_m1
  obtain ⟨F, hrF, -⟩ := m_arr hT hb ty_m2
  obtain ⟨K, hrK, -⟩ := m_arr hT hb ty_m3
  obtain ⟨fs, ho, hfs⟩ := m_obj hT hb
  obtain ⟨v, hv1, b2, hb2, hv2⟩ := hfs 2 (2, 0, 0, 1, 1) rfl
  have hb2 : bk 1 = some b2 := hb2
  cases hb.symm.trans hb2
  subst hv2
  have hlg := (hE b f F K hb hr hrF hrK).1.1 t htb
  rw [show 0 + 624 + 5 * t + 1 = 624 + 5 * t + 1 by omega, show 0 + 624 + 5 * t + 2 = 624 + 5 * t + 2 by omega, show 0 + 624 + 5 * t + 3 = 624 + 5 * t + 3 by omega] at hlg
  have b2 := row_col (q := (-1, 11)) hty htb (j := 2) (by omega) rfl
  have b3 := row_col (q := (-1, 11)) hty htb (j := 3) (by omega) rfl
  refine jCal_of (show plainName (jyN 302).cls = true by decide +kernel) hl ?_
  rw [hal2]
  have hn0 : ∀ r, jcl[12]? = some r → 2 < r.2.2 := fun r hr => by cases hr; decide +kernel
  have hcls : jcN 12 = (jyN 302).cls := by decide +kernel
  have h12 : (12, 7, 12, 2) ∈ jeF := by decide +kernel
  have hM : mOK TTs g (EIm n) Pm KTx l rchK.1 12 rchN := ⟨TTs_cl, TTs_sg, EIm_ok, hcls, hlow⟩
  show J l g 302 3 0 [some (.ref (g.2.2 + b)), some (.int kk), some (.int mi), a3, a4, a5] [] h 0 0 (kPost TTs g (EIm n) rchK bk h ev)
  have h27 : ∀ fr : Int32, 0 ≤ fr.toInt → fr.toInt ≤ 11 → J l g 302 3 27 [some (.ref (g.2.2 + b)), some (.int kk), some (.int mi), a3, a4, a5] [.int fr] h 0 0 (kPost TTs g (EIm n) rchK bk h ev) := by
    intro fr f1 f2
    refine j_istore_n (k4 := 3) (by decide +kernel) (by decide +kernel) ?_
    have hcut := cuts_ok (l := l) (own := 12) (n := rchN) (fuel := 400) (sp := []) (bk0 := bk) (h0 := h) hM g1 hn rch_chk _ List.mem_cons_self 13 (by decide)
    refine hcut (ev ++ [kk.toInt] ++ [mi.toInt] ++ [fr.toInt]) bk _ h ⟨⟨?_, eFm_plain (plain_app (plain_app (plain_app (spEnv_plain _) clEnv_plain) (spEnv_plain _)) clEnv_plain), fun F hF => absurd hF List.not_mem_nil, ?_, trivial, fun q hq => absurd hq List.not_mem_nil, fun B hB => absurd hB List.not_mem_nil⟩, ⟨hT, hD, hE, UN.rf, fun _ _ q => q, hb1⟩, (show (6 : Nat) = jmx 302 by decide +kernel), fun i z hz => getE_app (getE_app (getE_app hz))⟩ rfl
    · exact ((g1.push (e := eNew 624 1119 none) (z := kk.toInt) i1).push (e := eNew 0 9999 none) (z := mi.toInt) i2).push (e := eNew 0 11 none) (z := fr.toInt) ⟨f1, f2⟩
    · have z2 : (ev ++ [kk.toInt] ++ [mi.toInt] ++ [fr.toInt])[2]? = some kk.toInt := getE_app (getE_app (by rw [List.getElem?_append_right (by omega), hn2]; rfl))
      have z3 : (ev ++ [kk.toInt] ++ [mi.toInt] ++ [fr.toInt])[3]? = some mi.toInt := getE_app (by rw [List.getElem?_append_right (by simp; omega)]; simp [hn2])
      have z4 : (ev ++ [kk.toInt] ++ [mi.toInt] ++ [fr.toInt])[4]? = some fr.toInt := by rw [List.getElem?_append_right (by simp; omega)]; simp [hn2]
      intro i v hv
      match i, hv with
      | 0, hv => cases hv; exact ⟨_, rfl, b, hb, rfl⟩
      | 1, hv => cases hv; exact ⟨_, rfl, kk, rfl, z2⟩
      | 2, hv => cases hv; exact ⟨_, rfl, mi, rfl, z3⟩
      | 3, hv => cases hv; exact ⟨_, rfl, fr, rfl, z4⟩
      | 4, hv => cases hv
      | 5, hv => cases hv
      | n + 6, hv => cases hv
  refine j_aload_n (k4 := 0) (by decide +kernel) rfl ?_
  refine j_iload_n (k4 := 1) (by decide +kernel) rfl ?_
  show J l g 302 3 2 _ (([.int kk] : List Value).reverse ++ .ref (g.2.2 + b) :: []) h (0 + 0) (0 + 0) _
  refine j_callV (own := 12) (i := 373) (y2 := 297) (d2 := 1) (by decide +kernel) hcls (by decide +kernel) (by decide) (by decide +kernel) (by decide +kernel) (by decide +kernel) (by decide +kernel) (by decide +kernel) (show 1 = jnp 297 by decide +kernel) (by decide) (by decide) ho (fun r hr => by cases hr; decide +kernel) (coming_run ht (by omega) ho hv1 hr) (fun v h' hq => ?_)
  obtain ⟨rfl, hq⟩ := hq
  have d2 : (kk + Int32.ofInt 2).toInt = ((624 + 5 * t + 2 : Nat) : Int) := by
    rw [i32_addn ht (by omega) (by omega)]
    omega
  have d3 : (kk + Int32.ofInt 3).toInt = ((624 + 5 * t + 3 : Nat) : Int) := by
    rw [i32_addn ht (by omega) (by omega)]
    omega
  rcases hq with ⟨rfl, hy⟩ | ⟨rfl, hy⟩
  · show J l g 302 3 5 _ [.int 1] h' 0 0 _
    refine j_if_eq (off := 14) (tgt := 19) (by decide +kernel) (by decide) (fun e => absurd e (by decide)) (fun _ => ?_)
    refine j_aload_n (k4 := 0) (by decide +kernel) rfl ?_
    refine j_get (own := 12) (i := 7) (ci := 12) (f := 2) (by decide +kernel) hcls h12 ho hn0 hv1 ?_
    refine j_iload_n (k4 := 1) (by decide +kernel) rfl ?_
    refine j_iconst (n := 3) (by decide +kernel) ?_
    refine j_iadd (by decide +kernel) ?_
    refine j_iald (by decide +kernel) hr (i32_in (by omega) (by omega)) ?_
    rw [i32_at d3]
    refine j_goto (off := 11) (tgt := 27) (by decide +kernel) (by decide) ?_
    exact h27 _ (hlg.1 hy) b3.2
  · show J l g 302 3 5 _ [.int 0] h' 0 0 _
    refine j_if_eq (off := 14) (tgt := 19) (by decide +kernel) (by decide) (fun _ => ?_) (fun e => absurd rfl e)
    refine j_aload_n (k4 := 0) (by decide +kernel) rfl ?_
    refine j_get (own := 12) (i := 7) (ci := 12) (f := 2) (by decide +kernel) hcls h12 ho hn0 hv1 ?_
    refine j_iload_n (k4 := 1) (by decide +kernel) rfl ?_
    refine j_iconst (n := 2) (by decide +kernel) ?_
    refine j_iadd (by decide +kernel) ?_
    refine j_iald (by decide +kernel) hr (i32_in (by omega) (by omega)) ?_
    rw [i32_at d2]
    exact h27 _ (hlg.2 hy) b2.2
end RC
