/-! moves keeps its contracts -/
section MV
variable {l : Launch} {g : jG} {n : Int}
set_option maxRecDepth 16384 in
theorem moves_ok0 {t k : Nat} (ht : t < 2) (hk : k < 16) (hlow : ∀ (k : Nat) (K : aK), KTx[k]? = some K → k < 558 → kOK TTs g (EIm n) l K) : kOK TTs g (EIm n) l (mvX0 (1130 + 930 * t + 1 + 8 * k)) := by
  intro bk h av ev hT hD hE hb1 hl hn _ hg
  obtain ⟨ck1, ck2⟩ := mv_c0 ht hk
  obtain ⟨c, hcd⟩ : ∃ c : Nat, 1130 + 930 * t + 1 + 8 * k = c := ⟨_, rfl⟩
  rw [hcd] at hg hl hn ck1 ck2 ⊢
  obtain ⟨g1, g2, g3, g4, g5, g6, g7⟩ := hg
  have hlen : (jal 244 av).length = 6 := (jal_len hl).trans (show jmx 244 = 6 by decide +kernel)
  obtain ⟨a0, a1, a2, a3, a4, a5, hal⟩ := list6 hlen
  have l0 := g4 0 (2, 1, 0) rfl
  have l1 := g4 1 (0, 0, 0) rfl
  have l2 := g4 2 (0, 1, 0) rfl
  have hal2 : jal (mvX0 c).1 av = [a0, a1, a2, a3, a4, a5] := hal
  rw [hal2] at l0 l1 l2
  obtain ⟨w0, e0, b, hb, rfl⟩ := l0
  obtain ⟨w1, e1, cc, rfl, v1⟩ := l1
  obtain ⟨w2, e2, lg, rfl, v2⟩ := l2
  have r0 := Option.some.inj e0
  have r1 := Option.some.inj e1
  have r2 := Option.some.inj e2
  clear e0 e1 e2
  subst r0 r1 r2
  have hb : bk 1 = some b := hb
  have i1 := g1.2 0 (eNew (c : Int) (c : Int) none) _ rfl v1
  have i2 := g1.2 1 (eNew 0 0 none) _ rfl v2
  dsimp only [eNew] at i1 i2
  have hct : cc.toInt = (c : Int) := by omega
  have hcb : c < 5000 := by omega
  obtain ⟨r, hr, hty⟩ := m_arr hT hb ty_m1
  obtain ⟨F, hrF, -⟩ := m_arr hT hb ty_m2
  obtain ⟨K, hrK, -⟩ := m_arr hT hb ty_m3
  obtain ⟨cl, hc, fs, rfl, -, -⟩ := hT 1 b 0 _ hb ty_m0
  have hc : h[b + 0]? = some (.inr (12, fs)) := hc
  have hgo := (hE b r F K hb hr hrF hrK).1.2.2 t ht k hk
  rw [show 0 + 1130 + 930 * t + 1 + 8 * k = c by omega] at hgo
  have b0 := row_cl (q := (0, 1)) hty ht hk (j := 0) (by omega) rfl
  have b1 := row_cl (q := (0, 11)) hty ht hk (j := 1) (by omega) rfl
  rw [show 1130 + 930 * t + 1 + 8 * k + 0 = c by omega] at b0
  rw [hcd] at b1
  dsimp only at b0 b1
  have d1 : (cc + Int32.ofInt 1).toInt = ((c + 1 : Nat) : Int) := by rw [i32_addn hct (by omega) (by omega)]; omega
  have d2 : (cc + Int32.ofInt 2).toInt = ((c + 2 : Nat) : Int) := by rw [i32_addn hct (by omega) (by omega)]; omega
  refine jCal_of (show plainName (jyN 244).cls = true by decide +kernel) hl ?_
  rw [hal2]
  have hcls : jcN 12 = (jyN 244).cls := by decide +kernel
  have hO0 : hOK TTs g (EIm n) mvW0 bk h bk h := hOK.rf hT hD hE hb1
  show J l g 244 1 0 [some (.ref (g.2.2 + (b + 0))), some (.int cc), some (.int lg), a3, a4, a5] [] h 0 0 _
  refine j_aload_n (k4 := 0) (by decide +kernel) rfl ?_
  refine j_get (own := 12) (i := 7) (ci := 12) (f := 2) (by decide +kernel) hcls (by decide +kernel) hc (n12 2 (by decide)) (m_ref hT hb hc rfl) ?_
  refine j_iload_n (k4 := 1) (by decide +kernel) rfl ?_
  refine j_iconst (n := 1) (by decide +kernel) ?_
  refine j_iadd (by decide +kernel) ?_
  refine j_iald (by decide +kernel) hr (i32_in (by rw [d1]; omega) (by rw [d1]; omega)) ?_
  rw [i32_at d1]
  refine j_istore_n (k4 := 3) (by decide +kernel) (by decide +kernel) ?_
  refine j_aload_n (k4 := 0) (by decide +kernel) rfl ?_
  refine j_get (own := 12) (i := 7) (ci := 12) (f := 2) (by decide +kernel) hcls (by decide +kernel) hc (n12 2 (by decide)) (m_ref hT hb hc rfl) ?_
  refine j_iload_n (k4 := 1) (by decide +kernel) rfl ?_
  refine j_iconst (n := 2) (by decide +kernel) ?_
  refine j_iadd (by decide +kernel) ?_
  refine j_iald (by decide +kernel) hr (i32_in (by rw [d2]; omega) (by rw [d2]; omega)) ?_
  rw [i32_at d2]
  refine j_istore (i := 4) (by decide +kernel) (by decide +kernel) ?_
  show J l g 244 1 19 [some (.ref (g.2.2 + (b + 0))), some (.int cc), some (.int lg), some (.int (r (c + 1))), some (.int (r (c + 2))), a5] [] h 0 0 _
  have key : ∀ (kd glo ghi : Int), (r c).toInt = kd → glo ≤ (r (c + 2)).toInt → (r (c + 2)).toInt ≤ ghi → mvB (mvK0 c kd glo ghi) = true → J l g 244 1 19 [some (.ref (g.2.2 + (b + 0))), some (.int cc), some (.int lg), some (.int (r (c + 1))), some (.int (r (c + 2))), a5] [] h 0 0 (kPost TTs g (EIm n) (mvX0 c) bk h ev) := by
    intro kd glo ghi hkd hg1 hg2 hck
    have hM : mOK TTs g (EIm n) Pm KTx l (mvK0 c kd glo ghi).1 12 558 := ⟨TTs_cl, TTs_sg, EIm_ok, hcls, hlow⟩
    have hI : eIv [(cc).toInt, lg.toInt, (r (c + 1)).toInt, (r (c + 2)).toInt, (r c).toInt] (kEnv (mvK0 c kd glo ghi)) := ⟨rfl, fun i e z he hz => by
      match i, he, hz with
      | 0, he, hz => cases he; cases hz; exact ⟨by show (c : Int) ≤ _; omega, by show _ ≤ (c : Int); omega⟩
      | 1, he, hz => cases he; cases hz; exact i2
      | 2, he, hz => cases he; cases hz; exact b1
      | 3, he, hz => cases he; cases hz; exact ⟨hg1, hg2⟩
      | 4, he, hz => cases he; cases hz; exact ⟨by show kd ≤ _; omega, by show _ ≤ kd; omega⟩
      | i + 5, he, _ => cases he⟩
    refine chk_okQ (KI := KIx) (K := mvK0 c kd glo ghi) (bk0 := bk) (h0 := h) (ev := [(cc).toInt, lg.toInt, (r (c + 1)).toInt, (r (c + 2)).toInt, (r c).toInt]) (ev' := [(cc).toInt, lg.toInt, (r (c + 1)).toInt, (r (c + 2)).toInt, (r c).toInt]) hM hI rfl (fun i z hz => hz) (fun v h2 hq => ?_) (fun C hC => absurd hC List.not_mem_nil) 300 true 19 _ _ _ hck [(cc).toInt, lg.toInt, (r (c + 1)).toInt, (r (c + 2)).toInt, (r c).toInt] bk _ [] h ⟨⟨hI, eFm_plain (plain_app (spEnv_plain _) clEnv_plain), fun F hF => absurd hF List.not_mem_nil, fun i v hv => ?_, trivial, fun q hq => ?_, fun B hB => absurd hB List.not_mem_nil⟩, hO0, (show 6 = jmx 244 by decide +kernel), fun i z hz => hz⟩
    · obtain ⟨bk', os, k1, ⟨k2, -⟩, q, hq1, hq2⟩ := hq
      have hq3 : q = (0, 0, 1, 0, 0, []) := List.mem_singleton.mp hq1
      subst hq3
      obtain ⟨x, rfl, x1, -, -⟩ := hq2
      exact ⟨bk', [], k1, ⟨rfl, fun j q x hj => by cases hj⟩, _, List.mem_cons_self, x, rfl, x1, Or.inl rfl, fun F hF => absurd hF List.not_mem_nil⟩
    · match i, hv with
      | 0, hv => cases hv; exact ⟨_, rfl, b, hb, rfl⟩
      | 1, hv => cases hv; exact ⟨_, rfl, cc, rfl, rfl⟩
      | 2, hv => cases hv; exact ⟨_, rfl, lg, rfl, rfl⟩
      | 3, hv => cases hv; exact ⟨_, rfl, r (c + 1), rfl, rfl⟩
      | 4, hv => cases hv; exact ⟨_, rfl, r (c + 2), rfl, rfl⟩
      | 5, hv => cases hv
      | i + 6, hv => cases hv
    · have hq2 : q = (1, 1, fcon ((c : Nat) : Int), 4) := List.mem_singleton.mp hq
      subst hq2
      exact ⟨((c : Nat) : Int), b, _, (r c).toInt, fcon_ok, hb, hr, ⟨by omega, by rw [Int.toNat_natCast]⟩, rfl⟩
  have hk2 : (r c).toInt = 0 ∨ (r c).toInt = 1 := by omega
  rcases hk2 with hk2 | hk2
  · exact key 0 0 11 hk2 (hgo hk2).1 (hgo hk2).2 ck1
  · exact key 1 (-2147483648) 2147483647 hk2 (i32_lo _) (i32_hi _) ck2
set_option maxRecDepth 16384 in
theorem moves_ok1 {t k : Nat} (ht : t < 2) (hk : k < 16) (hlow : ∀ (k : Nat) (K : aK), KTx[k]? = some K → k < 558 → kOK TTs g (EIm n) l K) : kOK TTs g (EIm n) l (mvX1 (1130 + 930 * t + 1 + 8 * k)) := by
  intro bk h av ev hT hD hE hb1 hl hn _ hg
  obtain ⟨ck1, ck2⟩ := mv_c1 ht hk
  obtain ⟨c, hcd⟩ : ∃ c : Nat, 1130 + 930 * t + 1 + 8 * k = c := ⟨_, rfl⟩
  rw [hcd] at hg hl hn ck1 ck2 ⊢
  obtain ⟨g1, g2, g3, g4, g5, g6, g7⟩ := hg
  have hlen : (jal 244 av).length = 6 := (jal_len hl).trans (show jmx 244 = 6 by decide +kernel)
  obtain ⟨a0, a1, a2, a3, a4, a5, hal⟩ := list6 hlen
  have l0 := g4 0 (2, 1, 0) rfl
  have l1 := g4 1 (0, 0, 0) rfl
  have l2 := g4 2 (0, 1, 0) rfl
  have hal2 : jal (mvX1 c).1 av = [a0, a1, a2, a3, a4, a5] := hal
  rw [hal2] at l0 l1 l2
  obtain ⟨w0, e0, b, hb, rfl⟩ := l0
  obtain ⟨w1, e1, cc, rfl, v1⟩ := l1
  obtain ⟨w2, e2, lg, rfl, v2⟩ := l2
  have r0 := Option.some.inj e0
  have r1 := Option.some.inj e1
  have r2 := Option.some.inj e2
  clear e0 e1 e2
  subst r0 r1 r2
  have hb : bk 1 = some b := hb
  have i1 := g1.2 0 (eNew (c : Int) (c : Int) none) _ rfl v1
  have i2 := g1.2 1 (eNew 1 1 none) _ rfl v2
  dsimp only [eNew] at i1 i2
  have hct : cc.toInt = (c : Int) := by omega
  have hcb : c < 5000 := by omega
  obtain ⟨r, hr, hty⟩ := m_arr hT hb ty_m1
  obtain ⟨F, hrF, -⟩ := m_arr hT hb ty_m2
  obtain ⟨K, hrK, -⟩ := m_arr hT hb ty_m3
  obtain ⟨cl, hc, fs, rfl, -, -⟩ := hT 1 b 0 _ hb ty_m0
  have hc : h[b + 0]? = some (.inr (12, fs)) := hc
  have hgo := (hE b r F K hb hr hrF hrK).1.2.2 t ht k hk
  rw [show 0 + 1130 + 930 * t + 1 + 8 * k = c by omega] at hgo
  have b0 := row_cl (q := (0, 1)) hty ht hk (j := 0) (by omega) rfl
  have b1 := row_cl (q := (0, 11)) hty ht hk (j := 1) (by omega) rfl
  rw [show 1130 + 930 * t + 1 + 8 * k + 0 = c by omega] at b0
  rw [hcd] at b1
  dsimp only at b0 b1
  have d1 : (cc + Int32.ofInt 1).toInt = ((c + 1 : Nat) : Int) := by rw [i32_addn hct (by omega) (by omega)]; omega
  have d2 : (cc + Int32.ofInt 2).toInt = ((c + 2 : Nat) : Int) := by rw [i32_addn hct (by omega) (by omega)]; omega
  obtain ⟨z, b', cx, x, y1, y2, y3, y4, y5⟩ := g6 (1, 1, fcon ((1 : Nat) : Int), 2) List.mem_cons_self
  have i5 := g1.2 2 (eNew 0 1073741822 none) _ rfl y5
  dsimp only [eNew] at i5
  have y2 : bk 1 = some b' := y2
  cases hb.symm.trans y2
  have y3 : h[b + 1]? = some cx := y3
  cases hr.symm.trans y3
  have y1 : some (1 : Int) = some z := fcon_ok.symm.trans y1
  cases y1
  have y4 : (r 1).toInt = x := y4.2
  subst y4
  refine jCal_of (show plainName (jyN 244).cls = true by decide +kernel) hl ?_
  rw [hal2]
  have hcls : jcN 12 = (jyN 244).cls := by decide +kernel
  have hO0 : hOK TTs g (EIm n) mvW1 bk h bk h := hOK.rf hT hD hE hb1
  show J l g 244 4 0 [some (.ref (g.2.2 + (b + 0))), some (.int cc), some (.int lg), a3, a4, a5] [] h 0 0 _
  refine j_aload_n (k4 := 0) (by decide +kernel) rfl ?_
  refine j_get (own := 12) (i := 7) (ci := 12) (f := 2) (by decide +kernel) hcls (by decide +kernel) hc (n12 2 (by decide)) (m_ref hT hb hc rfl) ?_
  refine j_iload_n (k4 := 1) (by decide +kernel) rfl ?_
  refine j_iconst (n := 1) (by decide +kernel) ?_
  refine j_iadd (by decide +kernel) ?_
  refine j_iald (by decide +kernel) hr (i32_in (by rw [d1]; omega) (by rw [d1]; omega)) ?_
  rw [i32_at d1]
  refine j_istore_n (k4 := 3) (by decide +kernel) (by decide +kernel) ?_
  refine j_aload_n (k4 := 0) (by decide +kernel) rfl ?_
  refine j_get (own := 12) (i := 7) (ci := 12) (f := 2) (by decide +kernel) hcls (by decide +kernel) hc (n12 2 (by decide)) (m_ref hT hb hc rfl) ?_
  refine j_iload_n (k4 := 1) (by decide +kernel) rfl ?_
  refine j_iconst (n := 2) (by decide +kernel) ?_
  refine j_iadd (by decide +kernel) ?_
  refine j_iald (by decide +kernel) hr (i32_in (by rw [d2]; omega) (by rw [d2]; omega)) ?_
  rw [i32_at d2]
  refine j_istore (i := 4) (by decide +kernel) (by decide +kernel) ?_
  show J l g 244 4 19 [some (.ref (g.2.2 + (b + 0))), some (.int cc), some (.int lg), some (.int (r (c + 1))), some (.int (r (c + 2))), a5] [] h 0 0 _
  have key : ∀ (kd glo ghi : Int), (r c).toInt = kd → glo ≤ (r (c + 2)).toInt → (r (c + 2)).toInt ≤ ghi → mvB (mvK1 c kd glo ghi) = true → J l g 244 4 19 [some (.ref (g.2.2 + (b + 0))), some (.int cc), some (.int lg), some (.int (r (c + 1))), some (.int (r (c + 2))), a5] [] h 0 0 (kPost TTs g (EIm n) (mvX1 c) bk h ev) := by
    intro kd glo ghi hkd hg1 hg2 hck
    have hM : mOK TTs g (EIm n) Pm KTx l (mvK1 c kd glo ghi).1 12 558 := ⟨TTs_cl, TTs_sg, EIm_ok, hcls, hlow⟩
    have hI : eIv [(cc).toInt, lg.toInt, (r (c + 1)).toInt, (r (c + 2)).toInt, (r c).toInt, (r 1).toInt] (kEnv (mvK1 c kd glo ghi)) := ⟨rfl, fun i e z he hz => by
      match i, he, hz with
      | 0, he, hz => cases he; cases hz; exact ⟨by show (c : Int) ≤ _; omega, by show _ ≤ (c : Int); omega⟩
      | 1, he, hz => cases he; cases hz; exact i2
      | 2, he, hz => cases he; cases hz; exact b1
      | 3, he, hz => cases he; cases hz; exact ⟨hg1, hg2⟩
      | 4, he, hz => cases he; cases hz; exact ⟨by show kd ≤ _; omega, by show _ ≤ kd; omega⟩
      | 5, he, hz => cases he; cases hz; exact i5
      | i + 6, he, _ => cases he⟩
    refine chk_okQ (KI := KIx) (K := mvK1 c kd glo ghi) (bk0 := bk) (h0 := h) (ev := [(cc).toInt, lg.toInt, (r (c + 1)).toInt, (r (c + 2)).toInt, (r c).toInt, (r 1).toInt]) (ev' := [(cc).toInt, lg.toInt, (r (c + 1)).toInt, (r (c + 2)).toInt, (r c).toInt, (r 1).toInt]) hM hI rfl (fun i z hz => hz) (fun v h2 hq => ?_) (fun C hC => absurd hC List.not_mem_nil) 300 true 19 _ _ _ hck [(cc).toInt, lg.toInt, (r (c + 1)).toInt, (r (c + 2)).toInt, (r c).toInt, (r 1).toInt] bk _ [] h ⟨⟨hI, eFm_plain (plain_app (spEnv_plain _) clEnv_plain), fun F hF => absurd hF List.not_mem_nil, fun i v hv => ?_, trivial, fun q hq => ?_, fun B hB => absurd hB List.not_mem_nil⟩, hO0, (show 6 = jmx 244 by decide +kernel), fun i z hz => hz⟩
    · obtain ⟨bk', os, k1, ⟨k2, k3⟩, q, hq1, hq2⟩ := hq
      have hq3 : q = (0, 0, 1, 0, 0, []) := List.mem_singleton.mp hq1
      subst hq3
      obtain ⟨x, rfl, x1, -, x3⟩ := hq2
      match os, k2, k3, x3 with
      | [ou], k2, k3, x3 =>
        obtain ⟨z, z1, z2⟩ := x3 _ List.mem_cons_self
        have z1 : some (1 * (r 1).toInt + (-1 * ou + 0) + 2) = some z := z1
        have z3 := Option.some.inj z1
        have hev : ∃ q0 q1, ev = [q0, q1, (r 1).toInt] := by
          have hn3 : ev.length = 3 := hn
          obtain ⟨q0, q1, q2, hq⟩ := list3 hn3
          rw [hq] at y5
          cases y5
          exact ⟨q0, q1, hq⟩
        obtain ⟨q0, q1, hev⟩ := hev
        refine ⟨bk', [ou], k1, ⟨k2, k3⟩, _, List.mem_cons_self, x, rfl, x1, Or.inl rfl, fun F hF => ?_⟩
        rw [List.mem_singleton.mp hF, hev]
        exact ⟨1 * (r 1).toInt + (-1 * ou + 0) + 2, rfl, by omega⟩
    · match i, hv with
      | 0, hv => cases hv; exact ⟨_, rfl, b, hb, rfl⟩
      | 1, hv => cases hv; exact ⟨_, rfl, cc, rfl, rfl⟩
      | 2, hv => cases hv; exact ⟨_, rfl, lg, rfl, rfl⟩
      | 3, hv => cases hv; exact ⟨_, rfl, r (c + 1), rfl, rfl⟩
      | 4, hv => cases hv; exact ⟨_, rfl, r (c + 2), rfl, rfl⟩
      | 5, hv => cases hv
      | i + 6, hv => cases hv
    · have hq2 : q ∈ [(1, 1, fcon ((c : Nat) : Int), 4), (1, 1, fcon ((1 : Nat) : Int), 5)] := hq
      simp only [List.mem_cons, List.not_mem_nil, or_false] at hq2
      rcases hq2 with rfl | rfl
      · exact ⟨((c : Nat) : Int), b, _, (r c).toInt, fcon_ok, hb, hr, ⟨by omega, by rw [Int.toNat_natCast]⟩, rfl⟩
      · exact ⟨((1 : Nat) : Int), b, _, (r 1).toInt, fcon_ok, hb, hr, ⟨by decide, rfl⟩, rfl⟩
  have hk2 : (r c).toInt = 0 ∨ (r c).toInt = 1 := by omega
  rcases hk2 with hk2 | hk2
  · exact key 0 0 11 hk2 (hgo hk2).1 (hgo hk2).2 ck1
  · exact key 1 (-2147483648) 2147483647 hk2 (i32_lo _) (i32_hi _) ck2
end MV
