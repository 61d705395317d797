section
/-! moves keeps its contracts -/
section MV
variable {l : Launch} {g : jG} {n : Int}
set_option maxRecDepth 16384 in
theorem moves_ok0 {t k : Nat} (ht : t < 2) (hk : k < 16) (hlow : ∀ (k : Nat) (K : aK), KTx[k]? = some K → k < 558 → kOK TTs g (EIm n) l K) : kOK TTs g (EIm n) l (mvX0 (1130 + 930 * t + 1 + 8 * k)) := by
  intro bk h av ev hT hD hE hb1 hl hn _ hg
  obtain ⟨ck1, ck2⟩ := mv_c0 ht hk
  obtain ⟨c, hcd⟩ : ∃ c : Nat, 1130 + 930 * t + 1 + 8 * k = c := ⟨_, rfl⟩
  rw [hcd] at hg hl hn ck1 ck2 ⊢
  obtain ⟨g1, g2, g3, g4, g5, g6, g7⟩ := hg
  have hlen : (jal 244 av).length = 6 := (jal_len hl).trans (show jmx 244 = 6 by decide +kernel)
  obtain ⟨a0, a1, a2, a3, a4, a5, hal⟩ := list6 hlen
  have l0 := g4 0 (2, 1, 0) rfl
  have l1 := g4 1 (0, 0, 0) rfl
  have l2 := g4 2 (0, 1, 0) rfl
  have hal2 : jal (mvX0 c).1 av = [a0, a1, a2, a3, a4, a5] := hal
  rw [hal2] at l0 l1 l2
  obtain ⟨w0, e0, b, hb, rfl⟩ := l0
  obtain ⟨w1, e1, cc, rfl, v1⟩ := l1
  obtain ⟨w2, e2, lg, rfl, v2⟩ := l2
  have r0 := Option.some.inj e0
  have r1 := Option.some.inj e1
  have r2 := Option.some.inj e2
  clear e0 e1 e2
  subst r0 r1 r2
  have hb : bk 1 = some b := hb
  have i1 := g1.2 0 (eNew (c : Int) (c : Int) none) _ rfl v1
  have i2 := g1.2 1 (eNew 0 0 none) _ rfl v2
  dsimp only [eNew] at i1 i2
  have hct : cc.toInt = (c : Int) := by omega
  have hcb : c < 5000 := by omega
  obtain ⟨r, hr, hty⟩ := m_arr hT hb ty_m1
  obtain ⟨F, hrF, -⟩ := m_arr hT hb ty_m2
  obtain ⟨K, hrK, -⟩ := m_arr hT hb ty_m3
  obtain ⟨cl, hc, fs, rfl, -, -⟩ := hT 1 b 0 _ hb ty_m0
  have hc : h[b + 0]? = some (.inr (12, fs)) := hc
  have hgo := (hE b r F K hb hr hrF hrK).1.2.2 t ht k hk
  rw [show 0 + 1130 + 930 * t + 1 + 8 * k = c by omega] at hgo
  have b0 := row_cl (q := (0, 1)) hty ht hk (j := 0) (by omega) rfl
  have b1 := row_cl (q := (0, 11)) hty ht hk (j := 1) (by omega) rfl
  rw [show 1130 + 930 * t + 1 + 8 * k + 0 = c by omega] at b0
  rw [hcd] at b1
  dsimp only at b0 b1
  have d1 : (cc + Int32.ofInt 1).toInt = ((c + 1 : Nat) : Int) := by rw [i32_addn hct (by omega) (by omega)]; omega
  have d2 : (cc + Int32.ofInt 2).toInt = ((c + 2 : Nat) : Int) := by rw [i32_addn hct (by omega) (by omega)]; omega
  refine jCal_of (show plainName (jyN 244).cls = true by decide +kernel) hl ?_
  rw [hal2]
  have hcls : jcN 12 = (jyN 244).cls := by decide +kernel
  have hO0 : hOK TTs g (EIm n) mvW0 bk h bk h := hOK.rf hT hD hE hb1
  show J l g 244 1 0 [some (.ref (g.2.2 + (b + 0))), some (.int cc), some (.int lg), a3, a4, a5] [] h 0 0 _
  refine j_aload_n (k4 := 0) (dQ (by decide +kernel)) rfl ?_
  refine j_get (own := 12) (i := 7) (ci := 12) (f := 2) (dQ (by decide +kernel)) hcls (by decide +kernel) hc (n12 2 (by decide)) (m_ref hT hb hc rfl) ?_
  refine j_iload_n (k4 := 1) (dQ (by decide +kernel)) rfl ?_
  refine j_iconst (n := 1) (dQ (by decide +kernel)) ?_
  refine j_iadd (dQ (by decide +kernel)) ?_
  refine j_iald (dQ (by decide +kernel)) hr (i32_in (by rw [d1]; omega) (by rw [d1]; omega)) ?_
  rw [i32_at d1]
  refine j_istore_n (k4 := 3) (dQ (by decide +kernel)) (by decide +kernel) ?_
  refine j_aload_n (k4 := 0) (dQ (by decide +kernel)) rfl ?_
  refine j_get (own := 12) (i := 7) (ci := 12) (f := 2) (dQ (by decide +kernel)) hcls (by decide +kernel) hc (n12 2 (by decide)) (m_ref hT hb hc rfl) ?_
  refine j_iload_n (k4 := 1) (dQ (by decide +kernel)) rfl ?_
  refine j_iconst (n := 2) (dQ (by decide +kernel)) ?_
  refine j_iadd (dQ (by decide +kernel)) ?_
  refine j_iald (dQ (by decide +kernel)) hr (i32_in (by rw [d2]; omega) (by rw [d2]; omega)) ?_
  rw [i32_at d2]
  refine j_istore (i := 4) (dQ (by decide +kernel)) (by decide +kernel) ?_
  show J l g 244 1 19 [some (.ref (g.2.2 + (b + 0))), some (.int cc), some (.int lg), some (.int (r (c + 1))), some (.int (r (c + 2))), a5] [] h 0 0 _
  have key : ∀ (kd glo ghi : Int), (r c).toInt = kd → glo ≤ (r (c + 2)).toInt → (r (c + 2)).toInt ≤ ghi → mvB (mvK0 c kd glo ghi) = true → J l g 244 1 19 [some (.ref (g.2.2 + (b + 0))), some (.int cc), some (.int lg), some (.int (r (c + 1))), some (.int (r (c + 2))), a5] [] h 0 0 (kPost TTs g (EIm n) (mvX0 c) bk h ev) := by
    intro kd glo ghi hkd hg1 hg2 hck
    have hM : mOK TTs g (EIm n) Pm KTx l (mvK0 c kd glo ghi).1 12 558 := ⟨TTs_cl, TTs_sg, EIm_ok, hcls, hlow⟩
    have hI : eIv [(cc).toInt, lg.toInt, (r (c + 1)).toInt, (r (c + 2)).toInt, (r c).toInt] (kEnv (mvK0 c kd glo ghi)) := ⟨rfl, fun i e z he hz => by
      match i, he, hz with
      | 0, he, hz => cases he; cases hz; exact ⟨by show (c : Int) ≤ _; omega, by show _ ≤ (c : Int); omega⟩
      | 1, he, hz => cases he; cases hz; exact i2
      | 2, he, hz => cases he; cases hz; exact b1
      | 3, he, hz => cases he; cases hz; exact ⟨hg1, hg2⟩
      | 4, he, hz => cases he; cases hz; exact ⟨by show kd ≤ _; omega, by show _ ≤ kd; omega⟩
      | i + 5, he, _ => cases he⟩
    refine chk_okQ (KI := KIx) (K := mvK0 c kd glo ghi) (bk0 := bk) (h0 := h) (ev := [(cc).toInt, lg.toInt, (r (c + 1)).toInt, (r (c + 2)).toInt, (r c).toInt]) (ev' := [(cc).toInt, lg.toInt, (r (c + 1)).toInt, (r (c + 2)).toInt, (r c).toInt]) hM hI rfl (fun i z hz => hz) (fun v h2 hq => ?_) (fun C hC => absurd hC List.not_mem_nil) 300 true 19 _ _ _ hck [(cc).toInt, lg.toInt, (r (c + 1)).toInt, (r (c + 2)).toInt, (r c).toInt] bk _ [] h ⟨⟨hI, eFm_plain (plain_app (spEnv_plain _) clEnv_plain), fun F hF => absurd hF List.not_mem_nil, fun i v hv => ?_, trivial, fun q hq => ?_, fun B hB => absurd hB List.not_mem_nil⟩, hO0, (show 6 = jmx 244 by decide +kernel), fun i z hz => hz⟩
    · obtain ⟨bk', os, k1, ⟨k2, -⟩, q, hq1, hq2⟩ := hq
      have hq3 : q = (0, 0, 1, 0, 0, []) := List.mem_singleton.mp hq1
      subst hq3
      obtain ⟨x, rfl, x1, -, -⟩ := hq2
      exact ⟨bk', [], k1, ⟨rfl, fun j q x hj => by cases hj⟩, _, List.mem_cons_self, x, rfl, x1, Or.inl rfl, fun F hF => absurd hF List.not_mem_nil⟩
    · match i, hv with
      | 0, hv => cases hv; exact ⟨_, rfl, b, hb, rfl⟩
      | 1, hv => cases hv; exact ⟨_, rfl, cc, rfl, rfl⟩
      | 2, hv => cases hv; exact ⟨_, rfl, lg, rfl, rfl⟩
      | 3, hv => cases hv; exact ⟨_, rfl, r (c + 1), rfl, rfl⟩
      | 4, hv => cases hv; exact ⟨_, rfl, r (c + 2), rfl, rfl⟩
      | 5, hv => cases hv
      | i + 6, hv => cases hv
    · have hq2 : q = (1, 1, fcon ((c : Nat) : Int), 4) := List.mem_singleton.mp hq
      subst hq2
      exact ⟨((c : Nat) : Int), b, _, (r c).toInt, fcon_ok, hb, hr, ⟨by omega, by rw [Int.toNat_natCast]⟩, rfl⟩
  have hk2 : (r c).toInt = 0 ∨ (r c).toInt = 1 := by omega
  rcases hk2 with hk2 | hk2
  · exact key 0 0 11 hk2 (hgo hk2).1 (hgo hk2).2 ck1
  · exact key 1 (-2147483648) 2147483647 hk2 (i32_lo _) (i32_hi _) ck2
set_option maxRecDepth 16384 in
theorem moves_ok1 {t k : Nat} (ht : t < 2) (hk : k < 16) (hlow : ∀ (k : Nat) (K : aK), KTx[k]? = some K → k < 558 → kOK TTs g (EIm n) l K) : kOK TTs g (EIm n) l (mvX1 (1130 + 930 * t + 1 + 8 * k)) := by
  intro bk h av ev hT hD hE hb1 hl hn _ hg
  obtain ⟨ck1, ck2⟩ := mv_c1 ht hk
  obtain ⟨c, hcd⟩ : ∃ c : Nat, 1130 + 930 * t + 1 + 8 * k = c := ⟨_, rfl⟩
  rw [hcd] at hg hl hn ck1 ck2 ⊢
  obtain ⟨g1, g2, g3, g4, g5, g6, g7⟩ := hg
  have hlen : (jal 244 av).length = 6 := (jal_len hl).trans (show jmx 244 = 6 by decide +kernel)
  obtain ⟨a0, a1, a2, a3, a4, a5, hal⟩ := list6 hlen
  have l0 := g4 0 (2, 1, 0) rfl
  have l1 := g4 1 (0, 0, 0) rfl
  have l2 := g4 2 (0, 1, 0) rfl
  have hal2 : jal (mvX1 c).1 av = [a0, a1, a2, a3, a4, a5] := hal
  rw [hal2] at l0 l1 l2
  obtain ⟨w0, e0, b, hb, rfl⟩ := l0
  obtain ⟨w1, e1, cc, rfl, v1⟩ := l1
  obtain ⟨w2, e2, lg, rfl, v2⟩ := l2
  have r0 := Option.some.inj e0
  have r1 := Option.some.inj e1
  have r2 := Option.some.inj e2
  clear e0 e1 e2
  subst r0 r1 r2
  have hb : bk 1 = some b := hb
  have i1 := g1.2 0 (eNew (c : Int) (c : Int) none) _ rfl v1
  have i2 := g1.2 1 (eNew 1 1 none) _ rfl v2
  dsimp only [eNew] at i1 i2
  have hct : cc.toInt = (c : Int) := by omega
  have hcb : c < 5000 := by omega
  obtain ⟨r, hr, hty⟩ := m_arr hT hb ty_m1
  obtain ⟨F, hrF, -⟩ := m_arr hT hb ty_m2
  obtain ⟨K, hrK, -⟩ := m_arr hT hb ty_m3
  obtain ⟨cl, hc, fs, rfl, -, -⟩ := hT 1 b 0 _ hb ty_m0
  have hc : h[b + 0]? = some (.inr (12, fs)) := hc
  have hgo := (hE b r F K hb hr hrF hrK).1.2.2 t ht k hk
  rw [show 0 + 1130 + 930 * t + 1 + 8 * k = c by omega] at hgo
  have b0 := row_cl (q := (0, 1)) hty ht hk (j := 0) (by omega) rfl
  have b1 := row_cl (q := (0, 11)) hty ht hk (j := 1) (by omega) rfl
  rw [show 1130 + 930 * t + 1 + 8 * k + 0 = c by omega] at b0
  rw [hcd] at b1
  dsimp only at b0 b1
  have d1 : (cc + Int32.ofInt 1).toInt = ((c + 1 : Nat) : Int) := by rw [i32_addn hct (by omega) (by omega)]; omega
  have d2 : (cc + Int32.ofInt 2).toInt = ((c + 2 : Nat) : Int) := by rw [i32_addn hct (by omega) (by omega)]; omega
  obtain ⟨z, b', cx, x, y1, y2, y3, y4, y5⟩ := g6 (1, 1, fcon ((1 : Nat) : Int), 2) List.mem_cons_self
  have i5 := g1.2 2 (eNew 0 1073741822 none) _ rfl y5
  dsimp only [eNew] at i5
  have y2 : bk 1 = some b' := y2
  cases hb.symm.trans y2
  have y3 : h[b + 1]? = some cx := y3
  cases hr.symm.trans y3
  have y1 : some (1 : Int) = some z := fcon_ok.symm.trans y1
  cases y1
  have y4 : (r 1).toInt = x := y4.2
  subst y4
  refine jCal_of (show plainName (jyN 244).cls = true by decide +kernel) hl ?_
  rw [hal2]
  have hcls : jcN 12 = (jyN 244).cls := by decide +kernel
  have hO0 : hOK TTs g (EIm n) mvW1 bk h bk h := hOK.rf hT hD hE hb1
  show J l g 244 4 0 [some (.ref (g.2.2 + (b + 0))), some (.int cc), some (.int lg), a3, a4, a5] [] h 0 0 _
  refine j_aload_n (k4 := 0) (dQ (by decide +kernel)) rfl ?_
  refine j_get (own := 12) (i := 7) (ci := 12) (f := 2) (dQ (by decide +kernel)) hcls (by decide +kernel) hc (n12 2 (by decide)) (m_ref hT hb hc rfl) ?_
  refine j_iload_n (k4 := 1) (dQ (by decide +kernel)) rfl ?_
  refine j_iconst (n := 1) (dQ (by decide +kernel)) ?_
  refine j_iadd (dQ (by decide +kernel)) ?_
  refine j_iald (dQ (by decide +kernel)) hr (i32_in (by rw [d1]; omega) (by rw [d1]; omega)) ?_
  rw [i32_at d1]
  refine j_istore_n (k4 := 3) (dQ (by decide +kernel)) (by decide +kernel) ?_
  refine j_aload_n (k4 := 0) (dQ (by decide +kernel)) rfl ?_
  refine j_get (own := 12) (i := 7) (ci := 12) (f := 2) (dQ (by decide +kernel)) hcls (by decide +kernel) hc (n12 2 (by decide)) (m_ref hT hb hc rfl) ?_
  refine j_iload_n (k4 := 1) (dQ (by decide +kernel)) rfl ?_
  refine j_iconst (n := 2) (dQ (by decide +kernel)) ?_
  refine j_iadd (dQ (by decide +kernel)) ?_
  refine j_iald (dQ (by decide +kernel)) hr (i32_in (by rw [d2]; omega) (by rw [d2]; omega)) ?_
  rw [i32_at d2]
  refine j_istore (i := 4) (dQ (by decide +kernel)) (by decide +kernel) ?_
  show J l g 244 4 19 [some (.ref (g.2.2 + (b + 0))), some (.int cc), some (.int lg), some (.int (r (c + 1))), some (.int (r (c + 2))), a5] [] h 0 0 _
  have key : ∀ (kd glo ghi : Int), (r c).toInt = kd → glo ≤ (r (c + 2)).toInt → (r (c + 2)).toInt ≤ ghi → mvB (mvK1 c kd glo ghi) = true → J l g 244 4 19 [some (.ref (g.2.2 + (b + 0))), some (.int cc), some (.int lg), some (.int (r (c + 1))), some (.int (r (c + 2))), a5] [] h 0 0 (kPost TTs g (EIm n) (mvX1 c) bk h ev) := by
    intro kd glo ghi hkd hg1 hg2 hck
    have hM : mOK TTs g (EIm n) Pm KTx l (mvK1 c kd glo ghi).1 12 558 := ⟨TTs_cl, TTs_sg, EIm_ok, hcls, hlow⟩
    have hI : eIv [(cc).toInt, lg.toInt, (r (c + 1)).toInt, (r (c + 2)).toInt, (r c).toInt, (r 1).toInt] (kEnv (mvK1 c kd glo ghi)) := ⟨rfl, fun i e z he hz => by
      match i, he, hz with
      | 0, he, hz => cases he; cases hz; exact ⟨by show (c : Int) ≤ _; omega, by show _ ≤ (c : Int); omega⟩
      | 1, he, hz => cases he; cases hz; exact i2
      | 2, he, hz => cases he; cases hz; exact b1
      | 3, he, hz => cases he; cases hz; exact ⟨hg1, hg2⟩
      | 4, he, hz => cases he; cases hz; exact ⟨by show kd ≤ _; omega, by show _ ≤ kd; omega⟩
      | 5, he, hz => cases he; cases hz; exact i5
      | i + 6, he, _ => cases he⟩
    refine chk_okQ (KI := KIx) (K := mvK1 c kd glo ghi) (bk0 := bk) (h0 := h) (ev := [(cc).toInt, lg.toInt, (r (c + 1)).toInt, (r (c + 2)).toInt, (r c).toInt, (r 1).toInt]) (ev' := [(cc).toInt, lg.toInt, (r (c + 1)).toInt, (r (c + 2)).toInt, (r c).toInt, (r 1).toInt]) hM hI rfl (fun i z hz => hz) (fun v h2 hq => ?_) (fun C hC => absurd hC List.not_mem_nil) 300 true 19 _ _ _ hck [(cc).toInt, lg.toInt, (r (c + 1)).toInt, (r (c + 2)).toInt, (r c).toInt, (r 1).toInt] bk _ [] h ⟨⟨hI, eFm_plain (plain_app (spEnv_plain _) clEnv_plain), fun F hF => absurd hF List.not_mem_nil, fun i v hv => ?_, trivial, fun q hq => ?_, fun B hB => absurd hB List.not_mem_nil⟩, hO0, (show 6 = jmx 244 by decide +kernel), fun i z hz => hz⟩
    · obtain ⟨bk', os, k1, ⟨k2, k3⟩, q, hq1, hq2⟩ := hq
      have hq3 : q = (0, 0, 1, 0, 0, []) := List.mem_singleton.mp hq1
      subst hq3
      obtain ⟨x, rfl, x1, -, x3⟩ := hq2
      match os, k2, k3, x3 with
      | [ou], k2, k3, x3 =>
        obtain ⟨z, z1, z2⟩ := x3 _ List.mem_cons_self
        have z1 : some (1 * (r 1).toInt + (-1 * ou + 0) + 2) = some z := z1
        have z3 := Option.some.inj z1
        have hev : ∃ q0 q1, ev = [q0, q1, (r 1).toInt] := by
          have hn3 : ev.length = 3 := hn
          obtain ⟨q0, q1, q2, hq⟩ := list3 hn3
          rw [hq] at y5
          cases y5
          exact ⟨q0, q1, hq⟩
        obtain ⟨q0, q1, hev⟩ := hev
        refine ⟨bk', [ou], k1, ⟨k2, k3⟩, _, List.mem_cons_self, x, rfl, x1, Or.inl rfl, fun F hF => ?_⟩
        rw [List.mem_singleton.mp hF, hev]
        exact ⟨1 * (r 1).toInt + (-1 * ou + 0) + 2, rfl, by omega⟩
    · match i, hv with
      | 0, hv => cases hv; exact ⟨_, rfl, b, hb, rfl⟩
      | 1, hv => cases hv; exact ⟨_, rfl, cc, rfl, rfl⟩
      | 2, hv => cases hv; exact ⟨_, rfl, lg, rfl, rfl⟩
      | 3, hv => cases hv; exact ⟨_, rfl, r (c + 1), rfl, rfl⟩
      | 4, hv => cases hv; exact ⟨_, rfl, r (c + 2), rfl, rfl⟩
      | 5, hv => cases hv
      | i + 6, hv => cases hv
    · have hq2 : q ∈ [(1, 1, fcon ((c : Nat) : Int), 4), (1, 1, fcon ((1 : Nat) : Int), 5)] := hq
      simp only [List.mem_cons, List.not_mem_nil, or_false] at hq2
      rcases hq2 with rfl | rfl
      · exact ⟨((c : Nat) : Int), b, _, (r c).toInt, fcon_ok, hb, hr, ⟨by omega, by rw [Int.toNat_natCast]⟩, rfl⟩
      · exact ⟨((1 : Nat) : Int), b, _, (r 1).toInt, fcon_ok, hb, hr, ⟨by decide, rfl⟩, rfl⟩
  have hk2 : (r c).toInt = 0 ∨ (r c).toInt = 1 := by omega
  rcases hk2 with hk2 | hk2
  · exact key 0 0 11 hk2 (hgo hk2).1 (hgo hk2).2 ck1
  · exact key 1 (-2147483648) 2147483647 hk2 (i32_lo _) (i32_hi _) ck2
end MV
end
section
/-! the reference's parser: its state, and its smallest methods -/
section PA
variable {l : Launch} {g : jG} {n : Int}
/-- a cell of which W says nothing stays -/
theorem hOK.cell {W : List aR} {bk0 bk : aB} {h0 h : jH} (hO : hOK TTs g (EIm n) W bk0 h0 bk h) {B b o : Nat} {c : jC} (hb : bk0 B = some b) (ho : o < tyLen TTs B) (hc : h0[b + o]? = some c) (hW : W.all (fun w => !(Nat.beq w.1 B && Nat.beq w.2.1 o)) = true) : h[b + o]? = some c := by
  obtain ⟨c', q1, q2⟩ := hO.2.2.2.1.2 B b o c hb ho hc
  have hno : ∀ i, ¬ inW W B o i := by
    rintro i ⟨w, hw, e1, e2, -⟩
    have := List.all_eq_true.mp hW w hw
    rw [e1, e2, Nat.beq_refl, Nat.beq_refl] at this
    cases this
  rw [q1]
  cases c with
  | inl a => cases c' with
    | inl a' =>
      obtain ⟨t, m, f⟩ := a
      obtain ⟨t', m', f'⟩ := a'
      obtain ⟨e1, e2, e3⟩ := q2
      have z1 : t' = t := e1
      have z2 : m' = m := e2
      have z3 : f' = f := funext (fun i => e3 i (hno i))
      rw [z1, z2, z3]
    | inr a' => exact absurd q2 id
  | inr a => cases c' with
    | inl a' => exact absurd q2 id
    | inr a' =>
      obtain ⟨t, fs⟩ := a
      obtain ⟨t', fs'⟩ := a'
      obtain ⟨e1, e2, e3⟩ := q2
      have z1 : t' = t := e1
      have z3 : fs' = fs := List.ext_getElem? (fun i => e3 i (hno i))
      rw [z1, z3]
theorem hOK.w1 {W W' : List aR} {bk0 bk : aB} {h0 h : jH} (hO : hOK TTs g (EIm n) W bk0 h0 bk h) (hw : subW W W' = true) : hOK TTs g (EIm n) W' bk0 h0 bk h := ⟨hO.1, hO.2.1, hO.2.2.1, hO.2.2.2.1.mono hw, hO.2.2.2.2.1, hO.2.2.2.2.2⟩
def iN (k : Nat) : Value := .int (Int32.ofInt (k : Int))
def pF (fs : List Value) (T F G s be q c m w : Nat) : Prop := fs[6]? = some (iN T) ∧ fs[7]? = some (iN F) ∧ fs[8]? = some (iN G) ∧ fs[9]? = some (iN s) ∧ fs[12]? = some (iN be) ∧ fs[13]? = some (iN q) ∧ fs[15]? = some (iN c) ∧ fs[20]? = some (iN m) ∧ fs[21]? = some (iN w)
/-- the parser's fields and rows -/
def pS (h : jH) (b T F G s be q c m w : Nat) (N O A P : Nat → Int32) : Prop := (∃ fs, h[b + 0]? = some (.inr (12, fs)) ∧ pF fs T F G s be q c m w) ∧ h[b + 5]? = some (.inl (0, 128, N)) ∧ h[b + 6]? = some (.inl (0, 400, O)) ∧ h[b + 7]? = some (.inl (0, 400, A)) ∧ h[b + 8]? = some (.inl (0, 400, P))
def pL (T F G s : Nat) : Prop := F ≤ G ∧ G ≤ T ∧ T ≤ 400 ∧ s + 3 * F ≤ 3 * G ∧ s ≤ 3
theorem ty_m5 : tyAt TTs 1 5 = some (.inl (0, 128, [(0, 128, 1, [(-2147483648, 2147483647)])])) := rfl
theorem ty_m6 : tyAt TTs 1 6 = some (.inl (0, 400, [(0, 400, 1, [(0, 13)])])) := rfl
theorem ty_m7 : tyAt TTs 1 7 = some (.inl (0, 400, [(0, 400, 1, [(0, 15)])])) := rfl
theorem ty_m8 : tyAt TTs 1 8 = some (.inl (0, 400, [(0, 400, 1, [(0, 13)])])) := rfl
def nxW : List aR := [(1, 0, 7, 10)]
def muW : List aR := [(1, 0, 7, 12)]
/-- what next and must leave as it was -/
theorem pS.mv {bk bk2 : aB} {h h2 : jH} {b T F G s be q c m w : Nat} {N O A P : Nat → Int32} (hO : hOK TTs g (EIm n) muW bk h bk2 h2) (hb : bk 1 = some b) (hS : pS h b T F G s be q c m w N O A P) : ∃ fs, h2[b + 0]? = some (.inr (12, fs)) ∧ fs[6]? = some (iN T) ∧ fs[13]? = some (iN q) ∧ fs[15]? = some (iN c) ∧ fs[20]? = some (iN m) ∧ fs[21]? = some (iN w) ∧ h2[b + 5]? = some (.inl (0, 128, N)) ∧ h2[b + 6]? = some (.inl (0, 400, O)) ∧ h2[b + 7]? = some (.inl (0, 400, A)) ∧ h2[b + 8]? = some (.inl (0, 400, P)) := by
  obtain ⟨⟨fs, ho, f6, f7, f8, f9, f12, f13, f15, f20, f21⟩, s5, s6, s7, s8⟩ := hS
  obtain ⟨fs2, hc2, e6⟩ := hO.fld (k := 6) hb ty_m0 ho (by decide)
  obtain ⟨fs3, hc3, e13⟩ := hO.fld (k := 13) hb ty_m0 ho (by decide)
  obtain ⟨fs4, hc4, e15⟩ := hO.fld (k := 15) hb ty_m0 ho (by decide)
  obtain ⟨fs5, hc5, e20⟩ := hO.fld (k := 20) hb ty_m0 ho (by decide)
  obtain ⟨fs6, hc6, e21⟩ := hO.fld (k := 21) hb ty_m0 ho (by decide)
  cases hc2.symm.trans hc3
  cases hc2.symm.trans hc4
  cases hc2.symm.trans hc5
  cases hc2.symm.trans hc6
  exact ⟨fs2, hc2, e6.trans f6, e13.trans f13, e15.trans f15, e20.trans f20, e21.trans f21, hO.cell hb (tyAt_lt ty_m5) s5 (by decide), hO.cell hb (tyAt_lt ty_m6) s6 (by decide), hO.cell hb (tyAt_lt ty_m7) s7 (by decide), hO.cell hb (tyAt_lt ty_m8) s8 (by decide)⟩
/-- an out's value, as a number -/
theorem out_nat {bk : aB} {h : jH} {b k : Nat} {fs : List Value} {os : List Int} {outs : List aC} {j : Nat} {x lo hi : Int} (hb : bk 1 = some b) (ho : h[b + 0]? = some (.inr (12, fs))) (hO : outOK bk h os outs) (hj : outs[j]? = some (1, 0, k, lo, hi)) (hx : os[j]? = some x) (h0 : 0 ≤ lo) : ∃ v : Nat, x = (v : Int) ∧ fs[k]? = some (iN v) ∧ (v : Int) ≤ hi := by
  obtain ⟨⟨u1, u2⟩, b2, c2, u3, u4, u5⟩ := hO.2 j _ x hj hx
  have u3 : bk 1 = some b2 := u3
  cases hb.symm.trans u3
  have u4 : h[b + 0]? = some c2 := u4
  cases ho.symm.trans u4
  obtain ⟨-, wv, u6, u7⟩ := u5
  dsimp only at u1 u2 u6
  have u6 : fs[k]? = some (.int wv) := by rw [Int.toNat_natCast] at u6; exact u6
  refine ⟨x.toNat, by omega, ?_, by omega⟩
  rw [u6, iN, show ((x.toNat : Nat) : Int) = wv.toInt by omega, Int32.ofInt_toInt]
theorem use_505 (hk : kOK TTs g (EIm n) l Kx_505) {W0 : List aR} {bk0 bk : aB} {h0 h : jH} (hO : hOK TTs g (EIm n) W0 bk0 h0 bk h)  {x0 : Int64} {x2 : Int64} {x4 : Int64} :
    jCal l g 205 1 [.long x0, .long x2, .long x4] h 0 0 (kPost TTs g (EIm n) Kx_505 bk h [x0.toInt, x2.toInt, x4.toInt]) := by
  refine hk bk h [.long x0, .long x2, .long x4] [x0.toInt, x2.toInt, x4.toInt] hO.1 hO.2.1 hO.2.2.1 hO.2.2.2.2.2 (show 6 ≤ jmx 205 by decide +kernel) rfl (fun q hq => ?_) ⟨⟨rfl, fun i e z he hz => ?_⟩, eFm_plain (plain_app (spEnv_plain _) clEnv_plain), fun F hF => absurd hF List.not_mem_nil, fun i v hv => ?_, trivial, fun q hq => ?_, fun B hB => absurd hB List.not_mem_nil⟩
  · have hq : q ∈ ([] : List (Nat × Int × Nat)) := hq
    exact absurd hq List.not_mem_nil
  · match i, he, hz with
    | 0, he, hz => cases he; cases hz; exact ⟨i64_lo x0, i64_hi x0⟩
    | 1, he, hz => cases he; cases hz; exact ⟨i64_lo x2, i64_hi x2⟩
    | 2, he, hz => cases he; cases hz; exact ⟨i64_lo x4, i64_hi x4⟩
    | i + 3, he, _ => cases he
  · match i, hv with
    | 0, hv => cases hv; exact ⟨_, rfl, x0, rfl, rfl⟩
    | 1, hv => cases hv
    | 2, hv => cases hv; exact ⟨_, rfl, x2, rfl, rfl⟩
    | 3, hv => cases hv
    | 4, hv => cases hv; exact ⟨_, rfl, x4, rfl, rfl⟩
    | 5, hv => cases hv
    | i + 6, hv => cases hv
  · exact absurd hq List.not_mem_nil
theorem use_737 (hk : kOK TTs g (EIm n) l Kx_737) {W0 : List aR} {bk0 bk : aB} {h0 h : jH} (hO : hOK TTs g (EIm n) W0 bk0 h0 bk h) {a1 : Nat} (ha1 : bk 1 = some a1) {c0 : Int32} (hc0 : (0 : Int) ≤ c0.toInt ∧ c0.toInt ≤ 400) {fc0 : List Value} (ec0 : h[a1 + 0]? = some (.inr (12, fc0))) (pc0 : fc0[6]? = some (.int c0)) {c1 : Int32} (hc1 : (0 : Int) ≤ c1.toInt ∧ c1.toInt ≤ 400) {fc1 : List Value} (ec1 : h[a1 + 0]? = some (.inr (12, fc1))) (pc1 : fc1[8]? = some (.int c1)) (hfc : fcOK [c0.toInt, c1.toInt] Kx_737.2.2.2.1) :
    jCal l g 219 2 [.ref (g.2.2 + (a1 + 0))] h 0 0 (kPost TTs g (EIm n) Kx_737 bk h [c0.toInt, c1.toInt]) := by
  refine hk bk h [.ref (g.2.2 + (a1 + 0))] [c0.toInt, c1.toInt] hO.1 hO.2.1 hO.2.2.1 hO.2.2.2.2.2 (show 1 ≤ jmx 219 by decide +kernel) rfl (fun q hq => ?_) ⟨⟨rfl, fun i e z he hz => ?_⟩, eFm_plain (plain_app (spEnv_plain _) clEnv_plain), hfc, fun i v hv => ?_, trivial, fun q hq => ?_, fun B hB => absurd hB List.not_mem_nil⟩
  · have hq : q ∈ ([] : List (Nat × Int × Nat)) := hq
    exact absurd hq List.not_mem_nil
  · match i, he, hz with
    | 0, he, hz => cases he; cases hz; exact hc0
    | 1, he, hz => cases he; cases hz; exact hc1
    | i + 2, he, _ => cases he
  · match i, hv with
    | 0, hv => cases hv; exact ⟨_, rfl, a1, ha1, rfl⟩
    | i + 1, hv => cases hv
  · have hq2 : q ∈ [(1, 0, fcon ((6 : Nat) : Int), 0), (1, 0, fcon ((8 : Nat) : Int), 1)] := hq
    simp only [List.mem_cons, List.not_mem_nil, or_false] at hq2
    rcases hq2 with rfl | rfl
    · exact ⟨((6 : Nat) : Int), a1, _, c0.toInt, fcon_ok, ha1, ec0, ⟨by decide, c0, pc0, rfl⟩, rfl⟩
    · exact ⟨((8 : Nat) : Int), a1, _, c1.toInt, fcon_ok, ha1, ec1, ⟨by decide, c1, pc1, rfl⟩, rfl⟩
theorem use_738 (hk : kOK TTs g (EIm n) l Kx_738) {W0 : List aR} {bk0 bk : aB} {h0 h : jH} (hO : hOK TTs g (EIm n) W0 bk0 h0 bk h) {a1 : Nat} (ha1 : bk 1 = some a1) {x1 : Int32} (hx1 : (0 : Int) ≤ x1.toInt ∧ x1.toInt ≤ 1) {c0 : Int32} (hc0 : (0 : Int) ≤ c0.toInt ∧ c0.toInt ≤ 400) {fc0 : List Value} (ec0 : h[a1 + 0]? = some (.inr (12, fc0))) (pc0 : fc0[6]? = some (.int c0)) {c1 : Int32} (hc1 : (0 : Int) ≤ c1.toInt ∧ c1.toInt ≤ 400) {fc1 : List Value} (ec1 : h[a1 + 0]? = some (.inr (12, fc1))) (pc1 : fc1[7]? = some (.int c1)) {c2 : Int32} (hc2 : (0 : Int) ≤ c2.toInt ∧ c2.toInt ≤ 400) {fc2 : List Value} (ec2 : h[a1 + 0]? = some (.inr (12, fc2))) (pc2 : fc2[8]? = some (.int c2)) {c3 : Int32} (hc3 : (0 : Int) ≤ c3.toInt ∧ c3.toInt ≤ 3) {fc3 : List Value} (ec3 : h[a1 + 0]? = some (.inr (12, fc3))) (pc3 : fc3[9]? = some (.int c3)) {c4 : Int32} (hc4 : (0 : Int) ≤ c4.toInt ∧ c4.toInt ≤ 1) {fc4 : List Value} (ec4 : h[a1 + 0]? = some (.inr (12, fc4))) (pc4 : fc4[12]? = some (.int c4)) (hfc : fcOK [x1.toInt, c0.toInt, c1.toInt, c2.toInt, c3.toInt, c4.toInt] Kx_738.2.2.2.1) :
    jCal l g 224 3 [.ref (g.2.2 + (a1 + 0)), .int x1] h 0 0 (kPost TTs g (EIm n) Kx_738 bk h [x1.toInt, c0.toInt, c1.toInt, c2.toInt, c3.toInt, c4.toInt]) := by
  refine hk bk h [.ref (g.2.2 + (a1 + 0)), .int x1] [x1.toInt, c0.toInt, c1.toInt, c2.toInt, c3.toInt, c4.toInt] hO.1 hO.2.1 hO.2.2.1 hO.2.2.2.2.2 (show 2 ≤ jmx 224 by decide +kernel) rfl (fun q hq => ?_) ⟨⟨rfl, fun i e z he hz => ?_⟩, eFm_plain (plain_app (spEnv_plain _) clEnv_plain), hfc, fun i v hv => ?_, trivial, fun q hq => ?_, fun B hB => absurd hB List.not_mem_nil⟩
  · have hq : q ∈ ([] : List (Nat × Int × Nat)) := hq
    exact absurd hq List.not_mem_nil
  · match i, he, hz with
    | 0, he, hz => cases he; cases hz; exact hx1
    | 1, he, hz => cases he; cases hz; exact hc0
    | 2, he, hz => cases he; cases hz; exact hc1
    | 3, he, hz => cases he; cases hz; exact hc2
    | 4, he, hz => cases he; cases hz; exact hc3
    | 5, he, hz => cases he; cases hz; exact hc4
    | i + 6, he, _ => cases he
  · match i, hv with
    | 0, hv => cases hv; exact ⟨_, rfl, a1, ha1, rfl⟩
    | 1, hv => cases hv; exact ⟨_, rfl, x1, rfl, rfl⟩
    | i + 2, hv => cases hv
  · have hq2 : q ∈ [(1, 0, fcon ((6 : Nat) : Int), 1), (1, 0, fcon ((7 : Nat) : Int), 2), (1, 0, fcon ((8 : Nat) : Int), 3), (1, 0, fcon ((9 : Nat) : Int), 4), (1, 0, fcon ((12 : Nat) : Int), 5)] := hq
    simp only [List.mem_cons, List.not_mem_nil, or_false] at hq2
    rcases hq2 with rfl | rfl | rfl | rfl | rfl
    · exact ⟨((6 : Nat) : Int), a1, _, c0.toInt, fcon_ok, ha1, ec0, ⟨by decide, c0, pc0, rfl⟩, rfl⟩
    · exact ⟨((7 : Nat) : Int), a1, _, c1.toInt, fcon_ok, ha1, ec1, ⟨by decide, c1, pc1, rfl⟩, rfl⟩
    · exact ⟨((8 : Nat) : Int), a1, _, c2.toInt, fcon_ok, ha1, ec2, ⟨by decide, c2, pc2, rfl⟩, rfl⟩
    · exact ⟨((9 : Nat) : Int), a1, _, c3.toInt, fcon_ok, ha1, ec3, ⟨by decide, c3, pc3, rfl⟩, rfl⟩
    · exact ⟨((12 : Nat) : Int), a1, _, c4.toInt, fcon_ok, ha1, ec4, ⟨by decide, c4, pc4, rfl⟩, rfl⟩
theorem use_739 (hk : kOK TTs g (EIm n) l Kx_739) {W0 : List aR} {bk0 bk : aB} {h0 h : jH} (hO : hOK TTs g (EIm n) W0 bk0 h0 bk h) {a1 : Nat} (ha1 : bk 1 = some a1) {x1 : Int64} {c0 : Int32} (hc0 : (0 : Int) ≤ c0.toInt ∧ c0.toInt ≤ 3) {fc0 : List Value} (ec0 : h[a1 + 0]? = some (.inr (12, fc0))) (pc0 : fc0[9]? = some (.int c0)) :
    jCal l g 223 1 [.ref (g.2.2 + (a1 + 0)), .long x1] h 0 0 (kPost TTs g (EIm n) Kx_739 bk h [x1.toInt, c0.toInt]) := by
  refine hk bk h [.ref (g.2.2 + (a1 + 0)), .long x1] [x1.toInt, c0.toInt] hO.1 hO.2.1 hO.2.2.1 hO.2.2.2.2.2 (show 3 ≤ jmx 223 by decide +kernel) rfl (fun q hq => ?_) ⟨⟨rfl, fun i e z he hz => ?_⟩, eFm_plain (plain_app (spEnv_plain _) clEnv_plain), fun F hF => absurd hF List.not_mem_nil, fun i v hv => ?_, trivial, fun q hq => ?_, fun B hB => absurd hB List.not_mem_nil⟩
  · have hq : q ∈ ([] : List (Nat × Int × Nat)) := hq
    exact absurd hq List.not_mem_nil
  · match i, he, hz with
    | 0, he, hz => cases he; cases hz; exact ⟨i64_lo x1, i64_hi x1⟩
    | 1, he, hz => cases he; cases hz; exact hc0
    | i + 2, he, _ => cases he
  · match i, hv with
    | 0, hv => cases hv; exact ⟨_, rfl, a1, ha1, rfl⟩
    | 1, hv => cases hv; exact ⟨_, rfl, x1, rfl, rfl⟩
    | 2, hv => cases hv
    | i + 3, hv => cases hv
  · have hq2 : q = (1, 0, fcon ((9 : Nat) : Int), 1) := List.mem_singleton.mp hq
    subst hq2
    exact ⟨((9 : Nat) : Int), a1, _, c0.toInt, fcon_ok, ha1, ec0, ⟨by decide, c0, pc0, rfl⟩, rfl⟩
theorem use_740 (hk : kOK TTs g (EIm n) l Kx_740) {W0 : List aR} {bk0 bk : aB} {h0 h : jH} (hO : hOK TTs g (EIm n) W0 bk0 h0 bk h) {a1 : Nat} (ha1 : bk 1 = some a1) {x1 : Int32} (hx1 : (-2147483648 : Int) ≤ x1.toInt ∧ x1.toInt ≤ 2147483647) {c0 : Int32} (hc0 : (0 : Int) ≤ c0.toInt ∧ c0.toInt ≤ 3) {fc0 : List Value} (ec0 : h[a1 + 0]? = some (.inr (12, fc0))) (pc0 : fc0[9]? = some (.int c0)) :
    jCal l g 229 1 [.ref (g.2.2 + (a1 + 0)), .int x1] h 0 0 (kPost TTs g (EIm n) Kx_740 bk h [x1.toInt, c0.toInt]) := by
  refine hk bk h [.ref (g.2.2 + (a1 + 0)), .int x1] [x1.toInt, c0.toInt] hO.1 hO.2.1 hO.2.2.1 hO.2.2.2.2.2 (show 2 ≤ jmx 229 by decide +kernel) rfl (fun q hq => ?_) ⟨⟨rfl, fun i e z he hz => ?_⟩, eFm_plain (plain_app (spEnv_plain _) clEnv_plain), fun F hF => absurd hF List.not_mem_nil, fun i v hv => ?_, trivial, fun q hq => ?_, fun B hB => absurd hB List.not_mem_nil⟩
  · have hq : q ∈ ([] : List (Nat × Int × Nat)) := hq
    exact absurd hq List.not_mem_nil
  · match i, he, hz with
    | 0, he, hz => cases he; cases hz; exact hx1
    | 1, he, hz => cases he; cases hz; exact hc0
    | i + 2, he, _ => cases he
  · match i, hv with
    | 0, hv => cases hv; exact ⟨_, rfl, a1, ha1, rfl⟩
    | 1, hv => cases hv; exact ⟨_, rfl, x1, rfl, rfl⟩
    | i + 2, hv => cases hv
  · have hq2 : q = (1, 0, fcon ((9 : Nat) : Int), 1) := List.mem_singleton.mp hq
    subst hq2
    exact ⟨((9 : Nat) : Int), a1, _, c0.toInt, fcon_ok, ha1, ec0, ⟨by decide, c0, pc0, rfl⟩, rfl⟩
theorem use_741 (hk : kOK TTs g (EIm n) l Kx_741) {W0 : List aR} {bk0 bk : aB} {h0 h : jH} (hO : hOK TTs g (EIm n) W0 bk0 h0 bk h) {a1 : Nat} (ha1 : bk 1 = some a1) {c0 : Int32} (hc0 : (0 : Int) ≤ c0.toInt ∧ c0.toInt ≤ 400) {fc0 : List Value} (ec0 : h[a1 + 0]? = some (.inr (12, fc0))) (pc0 : fc0[6]? = some (.int c0)) :
    jCal l g 218 3 [.ref (g.2.2 + (a1 + 0))] h 0 0 (kPost TTs g (EIm n) Kx_741 bk h [c0.toInt]) := by
  refine hk bk h [.ref (g.2.2 + (a1 + 0))] [c0.toInt] hO.1 hO.2.1 hO.2.2.1 hO.2.2.2.2.2 (show 1 ≤ jmx 218 by decide +kernel) rfl (fun q hq => ?_) ⟨⟨rfl, fun i e z he hz => ?_⟩, eFm_plain (plain_app (spEnv_plain _) clEnv_plain), fun F hF => absurd hF List.not_mem_nil, fun i v hv => ?_, trivial, fun q hq => ?_, fun B hB => absurd hB List.not_mem_nil⟩
  · have hq : q ∈ ([] : List (Nat × Int × Nat)) := hq
    exact absurd hq List.not_mem_nil
  · match i, he, hz with
    | 0, he, hz => cases he; cases hz; exact hc0
    | i + 1, he, _ => cases he
  · match i, hv with
    | 0, hv => cases hv; exact ⟨_, rfl, a1, ha1, rfl⟩
    | i + 1, hv => cases hv
  · have hq2 : q = (1, 0, fcon ((6 : Nat) : Int), 0) := List.mem_singleton.mp hq
    subst hq2
    exact ⟨((6 : Nat) : Int), a1, _, c0.toInt, fcon_ok, ha1, ec0, ⟨by decide, c0, pc0, rfl⟩, rfl⟩
set_option maxRecDepth 16384 in
theorem next_run (hlow : ∀ (k : Nat) (K : aK), KTx[k]? = some K → kOK TTs g (EIm n) l K) {W0 : List aR} {bk0 bk : aB} {h0 h : jH} (hO : hOK TTs g (EIm n) W0 bk0 h0 bk h) {b T F G s be q c m w : Nat} {N O A P : Nat → Int32} (hb : bk 1 = some b) (hS : pS h b T F G s be q c m w N O A P) (hL : pL T F G s) :
    ∃ Qm, jCal l g 219 2 [.ref (g.2.2 + (b + 0))] h 0 0 Qm ∧ ∀ v h', Qm v h' → v = none ∧ ∃ bk' F' G' s', hOK TTs g (EIm n) muW bk h bk' h' ∧ pS h' b T F' G' s' be q c m w N O A P ∧ pL T F' G' s' ∧ G ≤ F' := by
  obtain ⟨⟨fs, ho, f6, f7, f8, f9, f12, f13, f15, f20, f21⟩, s5, s6, s7, s8⟩ := hS
  obtain ⟨L1, L2, L3, L4, L5⟩ := hL
  have tT : (Int32.ofInt (T : Int)).toInt = (T : Int) := i32_n (by omega)
  have tG : (Int32.ofInt (G : Int)).toInt = (G : Int) := i32_n (by omega)
  refine ⟨_, use_737 (hlow 737 _ rfl) hO hb (c0 := Int32.ofInt (T : Int)) (by omega) ho f6 (c1 := Int32.ofInt (G : Int)) (by omega) ho f8 (fun F hF => ?_), fun v h' hq => ?_⟩
  · rw [List.mem_singleton.mp hF]
    exact ⟨1 * (Int32.ofInt (T : Int)).toInt + (-1 * (Int32.ofInt (G : Int)).toInt + 0) + 0, rfl, by omega⟩
  · obtain ⟨bk', os, k1, k2, qq, hq1, hq2⟩ := hq
    have hq3 : qq = (9, 0, 0, 0, 0, []) := List.mem_singleton.mp hq1
    subst hq3
    obtain ⟨rfl, hp⟩ := hq2
    have k1 : hOK TTs g (EIm n) nxW bk h bk' h' := k1
    have k1' := k1.w1 (W' := muW) (by decide)
    have hb' := k1.2.2.2.2.1 1 b hb
    obtain ⟨fs2, hc2, e6, e13, e15, e20, e21, r5, r6, r7, r8⟩ := pS.mv k1' hb ⟨⟨fs, ho, f6, f7, f8, f9, f12, f13, f15, f20, f21⟩, s5, s6, s7, s8⟩
    obtain ⟨fs3, hc3, e12⟩ := k1.fld (k := 12) hb ty_m0 ho (by decide)
    cases hc2.symm.trans hc3
    match os, k2, hp with
    | [x1, x2, x3], k2, hp =>
      obtain ⟨F', rfl, y7, u1⟩ := out_nat hb' hc2 k2 (j := 0) rfl rfl (by decide)
      obtain ⟨G', rfl, y8, u2⟩ := out_nat hb' hc2 k2 (j := 1) rfl rfl (by decide)
      obtain ⟨s', rfl, y9, u3⟩ := out_nat hb' hc2 k2 (j := 2) rfl rfl (by decide)
      obtain ⟨z1, a1, b1⟩ := hp ([(1, -1), (2, 1)], 0) (by decide)
      obtain ⟨z2, a2, b2⟩ := hp ([(2, -1), (3, 1)], 0) (by decide)
      obtain ⟨z3, a3, b3⟩ := hp ([(0, 1), (3, -1)], 0) (by decide)
      obtain ⟨z4, a4, b4⟩ := hp ([(2, -3), (3, 3), (4, -1)], 0) (by decide)
      have a1 : some (-1 * (Int32.ofInt (G : Int)).toInt + (1 * (F' : Int) + 0) + 0) = some z1 := a1
      have a2 : some (-1 * (F' : Int) + (1 * (G' : Int) + 0) + 0) = some z2 := a2
      have a3 : some (1 * (Int32.ofInt (T : Int)).toInt + (-1 * (G' : Int) + 0) + 0) = some z3 := a3
      have a4 : some (-3 * (F' : Int) + (3 * (G' : Int) + (-1 * (s' : Int) + 0)) + 0) = some z4 := a4
      have a1 := Option.some.inj a1
      have a2 := Option.some.inj a2
      have a3 := Option.some.inj a3
      have a4 := Option.some.inj a4
      exact ⟨rfl, bk', F', G', s', k1', ⟨⟨fs2, hc2, e6, y7, y8, y9, e12.trans f12, e13, e15, e20, e21⟩, r5, r6, r7, r8⟩, ⟨by omega, by omega, by omega, by omega, by omega⟩, by omega⟩
set_option maxRecDepth 16384 in
theorem must_run (hlow : ∀ (k : Nat) (K : aK), KTx[k]? = some K → kOK TTs g (EIm n) l K) {W0 : List aR} {bk0 bk : aB} {h0 h : jH} (hO : hOK TTs g (EIm n) W0 bk0 h0 bk h) {b T F G s be q c m w : Nat} {N O A P : Nat → Int32} (hb : bk 1 = some b) (hS : pS h b T F G s be q c m w N O A P) (hL : pL T F G s) (hbe : be ≤ 1) {x : Int32} (hx : 0 ≤ x.toInt ∧ x.toInt ≤ 1) :
    ∃ Qm, jCal l g 224 3 [.ref (g.2.2 + (b + 0)), .int x] h 0 0 Qm ∧ ∀ v h', Qm v h' → v = none ∧ ∃ bk' F' G' s' be', hOK TTs g (EIm n) muW bk h bk' h' ∧ pS h' b T F' G' s' be' q c m w N O A P ∧ pL T F' G' s' ∧ F ≤ F' ∧ be ≤ be' ∧ be' ≤ 1 ∧ (be' = 0 → x.toInt = 1 ∧ G ≤ F') := by
  obtain ⟨⟨fs, ho, f6, f7, f8, f9, f12, f13, f15, f20, f21⟩, s5, s6, s7, s8⟩ := hS
  obtain ⟨L1, L2, L3, L4, L5⟩ := hL
  have tT : (Int32.ofInt (T : Int)).toInt = (T : Int) := i32_n (by omega)
  have tF : (Int32.ofInt (F : Int)).toInt = (F : Int) := i32_n (by omega)
  have tG : (Int32.ofInt (G : Int)).toInt = (G : Int) := i32_n (by omega)
  have ts : (Int32.ofInt (s : Int)).toInt = (s : Int) := i32_n (by omega)
  have tb : (Int32.ofInt (be : Int)).toInt = (be : Int) := i32_n (by omega)
  refine ⟨_, use_738 (hlow 738 _ rfl) hO hb (x1 := x) hx (c0 := Int32.ofInt (T : Int)) (by omega) ho f6 (c1 := Int32.ofInt (F : Int)) (by omega) ho f7 (c2 := Int32.ofInt (G : Int)) (by omega) ho f8 (c3 := Int32.ofInt (s : Int)) (by omega) ho f9 (c4 := Int32.ofInt (be : Int)) (by omega) ho f12 (fun X hF => ?_), fun v h' hq => ?_⟩
  · have hF : X ∈ [([(1, 1), (3, -1)], 0), ([(2, -1), (3, 1)], 0), ([(2, -3), (3, 3), (4, -1)], 0)] := hF
    simp only [List.mem_cons, List.not_mem_nil, or_false] at hF
    rcases hF with rfl | rfl | rfl
    · exact ⟨1 * (Int32.ofInt (T : Int)).toInt + (-1 * (Int32.ofInt (G : Int)).toInt + 0) + 0, rfl, by omega⟩
    · exact ⟨_, rfl, by show (0 : Int) ≤ -1 * (Int32.ofInt (F : Int)).toInt + (1 * (Int32.ofInt (G : Int)).toInt + 0) + 0; omega⟩
    · exact ⟨_, rfl, by show (0 : Int) ≤ -3 * (Int32.ofInt (F : Int)).toInt + (3 * (Int32.ofInt (G : Int)).toInt + (-1 * (Int32.ofInt (s : Int)).toInt + 0)) + 0; omega⟩
  · obtain ⟨bk', os, k1, k2, qq, hq1, hq2⟩ := hq
    have hq3 : qq = (9, 0, 0, 0, 0, []) := List.mem_singleton.mp hq1
    subst hq3
    obtain ⟨rfl, hp⟩ := hq2
    have k1 : hOK TTs g (EIm n) muW bk h bk' h' := k1
    have hb' := k1.2.2.2.2.1 1 b hb
    obtain ⟨fs2, hc2, e6, e13, e15, e20, e21, r5, r6, r7, r8⟩ := pS.mv k1 hb ⟨⟨fs, ho, f6, f7, f8, f9, f12, f13, f15, f20, f21⟩, s5, s6, s7, s8⟩
    match os, k2, hp with
    | [x1, x2, x3, x4], k2, hp =>
      obtain ⟨F', rfl, y7, u1⟩ := out_nat hb' hc2 k2 (j := 0) rfl rfl (by decide)
      obtain ⟨G', rfl, y8, u2⟩ := out_nat hb' hc2 k2 (j := 1) rfl rfl (by decide)
      obtain ⟨s', rfl, y9, u3⟩ := out_nat hb' hc2 k2 (j := 2) rfl rfl (by decide)
      obtain ⟨be', rfl, y12, u4⟩ := out_nat hb' hc2 k2 (j := 3) rfl rfl (by decide)
      obtain ⟨z1, a1, b1⟩ := hp ([(2, -1), (6, 1)], 0) (by decide)
      obtain ⟨z2, a2, b2⟩ := hp ([(1, 1), (7, -1)], 0) (by decide)
      obtain ⟨z3, a3, b3⟩ := hp ([(6, -1), (7, 1)], 0) (by decide)
      obtain ⟨z4, a4, b4⟩ := hp ([(6, -3), (7, 3), (8, -1)], 0) (by decide)
      obtain ⟨z5, a5, b5⟩ := hp ([(3, -1), (6, 1), (9, 400)], 0) (by decide)
      obtain ⟨z6, a6, b6⟩ := hp ([(0, 1), (9, 1)], -1) (by decide)
      obtain ⟨z7, a7, b7⟩ := hp ([(5, -1), (9, 1)], 0) (by decide)
      have a1 : some (-1 * (Int32.ofInt (F : Int)).toInt + (1 * (F' : Int) + 0) + 0) = some z1 := a1
      have a2 : some (1 * (Int32.ofInt (T : Int)).toInt + (-1 * (G' : Int) + 0) + 0) = some z2 := a2
      have a3 : some (-1 * (F' : Int) + (1 * (G' : Int) + 0) + 0) = some z3 := a3
      have a4 : some (-3 * (F' : Int) + (3 * (G' : Int) + (-1 * (s' : Int) + 0)) + 0) = some z4 := a4
      have a5 : some (-1 * (Int32.ofInt (G : Int)).toInt + (1 * (F' : Int) + (400 * (be' : Int) + 0)) + 0) = some z5 := a5
      have a6 : some (1 * x.toInt + (1 * (be' : Int) + 0) + -1) = some z6 := a6
      have a7 : some (-1 * (Int32.ofInt (be : Int)).toInt + (1 * (be' : Int) + 0) + 0) = some z7 := a7
      have a1 := Option.some.inj a1
      have a2 := Option.some.inj a2
      have a3 := Option.some.inj a3
      have a4 := Option.some.inj a4
      have a5 := Option.some.inj a5
      have a6 := Option.some.inj a6
      have a7 := Option.some.inj a7
      exact ⟨rfl, bk', F', G', s', be', k1, ⟨⟨fs2, hc2, e6, y7, y8, y9, y12, e13, e15, e20, e21⟩, r5, r6, r7, r8⟩, ⟨by omega, by omega, by omega, by omega, by omega⟩, by omega, by omega, by omega, fun h0 => ⟨by omega, by omega⟩⟩
set_option maxRecDepth 16384 in
theorem word_run (hlow : ∀ (k : Nat) (K : aK), KTx[k]? = some K → kOK TTs g (EIm n) l K) {W0 : List aR} {bk0 bk : aB} {h0 h : jH} (hO : hOK TTs g (EIm n) W0 bk0 h0 bk h) {b T F G s be q c m w : Nat} {N O A P : Nat → Int32} (hb : bk 1 = some b) (hS : pS h b T F G s be q c m w N O A P) (hs : s ≤ 3) (x : Int64) :
    ∃ Qm, jCal l g 223 1 [.ref (g.2.2 + (b + 0)), .long x] h 0 0 Qm ∧ ∀ v h', Qm v h' → ∃ (r : Int32) (bk' : aB), v = some (.int r) ∧ (r = 0 ∨ r = 1) ∧ hOK TTs g (EIm n) [] bk h bk' h' ∧ pS h' b T F G s be q c m w N O A P ∧ (r = 1 → 1 ≤ s) := by
  have hS0 := hS
  obtain ⟨⟨fs, ho, f6, f7, f8, f9, f12, f13, f15, f20, f21⟩, s5, s6, s7, s8⟩ := hS
  have ts : (Int32.ofInt (s : Int)).toInt = (s : Int) := i32_n (by omega)
  refine ⟨_, use_739 (hlow 739 _ rfl) hO hb (x1 := x) (c0 := Int32.ofInt (s : Int)) (by omega) ho f9, fun v h' hq => ?_⟩
  obtain ⟨bk', os, k1, k2, qq, hq1, hq2⟩ := hq
  have hq3 : qq = (0, 0, 1, 0, 0, []) := List.mem_singleton.mp hq1
  subst hq3
  obtain ⟨r, rfl, ⟨x1, x2⟩, -, hp⟩ := hq2
  have x1 : 0 ≤ r.toInt := x1
  have x2 : r.toInt ≤ 1 := x2
  have k1 : hOK TTs g (EIm n) [] bk h bk' h' := k1
  have hos : os = [] := List.eq_nil_of_length_eq_zero k2.1
  subst hos
  obtain ⟨z1, a1, b1⟩ := hp ([(1, 1), (2, -1)], 0) (by decide)
  have a1 : some (1 * (Int32.ofInt (s : Int)).toInt + (-1 * r.toInt + 0) + 0) = some z1 := a1
  have a1 := Option.some.inj a1
  have hr : r = 0 ∨ r = 1 := by
    have : r.toInt = 0 ∨ r.toInt = 1 := by omega
    rcases this with e | e
    · exact Or.inl (i32_eq (e.trans rfl))
    · exact Or.inr (i32_eq (e.trans rfl))
  refine ⟨r, bk', rfl, hr, k1, ⟨⟨fs, k1.cell hb (tyAt_lt ty_m0) ho rfl, f6, f7, f8, f9, f12, f13, f15, f20, f21⟩, k1.cell hb (tyAt_lt ty_m5) s5 rfl, k1.cell hb (tyAt_lt ty_m6) s6 rfl, k1.cell hb (tyAt_lt ty_m7) s7 rfl, k1.cell hb (tyAt_lt ty_m8) s8 rfl⟩, fun e => ?_⟩
  subst e
  have : (1 : Int32).toInt = 1 := rfl
  omega
set_option maxRecDepth 16384 in
theorem sgn_run (hlow : ∀ (k : Nat) (K : aK), KTx[k]? = some K → kOK TTs g (EIm n) l K) {W0 : List aR} {bk0 bk : aB} {h0 h : jH} (hO : hOK TTs g (EIm n) W0 bk0 h0 bk h) {b T F G s be q c m w : Nat} {N O A P : Nat → Int32} (hb : bk 1 = some b) (hS : pS h b T F G s be q c m w N O A P) (hs : s ≤ 3) (x : Int32) :
    ∃ Qm, jCal l g 229 1 [.ref (g.2.2 + (b + 0)), .int x] h 0 0 Qm ∧ ∀ v h', Qm v h' → ∃ (r : Int32) (bk' : aB), v = some (.int r) ∧ (r = 0 ∨ r = 1) ∧ hOK TTs g (EIm n) [] bk h bk' h' ∧ pS h' b T F G s be q c m w N O A P ∧ (r = 1 → 1 ≤ s) := by
  have hS0 := hS
  obtain ⟨⟨fs, ho, f6, f7, f8, f9, f12, f13, f15, f20, f21⟩, s5, s6, s7, s8⟩ := hS
  have ts : (Int32.ofInt (s : Int)).toInt = (s : Int) := i32_n (by omega)
  refine ⟨_, use_740 (hlow 740 _ rfl) hO hb (x1 := x) ⟨i32_lo x, i32_hi x⟩ (c0 := Int32.ofInt (s : Int)) (by omega) ho f9, fun v h' hq => ?_⟩
  obtain ⟨bk', os, k1, k2, qq, hq1, hq2⟩ := hq
  have hq3 : qq = (0, 0, 1, 0, 0, []) := List.mem_singleton.mp hq1
  subst hq3
  obtain ⟨r, rfl, ⟨x1, x2⟩, -, hp⟩ := hq2
  have x1 : 0 ≤ r.toInt := x1
  have x2 : r.toInt ≤ 1 := x2
  have k1 : hOK TTs g (EIm n) [] bk h bk' h' := k1
  have hos : os = [] := List.eq_nil_of_length_eq_zero k2.1
  subst hos
  obtain ⟨z1, a1, b1⟩ := hp ([(1, 1), (2, -3)], 0) (by decide)
  have a1 : some (1 * (Int32.ofInt (s : Int)).toInt + (-3 * r.toInt + 0) + 0) = some z1 := a1
  have a1 := Option.some.inj a1
  have hr : r = 0 ∨ r = 1 := by
    have : r.toInt = 0 ∨ r.toInt = 1 := by omega
    rcases this with e | e
    · exact Or.inl (i32_eq (e.trans rfl))
    · exact Or.inr (i32_eq (e.trans rfl))
  refine ⟨r, bk', rfl, hr, k1, ⟨⟨fs, k1.cell hb (tyAt_lt ty_m0) ho rfl, f6, f7, f8, f9, f12, f13, f15, f20, f21⟩, k1.cell hb (tyAt_lt ty_m5) s5 rfl, k1.cell hb (tyAt_lt ty_m6) s6 rfl, k1.cell hb (tyAt_lt ty_m7) s7 rfl, k1.cell hb (tyAt_lt ty_m8) s8 rfl⟩, fun e => ?_⟩
  subst e
  have : (1 : Int32).toInt = 1 := rfl
  omega
end PA
end
section
/-! the reference's parser: number, emit, push, settle -/
section PB
variable {l : Launch} {g : jG} {n : Int}
theorem pS.same {bk bk' : aB} {h h' : jH} {b T F G s be q c m w : Nat} {N O A P : Nat → Int32} (k1 : hOK TTs g (EIm n) [] bk h bk' h') (hb : bk 1 = some b) (hS : pS h b T F G s be q c m w N O A P) : pS h' b T F G s be q c m w N O A P := by
  obtain ⟨⟨fs, ho, hf⟩, s5, s6, s7, s8⟩ := hS
  exact ⟨⟨fs, k1.cell hb (tyAt_lt ty_m0) ho rfl, hf⟩, k1.cell hb (tyAt_lt ty_m5) s5 rfl, k1.cell hb (tyAt_lt ty_m6) s6 rfl, k1.cell hb (tyAt_lt ty_m7) s7 rfl, k1.cell hb (tyAt_lt ty_m8) s8 rfl⟩
theorem m_long {bk : aB} {h : jH} {b k : Nat} {lo hi : Int} {fs : List Value} (hT : HT TTs g bk h) (hb : bk 1 = some b) (ho : h[b + 0]? = some (.inr (12, fs))) (hq : mTs[k]? = some (1, lo, hi, 0, 0)) : ∃ x : Int64, fs[k]? = some (.long x) := by
  obtain ⟨c, c1, fs', rfl, -, c2⟩ := hT 1 b 0 _ hb ty_m0
  cases ho.symm.trans c1
  obtain ⟨v, v1, x, rfl, v3⟩ := c2 k _ hq
  exact ⟨x, v1⟩
set_option maxRecDepth 16384 in
theorem number_run (hlow : ∀ (k : Nat) (K : aK), KTx[k]? = some K → kOK TTs g (EIm n) l K) {W0 : List aR} {bk0 bk : aB} {h0 h : jH} (hO : hOK TTs g (EIm n) W0 bk0 h0 bk h) {b T F G s be q c m w : Nat} {N O A P : Nat → Int32} (hb : bk 1 = some b) (hS : pS h b T F G s be q c m w N O A P) (hL : pL T F G s) (hbe : be ≤ 1) {lo hi : Int64} (hlo : 0 ≤ lo.toInt) (hhi : hi.toInt ≤ 1000) :
    jCal l g 225 4 [.ref (g.2.2 + (b + 0)), .long lo, .long hi] h 0 0 (fun v h' => ∃ x : Int32, v = some (.int x) ∧ ∃ bk' F' G' s' be', hOK TTs g (EIm n) muW bk h bk' h' ∧ pS h' b T F' G' s' be' q c m w N O A P ∧ pL T F' G' s' ∧ F ≤ F' ∧ be ≤ be' ∧ be' ≤ 1 ∧ (be' = 0 → lo.toInt ≤ x.toInt ∧ x.toInt ≤ hi.toInt ∧ G ≤ F')) := by
  refine jCal_of (by decide +kernel) (show 5 ≤ jmx 225 by decide +kernel) ?_
  show J l g 225 4 0 [some (.ref (g.2.2 + (b + 0))), some (.long lo), none, some (.long hi), none, none] [] h 0 0 _
  have hcls : jcN 12 = (jyN 225).cls := by decide +kernel
  have hS0 := hS
  obtain ⟨⟨fs, ho, f6, f7, f8, f9, f12, f13, f15, f20, f21⟩, s5, s6, s7, s8⟩ := hS
  obtain ⟨wv, f10⟩ := m_long (k := 10) hO.1 hb ho rfl
  have ts : (Int32.ofInt (s : Int)).toInt = (s : Int) := i32_n (by have := hL.2.2.2.2; omega)
  have mu : ∀ (x : Int32) (bk1 : aB) (h1 : jH), hOK TTs g (EIm n) [] bk h bk1 h1 → (x = 0 ∨ (x = 1 ∧ lo.toInt ≤ wv.toInt ∧ wv.toInt ≤ hi.toInt)) → J l g 225 4 33 [some (.ref (g.2.2 + (b + 0))), some (.long lo), none, some (.long hi), none, some (.int wv.toInt32)] [.int x, .ref (g.2.2 + (b + 0))] h1 0 0 (fun v h' => ∃ x : Int32, v = some (.int x) ∧ ∃ bk' F' G' s' be', hOK TTs g (EIm n) muW bk h bk' h' ∧ pS h' b T F' G' s' be' q c m w N O A P ∧ pL T F' G' s' ∧ F ≤ F' ∧ be ≤ be' ∧ be' ≤ 1 ∧ (be' = 0 → lo.toInt ≤ x.toInt ∧ x.toInt ≤ hi.toInt ∧ G ≤ F')) := by
    intro x bk1 h1 k1 hx
    have hb1 := k1.2.2.2.2.1 1 b hb
    obtain ⟨Qm, hcal, hQm⟩ := must_run hlow k1 hb1 (hS0.same k1 hb) hL hbe (x := x) (by rcases hx with rfl | ⟨rfl, -⟩ <;> decide)
    have hc1 := k1.cell hb (tyAt_lt ty_m0) ho rfl
    refine j_cV (own := 12) (i := 171) (y2 := 224) (d2 := 3) (mc := 0) (ms := 0) (kc := 0) (ks := 0) (a := b + 0) (As := [.int x]) (st := []) (dQ (by decide +kernel)) hcls (by decide +kernel) (by decide) (by decide +kernel) (show 1 = jnp 224 by decide +kernel) (by decide) (by decide) hc1 (fun r hr => by cases hr; decide +kernel) hcal (fun v h2 hq => ?_)
    obtain ⟨rfl, bk2, F', G', s', be', a1, a2, a3, a4, a5, a6, a7⟩ := hQm v h2 hq
    refine j_iload (i := 5) (dQ (by decide +kernel)) rfl ?_
    refine j_ret (v := some (.int wv.toInt32)) ⟨by decide +kernel, Or.inl (by decide +kernel)⟩ ⟨wv.toInt32, rfl, bk2, F', G', s', be', (k1.w1 (W' := muW) (by decide)).tr (by decide) a1, a2, a3, a4, a5, a6, fun e => ?_⟩ rfl
    obtain ⟨e1, e2⟩ := a7 e
    rcases hx with rfl | ⟨rfl, e3, e4⟩
    · exact absurd e1 (by decide)
    · rw [l2i_ok (by omega) (by omega)]
      exact ⟨e3, e4, e2⟩
  refine j_aload_n (k4 := 0) (dQ (by decide +kernel)) rfl ?_
  refine j_get (own := 12) (i := 145) (ci := 12) (f := 10) (dQ (by decide +kernel)) hcls (by decide +kernel) ho (n12 10 (by decide)) f10 ?_
  refine j_l2i (dQ (by decide +kernel)) ?_
  refine j_istore (i := 5) (dQ (by decide +kernel)) (by decide +kernel) ?_
  refine j_aload_n (k4 := 0) (dQ (by decide +kernel)) rfl ?_
  refine j_aload_n (k4 := 0) (dQ (by decide +kernel)) rfl ?_
  refine j_get (own := 12) (i := 156) (ci := 12) (f := 9) (dQ (by decide +kernel)) hcls (by decide +kernel) ho (n12 9 (by decide)) f9 ?_
  refine j_iconst (n := 2) (dQ (by decide +kernel)) ?_
  refine j_icmp_ne (off := 19) (tgt := 32) (dQ (by decide +kernel)) (by decide) (fun _ => ?_) (fun _ => ?_)
  · refine j_iconst (n := 0) (dQ (by decide +kernel)) ?_
    exact mu 0 bk h (hOK.rf hO.1 hO.2.1 hO.2.2.1 hO.2.2.2.2.2) (Or.inl rfl)
  · refine j_aload_n (k4 := 0) (dQ (by decide +kernel)) rfl ?_
    refine j_get (own := 12) (i := 145) (ci := 12) (f := 10) (dQ (by decide +kernel)) hcls (by decide +kernel) ho (n12 10 (by decide)) f10 ?_
    refine j_lload_n (k4 := 1) (dQ (by decide +kernel)) rfl ?_
    refine j_lload_n (k4 := 3) (dQ (by decide +kernel)) rfl ?_
    refine j_callS' (own := 12) (i := 100) (y2 := 205) (d2 := 1) (mc := 0) (ms := 0) (kc := 0) (ks := 0) (As := [.long wv, .long lo, .long hi]) (st := [.ref (g.2.2 + (b + 0))]) (by decide +kernel) hcls (by decide +kernel) (by decide) (by decide +kernel) (show 3 = jnp 205 by decide +kernel) (by decide) (by show (1 + 0 : Nat) ≤ 8; decide) (use_505 (hlow 505 _ rfl) hO (x0 := wv) (x2 := lo) (x4 := hi)) (fun v h1 hq => ?_)
    obtain ⟨bk1, os, k1, -, qq, hq1, hq2⟩ := hq
    have hq3 : qq = (0, 0, 1, 0, 0, [([(0, 1), (1, -1)], 0), ([(0, -1), (2, 1)], 0)]) := List.mem_singleton.mp hq1
    subst hq3
    obtain ⟨r, rfl, -, ht, -⟩ := hq2
    have k1 : hOK TTs g (EIm n) [] bk h bk1 h1 := k1
    rcases ht with ht | ⟨t1, t2⟩ | ⟨t1, -⟩
    · cases ht
    · have e1 : r = 1 := i32_eq (t1.trans rfl)
      subst e1
      obtain ⟨z1, a1, b1⟩ := t2 ([(0, 1), (1, -1)], 0) (by decide)
      obtain ⟨z2, a2, b2⟩ := t2 ([(0, -1), (2, 1)], 0) (by decide)
      have a1 : some (1 * wv.toInt + (-1 * lo.toInt + 0) + 0) = some z1 := a1
      have a2 : some (-1 * wv.toInt + (1 * hi.toInt + 0) + 0) = some z2 := a2
      have a1 := Option.some.inj a1
      have a2 := Option.some.inj a2
      refine j_if_eq (off := 7) (tgt := 32) (dQ (by decide +kernel)) (by decide) (fun e => absurd e (by decide)) (fun _ => ?_)
      refine j_iconst (n := 1) (dQ (by decide +kernel)) ?_
      refine j_goto (off := 4) (tgt := 33) (dQ (by decide +kernel)) (by decide) ?_
      exact mu 1 bk1 h1 k1 (Or.inr ⟨rfl, by omega, by omega⟩)
    · have e1 : r = 0 := i32_eq (t1.trans rfl)
      subst e1
      refine j_if_eq (off := 7) (tgt := 32) (dQ (by decide +kernel)) (by decide) (fun _ => ?_) (fun e => absurd rfl e)
      refine j_iconst (n := 0) (dQ (by decide +kernel)) ?_
      exact mu 0 bk1 h1 k1 (Or.inl rfl)
def pW : List aR := [(1, 0, 7, 13), (1, 0, 15, 15), (1, 0, 18, 18), (1, 0, 20, 21), (1, 5, 0, 127), (1, 6, 0, 399), (1, 7, 0, 399), (1, 8, 0, 399)]
theorem pF.set {fs : List Value} {T F G s be q c m w k : Nat} {v : Value} (hf : pF fs T F G s be q c m w) (hk : k ≠ 6 ∧ k ≠ 7 ∧ k ≠ 8 ∧ k ≠ 9 ∧ k ≠ 12 ∧ k ≠ 13 ∧ k ≠ 15 ∧ k ≠ 20 ∧ k ≠ 21) : pF (fs.set k v) T F G s be q c m w := by
  obtain ⟨f6, f7, f8, f9, f12, f13, f15, f20, f21⟩ := hf
  obtain ⟨k1, k2, k3, k4, k5, k6, k7, k8, k9⟩ := hk
  refine ⟨?_, ?_, ?_, ?_, ?_, ?_, ?_, ?_, ?_⟩ <;> (rw [List.getElem?_set_ne (by assumption)]; assumption)
theorem pF.set13 {fs : List Value} {T F G s be q c m w x : Nat} (hf : pF fs T F G s be q c m w) : pF (fs.set 13 (iN x)) T F G s be x c m w := by
  obtain ⟨f6, f7, f8, f9, f12, f13, f15, f20, f21⟩ := hf
  exact ⟨by rw [List.getElem?_set_ne (by decide)]; exact f6, by rw [List.getElem?_set_ne (by decide)]; exact f7, by rw [List.getElem?_set_ne (by decide)]; exact f8, by rw [List.getElem?_set_ne (by decide)]; exact f9, by rw [List.getElem?_set_ne (by decide)]; exact f12, List.getElem?_set_self (List.getElem?_eq_some_iff.mp f13).1, by rw [List.getElem?_set_ne (by decide)]; exact f15, by rw [List.getElem?_set_ne (by decide)]; exact f20, by rw [List.getElem?_set_ne (by decide)]; exact f21⟩
theorem pF.set15 {fs : List Value} {T F G s be q c m w x : Nat} (hf : pF fs T F G s be q c m w) : pF (fs.set 15 (iN x)) T F G s be q x m w := by
  obtain ⟨f6, f7, f8, f9, f12, f13, f15, f20, f21⟩ := hf
  exact ⟨by rw [List.getElem?_set_ne (by decide)]; exact f6, by rw [List.getElem?_set_ne (by decide)]; exact f7, by rw [List.getElem?_set_ne (by decide)]; exact f8, by rw [List.getElem?_set_ne (by decide)]; exact f9, by rw [List.getElem?_set_ne (by decide)]; exact f12, by rw [List.getElem?_set_ne (by decide)]; exact f13, List.getElem?_set_self (List.getElem?_eq_some_iff.mp f15).1, by rw [List.getElem?_set_ne (by decide)]; exact f20, by rw [List.getElem?_set_ne (by decide)]; exact f21⟩
theorem pF.set20 {fs : List Value} {T F G s be q c m w x : Nat} (hf : pF fs T F G s be q c m w) : pF (fs.set 20 (iN x)) T F G s be q c x w := by
  obtain ⟨f6, f7, f8, f9, f12, f13, f15, f20, f21⟩ := hf
  exact ⟨by rw [List.getElem?_set_ne (by decide)]; exact f6, by rw [List.getElem?_set_ne (by decide)]; exact f7, by rw [List.getElem?_set_ne (by decide)]; exact f8, by rw [List.getElem?_set_ne (by decide)]; exact f9, by rw [List.getElem?_set_ne (by decide)]; exact f12, by rw [List.getElem?_set_ne (by decide)]; exact f13, by rw [List.getElem?_set_ne (by decide)]; exact f15, List.getElem?_set_self (List.getElem?_eq_some_iff.mp f20).1, by rw [List.getElem?_set_ne (by decide)]; exact f21⟩
theorem pF.set21 {fs : List Value} {T F G s be q c m w x : Nat} (hf : pF fs T F G s be q c m w) : pF (fs.set 21 (iN x)) T F G s be q c m x := by
  obtain ⟨f6, f7, f8, f9, f12, f13, f15, f20, f21⟩ := hf
  exact ⟨by rw [List.getElem?_set_ne (by decide)]; exact f6, by rw [List.getElem?_set_ne (by decide)]; exact f7, by rw [List.getElem?_set_ne (by decide)]; exact f8, by rw [List.getElem?_set_ne (by decide)]; exact f9, by rw [List.getElem?_set_ne (by decide)]; exact f12, by rw [List.getElem?_set_ne (by decide)]; exact f13, by rw [List.getElem?_set_ne (by decide)]; exact f15, by rw [List.getElem?_set_ne (by decide)]; exact f20, List.getElem?_set_self (List.getElem?_eq_some_iff.mp f21).1⟩
theorem pS.setN {h : jH} {b T F G s be q c m w : Nat} {N O A P X : Nat → Int32} (hS : pS h b T F G s be q c m w N O A P) : pS (h.set (b + 5) (.inl (0, 128, X))) b T F G s be q c m w X O A P := by
  obtain ⟨⟨fs, ho, hf⟩, s5, s6, s7, s8⟩ := hS
  exact ⟨⟨fs, by rw [List.getElem?_set_ne (by omega)]; exact ho, hf⟩, List.getElem?_set_self (List.getElem?_eq_some_iff.mp s5).1, by rw [List.getElem?_set_ne (by omega)]; exact s6, by rw [List.getElem?_set_ne (by omega)]; exact s7, by rw [List.getElem?_set_ne (by omega)]; exact s8⟩
theorem pS.setO {h : jH} {b T F G s be q c m w : Nat} {N O A P X : Nat → Int32} (hS : pS h b T F G s be q c m w N O A P) : pS (h.set (b + 6) (.inl (0, 400, X))) b T F G s be q c m w N X A P := by
  obtain ⟨⟨fs, ho, hf⟩, s5, s6, s7, s8⟩ := hS
  exact ⟨⟨fs, by rw [List.getElem?_set_ne (by omega)]; exact ho, hf⟩, by rw [List.getElem?_set_ne (by omega)]; exact s5, List.getElem?_set_self (List.getElem?_eq_some_iff.mp s6).1, by rw [List.getElem?_set_ne (by omega)]; exact s7, by rw [List.getElem?_set_ne (by omega)]; exact s8⟩
theorem pS.setA {h : jH} {b T F G s be q c m w : Nat} {N O A P X : Nat → Int32} (hS : pS h b T F G s be q c m w N O A P) : pS (h.set (b + 7) (.inl (0, 400, X))) b T F G s be q c m w N O X P := by
  obtain ⟨⟨fs, ho, hf⟩, s5, s6, s7, s8⟩ := hS
  exact ⟨⟨fs, by rw [List.getElem?_set_ne (by omega)]; exact ho, hf⟩, by rw [List.getElem?_set_ne (by omega)]; exact s5, by rw [List.getElem?_set_ne (by omega)]; exact s6, List.getElem?_set_self (List.getElem?_eq_some_iff.mp s7).1, by rw [List.getElem?_set_ne (by omega)]; exact s8⟩
theorem pS.setP {h : jH} {b T F G s be q c m w : Nat} {N O A P X : Nat → Int32} (hS : pS h b T F G s be q c m w N O A P) : pS (h.set (b + 8) (.inl (0, 400, X))) b T F G s be q c m w N O A X := by
  obtain ⟨⟨fs, ho, hf⟩, s5, s6, s7, s8⟩ := hS
  exact ⟨⟨fs, by rw [List.getElem?_set_ne (by omega)]; exact ho, hf⟩, by rw [List.getElem?_set_ne (by omega)]; exact s5, by rw [List.getElem?_set_ne (by omega)]; exact s6, by rw [List.getElem?_set_ne (by omega)]; exact s7, List.getElem?_set_self (List.getElem?_eq_some_iff.mp s8).1⟩
theorem pS.setF {h : jH} {b T F G s be q c m w T' F' G' s' be' q' c' m' w' : Nat} {N O A P : Nat → Int32} {fs : List Value} (hS : pS h b T F G s be q c m w N O A P) (hf : pF fs T' F' G' s' be' q' c' m' w') : pS (h.set (b + 0) (.inr (12, fs))) b T' F' G' s' be' q' c' m' w' N O A P := by
  obtain ⟨⟨fs0, ho, -⟩, s5, s6, s7, s8⟩ := hS
  exact ⟨⟨fs, List.getElem?_set_self (List.getElem?_eq_some_iff.mp ho).1, hf⟩, by rw [List.getElem?_set_ne (by omega)]; exact s5, by rw [List.getElem?_set_ne (by omega)]; exact s6, by rw [List.getElem?_set_ne (by omega)]; exact s7, by rw [List.getElem?_set_ne (by omega)]; exact s8⟩
theorem iN_add {k : Nat} (h : k ≤ 1000) : Int32.ofInt (k : Int) + Int32.ofInt 1 = Int32.ofInt ((k + 1 : Nat) : Int) := i32_eq (by rw [i32_addn (i32_n (by omega)) (by omega) (by omega), i32_n (by omega)]; omega)
theorem mf_len {bk : aB} {h : jH} {b : Nat} {fs : List Value} (hT : HT TTs g bk h) (hb : bk 1 = some b) (ho : h[b + 0]? = some (.inr (12, fs))) : fs.length = 42 := by
  obtain ⟨c, c1, fs', rfl, c2, -⟩ := hT 1 b 0 _ hb ty_m0
  cases ho.symm.trans c1
  exact c2.trans (by decide +kernel)
set_option maxRecDepth 16384 in
theorem emit_run {W0 : List aR} {bk0 bk : aB} {h0 h : jH} (hO : hOK TTs g (EIm n) W0 bk0 h0 bk h) {b T F G s be q c m w : Nat} {N O A P : Nat → Int32} (hb : bk 1 = some b) (hS : pS h b T F G s be q c m w N O A P) (hc4 : c < 400) {op ar : Int32} (hop : 0 ≤ op.toInt ∧ op.toInt ≤ 13) (har : 0 ≤ ar.toInt ∧ ar.toInt ≤ 15) {d : Nat} :
    jCal l g 231 d [.ref (g.2.2 + (b + 0)), .int op, .int ar] h 0 0 (fun v h' => v = none ∧ ∃ bk', hOK TTs g (EIm n) pW bk h bk' h' ∧ pS h' b T F G s be q (c + 1) m w N (upd O c op) (upd A c ar) P) := by
  refine jCal_of (by decide +kernel) (show 3 ≤ jmx 231 by decide +kernel) ?_
  show J l g 231 d 0 [some (.ref (g.2.2 + (b + 0))), some (.int op), some (.int ar)] [] h 0 0 _
  have hcls : jcN 12 = (jyN 231).cls := by decide +kernel
  have hS0 := hS
  obtain ⟨⟨fs, ho, f6, f7, f8, f9, f12, f13, f15, f20, f21⟩, s5, s6, s7, s8⟩ := hS
  have hct : (Int32.ofInt (c : Int)).toInt = (c : Int) := i32_n (by omega)
  have hOa : hOK TTs g (EIm n) pW bk h bk h := hOK.rf hO.1 hO.2.1 hO.2.2.1 hO.2.2.2.2.2
  refine j_aload_n (k4 := 0) (dQ (by decide +kernel)) rfl ?_
  refine j_get (own := 12) (i := 30) (ci := 12) (f := 16) (dQ (by decide +kernel)) hcls (by decide +kernel) ho (n12 16 (by decide)) (m_ref hO.1 hb ho rfl) ?_
  refine j_aload_n (k4 := 0) (dQ (by decide +kernel)) rfl ?_
  refine j_get (own := 12) (i := 175) (ci := 12) (f := 15) (dQ (by decide +kernel)) hcls (by decide +kernel) ho (n12 15 (by decide)) f15 ?_
  refine j_iload_n (k4 := 1) (dQ (by decide +kernel)) rfl ?_
  refine j_iast (dQ (by decide +kernel)) s6 (i32_in (by rw [hct]; omega) (by rw [hct]; omega)) ?_
  rw [i32_at hct]
  have hO1 := hOa.st (i := c) (v := op) (lo := 0) (hi := 399) hb ty_m6 s6 (sg1 hop) (by decide) (by omega) (by omega) (by decide)
  have hS1 := hS0.setO (X := upd O c op)
  have ho1 : (h.set (b + 6) (.inl (0, 400, upd O c op)))[b + 0]? = some (.inr (12, fs)) := by rw [List.getElem?_set_ne (by omega)]; exact ho
  generalize h.set (b + 6) (.inl (0, 400, upd O c op)) = h1 at hO1 hS1 ho1
  refine j_aload_n (k4 := 0) (dQ (by decide +kernel)) rfl ?_
  refine j_get (own := 12) (i := 33) (ci := 12) (f := 17) (dQ (by decide +kernel)) hcls (by decide +kernel) ho1 (n12 17 (by decide)) (m_ref hO1.1 hb ho1 rfl) ?_
  refine j_aload_n (k4 := 0) (dQ (by decide +kernel)) rfl ?_
  refine j_get (own := 12) (i := 175) (ci := 12) (f := 15) (dQ (by decide +kernel)) hcls (by decide +kernel) ho1 (n12 15 (by decide)) f15 ?_
  refine j_iload_n (k4 := 2) (dQ (by decide +kernel)) rfl ?_
  refine j_iast (dQ (by decide +kernel)) hS1.2.2.2.1 (i32_in (by rw [hct]; omega) (by rw [hct]; omega)) ?_
  rw [i32_at hct]
  have hO2 := hO1.st (i := c) (v := ar) (lo := 0) (hi := 399) hb ty_m7 hS1.2.2.2.1 (sg1 har) (by decide) (by omega) (by omega) (by decide)
  have hS2 := hS1.setA (X := upd A c ar)
  have ho2 : (h1.set (b + 7) (.inl (0, 400, upd A c ar)))[b + 0]? = some (.inr (12, fs)) := by rw [List.getElem?_set_ne (by omega)]; exact ho1
  generalize h1.set (b + 7) (.inl (0, 400, upd A c ar)) = h2 at hO2 hS2 ho2
  refine j_aload_n (k4 := 0) (dQ (by decide +kernel)) rfl ?_
  refine j_dup (dQ (by decide +kernel)) rfl ?_
  refine j_get (own := 12) (i := 175) (ci := 12) (f := 15) (dQ (by decide +kernel)) hcls (by decide +kernel) ho2 (n12 15 (by decide)) f15 ?_
  refine j_iconst (n := 1) (dQ (by decide +kernel)) ?_
  refine j_iadd (dQ (by decide +kernel)) ?_
  rw [iN_add (by omega)]
  refine j_put (own := 12) (i := 175) (ci := 12) (f := 15) (dQ (by decide +kernel)) hcls (by decide +kernel) ho2 rfl (by decide +kernel) (by rw [mf_len hO2.1 hb ho2]; decide) (by decide +kernel) (ty := .int) (by decide +kernel) rfl rfl ?_
  have hc1t : (Int32.ofInt ((c + 1 : Nat) : Int)).toInt = ((c + 1 : Nat) : Int) := i32_n (by omega)
  have hO3 := hO2.sf (k := 15) (v := Int32.ofInt ((c + 1 : Nat) : Int)) hb ty_m0 ho2 (show mTs[15]? = some (0, 0, 400, 0, 0) from rfl) (by omega) (by omega) (by decide) (by decide)
  exact j_ret (v := none) ⟨by decide +kernel, by decide +kernel⟩ ⟨rfl, bk, hO3, hS2.setF (pF.set15 (x := c + 1) ⟨f6, f7, f8, f9, f12, f13, f15, f20, f21⟩)⟩ rfl
set_option maxRecDepth 16384 in
theorem push_run {W0 : List aR} {bk0 bk : aB} {h0 h : jH} (hO : hOK TTs g (EIm n) W0 bk0 h0 bk h) {b T F G s be q c m w : Nat} {N O A P : Nat → Int32} (hb : bk 1 = some b) (hS : pS h b T F G s be q c m w N O A P) (hm4 : m < 400) {op : Int32} (hop : 0 ≤ op.toInt ∧ op.toInt ≤ 13) {d : Nat} :
    jCal l g 228 d [.ref (g.2.2 + (b + 0)), .int op] h 0 0 (fun v h' => v = none ∧ ∃ bk', hOK TTs g (EIm n) pW bk h bk' h' ∧ pS h' b T F G s be q c (m + 1) w N O A (upd P m op)) := by
  refine jCal_of (by decide +kernel) (show 2 ≤ jmx 228 by decide +kernel) ?_
  show J l g 228 d 0 [some (.ref (g.2.2 + (b + 0))), some (.int op)] [] h 0 0 _
  have hcls : jcN 12 = (jyN 228).cls := by decide +kernel
  have hS0 := hS
  obtain ⟨⟨fs, ho, f6, f7, f8, f9, f12, f13, f15, f20, f21⟩, s5, s6, s7, s8⟩ := hS
  have hmt : (Int32.ofInt (m : Int)).toInt = (m : Int) := i32_n (by omega)
  have hOa : hOK TTs g (EIm n) pW bk h bk h := hOK.rf hO.1 hO.2.1 hO.2.2.1 hO.2.2.2.2.2
  refine j_aload_n (k4 := 0) (dQ (by decide +kernel)) rfl ?_
  refine j_get (own := 12) (i := 36) (ci := 12) (f := 19) (dQ (by decide +kernel)) hcls (by decide +kernel) ho (n12 19 (by decide)) (m_ref hO.1 hb ho rfl) ?_
  refine j_aload_n (k4 := 0) (dQ (by decide +kernel)) rfl ?_
  refine j_get (own := 12) (i := 178) (ci := 12) (f := 20) (dQ (by decide +kernel)) hcls (by decide +kernel) ho (n12 20 (by decide)) f20 ?_
  refine j_iload_n (k4 := 1) (dQ (by decide +kernel)) rfl ?_
  refine j_iast (dQ (by decide +kernel)) s8 (i32_in (by rw [hmt]; omega) (by rw [hmt]; omega)) ?_
  rw [i32_at hmt]
  have hO2 := hOa.st (i := m) (v := op) (lo := 0) (hi := 399) hb ty_m8 s8 (sg1 hop) (by decide) (by omega) (by omega) (by decide)
  have hS2 := hS0.setP (X := upd P m op)
  have ho2 : (h.set (b + 8) (.inl (0, 400, upd P m op)))[b + 0]? = some (.inr (12, fs)) := by rw [List.getElem?_set_ne (by omega)]; exact ho
  generalize h.set (b + 8) (.inl (0, 400, upd P m op)) = h2 at hO2 hS2 ho2
  refine j_aload_n (k4 := 0) (dQ (by decide +kernel)) rfl ?_
  refine j_dup (dQ (by decide +kernel)) rfl ?_
  refine j_get (own := 12) (i := 178) (ci := 12) (f := 20) (dQ (by decide +kernel)) hcls (by decide +kernel) ho2 (n12 20 (by decide)) f20 ?_
  refine j_iconst (n := 1) (dQ (by decide +kernel)) ?_
  refine j_iadd (dQ (by decide +kernel)) ?_
  rw [iN_add (by omega)]
  refine j_put (own := 12) (i := 178) (ci := 12) (f := 20) (dQ (by decide +kernel)) hcls (by decide +kernel) ho2 rfl (by decide +kernel) (by rw [mf_len hO2.1 hb ho2]; decide) (by decide +kernel) (ty := .int) (by decide +kernel) rfl rfl ?_
  have hm1t : (Int32.ofInt ((m + 1 : Nat) : Int)).toInt = ((m + 1 : Nat) : Int) := i32_n (by omega)
  have hO3 := hO2.sf (k := 20) (v := Int32.ofInt ((m + 1 : Nat) : Int)) hb ty_m0 ho2 (show mTs[20]? = some (0, 0, 400, 0, 0) from rfl) (by omega) (by omega) (by decide) (by decide)
  exact j_ret (v := none) ⟨by decide +kernel, by decide +kernel⟩ ⟨rfl, bk, hO3, hS2.setF (pF.set20 (x := m + 1) ⟨f6, f7, f8, f9, f12, f13, f15, f20, f21⟩)⟩ rfl
end PB
end
section
/-! the reference's parser: binds, settle -/
section PC
variable {l : Launch} {g : jG} {n : Int}
def bnF (z : Int) : Int := if z = 13 then 0 else if z = 12 then 1 else if z = 11 then 2 else 3
theorem c8_13 : ((Int8.ofInt 13).toInt32).toInt = 13 := by decide
theorem c8_12 : ((Int8.ofInt 12).toInt32).toInt = 12 := by decide
theorem c8_11 : ((Int8.ofInt 11).toInt32).toInt = 11 := by decide
theorem binds_run {d : Nat} {h : jH} {x : Int32} : jCal l g 233 d [.int x] h 0 0 (fun v h' => h' = h ∧ v = some (.int (Int32.ofInt (bnF x.toInt)))) := by
  refine jCal_of (by decide +kernel) (show 1 ≤ jmx 233 by decide +kernel) ?_
  show J l g 233 d 0 [some (.int x)] [] h 0 0 _
  refine j_iload_n (k4 := 0) (dQ (by decide +kernel)) rfl ?_
  refine j_bipush (n := 13) (dQ (by decide +kernel)) ?_
  refine j_icmp_ne (off := 7) (tgt := 10) (dQ (by decide +kernel)) (by decide) (fun e1 => ?_) (fun e1 => ?_)
  · have a1 : ¬ x.toInt = 13 := fun q => e1 (i32_eq (q.trans c8_13.symm))
    refine j_iload_n (k4 := 0) (dQ (by decide +kernel)) rfl ?_
    refine j_bipush (n := 12) (dQ (by decide +kernel)) ?_
    refine j_icmp_ne (off := 7) (tgt := 20) (dQ (by decide +kernel)) (by decide) (fun e2 => ?_) (fun e2 => ?_)
    · have a2 : ¬ x.toInt = 12 := fun q => e2 (i32_eq (q.trans c8_12.symm))
      refine j_iload_n (k4 := 0) (dQ (by decide +kernel)) rfl ?_
      refine j_bipush (n := 11) (dQ (by decide +kernel)) ?_
      refine j_icmp_ne (off := 7) (tgt := 30) (dQ (by decide +kernel)) (by decide) (fun e3 => ?_) (fun e3 => ?_)
      · have a3 : ¬ x.toInt = 11 := fun q => e3 (i32_eq (q.trans c8_11.symm))
        refine j_iconst (n := 3) (dQ (by decide +kernel)) ?_
        exact j_ret (v := some (.int (Int32.ofInt 3))) ⟨by decide +kernel, Or.inl (by decide +kernel)⟩ ⟨rfl, by rw [bnF, if_neg a1, if_neg a2, if_neg a3]⟩ rfl
      · have a3 : x.toInt = 11 := by rw [Classical.not_not.mp e3]; exact c8_11
        refine j_iconst (n := 2) (dQ (by decide +kernel)) ?_
        refine j_goto (off := 4) (tgt := 31) (dQ (by decide +kernel)) (by decide) ?_
        exact j_ret (v := some (.int (Int32.ofInt 2))) ⟨by decide +kernel, Or.inl (by decide +kernel)⟩ ⟨rfl, by rw [bnF, if_neg a1, if_neg a2, if_pos a3]⟩ rfl
    · have a2 : x.toInt = 12 := by rw [Classical.not_not.mp e2]; exact c8_12
      refine j_iconst (n := 1) (dQ (by decide +kernel)) ?_
      refine j_goto (off := 14) (tgt := 31) (dQ (by decide +kernel)) (by decide) ?_
      exact j_ret (v := some (.int (Int32.ofInt 1))) ⟨by decide +kernel, Or.inl (by decide +kernel)⟩ ⟨rfl, by rw [bnF, if_neg a1, if_pos a2]⟩ rfl
  · have a1 : x.toInt = 13 := by rw [Classical.not_not.mp e1]; exact c8_13
    refine j_iconst (n := 0) (dQ (by decide +kernel)) ?_
    refine j_goto (off := 24) (tgt := 31) (dQ (by decide +kernel)) (by decide) ?_
    exact j_ret (v := some (.int (Int32.ofInt 0))) ⟨by decide +kernel, Or.inl (by decide +kernel)⟩ ⟨rfl, by rw [bnF, if_pos a1]⟩ rfl
theorem bnF_b (z : Int) : 0 ≤ bnF z ∧ bnF z ≤ 3 := by
  unfold bnF
  repeat' split
  all_goals omega
set_option maxRecDepth 16384 in
theorem settle_loop {bk : aB} {h : jH} {b T F G s be q w cm : Nat} {N P : Nat → Int32} (hb : bk 1 = some b) {le : Int32} {R : (Nat → Int32) → (Nat → Int32) → Nat → Nat → Prop} {Q : Option Value → jH → Prop} {d : Nat} (hd : 1 ≤ d) (hcm : cm ≤ 400)
    (hstep : ∀ O A c m, R O A c (m + 1) → le.toInt ≤ bnF (P m).toInt → R (upd O c (P m)) (upd A c 0) (c + 1) m)
    (hQ : ∀ bk' h' c' m' O' A', hOK TTs g (EIm n) pW bk h bk' h' → pS h' b T F G s be q c' m' w N O' A' P → c' + m' = cm → R O' A' c' m' → (m' = 0 ∨ bnF (P (m' - 1)).toInt < le.toInt) → Q none h') :
    ∀ (m c : Nat) (O A : Nat → Int32) (bk1 : aB) (h1 : jH), c + m = cm → hOK TTs g (EIm n) pW bk h bk1 h1 → pS h1 b T F G s be q c m w N O A P → R O A c m → J l g 232 d 0 [some (.ref (g.2.2 + (b + 0))), some (.int le)] [] h1 0 0 Q := by
  have hcls : jcN 12 = (jyN 232).cls := by decide +kernel
  intro m
  induction m with
  | zero =>
    intro c O A bk1 h1 e1 hO hS hR
    have hS0 := hS
    obtain ⟨⟨fs, ho, f6, f7, f8, f9, f12, f13, f15, f20, f21⟩, s5, s6, s7, s8⟩ := hS
    refine j_aload_n (k4 := 0) (dQ (by decide +kernel)) rfl ?_
    refine j_get (own := 12) (i := 178) (ci := 12) (f := 20) (dQ (by decide +kernel)) hcls (by decide +kernel) ho (n12 20 (by decide)) f20 ?_
    refine j_if_le (off := 48) (tgt := 52) (dQ (by decide +kernel)) (by decide) (fun _ => ?_) (fun z => absurd (show Int32.ofInt ((0 : Nat) : Int) ≤ 0 by decide) z)
    exact j_ret (v := none) ⟨by decide +kernel, by decide +kernel⟩ (hQ bk1 h1 c 0 O A hO hS0 e1 hR (Or.inl rfl)) rfl
  | succ m ih =>
    intro c O A bk1 h1 e1 hO hS hR
    have hS0 := hS
    obtain ⟨⟨fs, ho, f6, f7, f8, f9, f12, f13, f15, f20, f21⟩, s5, s6, s7, s8⟩ := hS
    have hb1 := hO.2.2.2.2.1 1 b hb
    have hmt : (Int32.ofInt ((m + 1 : Nat) : Int)).toInt = ((m + 1 : Nat) : Int) := i32_n (by omega)
    have hm0 : (Int32.ofInt (m : Int)).toInt = (m : Int) := i32_n (by omega)
    have hsub : Int32.ofInt ((m + 1 : Nat) : Int) - Int32.ofInt 1 = Int32.ofInt (m : Int) := i32_sub1 (by omega)
    refine j_aload_n (k4 := 0) (dQ (by decide +kernel)) rfl ?_
    refine j_get (own := 12) (i := 178) (ci := 12) (f := 20) (dQ (by decide +kernel)) hcls (by decide +kernel) ho (n12 20 (by decide)) f20 ?_
    refine j_if_le (off := 48) (tgt := 52) (dQ (by decide +kernel)) (by decide) (fun z => absurd (le32.mp z) (by rw [hmt, i32z]; omega)) (fun _ => ?_)
    refine j_aload_n (k4 := 0) (dQ (by decide +kernel)) rfl ?_
    refine j_get (own := 12) (i := 36) (ci := 12) (f := 19) (dQ (by decide +kernel)) hcls (by decide +kernel) ho (n12 19 (by decide)) (m_ref hO.1 hb1 ho rfl) ?_
    refine j_aload_n (k4 := 0) (dQ (by decide +kernel)) rfl ?_
    refine j_get (own := 12) (i := 178) (ci := 12) (f := 20) (dQ (by decide +kernel)) hcls (by decide +kernel) ho (n12 20 (by decide)) f20 ?_
    refine j_iconst (n := 1) (dQ (by decide +kernel)) ?_
    refine j_isub (dQ (by decide +kernel)) ?_
    rw [hsub]
    refine j_iald (dQ (by decide +kernel)) s8 (i32_in (by rw [hm0]; omega) (by rw [hm0]; omega)) ?_
    rw [i32_at hm0]
    refine j_callS' (own := 12) (i := 181) (y2 := 233) (d2 := 0) (mc := 0) (ms := 0) (kc := 0) (ks := 0) (As := [.int (P m)]) (st := []) (by decide +kernel) hcls (by decide +kernel) (by decide) (by decide +kernel) (show 1 = jnp 233 by decide +kernel) (by omega) (by decide) binds_run (fun v h2 hq => ?_)
    obtain ⟨rfl, rfl⟩ := hq
    have hbb := bnF_b (P m).toInt
    have hbt : (Int32.ofInt (bnF (P m).toInt)).toInt = bnF (P m).toInt := i32_ofInt (by omega) (by omega)
    refine j_iload_n (k4 := 1) (dQ (by decide +kernel)) rfl ?_
    refine j_icmp_lt (off := 30) (tgt := 52) (dQ (by decide +kernel)) (by decide) (fun z => ?_) (fun z => ?_)
    · have z1 := i32_lt.mp z
      rw [hbt] at z1
      exact j_ret (v := none) ⟨by decide +kernel, by decide +kernel⟩ (hQ bk1 _ c (m + 1) O A hO hS0 e1 hR (Or.inr z1)) rfl
    · have z1 : le.toInt ≤ bnF (P m).toInt := by
        have z2 := fun q => z (i32_lt.mpr q)
        rw [hbt] at z2
        exact Int.not_lt.mp z2
      refine j_aload_n (k4 := 0) (dQ (by decide +kernel)) rfl ?_
      refine j_dup (dQ (by decide +kernel)) rfl ?_
      refine j_get (own := 12) (i := 178) (ci := 12) (f := 20) (dQ (by decide +kernel)) hcls (by decide +kernel) ho (n12 20 (by decide)) f20 ?_
      refine j_iconst (n := 1) (dQ (by decide +kernel)) ?_
      refine j_isub (dQ (by decide +kernel)) ?_
      rw [hsub]
      refine j_put (own := 12) (i := 178) (ci := 12) (f := 20) (dQ (by decide +kernel)) hcls (by decide +kernel) ho rfl (by decide +kernel) (by rw [mf_len hO.1 hb1 ho]; decide) (by decide +kernel) (ty := .int) (by decide +kernel) rfl rfl ?_
      have hO2 := hO.sf (k := 20) (v := Int32.ofInt (m : Int)) hb1 ty_m0 ho (show mTs[20]? = some (0, 0, 400, 0, 0) from rfl) (by omega) (by omega) (by decide) (by decide)
      have hS2 := hS0.setF (pF.set20 (x := m) ⟨f6, f7, f8, f9, f12, f13, f15, f20, f21⟩)
      have ho2 := List.getElem?_set_self (l := h2) (i := b + 0) (a := .inr (12, fs.set 20 (iN m))) (List.getElem?_eq_some_iff.mp ho).1
      have g20 : (fs.set 20 (iN m))[20]? = some (iN m) := List.getElem?_set_self (by rw [mf_len hO.1 hb1 ho]; decide)
      have hO2 : hOK TTs g (EIm n) pW bk h bk1 (h2.set (b + 0) (.inr (12, fs.set 20 (iN m)))) := hO2
      show J l g 232 d 35 [some (.ref (g.2.2 + (b + 0))), some (.int le)] [] (h2.set (b + 0) (.inr (12, fs.set 20 (iN m)))) 0 0 Q
      generalize h2.set (b + 0) (.inr (12, fs.set 20 (iN m))) = h3 at hO2 hS2 ho2
      generalize fs.set 20 (iN m) = fs3 at ho2 g20
      refine j_aload_n (k4 := 0) (dQ (by decide +kernel)) rfl ?_
      refine j_aload_n (k4 := 0) (dQ (by decide +kernel)) rfl ?_
      refine j_get (own := 12) (i := 36) (ci := 12) (f := 19) (dQ (by decide +kernel)) hcls (by decide +kernel) ho2 (n12 19 (by decide)) (m_ref hO2.1 hb1 ho2 rfl) ?_
      refine j_aload_n (k4 := 0) (dQ (by decide +kernel)) rfl ?_
      refine j_get (own := 12) (i := 178) (ci := 12) (f := 20) (dQ (by decide +kernel)) hcls (by decide +kernel) ho2 (n12 20 (by decide)) g20 ?_
      refine j_iald (dQ (by decide +kernel)) hS2.2.2.2.2 (i32_in (by rw [hm0]; omega) (by rw [hm0]; omega)) ?_
      rw [i32_at hm0]
      refine j_iconst (n := 0) (dQ (by decide +kernel)) ?_
      have hPm : 0 ≤ (P m).toInt ∧ (P m).toInt ≤ 13 := by
        obtain ⟨P3, hP3, hP3t⟩ := m_arr hO2.1 hb1 ty_m8
        cases hS2.2.2.2.2.symm.trans hP3
        exact hP3t m (by omega) _ List.mem_cons_self (by show 0 ≤ _; omega) (by show _ < 0 + 400; omega) (0, 13) (by rw [Nat.mod_one]; rfl)
      refine j_cV (own := 12) (i := 184) (y2 := 231) (d2 := 0) (mc := 0) (ms := 0) (kc := 0) (ks := 0) (a := b + 0) (As := [.int (P m), .int (Int32.ofInt 0)]) (st := []) (dQ (by decide +kernel)) hcls (by decide +kernel) (by decide) (by decide +kernel) (show 2 = jnp 231 by decide +kernel) (by omega) (by decide) ho2 (fun r hr => by cases hr; decide +kernel) (emit_run hO2 hb1 hS2 (by omega) hPm (by decide)) (fun v h4 hq => ?_)
      obtain ⟨rfl, bk4, k4, k5⟩ := hq
      refine j_goto (off := -49) (tgt := 0) (dQ (by decide +kernel)) (by decide) ?_
      exact ih (c + 1) _ _ bk4 h4 (by omega) (hO2.tr (by decide) k4) k5 (hstep O A c m hR z1)
theorem settle_run {W0 : List aR} {bk0 bk : aB} {h0 h : jH} (hO : hOK TTs g (EIm n) W0 bk0 h0 bk h) {b T F G s be q c m w : Nat} {N O A P : Nat → Int32} (hb : bk 1 = some b) (hS : pS h b T F G s be q c m w N O A P) (hcm : c + m ≤ 400) {le : Int32} {R : (Nat → Int32) → (Nat → Int32) → Nat → Nat → Prop} {d : Nat} (hd : 1 ≤ d) (hR : R O A c m)
    (hstep : ∀ O A c m, R O A c (m + 1) → le.toInt ≤ bnF (P m).toInt → R (upd O c (P m)) (upd A c 0) (c + 1) m) :
    jCal l g 232 d [.ref (g.2.2 + (b + 0)), .int le] h 0 0 (fun v h' => v = none ∧ ∃ bk' c' m' O' A', hOK TTs g (EIm n) pW bk h bk' h' ∧ pS h' b T F G s be q c' m' w N O' A' P ∧ c' + m' = c + m ∧ R O' A' c' m' ∧ (m' = 0 ∨ bnF (P (m' - 1)).toInt < le.toInt)) := by
  refine jCal_of (by decide +kernel) (show 2 ≤ jmx 232 by decide +kernel) ?_
  show J l g 232 d 0 [some (.ref (g.2.2 + (b + 0))), some (.int le)] [] h 0 0 _
  exact settle_loop (cm := c + m) hb hd hcm hstep (fun bk' h' c' m' O' A' a1 a2 a3 a4 a5 => ⟨rfl, bk', c', m', O', A', a1, a2, a3, a4, a5⟩) m c O A bk h rfl (hOK.rf hO.1 hO.2.1 hO.2.2.1 hO.2.2.2.2.2) hS hR
end PC
end
section
/-! what the code and the pile mean -/
section PD
def stD (o a : Int) (D : Nat) : Option Nat := if o = 10 then (if 1 ≤ D then some D else none) else if o = 11 ∨ o = 12 then (if 2 ≤ D then some (D - 1) else none) else if o = 1 ∨ o = 2 ∨ (o = 3 ∧ a ≤ 11) then some (D + 1) else none
def rg (O A : Nat → Int32) : Nat → Nat → Nat → Option Nat
  | 0, _, D => some D
  | k + 1, p, D => match stD (O p).toInt (A p).toInt D with
    | some D' => rg O A k (p + 1) D'
    | none => none
theorem rg_app {O A : Nat → Int32} : ∀ (k p D D' : Nat), rg O A k p D = some D' → rg O A (k + 1) p D = stD (O (p + k)).toInt (A (p + k)).toInt D' := by
  intro k
  induction k with
  | zero =>
    intro p D D' h
    rw [rg] at h
    cases h
    rw [rg, Nat.add_zero]
    cases stD (O p).toInt (A p).toInt D <;> rfl
  | succ k ih =>
    intro p D D' h
    rw [rg] at h
    rw [rg]
    cases h1 : stD (O p).toInt (A p).toInt D with
    | none => rw [h1] at h; cases h
    | some D1 =>
      rw [h1] at h
      dsimp only at h ⊢
      rw [ih (p + 1) D1 D' h, show p + 1 + k = p + (k + 1) by omega]
theorem rg_cg {O A O' A' : Nat → Int32} : ∀ (k p D : Nat), (∀ i, p ≤ i → i < p + k → O' i = O i ∧ A' i = A i) → rg O' A' k p D = rg O A k p D := by
  intro k
  induction k with
  | zero => intro p D _; rfl
  | succ k ih =>
    intro p D h
    rw [rg, rg, (h p (by omega) (by omega)).1, (h p (by omega) (by omega)).2]
    cases stD (O p).toInt (A p).toInt D with
    | none => rfl
    | some D1 => exact ih (p + 1) D1 (fun i h1 h2 => h i (by omega) (by omega))
theorem rg_emit {O A : Nat → Int32} {s0 c D : Nat} {op ar : Int32} (hc : s0 ≤ c) (h : rg O A (c - s0) s0 0 = some D) : rg (upd O c op) (upd A c ar) (c + 1 - s0) s0 0 = stD op.toInt ar.toInt D := by
  have h2 : rg (upd O c op) (upd A c ar) (c - s0) s0 0 = some D := by
    rw [rg_cg (O := O) (A := A) (O' := upd O c op) (A' := upd A c ar) (c - s0) s0 0 (fun i h1 h2 => ⟨if_neg (by omega), if_neg (by omega)⟩)]
    exact h
  rw [show c + 1 - s0 = (c - s0) + 1 by omega, rg_app _ _ _ _ h2, show s0 + (c - s0) = c by omega]
  rw [show upd O c op c = op from if_pos rfl, show upd A c ar c = ar from if_pos rfl]
def nb (P : Nat → Int32) : Nat → Nat
  | 0 => 0
  | m + 1 => nb P m + if (P m).toInt = 11 ∨ (P m).toInt = 12 then 1 else 0
def nr (P : Nat → Int32) : Nat → Nat
  | 0 => 0
  | m + 1 => nr P m + if (P m).toInt = 13 then 1 else 0
def pv (P : Nat → Int32) (m : Nat) : Prop := ∀ j, j < m → (P j).toInt = 10 ∨ (P j).toInt = 11 ∨ (P j).toInt = 12 ∨ (P j).toInt = 13
theorem nb_cg {P P' : Nat → Int32} : ∀ m, (∀ j, j < m → P' j = P j) → nb P' m = nb P m := by
  intro m
  induction m with
  | zero => intro _; rfl
  | succ m ih => intro h; rw [nb, nb, ih (fun j hj => h j (by omega)), h m (by omega)]
theorem nr_cg {P P' : Nat → Int32} : ∀ m, (∀ j, j < m → P' j = P j) → nr P' m = nr P m := by
  intro m
  induction m with
  | zero => intro _; rfl
  | succ m ih => intro h; rw [nr, nr, ih (fun j hj => h j (by omega)), h m (by omega)]
theorem nb_push {P : Nat → Int32} {m : Nat} {op : Int32} : nb (upd P m op) (m + 1) = nb P m + if op.toInt = 11 ∨ op.toInt = 12 then 1 else 0 := by
  rw [nb, nb_cg (P := P) (P' := upd P m op) m (fun j hj => if_neg (by omega)), show upd P m op m = op from if_pos rfl]
theorem nr_push {P : Nat → Int32} {m : Nat} {op : Int32} : nr (upd P m op) (m + 1) = nr P m + if op.toInt = 13 then 1 else 0 := by
  rw [nr, nr_cg (P := P) (P' := upd P m op) m (fun j hj => if_neg (by omega)), show upd P m op m = op from if_pos rfl]
theorem pv_push {P : Nat → Int32} {m : Nat} {op : Int32} (h : pv P m) (ho : op.toInt = 10 ∨ op.toInt = 11 ∨ op.toInt = 12 ∨ op.toInt = 13) : pv (upd P m op) (m + 1) := fun j hj => by
  by_cases e : j = m
  · subst e
    rw [show upd P j op j = op from if_pos rfl]
    exact ho
  · rw [show upd P m op j = P j from if_neg e]
    exact h j (by omega)
/-- the code from s0 on, the pile, and whether a whole test stands before the next word -/
def RR (s0 : Nat) (O0 A0 P : Nat → Int32) (w be wh : Nat) (O A : Nat → Int32) (c m : Nat) : Prop := s0 ≤ c ∧ (∀ i, i < s0 → O i = O0 i ∧ A i = A0 i) ∧ (be = 0 → pv P m ∧ nr P m = w ∧ rg O A (c - s0) s0 0 = some (nb P m + wh))
theorem RR.bad {s0 : Nat} {O0 A0 P P' O A : Nat → Int32} {w w' be be' wh wh' c m m' : Nat} (h : RR s0 O0 A0 P w be wh O A c m) (hb : be' = 1) : RR s0 O0 A0 P' w' be' wh' O A c m' := ⟨h.1, h.2.1, fun e => by omega⟩
theorem RR.settle {s0 : Nat} {O0 A0 P O A : Nat → Int32} {w be c m : Nat} {le : Int} (hle : 1 ≤ le) (h : RR s0 O0 A0 P w be 1 O A c (m + 1)) (hb : le ≤ bnF (P m).toInt) : RR s0 O0 A0 P w be 1 (upd O c (P m)) (upd A c 0) (c + 1) m := by
  obtain ⟨h1, h2, h3⟩ := h
  refine ⟨by omega, fun i hi => ⟨by rw [show upd O c (P m) i = O i from if_neg (by omega)]; exact (h2 i hi).1, by rw [show upd A c 0 i = A i from if_neg (by omega)]; exact (h2 i hi).2⟩, fun e => ?_⟩
  obtain ⟨a1, a2, a3⟩ := h3 e
  have h13 : ¬ (P m).toInt = 13 := fun q => by
    rw [bnF, if_pos q] at hb
    omega
  rw [nr, if_neg h13, Nat.add_zero] at a2
  refine ⟨fun j hj => a1 j (by omega), a2, ?_⟩
  rw [rg_emit h1 a3, nb]
  rcases a1 m (by omega) with q | q | q | q
  · rw [if_neg (by omega), stD, if_pos q, if_pos (by omega)]
  · rw [if_pos (Or.inl q), stD, if_neg (by omega), if_pos (Or.inl q), if_pos (by omega)]
    congr 1
  · rw [if_pos (Or.inr q), stD, if_neg (by omega), if_pos (Or.inr q), if_pos (by omega)]
    congr 1
  · exact absurd q h13
theorem RR.leaf {s0 : Nat} {O0 A0 P O A : Nat → Int32} {w be c m : Nat} {op ar : Int32} (h : RR s0 O0 A0 P w be 0 O A c m) (ho : op.toInt = 1 ∨ op.toInt = 2 ∨ (op.toInt = 3 ∧ ar.toInt ≤ 11)) : RR s0 O0 A0 P w be 1 (upd O c op) (upd A c ar) (c + 1) m := by
  obtain ⟨h1, h2, h3⟩ := h
  refine ⟨by omega, fun i hi => ⟨by rw [show upd O c op i = O i from if_neg (by omega)]; exact (h2 i hi).1, by rw [show upd A c ar i = A i from if_neg (by omega)]; exact (h2 i hi).2⟩, fun e => ?_⟩
  obtain ⟨a1, a2, a3⟩ := h3 e
  refine ⟨a1, a2, ?_⟩
  rw [rg_emit h1 a3, stD, if_neg (by omega), if_neg (by omega), if_pos ho]
/-- not, or a bracket, comes to the pile -/
theorem RR.push {s0 : Nat} {O0 A0 P O A : Nat → Int32} {w be c m : Nat} {op : Int32} (h : RR s0 O0 A0 P w be 0 O A c m) (ho : op.toInt = 10 ∨ op.toInt = 13) : RR s0 O0 A0 (upd P m op) (w + if op.toInt = 13 then 1 else 0) be 0 O A c (m + 1) := by
  obtain ⟨h1, h2, h3⟩ := h
  refine ⟨h1, h2, fun e => ?_⟩
  obtain ⟨a1, a2, a3⟩ := h3 e
  refine ⟨pv_push a1 (by omega), by rw [nr_push, a2], ?_⟩
  rw [nb_push, if_neg (by omega)]
  exact a3
/-- and, or comes to the pile -/
theorem RR.op {s0 : Nat} {O0 A0 P O A : Nat → Int32} {w be c m : Nat} {op : Int32} (h : RR s0 O0 A0 P w be 1 O A c m) (ho : op.toInt = 11 ∨ op.toInt = 12) : RR s0 O0 A0 (upd P m op) w be 0 O A c (m + 1) := by
  obtain ⟨h1, h2, h3⟩ := h
  refine ⟨h1, h2, fun e => ?_⟩
  obtain ⟨a1, a2, a3⟩ := h3 e
  refine ⟨pv_push a1 (by omega), by rw [nr_push, if_neg (by omega), a2]; rfl, ?_⟩
  rw [nb_push, if_pos ho]
  exact a3
/-- a bracket goes -/
theorem RR.close {s0 : Nat} {O0 A0 P O A : Nat → Int32} {w be c m : Nat} (h : RR s0 O0 A0 P (w + 1) be 1 O A c m) (hbe : be = 0) (hm : m = 0 ∨ bnF (P (m - 1)).toInt < 1) : ∃ m', m = m' + 1 ∧ RR s0 O0 A0 P w be 1 O A c m' := by
  obtain ⟨h1, h2, h3⟩ := h
  obtain ⟨a1, a2, a3⟩ := h3 hbe
  cases m with
  | zero => rw [nr] at a2; omega
  | succ m =>
    have hm2 : bnF (P m).toInt < 1 := by
      rcases hm with e | e
      · omega
      · exact e
    have h13 : (P m).toInt = 13 := by
      rcases a1 m (by omega) with q | q | q | q
      · rw [bnF, if_neg (by omega), if_neg (by omega), if_neg (by omega)] at hm2; omega
      · rw [bnF, if_neg (by omega), if_neg (by omega), if_pos q] at hm2; omega
      · rw [bnF, if_neg (by omega), if_pos q] at hm2; omega
      · exact q
    rw [nr, if_pos h13] at a2
    rw [nb, if_neg (by omega)] at a3
    exact ⟨m, rfl, h1, h2, fun _ => ⟨fun j hj => a1 j (by omega), by omega, a3⟩⟩
/-- all is settled -/
theorem RR.done {s0 : Nat} {O0 A0 P O A : Nat → Int32} {be c m : Nat} (h : RR s0 O0 A0 P 0 be 1 O A c m) (hbe : be = 0) (hm : m = 0 ∨ bnF (P (m - 1)).toInt < 1) : rg O A (c - s0) s0 0 = some 1 := by
  obtain ⟨h1, h2, h3⟩ := h
  obtain ⟨a1, a2, a3⟩ := h3 hbe
  cases m with
  | zero => exact a3
  | succ m =>
    exfalso
    have hm2 : bnF (P m).toInt < 1 := by
      rcases hm with e | e
      · omega
      · exact e
    have h13 : (P m).toInt = 13 := by
      rcases a1 m (by omega) with q | q | q | q
      · rw [bnF, if_neg (by omega), if_neg (by omega), if_neg (by omega)] at hm2; omega
      · rw [bnF, if_neg (by omega), if_neg (by omega), if_pos q] at hm2; omega
      · rw [bnF, if_neg (by omega), if_pos q] at hm2; omega
      · exact q
    rw [nr, if_pos h13] at a2
    omega
end PD
end
section
/-! the reference's parser: leaf, readPlain -/
section PE
variable {l : Launch} {g : jG} {n : Int}
theorem pS.get {h : jH} {b T F G s be q c m w : Nat} {N O A P : Nat → Int32} (hS : pS h b T F G s be q c m w N O A P) : ∃ fs, h[b + 0]? = some (.inr (12, fs)) ∧ pF fs T F G s be q c m w := hS.1
theorem bad_t {be : Nat} (h : be ≤ 1) : (Int32.ofInt (be : Int) = 0 ↔ be = 0) := by
  have : be = 0 ∨ be = 1 := by omega
  rcases this with rfl | rfl
  · exact ⟨fun _ => rfl, fun _ => by decide⟩
  · exact ⟨fun e => absurd e (by decide), fun e => absurd e (by decide)⟩
set_option maxRecDepth 16384 in
theorem mleaf_run (hlow : ∀ (k : Nat) (K : aK), KTx[k]? = some K → kOK TTs g (EIm n) l K) {W0 : List aR} {bk0 bk : aB} {h0 h : jH} (hO : hOK TTs g (EIm n) W0 bk0 h0 bk h) {b T F G s be q c m w : Nat} {N O A P : Nat → Int32} (hb : bk 1 = some b) (hS : pS h b T F G s be q c m w N O A P) (hL : pL T F G s) (hbe : be = 0) {s0 : Nat} {O0 A0 : Nat → Int32} (hcm : c + m ≤ F) (hR : RR s0 O0 A0 P w be 0 O A c m) :
    jCal l g 230 5 [.ref (g.2.2 + (b + 0))] h 0 0 (fun v h' => v = none ∧ ∃ bk' F' G' s' be' c' O' A', hOK TTs g (EIm n) pW bk h bk' h' ∧ pS h' b T F' G' s' be' q c' m w N O' A' P ∧ pL T F' G' s' ∧ F ≤ F' ∧ be' ≤ 1 ∧ (be' = 0 → F < F') ∧ c' + m ≤ F' ∧ RR s0 O0 A0 P w be' 1 O' A' c' m) := by
  refine jCal_of (by decide +kernel) (show 1 ≤ jmx 230 by decide +kernel) ?_
  show J l g 230 5 0 [some (.ref (g.2.2 + (b + 0))), none, none] [] h 0 0 _
  have hcls : jcN 12 = (jyN 230).cls := by decide +kernel
  obtain ⟨L1, L2, L3, L4, L5⟩ := hL
  have hL : pL T F G s := ⟨L1, L2, L3, L4, L5⟩
  -- the number's end
  have at112 : ∀ (op : Int32) (hi : Int64) (bk1 : aB) (h1 : jH) (F1 G1 s1 : Nat) (o2 : Option Value), hOK TTs g (EIm n) pW bk h bk1 h1 → pS h1 b T F1 G1 s1 0 q c m w N O A P → pL T F1 G1 s1 → F < F1 → hi.toInt ≤ 15 → (op.toInt = 1 ∨ op.toInt = 2 ∨ (op.toInt = 3 ∧ hi.toInt ≤ 11)) → J l g 230 5 112 [some (.ref (g.2.2 + (b + 0))), some (.int op), o2] [.long hi, .long (Int64.ofNat 0), .ref (g.2.2 + (b + 0))] h1 0 0 (fun v h' => v = none ∧ ∃ bk' F' G' s' be' c' O' A', hOK TTs g (EIm n) pW bk h bk' h' ∧ pS h' b T F' G' s' be' q c' m w N O' A' P ∧ pL T F' G' s' ∧ F ≤ F' ∧ be' ≤ 1 ∧ (be' = 0 → F < F') ∧ c' + m ≤ F' ∧ RR s0 O0 A0 P w be' 1 O' A' c' m) := by
    intro op hi bk1 h1 F1 G1 s1 o2 hO1 hS1 hL1 hF1 hhi hop
    have hb1 := hO1.2.2.2.2.1 1 b hb
    obtain ⟨fs1, ho1, hf1⟩ := hS1.get
    refine j_cV (own := 12) (i := 203) (y2 := 225) (d2 := 4) (mc := 0) (ms := 0) (kc := 0) (ks := 0) (a := b + 0) (As := [.long (Int64.ofNat 0), .long hi]) (st := []) (dQ (by decide +kernel)) hcls (by decide +kernel) (by decide) (by decide +kernel) (show 2 = jnp 225 by decide +kernel) (by decide) (by decide) ho1 (fun r hr => by cases hr; decide +kernel) (number_run hlow hO1 hb1 hS1 hL1 (by decide) (lo := Int64.ofNat 0) (hi := hi) (by decide) (by omega)) (fun v h2 hq => ?_)
    obtain ⟨x, rfl, bk2, F2, G2, s2, be2, a1, a2, a3, a4, a5, a6, a7⟩ := hq
    have hb2 := a1.2.2.2.2.1 1 b hb1
    have hO2 := hO1.tr (W' := muW) (by decide) a1
    obtain ⟨fs2, ho2, g6, g7, g8, g9, g12, g13, g15, g20, g21⟩ := a2.get
    refine j_istore_n (k4 := 2) (dQ (by decide +kernel)) (by decide +kernel) ?_
    show J l g 230 5 116 [some (.ref (g.2.2 + (b + 0))), some (.int op), some (.int x)] [] h2 0 0 _
    refine j_aload_n (k4 := 0) (dQ (by decide +kernel)) rfl ?_
    refine j_get (own := 12) (i := 135) (ci := 12) (f := 12) (dQ (by decide +kernel)) hcls (by decide +kernel) ho2 (n12 12 (by decide)) g12 ?_
    refine j_if_ne (off := 9) (tgt := 129) (dQ (by decide +kernel)) (by decide) (fun z => ?_) (fun z => ?_)
    · have e : be2 = 1 := by
        have : ¬ be2 = 0 := fun q => z ((bad_t a6).mpr q)
        omega
      exact j_ret (v := none) ⟨by decide +kernel, by decide +kernel⟩ ⟨rfl, bk2, F2, G2, s2, be2, c, O, A, hO2, a2, a3, by omega, a6, fun q => by omega, by omega, hR.bad e⟩ rfl
    · have e : be2 = 0 := (bad_t a6).mp (Classical.not_not.mp z)
      subst e
      obtain ⟨x1, x2, x3⟩ := a7 rfl
      have x1 : 0 ≤ x.toInt := x1
      refine j_aload_n (k4 := 0) (dQ (by decide +kernel)) rfl ?_
      refine j_iload_n (k4 := 1) (dQ (by decide +kernel)) rfl ?_
      refine j_iload_n (k4 := 2) (dQ (by decide +kernel)) rfl ?_
      have hT3 := a3.2.2.1
      have hG3 := a3.1
      have hT4 := a3.2.1
      refine j_cV (own := 12) (i := 184) (y2 := 231) (d2 := 0) (mc := 0) (ms := 0) (kc := 0) (ks := 0) (a := b + 0) (As := [.int op, .int x]) (st := []) (dQ (by decide +kernel)) hcls (by decide +kernel) (by decide) (by decide +kernel) (show 2 = jnp 231 by decide +kernel) (by decide) (by decide) ho2 (fun r hr => by cases hr; decide +kernel) (emit_run hO2 hb2 a2 (by omega) (by omega) (by omega)) (fun v h3 hq => ?_)
      obtain ⟨rfl, bk3, k3, k4⟩ := hq
      subst hbe
      exact j_ret (v := none) ⟨by decide +kernel, by decide +kernel⟩ ⟨rfl, bk3, F2, G2, s2, 0, c + 1, _, _, hO2.tr (by decide) k3, k4, a3, by omega, by decide, fun _ => by omega, by omega, hR.leaf (by omega)⟩ rfl
  -- the word's end
  have at43 : ∀ (op : Int32) (bk1 : aB) (h1 : jH), hOK TTs g (EIm n) [] bk h bk1 h1 → pS h1 b T F G s be q c m w N O A P → (op.toInt = -1 ∨ (1 ≤ s ∧ (op.toInt = 1 ∨ op.toInt = 2 ∨ op.toInt = 3))) → J l g 230 5 43 [some (.ref (g.2.2 + (b + 0))), none, none] [.int op] h1 0 0 (fun v h' => v = none ∧ ∃ bk' F' G' s' be' c' O' A', hOK TTs g (EIm n) pW bk h bk' h' ∧ pS h' b T F' G' s' be' q c' m w N O' A' P ∧ pL T F' G' s' ∧ F ≤ F' ∧ be' ≤ 1 ∧ (be' = 0 → F < F') ∧ c' + m ≤ F' ∧ RR s0 O0 A0 P w be' 1 O' A' c' m) := by
    intro op bk1 h1 hO1 hS1 hop
    have hb1 := hO1.2.2.2.2.1 1 b hb
    have hO1w := hO1.w1 (W' := pW) (by decide)
    obtain ⟨fs1, ho1, hf1⟩ := hS1.get
    have at64 : ∀ x : Int32, (x = 0 ∨ (x = 1 ∧ ¬ op.toInt = -1)) → J l g 230 5 64 [some (.ref (g.2.2 + (b + 0))), some (.int op), none] [.int x, .ref (g.2.2 + (b + 0))] h1 0 0 (fun v h' => v = none ∧ ∃ bk' F' G' s' be' c' O' A', hOK TTs g (EIm n) pW bk h bk' h' ∧ pS h' b T F' G' s' be' q c' m w N O' A' P ∧ pL T F' G' s' ∧ F ≤ F' ∧ be' ≤ 1 ∧ (be' = 0 → F < F') ∧ c' + m ≤ F' ∧ RR s0 O0 A0 P w be' 1 O' A' c' m) := by
      intro x hx
      obtain ⟨Qm, hcal, hQm⟩ := must_run hlow hO1 hb1 hS1 hL (by omega) (x := x) (by rcases hx with rfl | ⟨rfl, -⟩ <;> decide)
      refine j_cV (own := 12) (i := 171) (y2 := 224) (d2 := 3) (mc := 0) (ms := 0) (kc := 0) (ks := 0) (a := b + 0) (As := [.int x]) (st := []) (dQ (by decide +kernel)) hcls (by decide +kernel) (by decide) (by decide +kernel) (show 1 = jnp 224 by decide +kernel) (by decide) (by decide) ho1 (fun r hr => by cases hr; decide +kernel) hcal (fun v h2 hq => ?_)
      obtain ⟨rfl, bk2, F2, G2, s2, be2, a1, a2, a3, a4, a5, a6, a7⟩ := hQm v h2 hq
      have hb2 := a1.2.2.2.2.1 1 b hb1
      have hO2 := hO1w.tr (W' := muW) (by decide) a1
      obtain ⟨fs2, ho2, hf2⟩ := a2.get
      obtain ⟨g6, g7, g8, g9, g12, g13, g15, g20, g21⟩ := hf2
      refine j_aload_n (k4 := 0) (dQ (by decide +kernel)) rfl ?_
      refine j_get (own := 12) (i := 135) (ci := 12) (f := 12) (dQ (by decide +kernel)) hcls (by decide +kernel) ho2 (n12 12 (by decide)) g12 ?_
      refine j_if_eq (off := 4) (tgt := 75) (dQ (by decide +kernel)) (by decide) (fun z => ?_) (fun z => ?_)
      · have e : be2 = 0 := (bad_t a6).mp z
        subst e
        obtain ⟨x1, x2⟩ := a7 rfl
        have hop2 : 1 ≤ s ∧ (op.toInt = 1 ∨ op.toInt = 2 ∨ op.toInt = 3) := by
          rcases hop with q | q
          · rcases hx with rfl | ⟨rfl, q2⟩
            · exact absurd x1 (by decide)
            · exact absurd q q2
          · exact q
        obtain ⟨nl, f18, -, -⟩ := m_int (q := 18) (lo := -2147483648) (hi := 2147483647) hO2.1 hb2 ho2 rfl
        refine j_aload_n (k4 := 0) (dQ (by decide +kernel)) rfl ?_
        refine j_dup (dQ (by decide +kernel)) rfl ?_
        refine j_get (own := 12) (i := 198) (ci := 12) (f := 18) (dQ (by decide +kernel)) hcls (by decide +kernel) ho2 (n12 18 (by decide)) f18 ?_
        refine j_iconst (n := 1) (dQ (by decide +kernel)) ?_
        refine j_iadd (dQ (by decide +kernel)) ?_
        refine j_put (own := 12) (i := 198) (ci := 12) (f := 18) (dQ (by decide +kernel)) hcls (by decide +kernel) ho2 rfl (by decide +kernel) (by rw [mf_len hO2.1 hb2 ho2]; decide) (by decide +kernel) (ty := .int) (by decide +kernel) rfl rfl ?_
        have hO3 := hO2.sf (k := 18) (v := nl + Int32.ofInt 1) hb2 ty_m0 ho2 (show mTs[18]? = some (0, -2147483648, 2147483647, 0, 0) from rfl) (i32_lo _) (i32_hi _) (by decide) (by decide)
        have hS3 := a2.setF (pF.set (k := 18) (v := .int (nl + Int32.ofInt 1)) ⟨g6, g7, g8, g9, g12, g13, g15, g20, g21⟩ (by decide))
        have hF3 : F < F2 := by omega
        generalize h2.set (b + 0) (.inr (12, fs2.set 18 (.int (nl + Int32.ofInt 1)))) = h3 at hO3 hS3
        refine j_aload_n (k4 := 0) (dQ (by decide +kernel)) rfl ?_
        refine j_lconst (n := 0) (dQ (by decide +kernel)) ?_
        refine j_iload_n (k4 := 1) (dQ (by decide +kernel)) rfl ?_
        refine j_iconst (n := 1) (dQ (by decide +kernel)) ?_
        refine j_icmp_ne (off := 9) (tgt := 98) (dQ (by decide +kernel)) (by decide) (fun y1 => ?_) (fun y1 => ?_)
        · refine j_iload_n (k4 := 1) (dQ (by decide +kernel)) rfl ?_
          refine j_iconst (n := 2) (dQ (by decide +kernel)) ?_
          refine j_icmp_ne (off := 9) (tgt := 109) (dQ (by decide +kernel)) (by decide) (fun y2 => ?_) (fun y2 => ?_)
          · have n1 : ¬ op.toInt = 1 := fun q => y1 (i32_eq (q.trans (by decide)))
            have n2 : ¬ op.toInt = 2 := fun q => y2 (i32_eq (q.trans (by decide)))
            refine j_ldc2 (own := 12) (i := 108) (v := 11) hcls (by decide +kernel) (by decide +kernel) ?_
            exact at112 op 11 bk2 h3 F2 G2 s2 _ hO3 hS3 a3 hF3 (by decide) (Or.inr (Or.inr ⟨by omega, by decide⟩))
          · have n2 : op.toInt = 2 := by rw [Classical.not_not.mp y2]; decide
            refine j_ldc2 (own := 12) (i := 201) (v := 7) hcls (by decide +kernel) (by decide +kernel) ?_
            refine j_goto (off := 6) (tgt := 112) (dQ (by decide +kernel)) (by decide) ?_
            exact at112 op 7 bk2 h3 F2 G2 s2 _ hO3 hS3 a3 hF3 (by decide) (Or.inr (Or.inl n2))
        · have n1 : op.toInt = 1 := by rw [Classical.not_not.mp y1]; decide
          refine j_ldc2 (own := 12) (i := 110) (v := 15) hcls (by decide +kernel) (by decide +kernel) ?_
          refine j_goto (off := 17) (tgt := 112) (dQ (by decide +kernel)) (by decide) ?_
          exact at112 op 15 bk2 h3 F2 G2 s2 _ hO3 hS3 a3 hF3 (by decide) (Or.inl n1)
      · have e : be2 = 1 := by
          have : ¬ be2 = 0 := fun q => z ((bad_t a6).mpr q)
          omega
        exact j_ret (v := none) ⟨by decide +kernel, by decide +kernel⟩ ⟨rfl, bk2, F2, G2, s2, be2, c, O, A, hO2, a2, a3, a4, a6, fun q => by omega, by omega, hR.bad e⟩ rfl
    obtain ⟨nl, f18, -, -⟩ := m_int (q := 18) (lo := -2147483648) (hi := 2147483647) hO1.1 hb1 ho1 rfl
    refine j_istore_n (k4 := 1) (dQ (by decide +kernel)) (by decide +kernel) ?_
    refine j_aload_n (k4 := 0) (dQ (by decide +kernel)) rfl ?_
    refine j_iload_n (k4 := 1) (dQ (by decide +kernel)) rfl ?_
    refine j_iconst (n := -1) (dQ (by decide +kernel)) ?_
    refine j_icmp_eq (off := 16) (tgt := 63) (dQ (by decide +kernel)) (by decide) (fun _ => ?_) (fun y => ?_)
    · refine j_iconst (n := 0) (dQ (by decide +kernel)) ?_
      exact at64 0 (Or.inl rfl)
    · have hne : ¬ op.toInt = -1 := fun q => y (i32_eq (q.trans (by decide)))
      refine j_aload_n (k4 := 0) (dQ (by decide +kernel)) rfl ?_
      refine j_get (own := 12) (i := 198) (ci := 12) (f := 18) (dQ (by decide +kernel)) hcls (by decide +kernel) ho1 (n12 18 (by decide)) f18 ?_
      refine j_bipush (n := 50) (dQ (by decide +kernel)) ?_
      refine j_icmp_ge (off := 7) (tgt := 63) (dQ (by decide +kernel)) (by decide) (fun _ => ?_) (fun _ => ?_)
      · refine j_iconst (n := 0) (dQ (by decide +kernel)) ?_
        exact at64 0 (Or.inl rfl)
      · refine j_iconst (n := 1) (dQ (by decide +kernel)) ?_
        refine j_goto (off := 4) (tgt := 64) (dQ (by decide +kernel)) (by decide) ?_
        exact at64 1 (Or.inr ⟨rfl, hne⟩)
  have hO0 : hOK TTs g (EIm n) [] bk h bk h := hOK.rf hO.1 hO.2.1 hO.2.2.1 hO.2.2.2.2.2
  -- a word
  have wd : ∀ (i : Nat) (x : Int64) (pc : Nat) (bk1 : aB) (h1 : jH), hOK TTs g (EIm n) [] bk h bk1 h1 → pS h1 b T F G s be q c m w N O A P → (pc = 4 ∨ pc = 18 ∨ pc = 32) → (∀ (r : Int32) (bk2 : aB) (h2 : jH), hOK TTs g (EIm n) [] bk h bk2 h2 → pS h2 b T F G s be q c m w N O A P → (r = 0 ∨ (r = 1 ∧ 1 ≤ s)) → J l g 230 5 (pc + 3) [some (.ref (g.2.2 + (b + 0))), none, none] [.int r] h2 0 0 (fun v h' => v = none ∧ ∃ bk' F' G' s' be' c' O' A', hOK TTs g (EIm n) pW bk h bk' h' ∧ pS h' b T F' G' s' be' q c' m w N O' A' P ∧ pL T F' G' s' ∧ F ≤ F' ∧ be' ≤ 1 ∧ (be' = 0 → F < F') ∧ c' + m ≤ F' ∧ RR s0 O0 A0 P w be' 1 O' A' c' m)) → J l g 230 5 pc [some (.ref (g.2.2 + (b + 0))), none, none] [.long x, .ref (g.2.2 + (b + 0))] h1 0 0 (fun v h' => v = none ∧ ∃ bk' F' G' s' be' c' O' A', hOK TTs g (EIm n) pW bk h bk' h' ∧ pS h' b T F' G' s' be' q c' m w N O' A' P ∧ pL T F' G' s' ∧ F ≤ F' ∧ be' ≤ 1 ∧ (be' = 0 → F < F') ∧ c' + m ≤ F' ∧ RR s0 O0 A0 P w be' 1 O' A' c' m) := by
    intro i x pc bk1 h1 hO1 hS1 hpc k
    have hb1 := hO1.2.2.2.2.1 1 b hb
    obtain ⟨fs1, ho1, hf1⟩ := hS1.get
    obtain ⟨Qm, hcal, hQm⟩ := word_run hlow hO1 hb1 hS1 (by omega) x
    have go : ∀ v h2, Qm v h2 → ∃ r : Int32, v = some (.int r) ∧ J l g 230 5 (pc + 3) [some (.ref (g.2.2 + (b + 0))), none, none] [.int r] h2 0 0 (fun v h' => v = none ∧ ∃ bk' F' G' s' be' c' O' A', hOK TTs g (EIm n) pW bk h bk' h' ∧ pS h' b T F' G' s' be' q c' m w N O' A' P ∧ pL T F' G' s' ∧ F ≤ F' ∧ be' ≤ 1 ∧ (be' = 0 → F < F') ∧ c' + m ≤ F' ∧ RR s0 O0 A0 P w be' 1 O' A' c' m) := fun v h2 hq => by
      obtain ⟨r, bk2, rfl, r1, a1, a2, a3⟩ := hQm v h2 hq
      refine ⟨r, rfl, k r bk2 h2 (hO1.tr (by decide) a1) a2 ?_⟩
      rcases r1 with rfl | rfl
      · exact Or.inl rfl
      · exact Or.inr ⟨rfl, a3 rfl⟩
    rcases hpc with rfl | rfl | rfl
    · refine j_cV (own := 12) (i := 190) (y2 := 223) (d2 := 1) (mc := 0) (ms := 0) (kc := 0) (ks := 0) (a := b + 0) (As := [.long x]) (st := []) (dQ (by decide +kernel)) hcls (by decide +kernel) (by decide) (by decide +kernel) (show 1 = jnp 223 by decide +kernel) (by decide) (by decide) ho1 (fun r hr => by cases hr; decide +kernel) hcal (fun v h2 hq => ?_)
      obtain ⟨r, rfl, hJ⟩ := go v h2 hq
      exact hJ
    · refine j_cV (own := 12) (i := 190) (y2 := 223) (d2 := 1) (mc := 0) (ms := 0) (kc := 0) (ks := 0) (a := b + 0) (As := [.long x]) (st := []) (dQ (by decide +kernel)) hcls (by decide +kernel) (by decide) (by decide +kernel) (show 1 = jnp 223 by decide +kernel) (by decide) (by decide) ho1 (fun r hr => by cases hr; decide +kernel) hcal (fun v h2 hq => ?_)
      obtain ⟨r, rfl, hJ⟩ := go v h2 hq
      exact hJ
    · refine j_cV (own := 12) (i := 190) (y2 := 223) (d2 := 1) (mc := 0) (ms := 0) (kc := 0) (ks := 0) (a := b + 0) (As := [.long x]) (st := []) (dQ (by decide +kernel)) hcls (by decide +kernel) (by decide) (by decide +kernel) (show 1 = jnp 223 by decide +kernel) (by decide) (by decide) ho1 (fun r hr => by cases hr; decide +kernel) hcal (fun v h2 hq => ?_)
      obtain ⟨r, rfl, hJ⟩ := go v h2 hq
      exact hJ
  refine j_aload_n (k4 := 0) (dQ (by decide +kernel)) rfl ?_
  refine j_ldc2 (own := 12) (i := 188) (v := 21562475) hcls (by decide +kernel) (by decide +kernel) ?_
  refine wd 0 _ 4 bk h hO0 hS (Or.inl rfl) (fun r bk1 h1 hO1 hS1 hr => ?_)
  rcases hr with rfl | ⟨rfl, hs1⟩
  · refine j_if_eq (off := 7) (tgt := 14) (dQ (by decide +kernel)) (by decide) (fun _ => ?_) (fun e => absurd rfl e)
    refine j_aload_n (k4 := 0) (dQ (by decide +kernel)) rfl ?_
    refine j_ldc2 (own := 12) (i := 194) (v := 647215148) hcls (by decide +kernel) (by decide +kernel) ?_
    refine wd 0 _ 18 bk1 h1 hO1 hS1 (Or.inr (Or.inl rfl)) (fun r bk1 h1 hO1 hS1 hr => ?_)
    rcases hr with rfl | ⟨rfl, hs1⟩
    · refine j_if_eq (off := 7) (tgt := 28) (dQ (by decide +kernel)) (by decide) (fun _ => ?_) (fun e => absurd rfl e)
      refine j_aload_n (k4 := 0) (dQ (by decide +kernel)) rfl ?_
      refine j_ldc2 (own := 12) (i := 196) (v := 218508) hcls (by decide +kernel) (by decide +kernel) ?_
      refine wd 0 _ 32 bk1 h1 hO1 hS1 (Or.inr (Or.inr rfl)) (fun r bk1 h1 hO1 hS1 hr => ?_)
      rcases hr with rfl | ⟨rfl, hs1⟩
      · refine j_if_eq (off := 7) (tgt := 42) (dQ (by decide +kernel)) (by decide) (fun _ => ?_) (fun e => absurd rfl e)
        refine j_iconst (n := -1) (dQ (by decide +kernel)) ?_
        exact at43 (Int32.ofInt (-1)) bk1 h1 hO1 hS1 (Or.inl (by decide))
      · refine j_if_eq (off := 7) (tgt := 42) (dQ (by decide +kernel)) (by decide) (fun e => absurd e (by decide)) (fun _ => ?_)
        refine j_iconst (n := 3) (dQ (by decide +kernel)) ?_
        refine j_goto (off := 4) (tgt := 43) (dQ (by decide +kernel)) (by decide) ?_
        exact at43 (Int32.ofInt 3) bk1 h1 hO1 hS1 (Or.inr ⟨hs1, by decide⟩)
    · refine j_if_eq (off := 7) (tgt := 28) (dQ (by decide +kernel)) (by decide) (fun e => absurd e (by decide)) (fun _ => ?_)
      refine j_iconst (n := 2) (dQ (by decide +kernel)) ?_
      refine j_goto (off := 18) (tgt := 43) (dQ (by decide +kernel)) (by decide) ?_
      exact at43 (Int32.ofInt 2) bk1 h1 hO1 hS1 (Or.inr ⟨hs1, by decide⟩)
  · refine j_if_eq (off := 7) (tgt := 14) (dQ (by decide +kernel)) (by decide) (fun e => absurd e (by decide)) (fun _ => ?_)
    refine j_iconst (n := 1) (dQ (by decide +kernel)) ?_
    refine j_goto (off := 32) (tgt := 43) (dQ (by decide +kernel)) (by decide) ?_
    exact at43 (Int32.ofInt 1) bk1 h1 hO1 hS1 (Or.inr ⟨hs1, by decide⟩)
end PE
end
section
/-! the reference's parser: readPlain, readTest -/
section PF
variable {l : Launch} {g : jG} {n : Int}
theorem be01 {be : Nat} (h : be ≤ 1) (hz : ¬ Int32.ofInt (be : Int) = 0) : be = 1 := by
  have : ¬ be = 0 := fun q => hz ((bad_t h).mpr q)
  omega
set_option maxRecDepth 16384 in
theorem plain_run (hlow : ∀ (k : Nat) (K : aK), KTx[k]? = some K → kOK TTs g (EIm n) l K) {W0 : List aR} {bk0 bk : aB} {h0 h : jH} (hO : hOK TTs g (EIm n) W0 bk0 h0 bk h) {b T F G s be q c m w : Nat} {N O A P : Nat → Int32} (hb : bk 1 = some b) (hS : pS h b T F G s be q c m w N O A P) (hL : pL T F G s) (hbe : be = 0) {s0 : Nat} {O0 A0 : Nat → Int32} (hcm : c + m ≤ F) (hw8 : w ≤ 8) (hR : RR s0 O0 A0 P w be 0 O A c m) :
    jCal l g 227 6 [.ref (g.2.2 + (b + 0))] h 0 0 (fun v h' => ∃ wh bk' F' G' s' be' c' m' w' O' A' P', v = some (iN wh) ∧ wh ≤ 1 ∧ hOK TTs g (EIm n) pW bk h bk' h' ∧ pS h' b T F' G' s' be' q c' m' w' N O' A' P' ∧ pL T F' G' s' ∧ F ≤ F' ∧ be' ≤ 1 ∧ (be' = 0 → F < F') ∧ c' + m' ≤ F' ∧ w' ≤ 8 ∧ RR s0 O0 A0 P' w' be' wh O' A' c' m') := by
  refine jCal_of (by decide +kernel) (show 1 ≤ jmx 227 by decide +kernel) ?_
  show J l g 227 6 0 [some (.ref (g.2.2 + (b + 0)))] [] h 0 0 _
  have hcls : jcN 12 = (jyN 227).cls := by decide +kernel
  have hL0 := hL
  obtain ⟨L1, L2, L3, L4, L5⟩ := hL0
  have r0 : ∀ (v : Int32), v = Int32.ofInt ((0 : Nat) : Int) → ∀ pc, (pc = 21 ∨ pc = 73) → jrv 227 pc (some (.int v)) := by
    intro v hv pc hpc
    rcases hpc with rfl | rfl
    · exact ⟨by decide +kernel, Or.inr (Or.inl ⟨by decide +kernel, Or.inl (by rw [hv]; decide)⟩)⟩
    · exact ⟨by decide +kernel, Or.inr (Or.inl ⟨by decide +kernel, Or.inl (by rw [hv]; decide)⟩)⟩
  obtain ⟨fs, ho, hf⟩ := hS.get
  obtain ⟨Qw, hcw, hQw⟩ := word_run hlow hO hb hS (by omega) 14836
  refine j_aload_n (k4 := 0) (dQ (by decide +kernel)) rfl ?_
  refine j_ldc2 (own := 12) (i := 207) (v := 14836) hcls (by decide +kernel) (by decide +kernel) ?_
  refine j_cV (own := 12) (i := 190) (y2 := 223) (d2 := 1) (mc := 0) (ms := 0) (kc := 0) (ks := 0) (a := b + 0) (As := [.long 14836]) (st := []) (dQ (by decide +kernel)) hcls (by decide +kernel) (by decide) (by decide +kernel) (show 1 = jnp 223 by decide +kernel) (by decide) (by decide) ho (fun r hr => by cases hr; decide +kernel) hcw (fun v h2 hq => ?_)
  obtain ⟨r, bk2, rfl, r1, a1, a2, a3⟩ := hQw v h2 hq
  have hb2 := a1.2.2.2.2.1 1 b hb
  have hO2 := a1.w1 (W' := pW) (by decide)
  obtain ⟨fs2, ho2, hf2⟩ := a2.get
  rcases r1 with rfl | rfl
  · refine j_if_eq (off := 15) (tgt := 22) (dQ (by decide +kernel)) (by decide) (fun _ => ?_) (fun e => absurd rfl e)
    obtain ⟨Qs, hcs, hQs⟩ := sgn_run hlow a1 hb2 a2 (by omega) ((Int8.ofInt 40).toInt32)
    refine j_aload_n (k4 := 0) (dQ (by decide +kernel)) rfl ?_
    refine j_bipush (n := 40) (dQ (by decide +kernel)) ?_
    refine j_cV (own := 12) (i := 212) (y2 := 229) (d2 := 1) (mc := 0) (ms := 0) (kc := 0) (ks := 0) (a := b + 0) (As := [.int ((Int8.ofInt 40).toInt32)]) (st := []) (dQ (by decide +kernel)) hcls (by decide +kernel) (by decide) (by decide +kernel) (show 1 = jnp 229 by decide +kernel) (by decide) (by decide) ho2 (fun r hr => by cases hr; decide +kernel) hcs (fun v h3 hq => ?_)
    obtain ⟨r, bk3, rfl, r1, d1, d2, d3⟩ := hQs v h3 hq
    have hb3 := d1.2.2.2.2.1 1 b hb2
    have hO3 := hO2.tr (W' := []) (by decide) d1
    obtain ⟨fs3, ho3, hf3⟩ := d2.get
    obtain ⟨g6, g7, g8, g9, g12, g13, g15, g20, g21⟩ := hf3
    rcases r1 with rfl | rfl
    · refine j_if_eq (off := 46) (tgt := 74) (dQ (by decide +kernel)) (by decide) (fun _ => ?_) (fun e => absurd rfl e)
      refine j_aload_n (k4 := 0) (dQ (by decide +kernel)) rfl ?_
      refine j_cV (own := 12) (i := 218) (y2 := 230) (d2 := 5) (mc := 0) (ms := 0) (kc := 0) (ks := 0) (a := b + 0) (As := []) (st := []) (dQ (by decide +kernel)) hcls (by decide +kernel) (by decide) (by decide +kernel) (show 0 = jnp 230 by decide +kernel) (by decide) (by decide) ho3 (fun r hr => by cases hr; decide +kernel) (mleaf_run hlow d1 hb3 d2 hL hbe hcm hR) (fun v h4 hq => ?_)
      obtain ⟨rfl, bk4, F4, G4, s4, be4, c4, O4, A4, e1, e2, e3, e4, e5, e6, e7, e8⟩ := hq
      refine j_iconst (n := 1) (dQ (by decide +kernel)) ?_
      exact j_ret (v := some (iN 1)) ⟨by decide +kernel, Or.inr (Or.inl ⟨by decide +kernel, Or.inr (by decide)⟩)⟩ ⟨1, bk4, F4, G4, s4, be4, c4, m, w, O4, A4, P, rfl, by decide, hO3.tr (by decide) e1, e2, e3, e4, e5, e6, e7, hw8, e8⟩ rfl
    · have hs1 := d3 rfl
      refine j_if_eq (off := 46) (tgt := 74) (dQ (by decide +kernel)) (by decide) (fun e => absurd e (by decide)) (fun _ => ?_)
      have at46 : ∀ x : Int32, (x = 0 ∨ (x = 1 ∧ w < 8)) → J l g 227 6 46 [some (.ref (g.2.2 + (b + 0)))] [.int x, .ref (g.2.2 + (b + 0))] h3 0 0 (fun v h' => ∃ wh bk' F' G' s' be' c' m' w' O' A' P', v = some (iN wh) ∧ wh ≤ 1 ∧ hOK TTs g (EIm n) pW bk h bk' h' ∧ pS h' b T F' G' s' be' q c' m' w' N O' A' P' ∧ pL T F' G' s' ∧ F ≤ F' ∧ be' ≤ 1 ∧ (be' = 0 → F < F') ∧ c' + m' ≤ F' ∧ w' ≤ 8 ∧ RR s0 O0 A0 P' w' be' wh O' A' c' m') := by
        intro x hx
        obtain ⟨Qm, hcal, hQm⟩ := must_run hlow d1 hb3 d2 hL (by omega) (x := x) (by rcases hx with rfl | ⟨rfl, -⟩ <;> decide)
        refine j_cV (own := 12) (i := 171) (y2 := 224) (d2 := 3) (mc := 0) (ms := 0) (kc := 0) (ks := 0) (a := b + 0) (As := [.int x]) (st := []) (dQ (by decide +kernel)) hcls (by decide +kernel) (by decide) (by decide +kernel) (show 1 = jnp 224 by decide +kernel) (by decide) (by decide) ho3 (fun r hr => by cases hr; decide +kernel) hcal (fun v h4 hq => ?_)
        obtain ⟨rfl, bk4, F4, G4, s4, be4, e1, e2, e3, e4, e5, e6, e7⟩ := hQm v h4 hq
        have hb4 := e1.2.2.2.2.1 1 b hb3
        have hO4 := hO3.tr (W' := muW) (by decide) e1
        obtain ⟨fs4, ho4, hf4⟩ := e2.get
        obtain ⟨k6, k7, k8, k9, k12, k13, k15, k20, k21⟩ := hf4
        refine j_aload_n (k4 := 0) (dQ (by decide +kernel)) rfl ?_
        refine j_get (own := 12) (i := 135) (ci := 12) (f := 12) (dQ (by decide +kernel)) hcls (by decide +kernel) ho4 (n12 12 (by decide)) k12 ?_
        refine j_if_ne (off := 19) (tgt := 72) (dQ (by decide +kernel)) (by decide) (fun z => ?_) (fun z => ?_)
        · have e : be4 = 1 := be01 e6 z
          refine j_iconst (n := 0) (dQ (by decide +kernel)) ?_
          exact j_ret (v := some (iN 0)) (r0 _ rfl 73 (Or.inr rfl)) ⟨0, bk4, F4, G4, s4, be4, c, m, w, O, A, P, rfl, by decide, hO4, e2, e3, e4, e6, fun q => by omega, by omega, hw8, hR.bad e⟩ rfl
        · have e : be4 = 0 := (bad_t e6).mp (Classical.not_not.mp z)
          subst e
          obtain ⟨x1, x2⟩ := e7 rfl
          have hw : w < 8 := by
            rcases hx with rfl | ⟨rfl, q⟩
            · exact absurd x1 (by decide)
            · exact q
          have hwt : (Int32.ofInt ((w + 1 : Nat) : Int)).toInt = ((w + 1 : Nat) : Int) := i32_n (by omega)
          refine j_aload_n (k4 := 0) (dQ (by decide +kernel)) rfl ?_
          refine j_dup (dQ (by decide +kernel)) rfl ?_
          refine j_get (own := 12) (i := 215) (ci := 12) (f := 21) (dQ (by decide +kernel)) hcls (by decide +kernel) ho4 (n12 21 (by decide)) k21 ?_
          refine j_iconst (n := 1) (dQ (by decide +kernel)) ?_
          refine j_iadd (dQ (by decide +kernel)) ?_
          rw [iN_add (by omega)]
          refine j_put (own := 12) (i := 215) (ci := 12) (f := 21) (dQ (by decide +kernel)) hcls (by decide +kernel) ho4 rfl (by decide +kernel) (by rw [mf_len hO4.1 hb4 ho4]; decide) (by decide +kernel) (ty := .int) (by decide +kernel) rfl rfl ?_
          have hO5 := hO4.sf (k := 21) (v := Int32.ofInt ((w + 1 : Nat) : Int)) hb4 ty_m0 ho4 (show mTs[21]? = some (0, 0, 8, 0, 0) from rfl) (by omega) (by omega) (by decide) (by decide)
          have hS5 := e2.setF (pF.set21 (x := w + 1) ⟨k6, k7, k8, k9, k12, k13, k15, k20, k21⟩)
          have ho5 := List.getElem?_set_self (l := h4) (i := b + 0) (a := .inr (12, fs4.set 21 (iN (w + 1)))) (List.getElem?_eq_some_iff.mp ho4).1
          have hO5 : hOK TTs g (EIm n) pW bk h bk4 (h4.set (b + 0) (.inr (12, fs4.set 21 (iN (w + 1))))) := hO5
          show J l g 227 6 66 [some (.ref (g.2.2 + (b + 0)))] [] (h4.set (b + 0) (.inr (12, fs4.set 21 (iN (w + 1))))) 0 0 _
          generalize h4.set (b + 0) (.inr (12, fs4.set 21 (iN (w + 1)))) = h5 at hO5 hS5 ho5
          refine j_aload_n (k4 := 0) (dQ (by decide +kernel)) rfl ?_
          refine j_bipush (n := 13) (dQ (by decide +kernel)) ?_
          refine j_cV (own := 12) (i := 209) (y2 := 228) (d2 := 0) (mc := 0) (ms := 0) (kc := 0) (ks := 0) (a := b + 0) (As := [.int ((Int8.ofInt 13).toInt32)]) (st := []) (dQ (by decide +kernel)) hcls (by decide +kernel) (by decide) (by decide +kernel) (show 1 = jnp 228 by decide +kernel) (by decide) (by decide) ho5 (fun r hr => by cases hr; decide +kernel) (push_run hO5 hb4 hS5 (by have := e3.1; have := e3.2.1; omega) (by decide)) (fun v h6 hq => ?_)
          obtain ⟨rfl, bk6, k1, k2⟩ := hq
          refine j_iconst (n := 0) (dQ (by decide +kernel)) ?_
          have hR6 := RR.push (op := (Int8.ofInt 13).toInt32) (be := be) hR (Or.inr (by decide))
          rw [if_pos (by decide)] at hR6
          subst hbe
          exact j_ret (v := some (iN 0)) (r0 _ rfl 73 (Or.inr rfl)) ⟨0, bk6, F4, G4, s4, 0, c, m + 1, w + 1, O, A, _, rfl, by decide, hO5.tr (by decide) k1, k2, e3, e4, by decide, fun _ => by omega, by omega, by omega, hR6⟩ rfl
      refine j_aload_n (k4 := 0) (dQ (by decide +kernel)) rfl ?_
      refine j_aload_n (k4 := 0) (dQ (by decide +kernel)) rfl ?_
      refine j_get (own := 12) (i := 215) (ci := 12) (f := 21) (dQ (by decide +kernel)) hcls (by decide +kernel) ho3 (n12 21 (by decide)) g21 ?_
      refine j_bipush (n := 8) (dQ (by decide +kernel)) ?_
      have hwt : (Int32.ofInt (w : Int)).toInt = (w : Int) := i32_n (by omega)
      refine j_icmp_ge (off := 7) (tgt := 45) (dQ (by decide +kernel)) (by decide) (fun _ => ?_) (fun z => ?_)
      · refine j_iconst (n := 0) (dQ (by decide +kernel)) ?_
        exact at46 0 (Or.inl rfl)
      · refine j_iconst (n := 1) (dQ (by decide +kernel)) ?_
        refine j_goto (off := 4) (tgt := 46) (dQ (by decide +kernel)) (by decide) ?_
        refine at46 1 (Or.inr ⟨rfl, ?_⟩)
        have z2 : ¬ ((Int8.ofInt 8).toInt32).toInt ≤ (Int32.ofInt (w : Int)).toInt := fun q => z (le32.mpr q)
        rw [hwt, show ((Int8.ofInt 8).toInt32).toInt = 8 by decide] at z2
        omega
  · have hs1 := a3 rfl
    refine j_if_eq (off := 15) (tgt := 22) (dQ (by decide +kernel)) (by decide) (fun e => absurd e (by decide)) (fun _ => ?_)
    refine j_aload_n (k4 := 0) (dQ (by decide +kernel)) rfl ?_
    refine j_bipush (n := 10) (dQ (by decide +kernel)) ?_
    refine j_cV (own := 12) (i := 209) (y2 := 228) (d2 := 0) (mc := 0) (ms := 0) (kc := 0) (ks := 0) (a := b + 0) (As := [.int ((Int8.ofInt 10).toInt32)]) (st := []) (dQ (by decide +kernel)) hcls (by decide +kernel) (by decide) (by decide +kernel) (show 1 = jnp 228 by decide +kernel) (by decide) (by decide) ho2 (fun r hr => by cases hr; decide +kernel) (push_run a1 hb2 a2 (by omega) (by decide)) (fun v h3 hq => ?_)
    obtain ⟨rfl, bk3, k1, k2⟩ := hq
    have hb3 := k1.2.2.2.2.1 1 b hb2
    have hO3 := hO2.tr (W' := pW) (by decide) k1
    obtain ⟨fs3, ho3, hf3⟩ := k2.get
    obtain ⟨Qn, hcn, hQn⟩ := next_run hlow k1 hb3 k2 hL
    refine j_aload_n (k4 := 0) (dQ (by decide +kernel)) rfl ?_
    refine j_cV (own := 12) (i := 139) (y2 := 219) (d2 := 2) (mc := 0) (ms := 0) (kc := 0) (ks := 0) (a := b + 0) (As := []) (st := []) (dQ (by decide +kernel)) hcls (by decide +kernel) (by decide) (by decide +kernel) (show 0 = jnp 219 by decide +kernel) (by decide) (by decide) ho3 (fun r hr => by cases hr; decide +kernel) hcn (fun v h4 hq => ?_)
    obtain ⟨rfl, bk4, F4, G4, s4, e1, e2, e3, e4⟩ := hQn v h4 hq
    have hR6 := RR.push (op := (Int8.ofInt 10).toInt32) (be := be) hR (Or.inl (by decide))
    rw [if_neg (by decide), Nat.add_zero] at hR6
    refine j_iconst (n := 0) (dQ (by decide +kernel)) ?_
    exact j_ret (v := some (iN 0)) (r0 _ rfl 21 (Or.inl rfl)) ⟨0, bk4, F4, G4, s4, be, c, m + 1, w, O, A, _, rfl, by decide, hO3.tr (by decide) e1, e2, e3, by omega, by omega, fun _ => by omega, by omega, hw8, hR6⟩ rfl
end PF
end
