section
/-! image of the reference: its copying by hand, the rest checked -/
section IM
variable {l : Launch} {g : jG} {d kc ks : Nat} {Q : Option Value → jH → Prop} {h : jH}
/-- the images behind i places of image k -/
def imf (f F : Nat → Int32) (k i : Nat) : Nat → Int32 := fun j => if 5270 * k ≤ j ∧ j < 5270 * k + i then f (j - 5270 * k) else F j
theorem image_loop {b k : Nat} {fs : List Value} {f F : Nat → Int32} {kk : Int32} (hk : k < 2) (hkk : kk = Int32.ofInt (k : Int)) (ho : h[b]? = some (.inr (12, fs))) (hf2 : fs[2]? = some (.ref (g.2.2 + (b + 1)))) (hf3 : fs[3]? = some (.ref (g.2.2 + (b + 2)))) (hr : h[b + 1]? = some (.inl (0, 5270, f))) (hF : h[b + 2]? = some (.inl (0, 10540, F)))
    (k0 : J l g 204 d 54 [some (.ref (g.2.2 + b)), some (.int kk), some (.int (Int32.ofInt (5270 : Nat)))] [] (h.set (b + 2) (.inl (0, 10540, imf f F k 5270))) kc ks Q) :
    ∀ (m i : Nat), 5270 - i = m → i ≤ 5270 → J l g 204 d 23 [some (.ref (g.2.2 + b)), some (.int kk), some (.int (Int32.ofInt i))] [] (h.set (b + 2) (.inl (0, 10540, imf f F k i))) kc ks Q := by
  have hla : b + 2 < h.length := (List.getElem?_eq_some_iff.mp hF).1
  have hn2 : ∀ r, jcl[12]? = some r → 2 < r.2.2 := fun r hr => by cases hr; decide +kernel
  have hn3 : ∀ r, jcl[12]? = some r → 3 < r.2.2 := fun r hr => by cases hr; decide +kernel
  have hcls : jcN 12 = (jyN 204).cls := by decide +kernel
  intro m
  induction m with
  | zero =>
    intro i hm hi
    have e : i = 5270 := by omega
    subst e
    refine j_iload_n (k4 := 2) (dQ (by decide +kernel)) rfl ?_
    refine j_sipush (n := 5270) (dQ (by decide +kernel)) ?_
    refine j_icmp_ge (off := 27) (tgt := 54) (dQ (by decide +kernel)) (by decide) (fun _ => k0) (fun q => absurd (by decide) q)
  | succ m ih =>
    intro i hm hi
    have t2 : (Int32.ofInt (i : Int)).toInt = i := i32_ofInt (by omega) (by omega)
    have t3 := i32_clamp (i := Int32.ofInt (i : Int)) (by omega)
    have t4 : (Int16.ofInt 5270).toInt32 * kk + Int32.ofInt (i : Int) = Int32.ofInt ((5270 * k + i : Nat) : Int) := by
      rw [hkk, show (Int16.ofInt 5270).toInt32 = Int32.ofInt 5270 by decide, ← Int32.ofInt_mul, ← Int32.ofInt_add]
      congr 1
    have t5 : (Int32.ofInt ((5270 * k + i : Nat) : Int)).toInt = ((5270 * k + i : Nat) : Int) := i32_ofInt (by omega) (by omega)
    have t6 := i32_clamp (i := Int32.ofInt ((5270 * k + i : Nat) : Int)) (by omega)
    refine j_iload_n (k4 := 2) (dQ (by decide +kernel)) rfl ?_
    refine j_sipush (n := 5270) (dQ (by decide +kernel)) ?_
    refine j_icmp_ge (off := 27) (tgt := 54) (dQ (by decide +kernel)) (by decide) (fun q => ?_) (fun _ => ?_)
    · have := Int32.le_iff_toInt_le.mp q
      rw [t2, show (Int16.ofInt 5270).toInt32.toInt = 5270 by decide] at this
      omega
    refine j_aload_n (k4 := 0) (dQ (by decide +kernel)) rfl ?_
    refine j_get (own := 12) (i := 13) (ci := 12) (f := 3) (dQ (by decide +kernel)) hcls (by decide +kernel) (by rw [List.getElem?_set_ne (by omega)]; exact ho) hn3 hf3 ?_
    refine j_sipush (n := 5270) (dQ (by decide +kernel)) ?_
    refine j_iload_n (k4 := 1) (dQ (by decide +kernel)) rfl ?_
    refine j_imul (dQ (by decide +kernel)) ?_
    refine j_iload_n (k4 := 2) (dQ (by decide +kernel)) rfl ?_
    refine j_iadd (dQ (by decide +kernel)) ?_
    refine j_aload_n (k4 := 0) (dQ (by decide +kernel)) rfl ?_
    refine j_get (own := 12) (i := 7) (ci := 12) (f := 2) (dQ (by decide +kernel)) hcls (by decide +kernel) (by rw [List.getElem?_set_ne (by omega)]; exact ho) hn2 hf2 ?_
    refine j_iload_n (k4 := 2) (dQ (by decide +kernel)) rfl ?_
    refine j_iald (dQ (by decide +kernel)) (by rw [List.getElem?_set_ne (by omega)]; exact hr) (i32_in (by omega) (by omega)) ?_
    rw [t4]
    refine j_iast (dQ (by decide +kernel)) (List.getElem?_set_self hla) (i32_in (by omega) (by omega)) ?_
    refine j_iinc (i := 2) (n := 1) (dQ (by decide +kernel)) (by decide +kernel) rfl ?_
    refine j_goto (off := -28) (tgt := 23) (dQ (by decide +kernel)) (by decide) ?_
    have e1 : ((h.set (b + 2) (.inl (0, 10540, imf f F k i))).set (b + 2) (.inl (0, 10540, upd (imf f F k i) (Int32.ofInt ((5270 * k + i : Nat) : Int)).toNatClampNeg (f (Int32.ofInt (i : Int)).toNatClampNeg)))) = h.set (b + 2) (.inl (0, 10540, imf f F k (i + 1))) := by
      rw [List.set_set]
      congr 4
      funext j
      simp only [upd, imf]
      by_cases hj : j = (Int32.ofInt ((5270 * k + i : Nat) : Int)).toNatClampNeg
      · rw [if_pos hj, if_pos (by omega)]
        congr 1
        omega
      · rw [if_neg hj]
        by_cases hj2 : 5270 * k ≤ j ∧ j < 5270 * k + i
        · rw [if_pos hj2, if_pos (by omega)]
        · rw [if_neg hj2, if_neg (by omega)]
    rw [e1]
    have e2 : Int32.ofInt (i : Int) + Int32.ofInt 1 = Int32.ofInt ((i + 1 : Nat) : Int) := by rw [← Int32.ofInt_add]; rfl
    have := ih (i + 1) (by omega) (by omega)
    rw [← e2] at this
    exact this
/-- from the copying on to what follows it -/
theorem image_run {b k : Nat} {fs : List Value} {f F K : Nat → Int32} {kk : Int32} {o2 : Option Value} (hk : k < 2) (hkk : kk = Int32.ofInt (k : Int)) (ho : h[b]? = some (.inr (12, fs))) (hf2 : fs[2]? = some (.ref (g.2.2 + (b + 1)))) (hf3 : fs[3]? = some (.ref (g.2.2 + (b + 2)))) (hf4 : fs[4]? = some (.ref (g.2.2 + (b + 3)))) (hr : h[b + 1]? = some (.inl (0, 5270, f))) (hF : h[b + 2]? = some (.inl (0, 10540, F))) (hK : h[b + 3]? = some (.inl (1, 2, K)))
    (k0 : J l g 204 d 61 [some (.ref (g.2.2 + b)), some (.int kk), some (.int (Int32.ofInt (5270 : Nat)))] [] ((h.set (b + 2) (.inl (0, 10540, imf f F k 5270))).set (b + 3) (.inl (1, 2, upd K k 1))) kc ks Q) :
    J l g 204 d 21 [some (.ref (g.2.2 + b)), some (.int kk), o2] [] h kc ks Q := by
  have hla : b + 2 < h.length := (List.getElem?_eq_some_iff.mp hF).1
  have hn4 : ∀ r, jcl[12]? = some r → 4 < r.2.2 := fun r hr => by cases hr; decide +kernel
  have hcls : jcN 12 = (jyN 204).cls := by decide +kernel
  have t2 : kk.toInt = (k : Int) := by rw [hkk]; exact i32_ofInt (by omega) (by omega)
  refine j_iconst (n := 0) (dQ (by decide +kernel)) ?_
  refine j_istore_n (k4 := 2) (dQ (by decide +kernel)) (by decide +kernel) ?_
  have hl := image_loop (l := l) (d := d) (kc := kc) (ks := ks) (Q := Q) hk hkk ho hf2 hf3 hr hF ?_ 5270 0 rfl (by omega)
  · have e : imf f F k 0 = F := by
      funext j
      simp only [imf]
      rw [if_neg (by omega)]
    rw [e] at hl
    obtain ⟨q1, q2⟩ := List.getElem?_eq_some_iff.mp hF
    rw [show h.set (b + 2) (.inl (0, 10540, F)) = h by rw [← q2]; exact List.set_getElem_self q1] at hl
    exact hl
  · refine j_aload_n (k4 := 0) (dQ (by decide +kernel)) rfl ?_
    refine j_get (own := 12) (i := 16) (ci := 12) (f := 4) (dQ (by decide +kernel)) hcls (by decide +kernel) (by rw [List.getElem?_set_ne (by omega)]; exact ho) hn4 hf4 ?_
    refine j_iload_n (k4 := 1) (dQ (by decide +kernel)) rfl ?_
    refine j_iconst (n := 1) (dQ (by decide +kernel)) ?_
    refine j_zast (dQ (by decide +kernel)) (by rw [List.getElem?_set_ne (by omega)]; exact hK) (i32_in (by omega) (by omega)) ?_
    rw [i32_at t2, show vp_nar .boolean (Int32.ofInt 1) = 1 by decide]
    exact k0
theorem lgOK.sh {f F : Nat → Int32} {o : Nat} (h : ∀ i, i < 5270 → F (o + i) = f i) (hl : lgOK f 0) : lgOK F o := by
  intro k hk
  have := hl k hk
  rw [show 0 + 624 + 5 * k + 1 = 624 + 5 * k + 1 by omega, show 0 + 624 + 5 * k + 2 = 624 + 5 * k + 2 by omega, show 0 + 624 + 5 * k + 3 = 624 + 5 * k + 3 by omega] at this
  rw [show o + 624 + 5 * k + 1 = o + (624 + 5 * k + 1) by omega, show o + 624 + 5 * k + 2 = o + (624 + 5 * k + 2) by omega, show o + 624 + 5 * k + 3 = o + (624 + 5 * k + 3) by omega, h _ (by omega), h _ (by omega), h _ (by omega)]
  exact this
theorem dep_sh {f F : Nat → Int32} {o a : Nat} (ha : a ≤ 4000) (h : ∀ i, i < 5270 → F (o + i) = f i) : ∀ (c p n : Nat), (c = 0 ∨ p + c ≤ 400) → dep F (o + a) c p n = dep f a c p n := by
  intro c
  induction c with
  | zero => intro p n _; rfl
  | succ c ih =>
    intro p n hp
    rw [dep, dep, show o + a + 130 + 2 * p + 1 = o + (a + 130 + 2 * p + 1) by omega, show o + a + 130 + 2 * p = o + (a + 130 + 2 * p) by omega, h (a + 130 + 2 * p) (by omega), h (a + 130 + 2 * p + 1) (by omega), ih (p + 1) n (by omega), ih (p + 1) (n - 1) (by omega), ih (p + 1) (n + 1) (by omega)]
theorem cdOd.sh {f F : Nat → Int32} {o : Nat} (h : ∀ i, i < 5270 → F (o + i) = f i) (hl : cdOd f 0) : cdOd F o := by
  intro t ht k hk hn s e hs he h4
  rw [show o + 1130 + 930 * t = o + (1130 + 930 * t) by omega, h _ (by omega)] at hn
  rw [show o + 1130 + 930 * t + 1 + 8 * k + 5 = o + (1130 + 930 * t + 1 + 8 * k + 5) by omega, h _ (by omega)] at hs
  rw [show o + 1130 + 930 * t + 1 + 8 * k + 6 = o + (1130 + 930 * t + 1 + 8 * k + 6) by omega, h _ (by omega)] at he
  rw [show o + 1130 + 930 * t = o + (1130 + 930 * t) by omega, dep_sh (f := f) (by omega) h _ _ _ (by omega)]
  have := hl t ht k hk (by rw [show 0 + 1130 + 930 * t = 1130 + 930 * t by omega]; exact hn) s e (by rw [show 0 + 1130 + 930 * t + 1 + 8 * k + 5 = 1130 + 930 * t + 1 + 8 * k + 5 by omega]; exact hs) (by rw [show 0 + 1130 + 930 * t + 1 + 8 * k + 6 = 1130 + 930 * t + 1 + 8 * k + 6 by omega]; exact he) h4
  rw [show 0 + 1130 + 930 * t = 1130 + 930 * t by omega] at this
  exact this
theorem cdOK.sh {f F : Nat → Int32} {o : Nat} (h : ∀ i, i < 5270 → F (o + i) = f i) (hl : cdOK f 0) : cdOK F o :=
  ⟨hl.1.sh h, fun t ht k hk h0 => by
    rw [show o + 1130 + 930 * t + 1 + 8 * k = o + (1130 + 930 * t + 1 + 8 * k) by omega, h _ (by omega)] at h0
    have := hl.2 t ht k hk (by rw [show 0 + 1130 + 930 * t + 1 + 8 * k = 1130 + 930 * t + 1 + 8 * k by omega]; exact h0)
    rw [show 0 + 1130 + 930 * t + 1 + 8 * k + 2 = 1130 + 930 * t + 1 + 8 * k + 2 by omega] at this
    rw [show o + 1130 + 930 * t + 1 + 8 * k + 2 = o + (1130 + 930 * t + 1 + 8 * k + 2) by omega, h _ (by omega)]
    exact this⟩
def imK : aK := (204, [some (2, 0, 0, 1, 0), some (0, 0, 1, 0, 0), none], [], [], [(0, 0, 0, 0, 0, [])], [], [], [(1, 0, 0, 1), (1, 2, 0, 10539), (1, 3, 0, 1)], 3, 0, 0)
def imC21 : aCu := (21, [some (2, 0, 0, 1, 0), some (0, 0, 1, 0, 0), none], [], [], ([], 1), [])
def imC61 : aCu := (61, [some (2, 0, 0, 1, 0), some (0, 0, 1, 0, 0), some (0, 5270, 5270, 0, 0)], [], [], ([], 0), [])
theorem im_ent : chk (TTs, KTx, KIx, [(1, 0, 0, 1), (1, 2, 0, 10539), (1, 3, 0, 1)], Pm, 204, 12, 3, nK) imK [imC21, imC61] [] none 200 true 0 (spState [] imK.2.1 [] [] []) 0 0 = true := by decide +kernel
theorem im_61 : [imC61].all (fun C => Nat.beq C.2.1.length (jmx 204) && chk (TTs, KTx, KIx, [(1, 0, 0, 1), (1, 2, 0, 10539), (1, 3, 0, 1)], Pm, 204, 12, 3, nK) imK [imC61] [] (some C.2.2.2.2.1) 200 true C.1 (spState (kEnv imK) C.2.1 C.2.2.1 C.2.2.2.1 C.2.2.2.2.2) 0 0) = true := by decide +kernel
theorem list3 {α : Type} {L : List α} (h : L.length = 3) : ∃ a0 a1 a2, L = [a0, a1, a2] := by
  match L, h with
  | [a0, a1, a2], _ => exact ⟨a0, a1, a2, rfl⟩
theorem image_ok {n : Int} {bk : aB} {av : List Value} {ev : List Int} {b0 : Nat} {f0 : Nat → Int32} (hall : ∀ (k : Nat) (K : aK), KTx[k]? = some K → kOK TTs g (EIm n) l K) (hT : HT TTs g bk h) (hD : BD TTs bk) (hE : EIm n bk h) (hb1 : ∀ B, B ≤ 1 → ∃ b, bk B = some b) (hl : (lg_sl av).length ≤ jmx imK.1) (hn : ev.length = kN imK)
    (hg : gOK g ev bk (jal imK.1 av) [] h (kEnv imK) imK.2.2.2.1 (spLoc 0 imK.2.1) [] (clOv (spEnv imK.2.1).length imK.2.2.1) []) (hb0 : bk 1 = some b0) (hf0 : h[b0 + 1]? = some (.inl (0, 5270, f0))) (hc1 : (f0 1).toInt ≤ n) (hc2 : (f0 5066).toInt ≤ n) : jCal l g imK.1 3 av h 0 0 (kPost TTs g (EIm n) imK bk h ev) := by
  have hn1 : ev.length = 1 := hn
  have hM : mOK TTs g (EIm n) Pm KTx l imK.1 12 nK := ⟨TTs_cl, TTs_sg, EIm_ok, by decide +kernel, fun k K hK _ => hall k K hK⟩
  have c61 := cuts_ok (l := l) (own := 12) (n := nK) (fuel := 200) (sp := []) (bk0 := bk) (h0 := h) hM hg.1 hn im_61
  have c21 : ∀ μ : Int, 0 ≤ μ → CutP TTs g (EIm n) bk h ev l 3 (kPost TTs g (EIm n) imK bk h ev) imK imC21 μ := by
    intro μ _ vs bk2 al h2 hp _
    obtain ⟨⟨g1, g2, g3, g4, g5, g6, g7⟩, ⟨hT2, hD2, hE2, hU2, hx2, hb2⟩, hlen, hpre⟩ := hp
    obtain ⟨a0, a1, a2, hal⟩ := list3 (hlen.trans (show jmx 204 = 3 by decide +kernel))
    subst hal
    obtain ⟨w0, e0, b, hb, rfl⟩ := g4 0 (2, 1, 0) rfl
    obtain ⟨w1, e1, kk, rfl, v1⟩ := g4 1 (0, 1, 0) rfl
    have r0 := Option.some.inj e0
    have r1 := Option.some.inj e1
    clear e0 e1
    subst r0 r1
    have i1 := g1.2 1 (eNew 0 1 none) _ rfl v1
    dsimp only [eNew] at i1
    have hb : bk2 1 = some b := hb
    have hbb : b = b0 := Option.some.inj (hb.symm.trans (hx2 1 b0 hb0))
    subst hbb
    obtain ⟨k, hk⟩ : ∃ k : Nat, kk.toInt = (k : Int) := ⟨kk.toInt.toNat, by omega⟩
    have hk2 : k < 2 := by omega
    have hkk : kk = Int32.ofInt (k : Int) := by rw [← hk, Int32.ofInt_toInt]
    obtain ⟨f, hr, hty⟩ := m_arr hT2 hb ty_m1
    have hff : ∀ i, f i = f0 i := fun i => un_arr hU2 hb0 (by decide +kernel) hf0 hr i (by
      rintro ⟨w, hw, w1, w2, -, -⟩
      simp only [imK, List.mem_cons, List.not_mem_nil, or_false] at hw
      rcases hw with rfl | rfl | rfl <;> simp at w2)
    obtain ⟨F, hrF, -⟩ := m_arr hT2 hb ty_m2
    obtain ⟨K, hrK, htK⟩ := m_arr hT2 hb ty_m3
    obtain ⟨fs, ho, hfs⟩ := m_obj hT2 hb
    obtain ⟨v2, q2, b2, y2, z2⟩ := hfs 2 (2, 0, 0, 1, 1) rfl
    obtain ⟨v3, q3, b3, y3, z3⟩ := hfs 3 (2, 0, 0, 1, 2) rfl
    obtain ⟨v4, q4, b4, y4, z4⟩ := hfs 4 (2, 0, 0, 1, 3) rfl
    have y2 : bk2 1 = some b2 := y2
    have y3 : bk2 1 = some b3 := y3
    have y4 : bk2 1 = some b4 := y4
    cases hb.symm.trans y2
    cases hb.symm.trans y3
    cases hb.symm.trans y4
    subst z2 z3 z4
    show J l g 204 3 21 [some (.ref (g.2.2 + b)), some (.int kk), a2] [] h2 0 0 (kPost TTs g (EIm n) imK bk h ev)
    refine image_run (f := f) (F := F) (K := K) hk2 hkk ho q2 q3 q4 hr hrF hrK ?_
    have hct2 : ctOK g bk2 (.inl (0, 10540, [(0, 10540, 1, [(-2147483648, 2147483647)])])) (.inl (0, 10540, imf f F k 5270)) := ⟨_, rfl, fun i hi s hs _ _ q hq => by
      have e := List.mem_singleton.mp hs
      subst e
      have hq2 := List.mem_singleton.mp (List.mem_of_getElem? hq)
      subst hq2
      have t1 := Int32.toInt_lt (imf f F k 5270 i)
      have t2 := Int32.le_toInt (imf f F k 5270 i)
      dsimp only
      omega⟩
    have hct3 : ctOK g bk2 (.inl (1, 2, [(0, 2, 1, [(0, 1)])])) (.inl (1, 2, upd K k 1)) := ⟨_, rfl, fun i hi => by
      by_cases hik : i = k
      · simp only [upd, if_pos hik]
        intro s hs _ _ q hq
        have e := List.mem_singleton.mp hs
        subst e
        have hq2 := List.mem_singleton.mp (List.mem_of_getElem? hq)
        subst hq2
        decide
      · simp only [upd, if_neg hik]
        exact htK i hi⟩
    have hl2 : b + 2 < h2.length := (List.getElem?_eq_some_iff.mp hrF).1
    have hl3 : b + 3 < h2.length := (List.getElem?_eq_some_iff.mp hrK).1
    have hrK2 : (h2.set (b + 2) (.inl (0, 10540, imf f F k 5270)))[b + 3]? = some (.inl (1, 2, K)) := by rw [List.getElem?_set_ne (by omega)]; exact hrK
    have U1 : UN TTs [(1, 0, 0, 1), (1, 2, 0, 10539), (1, 3, 0, 1)] bk2 h2 (h2.set (b + 2) (.inl (0, 10540, imf f F k 5270))) := UN.set hD2 hb (by decide +kernel) hrF ⟨rfl, rfl, fun i hi => by
      simp only [imf]
      rw [if_neg]
      intro q
      exact hi ⟨(1, 2, 0, 10539), List.mem_cons_of_mem _ List.mem_cons_self, rfl, rfl, by show (0 : Int) ≤ i; omega, by show (i : Int) ≤ 10539; omega⟩⟩
    have U2 : UN TTs [(1, 0, 0, 1), (1, 2, 0, 10539), (1, 3, 0, 1)] bk2 (h2.set (b + 2) (.inl (0, 10540, imf f F k 5270))) ((h2.set (b + 2) (.inl (0, 10540, imf f F k 5270))).set (b + 3) (.inl (1, 2, upd K k 1))) := UN.set hD2 hb (by decide +kernel) hrK2 ⟨rfl, rfl, fun i hi => by
      simp only [upd]
      rw [if_neg]
      intro q
      exact hi ⟨(1, 3, 0, 1), List.mem_cons_of_mem _ (List.mem_cons_of_mem _ List.mem_cons_self), rfl, rfl, by show (0 : Int) ≤ i; omega, by show (i : Int) ≤ 1; omega⟩⟩
    have hE3 : EIm n bk2 ((h2.set (b + 2) (.inl (0, 10540, imf f F k 5270))).set (b + 3) (.inl (1, 2, upd K k 1))) := by
      intro b' f' F' K' x1 x2 x3 x4
      cases hb.symm.trans x1
      rw [List.getElem?_set_ne (by omega), List.getElem?_set_ne (by omega)] at x2
      cases hr.symm.trans x2
      rw [List.getElem?_set_ne (by omega), List.getElem?_set_self hl2] at x3
      cases x3
      rw [List.getElem?_set_self (by rw [List.length_set]; exact hl3)] at x4
      cases x4
      obtain ⟨⟨o1, o2⟩, o3⟩ := hE2 b f F K hb hr hrF hrK
      refine ⟨⟨o1, o2⟩, fun k' hk' hK' => ?_⟩
      by_cases hkk' : k' = k
      · subst hkk'
        have hsh : ∀ i, i < 5270 → imf f F k' 5270 (5270 * k' + i) = f i := fun i hi => by
          simp only [imf]
          rw [if_pos (by omega)]
          congr 1
          omega
        exact ⟨o1.sh hsh, o2.sh hsh, fun i hi => by rw [hsh i hi]; exact hty i hi, by rw [hsh 1 (by omega), hff]; exact hc1, by rw [hsh 5066 (by omega), hff]; exact hc2⟩
      · simp only [upd, if_neg hkk'] at hK'
        obtain ⟨p1, p2, p3, p4, p5⟩ := o3 k' hk' hK'
        have hout : ∀ i, i < 5270 → imf f F k 5270 (5270 * k' + i) = F (5270 * k' + i) := fun i hi => by
          simp only [imf]
          rw [if_neg (by omega)]
        refine ⟨p1.cg (fun i a1 a2 => ?_), p2.cg (fun i a1 a2 => ?_), fun i hi => by rw [hout i hi]; exact p3 i hi, by rw [hout 1 (by omega)]; exact p4, by rw [hout 5066 (by omega)]; exact p5⟩
        · have := hout (i - 5270 * k') (by omega)
          rw [show 5270 * k' + (i - 5270 * k') = i by omega] at this
          exact this
        · have := hout (i - 5270 * k') (by omega)
          rw [show 5270 * k' + (i - 5270 * k') = i by omega] at this
          exact this
    refine c61 imC61 List.mem_cons_self 0 (by decide) (ev ++ [kk.toInt] ++ [5270]) bk2 _ _ ⟨⟨?_, eFm_plain (plain_app (plain_app (plain_app (spEnv_plain _) clEnv_plain) (spEnv_plain _)) clEnv_plain), fun F hF => absurd hF List.not_mem_nil, ?_, trivial, fun q hq => absurd hq List.not_mem_nil, fun B hB => absurd hB List.not_mem_nil⟩, ⟨(hT2.set hD2 hb ty_m2 hct2).set hD2 hb ty_m3 hct3, hD2, hE3, (hU2.tr hx2 U1).tr hx2 U2, hx2, hb2⟩, (show (3 : Nat) = jmx 204 by decide +kernel), fun i z hz => getE_app (getE_app hz)⟩ rfl
    · exact (hg.1.push (e := eNew 0 1 none) (z := kk.toInt) i1).push (e := eNew 5270 5270 none) (z := 5270) ⟨by decide, by decide⟩
    · have z1 : (ev ++ [kk.toInt] ++ [5270])[1]? = some kk.toInt := getE_app (by rw [List.getElem?_append_right (by omega), hn1]; rfl)
      have z2 : (ev ++ [kk.toInt] ++ [5270])[2]? = some (Int32.ofInt (5270 : Nat)).toInt := by rw [List.getElem?_append_right (by simp; omega)]; simp [hn1]
      intro i v hv
      match i, hv with
      | 0, hv => cases hv; exact ⟨_, rfl, b, hb, rfl⟩
      | 1, hv => cases hv; exact ⟨_, rfl, kk, rfl, z1⟩
      | 2, hv => cases hv; exact ⟨_, rfl, _, rfl, z2⟩
      | n + 3, hv => cases hv
  refine jCal_of (show plainName (jyN 204).cls = true by decide +kernel) hl ?_
  refine chk_ok (ev' := ev) hM hg.1 hn (fun i z hz => hz) (fun C hC μ' v1 _ => ?_) 200 true 0 _ _ _ im_ent ev bk (jal imK.1 av) [] h ⟨hg, ⟨hT, hD, hE, UN.rf, fun B b hb => hb, hb1⟩, jal_len hl, fun i z hz => hz⟩
  rcases List.mem_cons.mp hC with rfl | hC
  · exact c21 μ' v1
  · exact c61 C hC μ' v1
end IM
end
section
/-! back of the reference -/
section BK
variable {l : Launch} {g : jG} {d kc ks : Nat} {Q : Option Value → jH → Prop} {h : jH}
def rowc (n : Int) (bk : aB) (h : jH) : Prop := ∀ (b : Nat) (f : Nat → Int32), bk 1 = some b → h[b + 1]? = some (.inl (0, 5270, f)) → (f 1).toInt ≤ n ∧ (f 5066).toInt ≤ n
/-- the reference's heap, and its counters -/
def EIc (n : Int) (bk : aB) (h : jH) : Prop := EIm n bk h ∧ rowc n bk h
def Pc : List aR := Pm ++ [(1, 1, 1, 1), (1, 1, 5066, 5066)]
theorem EIc_ok {n : Int} : eiOK TTs g (EIc n) Pc := by
  intro bk h h' Wk hap hU hlen hT hT' hE
  have hap2 : apW Wk Pm = true := List.all_eq_true.mpr (fun w hw => List.all_eq_true.mpr (fun q hq => List.all_eq_true.mp (List.all_eq_true.mp hap w hw) q (List.mem_append_left _ hq)))
  refine ⟨EIm_ok bk h h' Wk hap2 hU hlen hT hT' hE.1, fun b f' hb h1 => ?_⟩
  obtain ⟨f, q1, -⟩ := m_arr hT hb ty_m1
  have u1 := un_arr hU hb (by decide +kernel) q1 h1
  have := hE.2 b f hb q1
  rw [u1 1 (ap_not hap (lo := 1) (hi := 1) (by decide +kernel) (by decide) (by decide)), u1 5066 (ap_not hap (lo := 5066) (hi := 5066) (by decide +kernel) (by decide) (by decide))]
  exact this
def bkf (f F : Nat → Int32) (k i : Nat) : Nat → Int32 := fun j => if j < i then F (5270 * k + j) else f j
theorem back_loop {b k : Nat} {fs : List Value} {f F : Nat → Int32} {kk : Int32} (hk : k < 2) (hkk : kk = Int32.ofInt (k : Int)) (ho : h[b]? = some (.inr (12, fs))) (hf2 : fs[2]? = some (.ref (g.2.2 + (b + 1)))) (hf3 : fs[3]? = some (.ref (g.2.2 + (b + 2)))) (hr : h[b + 1]? = some (.inl (0, 5270, f))) (hF : h[b + 2]? = some (.inl (0, 10540, F)))
    (k0 : J l g 207 d 70 [some (.ref (g.2.2 + b)), some (.int kk), some (.int (Int32.ofInt (5270 : Nat)))] [] (h.set (b + 1) (.inl (0, 5270, bkf f F k 5270))) kc ks Q) :
    ∀ (m i : Nat), 5270 - i = m → i ≤ 5270 → J l g 207 d 39 [some (.ref (g.2.2 + b)), some (.int kk), some (.int (Int32.ofInt i))] [] (h.set (b + 1) (.inl (0, 5270, bkf f F k i))) kc ks Q := by
  have hla : b + 1 < h.length := (List.getElem?_eq_some_iff.mp hr).1
  have hn2 : ∀ r, jcl[12]? = some r → 2 < r.2.2 := fun r hr => by cases hr; decide +kernel
  have hn3 : ∀ r, jcl[12]? = some r → 3 < r.2.2 := fun r hr => by cases hr; decide +kernel
  have hcls : jcN 12 = (jyN 207).cls := by decide +kernel
  intro m
  induction m with
  | zero =>
    intro i hm hi
    have e : i = 5270 := by omega
    subst e
    refine j_iload_n (k4 := 2) (dQ (by decide +kernel)) rfl ?_
    refine j_sipush (n := 5270) (dQ (by decide +kernel)) ?_
    refine j_icmp_ge (off := 27) (tgt := 70) (dQ (by decide +kernel)) (by decide) (fun _ => k0) (fun q => absurd (by decide) q)
  | succ m ih =>
    intro i hm hi
    have t2 : (Int32.ofInt (i : Int)).toInt = i := i32_ofInt (by omega) (by omega)
    have t3 := i32_clamp (i := Int32.ofInt (i : Int)) (by omega)
    have t4 : (Int16.ofInt 5270).toInt32 * kk + Int32.ofInt (i : Int) = Int32.ofInt ((5270 * k + i : Nat) : Int) := by
      rw [hkk, show (Int16.ofInt 5270).toInt32 = Int32.ofInt 5270 by decide, ← Int32.ofInt_mul, ← Int32.ofInt_add]
      congr 1
    have t5 : (Int32.ofInt ((5270 * k + i : Nat) : Int)).toInt = ((5270 * k + i : Nat) : Int) := i32_ofInt (by omega) (by omega)
    have t6 := i32_clamp (i := Int32.ofInt ((5270 * k + i : Nat) : Int)) (by omega)
    refine j_iload_n (k4 := 2) (dQ (by decide +kernel)) rfl ?_
    refine j_sipush (n := 5270) (dQ (by decide +kernel)) ?_
    refine j_icmp_ge (off := 27) (tgt := 70) (dQ (by decide +kernel)) (by decide) (fun q => ?_) (fun _ => ?_)
    · have := Int32.le_iff_toInt_le.mp q
      rw [t2, show (Int16.ofInt 5270).toInt32.toInt = 5270 by decide] at this
      omega
    refine j_aload_n (k4 := 0) (dQ (by decide +kernel)) rfl ?_
    refine j_get (own := 12) (i := 7) (ci := 12) (f := 2) (dQ (by decide +kernel)) hcls (by decide +kernel) (by rw [List.getElem?_set_ne (by omega)]; exact ho) hn2 hf2 ?_
    refine j_iload_n (k4 := 2) (dQ (by decide +kernel)) rfl ?_
    refine j_aload_n (k4 := 0) (dQ (by decide +kernel)) rfl ?_
    refine j_get (own := 12) (i := 13) (ci := 12) (f := 3) (dQ (by decide +kernel)) hcls (by decide +kernel) (by rw [List.getElem?_set_ne (by omega)]; exact ho) hn3 hf3 ?_
    refine j_sipush (n := 5270) (dQ (by decide +kernel)) ?_
    refine j_iload_n (k4 := 1) (dQ (by decide +kernel)) rfl ?_
    refine j_imul (dQ (by decide +kernel)) ?_
    refine j_iload_n (k4 := 2) (dQ (by decide +kernel)) rfl ?_
    refine j_iadd (dQ (by decide +kernel)) ?_
    rw [t4]
    refine j_iald (dQ (by decide +kernel)) (by rw [List.getElem?_set_ne (by omega)]; exact hF) (i32_in (by omega) (by omega)) ?_
    refine j_iast (dQ (by decide +kernel)) (List.getElem?_set_self hla) (i32_in (by omega) (by omega)) ?_
    refine j_iinc (i := 2) (n := 1) (dQ (by decide +kernel)) (by decide +kernel) rfl ?_
    refine j_goto (off := -28) (tgt := 39) (dQ (by decide +kernel)) (by decide) ?_
    have e1 : ((h.set (b + 1) (.inl (0, 5270, bkf f F k i))).set (b + 1) (.inl (0, 5270, upd (bkf f F k i) (Int32.ofInt (i : Int)).toNatClampNeg (F (Int32.ofInt ((5270 * k + i : Nat) : Int)).toNatClampNeg)))) = h.set (b + 1) (.inl (0, 5270, bkf f F k (i + 1))) := by
      rw [List.set_set]
      congr 4
      funext j
      simp only [upd, bkf]
      by_cases hj : j = (Int32.ofInt (i : Int)).toNatClampNeg
      · rw [if_pos hj, if_pos (by omega)]
        congr 1
        omega
      · rw [if_neg hj]
        by_cases hj2 : j < i
        · rw [if_pos hj2, if_pos (by omega)]
        · rw [if_neg hj2, if_neg (by omega)]
    rw [e1]
    have e2 : Int32.ofInt (i : Int) + Int32.ofInt 1 = Int32.ofInt ((i + 1 : Nat) : Int) := by rw [← Int32.ofInt_add]; rfl
    have := ih (i + 1) (by omega) (by omega)
    rw [← e2] at this
    exact this
/-- from the look at isKept on: the refusal, or the copying and what follows it -/
theorem back_run {b k : Nat} {fs : List Value} {f F K : Nat → Int32} {kk : Int32} {o2 : Option Value} (hk : k < 2) (hkk : kk = Int32.ofInt (k : Int)) (ho : h[b]? = some (.inr (12, fs))) (hf2 : fs[2]? = some (.ref (g.2.2 + (b + 1)))) (hf3 : fs[3]? = some (.ref (g.2.2 + (b + 2)))) (hf4 : fs[4]? = some (.ref (g.2.2 + (b + 3)))) (hr : h[b + 1]? = some (.inl (0, 5270, f))) (hF : h[b + 2]? = some (.inl (0, 10540, F))) (hK : h[b + 3]? = some (.inl (1, 2, K)))
    (k1 : K k = 0 → J l g 207 d 30 [some (.ref (g.2.2 + b)), some (.int kk), o2] [] h kc ks Q)
    (k0 : ¬ K k = 0 → J l g 207 d 70 [some (.ref (g.2.2 + b)), some (.int kk), some (.int (Int32.ofInt (5270 : Nat)))] [] (h.set (b + 1) (.inl (0, 5270, bkf f F k 5270))) kc ks Q) :
    J l g 207 d 21 [some (.ref (g.2.2 + b)), some (.int kk), o2] [] h kc ks Q := by
  have hn4 : ∀ r, jcl[12]? = some r → 4 < r.2.2 := fun r hr => by cases hr; decide +kernel
  have hcls : jcN 12 = (jyN 207).cls := by decide +kernel
  have t2 : kk.toInt = (k : Int) := by rw [hkk]; exact i32_ofInt (by omega) (by omega)
  refine j_aload_n (k4 := 0) (dQ (by decide +kernel)) rfl ?_
  refine j_get (own := 12) (i := 16) (ci := 12) (f := 4) (dQ (by decide +kernel)) hcls (by decide +kernel) ho hn4 hf4 ?_
  refine j_iload_n (k4 := 1) (dQ (by decide +kernel)) rfl ?_
  refine j_zald (dQ (by decide +kernel)) hK (i32_in (by omega) (by omega)) ?_
  rw [i32_at t2]
  refine j_if_ne (off := 10) (tgt := 37) (dQ (by decide +kernel)) (by decide) (fun hne => ?_) (fun hne => k1 (Classical.not_not.mp hne))
  refine j_iconst (n := 0) (dQ (by decide +kernel)) ?_
  refine j_istore_n (k4 := 2) (dQ (by decide +kernel)) (by decide +kernel) ?_
  have hl := back_loop (l := l) (d := d) (kc := kc) (ks := ks) (Q := Q) hk hkk ho hf2 hf3 hr hF (k0 hne) 5270 0 rfl (by omega)
  have e : bkf f F k 0 = f := by
    funext j
    simp only [bkf]
    rw [if_neg (by omega)]
  rw [e] at hl
  obtain ⟨q1, q2⟩ := List.getElem?_eq_some_iff.mp hr
  rw [show h.set (b + 1) (.inl (0, 5270, f)) = h by rw [← q2]; exact List.set_getElem_self q1] at hl
  exact hl
theorem lgOK.us {f F : Nat → Int32} {o : Nat} (h : ∀ i, i < 5270 → F (o + i) = f i) (hl : lgOK F o) : lgOK f 0 := by
  intro k hk
  have := hl k hk
  rw [show o + 624 + 5 * k + 1 = o + (624 + 5 * k + 1) by omega, show o + 624 + 5 * k + 2 = o + (624 + 5 * k + 2) by omega, show o + 624 + 5 * k + 3 = o + (624 + 5 * k + 3) by omega, h _ (by omega), h _ (by omega), h _ (by omega)] at this
  rw [show 0 + 624 + 5 * k + 1 = 624 + 5 * k + 1 by omega, show 0 + 624 + 5 * k + 2 = 624 + 5 * k + 2 by omega, show 0 + 624 + 5 * k + 3 = 624 + 5 * k + 3 by omega]
  exact this
theorem cdOd.us {f F : Nat → Int32} {o : Nat} (h : ∀ i, i < 5270 → F (o + i) = f i) (hl : cdOd F o) : cdOd f 0 := by
  intro t ht k hk hn s e hs he h4
  rw [show 0 + 1130 + 930 * t = 1130 + 930 * t by omega] at hn hs he ⊢
  rw [← dep_sh (f := f) (F := F) (o := o) (by omega) h _ _ _ (by omega)]
  have := hl t ht k hk (by rw [show o + 1130 + 930 * t = o + (1130 + 930 * t) by omega, h _ (by omega)]; exact hn) s e (by rw [show o + 1130 + 930 * t + 1 + 8 * k + 5 = o + (1130 + 930 * t + 1 + 8 * k + 5) by omega, h _ (by omega)]; exact hs) (by rw [show o + 1130 + 930 * t + 1 + 8 * k + 6 = o + (1130 + 930 * t + 1 + 8 * k + 6) by omega, h _ (by omega)]; exact he) h4
  rw [show o + 1130 + 930 * t = o + (1130 + 930 * t) by omega] at this
  exact this
theorem cdOK.us {f F : Nat → Int32} {o : Nat} (h : ∀ i, i < 5270 → F (o + i) = f i) (hl : cdOK F o) : cdOK f 0 :=
  ⟨hl.1.us h, fun t ht k hk h0 => by
    rw [show 0 + 1130 + 930 * t + 1 + 8 * k = 1130 + 930 * t + 1 + 8 * k by omega] at h0
    have := hl.2 t ht k hk (by rw [show o + 1130 + 930 * t + 1 + 8 * k = o + (1130 + 930 * t + 1 + 8 * k) by omega, h _ (by omega)]; exact h0)
    rw [show o + 1130 + 930 * t + 1 + 8 * k + 2 = o + (1130 + 930 * t + 1 + 8 * k + 2) by omega, h _ (by omega)] at this
    rw [show 0 + 1130 + 930 * t + 1 + 8 * k + 2 = 1130 + 930 * t + 1 + 8 * k + 2 by omega]
    exact this⟩
/-- the two contracts that image and back lean on -/
def KTb : List aK := [(205, [some (1, -9223372036854775808, 9223372036854775807, 0, 0), none, some (1, -9223372036854775808, 9223372036854775807, 0, 0), none, some (1, -9223372036854775808, 9223372036854775807, 0, 0), none], [], [], [(0, 0, 1, 0, 0, [([(0, 1), (1, -1)], 0), ([(0, -1), (2, 1)], 0)])], [], [], [], 1, 0, 0), (206, [some (2, 0, 0, 1, 0), some (0, -2147483648, 2147483647, 0, 0)], [], [], [(0, -2147483648, 2147483647, 0, 0, [])], [], [([(0, -1), (1, 1)], 0), ([(0, 1), (1, -1)], 0)], [(1, 0, 1, 1)], 1, 0, 0)]
def KIb : List (List Nat) := (List.range 315).map (fun y => bif Nat.beq y 205 then [0] else bif Nat.beq y 206 then [1] else [])
theorem kb_0 : kchk TTs KTb KIb Pc 200 0 12 [] [] = true := by decide +kernel
theorem kb_1 : kchk TTs KTb KIb Pc 200 1 12 [] [] = true := by decide +kernel
theorem kb_all {n : Int} : ∀ (k : Nat) (K : aK), KTb[k]? = some K → kOK TTs g (EIc n) l K := by
  have h0 : ∀ K, KTb[0]? = some K → kOK TTs g (EIc n) l K := fun K hK => kchk_ok TTs_cl TTs_sg EIc_ok (fun k' K' _ hk' => absurd hk' (Nat.not_lt_zero _)) hK (by cases hK; decide +kernel) kb_0
  intro k K hK
  match k, hK with
  | 0, hK => exact h0 K hK
  | 1, hK => exact kchk_ok TTs_cl TTs_sg EIc_ok (fun k' K' hK' hk' => by
      have e : k' = 0 := by omega
      subst e
      exact h0 K' hK') hK (by cases hK; decide +kernel) kb_1
  | k + 2, hK => cases hK
def bkK : aK := (207, [some (2, 0, 0, 1, 0), some (0, 0, 1, 0, 0), none], [], [], [(0, -2, 0, 0, 0, [])], [], [], [(1, 0, 0, 1), (1, 1, 0, 5269)], 3, 0, 0)
def bkC21 : aCu := (21, [some (2, 0, 0, 1, 0), some (0, 0, 1, 0, 0), none], [], [], ([], 1), [])
def bkC30 : aCu := (30, [some (2, 0, 0, 1, 0), some (0, 0, 1, 0, 0), none], [], [], ([], 0), [])
def bkC70 : aCu := (70, [some (2, 0, 0, 1, 0), some (0, 0, 1, 0, 0), some (0, 5270, 5270, 0, 0)], [], [], ([], 0), [])
theorem bk_ent : chk (TTs, KTb, KIb, [(1, 0, 0, 1), (1, 1, 0, 5269)], Pc, 207, 12, 3, 2) bkK [bkC21, bkC30, bkC70] [] none 200 true 0 (spState [] bkK.2.1 [] [] []) 0 0 = true := by decide +kernel
theorem bk_cks : [bkC30, bkC70].all (fun C => Nat.beq C.2.1.length (jmx 207) && chk (TTs, KTb, KIb, [(1, 0, 0, 1), (1, 1, 0, 5269)], Pc, 207, 12, 3, 2) bkK [bkC30, bkC70] [] (some C.2.2.2.2.1) 200 true C.1 (spState (kEnv bkK) C.2.1 C.2.2.1 C.2.2.2.1 C.2.2.2.2.2) 0 0) = true := by decide +kernel
theorem back_ok {n : Int} : kOK TTs g (EIc n) l bkK := by
  intro bk h av ev hT hD hE hb1 hl hn _ hg
  have hn1 : ev.length = 1 := hn
  have hM : mOK TTs g (EIc n) Pc KTb l bkK.1 12 2 := ⟨TTs_cl, TTs_sg, EIc_ok, by decide +kernel, fun k K hK _ => kb_all k K hK⟩
  have cks := cuts_ok (l := l) (own := 12) (n := 2) (fuel := 200) (sp := []) (bk0 := bk) (h0 := h) hM hg.1 hn bk_cks
  have c21 : ∀ μ : Int, 0 ≤ μ → CutP TTs g (EIc n) bk h ev l 3 (kPost TTs g (EIc n) bkK bk h ev) bkK bkC21 μ := by
    intro μ _ vs bk2 al h2 hp _
    obtain ⟨⟨g1, g2, g3, g4, g5, g6, g7⟩, ⟨hT2, hD2, hE2, hU2, hx2, hb2⟩, hlen, hpre⟩ := hp
    obtain ⟨a0, a1, a2, hal⟩ := list3 (hlen.trans (show jmx 207 = 3 by decide +kernel))
    subst hal
    obtain ⟨w0, e0, b, hb, rfl⟩ := g4 0 (2, 1, 0) rfl
    obtain ⟨w1, e1, kk, rfl, v1⟩ := g4 1 (0, 1, 0) rfl
    have r0 := Option.some.inj e0
    have r1 := Option.some.inj e1
    clear e0 e1
    subst r0 r1
    have i1 := g1.2 1 (eNew 0 1 none) _ rfl v1
    dsimp only [eNew] at i1
    have hb : bk2 1 = some b := hb
    obtain ⟨k, hk⟩ : ∃ k : Nat, kk.toInt = (k : Int) := ⟨kk.toInt.toNat, by omega⟩
    have hk2 : k < 2 := by omega
    have hkk : kk = Int32.ofInt (k : Int) := by rw [← hk, Int32.ofInt_toInt]
    obtain ⟨f, hr, hty⟩ := m_arr hT2 hb ty_m1
    obtain ⟨F, hrF, -⟩ := m_arr hT2 hb ty_m2
    obtain ⟨K, hrK, htK⟩ := m_arr hT2 hb ty_m3
    obtain ⟨fs, ho, hfs⟩ := m_obj hT2 hb
    obtain ⟨v2, q2, b2, y2, z2⟩ := hfs 2 (2, 0, 0, 1, 1) rfl
    obtain ⟨v3, q3, b3, y3, z3⟩ := hfs 3 (2, 0, 0, 1, 2) rfl
    obtain ⟨v4, q4, b4, y4, z4⟩ := hfs 4 (2, 0, 0, 1, 3) rfl
    have y2 : bk2 1 = some b2 := y2
    have y3 : bk2 1 = some b3 := y3
    have y4 : bk2 1 = some b4 := y4
    cases hb.symm.trans y2
    cases hb.symm.trans y3
    cases hb.symm.trans y4
    subst z2 z3 z4
    have x1 : (ev ++ [kk.toInt])[1]? = some kk.toInt := by rw [List.getElem?_append_right (by omega), hn1]; rfl
    show J l g 207 3 21 [some (.ref (g.2.2 + b)), some (.int kk), a2] [] h2 0 0 (kPost TTs g (EIc n) bkK bk h ev)
    refine back_run (f := f) (F := F) (K := K) hk2 hkk ho q2 q3 q4 hr hrF hrK (fun _ => ?_) (fun hne => ?_)
    · refine cks bkC30 List.mem_cons_self 0 (by decide) (ev ++ [kk.toInt]) bk2 _ _ ⟨⟨?_, eFm_plain (plain_app (plain_app (plain_app (spEnv_plain _) clEnv_plain) (spEnv_plain _)) clEnv_plain), fun F hF => absurd hF List.not_mem_nil, ?_, trivial, fun q hq => absurd hq List.not_mem_nil, fun B hB => absurd hB List.not_mem_nil⟩, ⟨hT2, hD2, hE2, hU2, hx2, hb2⟩, (show (3 : Nat) = jmx 207 by decide +kernel), fun i z hz => getE_app hz⟩ rfl
      · exact hg.1.push (e := eNew 0 1 none) (z := kk.toInt) i1
      · intro i v hv
        match i, hv with
        | 0, hv => cases hv; exact ⟨_, rfl, b, hb, rfl⟩
        | 1, hv => cases hv; exact ⟨_, rfl, kk, rfl, x1⟩
        | 2, hv => cases hv
        | n + 3, hv => cases hv
    · obtain ⟨⟨o1, o2⟩, o3⟩ := hE2.1 b f F K hb hr hrF hrK
      obtain ⟨p1, p2, p3, p4, p5⟩ := o3 k hk2 hne
      have hsh : ∀ i, i < 5270 → F (5270 * k + i) = bkf f F k 5270 i := fun i hi => by
        simp only [bkf]
        rw [if_pos hi]
      have hl1 : b + 1 < h2.length := (List.getElem?_eq_some_iff.mp hr).1
      have hct : ctOK g bk2 (.inl (0, 5270, ROWs)) (.inl (0, 5270, bkf f F k 5270)) := ⟨_, rfl, fun i hi => by rw [← hsh i hi]; exact p3 i hi⟩
      have U1 : UN TTs [(1, 0, 0, 1), (1, 1, 0, 5269)] bk2 h2 (h2.set (b + 1) (.inl (0, 5270, bkf f F k 5270))) := UN.set hD2 hb (by decide +kernel) hr ⟨rfl, rfl, fun i hi => by
        simp only [bkf]
        rw [if_neg]
        intro q
        exact hi ⟨(1, 1, 0, 5269), List.mem_cons_of_mem _ List.mem_cons_self, rfl, rfl, by show (0 : Int) ≤ i; omega, by show (i : Int) ≤ 5269; omega⟩⟩
      have hE3 : EIc n bk2 (h2.set (b + 1) (.inl (0, 5270, bkf f F k 5270))) := by
        refine ⟨fun b' f' F' K' x1 x2 x3 x4 => ?_, fun b' f' x1 x2 => ?_⟩
        · cases hb.symm.trans x1
          rw [List.getElem?_set_self hl1] at x2
          cases x2
          rw [List.getElem?_set_ne (by omega)] at x3 x4
          cases hrF.symm.trans x3
          cases hrK.symm.trans x4
          exact ⟨⟨p1.us hsh, p2.us hsh⟩, o3⟩
        · cases hb.symm.trans x1
          rw [List.getElem?_set_self hl1] at x2
          cases x2
          rw [← hsh 1 (by omega), ← hsh 5066 (by omega)]
          exact ⟨p4, p5⟩
      refine cks bkC70 (List.mem_cons_of_mem _ List.mem_cons_self) 0 (by decide) (ev ++ [kk.toInt] ++ [5270]) bk2 _ _ ⟨⟨?_, eFm_plain (plain_app (plain_app (plain_app (spEnv_plain _) clEnv_plain) (spEnv_plain _)) clEnv_plain), fun F hF => absurd hF List.not_mem_nil, ?_, trivial, fun q hq => absurd hq List.not_mem_nil, fun B hB => absurd hB List.not_mem_nil⟩, ⟨hT2.set hD2 hb ty_m1 hct, hD2, hE3, hU2.tr hx2 U1, hx2, hb2⟩, (show (3 : Nat) = jmx 207 by decide +kernel), fun i z hz => getE_app (getE_app hz)⟩ rfl
      · exact (hg.1.push (e := eNew 0 1 none) (z := kk.toInt) i1).push (e := eNew 5270 5270 none) (z := 5270) ⟨by decide, by decide⟩
      · have z2 : (ev ++ [kk.toInt] ++ [5270])[2]? = some (Int32.ofInt (5270 : Nat)).toInt := by rw [List.getElem?_append_right (by simp; omega)]; simp [hn1]
        intro i v hv
        match i, hv with
        | 0, hv => cases hv; exact ⟨_, rfl, b, hb, rfl⟩
        | 1, hv => cases hv; exact ⟨_, rfl, kk, rfl, getE_app x1⟩
        | 2, hv => cases hv; exact ⟨_, rfl, _, rfl, z2⟩
        | n + 3, hv => cases hv
  refine jCal_of (show plainName (jyN 207).cls = true by decide +kernel) hl ?_
  refine chk_ok (ev' := ev) hM hg.1 hn (fun i z hz => hz) (fun C hC μ' v1 _ => ?_) 200 true 0 _ _ _ bk_ent ev bk (jal bkK.1 av) [] h ⟨hg, ⟨hT, hD, hE, UN.rf, fun B b hb => hb, hb1⟩, jal_len hl, fun i z hz => hz⟩
  rcases List.mem_cons.mp hC with rfl | hC
  · exact c21 μ' v1
  · exact cks C hC μ' v1
end BK
end
