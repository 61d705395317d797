section
/-! image and back of the reference, with what becomes of the row and the images -/
section XM
variable {l : Launch} {g : jG} {n : Int}
def thW : List aR := [(1, 0, 0, 1)]
def c21e : aCu := (21, [some (2, 0, 0, 1, 0), some (0, 0, 1, 0, 0), none], [], [([(0, 1), (1, -1)], 0), ([(0, -1), (1, 1)], 0)], ([], 1), [])
def imKe : aK := (204, [some (2, 0, 0, 1, 0), some (0, 0, 1, 0, 0), none], [], [], [], [], [], thW, 3, 0, 0)
def imK6 : aK := (204, [some (2, 0, 0, 1, 0), some (0, 0, 1, 0, 0), some (0, 5270, 5270, 0, 0)], [], [], [(0, 0, 0, 0, 0, [])], [], [], thW, 3, 0, 0)
theorem imE_ent : chk (TTs, KTx, KIx, thW, Pm, 204, 12, 3, nK) imKe [c21e] [] none 200 true 0 (spState [] imKe.2.1 [] [] []) 0 0 = true := by decide +kernel
theorem im6_ent : chk (TTs, KTx, KIx, thW, Pm, 204, 12, 3, nK) imK6 [] [] none 200 true 61 (spState [] imK6.2.1 [] [] []) 0 0 = true := by decide +kernel
def bkKe : aK := (207, [some (2, 0, 0, 1, 0), some (0, 0, 1, 0, 0), none], [], [], [], [], [], thW, 3, 0, 0)
def bkK3 : aK := (207, [some (2, 0, 0, 1, 0), some (0, 0, 1, 0, 0), none], [], [], [(0, -2, -2, 0, 0, [])], [], [], thW, 3, 0, 0)
def bkK7 : aK := (207, [some (2, 0, 0, 1, 0), some (0, 0, 1, 0, 0), some (0, 5270, 5270, 0, 0)], [], [], [(0, 0, 0, 0, 0, [])], [], [], thW, 3, 0, 0)
theorem bkE_ent : chk (TTs, KTx, KIx, thW, Pm, 207, 12, 3, nK) bkKe [c21e] [] none 200 true 0 (spState [] bkKe.2.1 [] [] []) 0 0 = true := by decide +kernel
theorem bk3_ent : chk (TTs, KTx, KIx, thW, Pm, 207, 12, 3, nK) bkK3 [] [] none 200 true 30 (spState [] bkK3.2.1 [] [] []) 0 0 = true := by decide +kernel
theorem bk7_ent : chk (TTs, KTx, KIx, thW, Pm, 207, 12, 3, nK) bkK7 [] [] none 200 true 70 (spState [] bkK7.2.1 [] [] []) 0 0 = true := by decide +kernel
theorem pt_imE {W0 W1 : List aR} {bk0 bk : aB} {h0 h : jH} (hO : hOK TTs g (EIm n) W0 bk0 h0 bk h) {a1 : Nat} (ha1 : bk 1 = some a1) {x1 : Int32} (hx1 : (0 : Int) ≤ x1.toInt ∧ x1.toInt ≤ 1) {o2 : Option Value} :
    PT TTs g (EIm n) W1 bk h [x1.toInt] 204 [x1.toInt] bk [some (.ref (g.2.2 + (a1 + 0))), some (.int x1), o2] [] h (spState [] [some (2, 0, 0, 1, 0), some (0, 0, 1, 0, 0), none] [] [] []) ∧ eIv [x1.toInt] (spEnv [some (2, 0, 0, 1, 0), some (0, 0, 1, 0, 0), none] ++ clEnv []) := by
  have hI : eIv [x1.toInt] (spEnv [some (2, 0, 0, 1, 0), some (0, 0, 1, 0, 0), none] ++ clEnv []) := by
    refine ⟨rfl, fun i e z he hz => ?_⟩
    match i, he, hz with
    | 0, he, hz => cases he; cases hz; exact hx1
    | i + 1, he, _ => cases he
  refine ⟨⟨⟨hI, eFm_plain (plain_app (spEnv_plain _) clEnv_plain), fun F hF => absurd hF List.not_mem_nil, fun i v hv => ?_, trivial, fun q hq => ?_, fun B hB => ?_⟩, ⟨hO.1, hO.2.1, hO.2.2.1, UN.rf, fun _ _ q => q, hO.2.2.2.2.2⟩, (show 3 = jmx 204 by decide +kernel), fun i z hz => hz⟩, hI⟩
  · match i, hv with
    | 0, hv => cases hv; exact ⟨_, rfl, a1, ha1, rfl⟩
    | 1, hv => cases hv; exact ⟨_, rfl, x1, rfl, rfl⟩
    | 2, hv => cases hv
    | i + 3, hv => cases hv
  · exact absurd hq List.not_mem_nil
  · exact absurd hB List.not_mem_nil
theorem pt_im6 {W0 W1 : List aR} {bk0 bk : aB} {h0 h : jH} (hO : hOK TTs g (EIm n) W0 bk0 h0 bk h) {a1 : Nat} (ha1 : bk 1 = some a1) {x1 : Int32} (hx1 : (0 : Int) ≤ x1.toInt ∧ x1.toInt ≤ 1) {x2 : Int32} (hx2 : (5270 : Int) ≤ x2.toInt ∧ x2.toInt ≤ 5270) :
    PT TTs g (EIm n) W1 bk h [x1.toInt, x2.toInt] 204 [x1.toInt, x2.toInt] bk [some (.ref (g.2.2 + (a1 + 0))), some (.int x1), some (.int x2)] [] h (spState [] [some (2, 0, 0, 1, 0), some (0, 0, 1, 0, 0), some (0, 5270, 5270, 0, 0)] [] [] []) ∧ eIv [x1.toInt, x2.toInt] (spEnv [some (2, 0, 0, 1, 0), some (0, 0, 1, 0, 0), some (0, 5270, 5270, 0, 0)] ++ clEnv []) := by
  have hI : eIv [x1.toInt, x2.toInt] (spEnv [some (2, 0, 0, 1, 0), some (0, 0, 1, 0, 0), some (0, 5270, 5270, 0, 0)] ++ clEnv []) := by
    refine ⟨rfl, fun i e z he hz => ?_⟩
    match i, he, hz with
    | 0, he, hz => cases he; cases hz; exact hx1
    | 1, he, hz => cases he; cases hz; exact hx2
    | i + 2, he, _ => cases he
  refine ⟨⟨⟨hI, eFm_plain (plain_app (spEnv_plain _) clEnv_plain), fun F hF => absurd hF List.not_mem_nil, fun i v hv => ?_, trivial, fun q hq => ?_, fun B hB => ?_⟩, ⟨hO.1, hO.2.1, hO.2.2.1, UN.rf, fun _ _ q => q, hO.2.2.2.2.2⟩, (show 3 = jmx 204 by decide +kernel), fun i z hz => hz⟩, hI⟩
  · match i, hv with
    | 0, hv => cases hv; exact ⟨_, rfl, a1, ha1, rfl⟩
    | 1, hv => cases hv; exact ⟨_, rfl, x1, rfl, rfl⟩
    | 2, hv => cases hv; exact ⟨_, rfl, x2, rfl, rfl⟩
    | i + 3, hv => cases hv
  · exact absurd hq List.not_mem_nil
  · exact absurd hB List.not_mem_nil
theorem pt_bkE {W0 W1 : List aR} {bk0 bk : aB} {h0 h : jH} (hO : hOK TTs g (EIm n) W0 bk0 h0 bk h) {a1 : Nat} (ha1 : bk 1 = some a1) {x1 : Int32} (hx1 : (0 : Int) ≤ x1.toInt ∧ x1.toInt ≤ 1) {o2 : Option Value} :
    PT TTs g (EIm n) W1 bk h [x1.toInt] 207 [x1.toInt] bk [some (.ref (g.2.2 + (a1 + 0))), some (.int x1), o2] [] h (spState [] [some (2, 0, 0, 1, 0), some (0, 0, 1, 0, 0), none] [] [] []) ∧ eIv [x1.toInt] (spEnv [some (2, 0, 0, 1, 0), some (0, 0, 1, 0, 0), none] ++ clEnv []) := by
  have hI : eIv [x1.toInt] (spEnv [some (2, 0, 0, 1, 0), some (0, 0, 1, 0, 0), none] ++ clEnv []) := by
    refine ⟨rfl, fun i e z he hz => ?_⟩
    match i, he, hz with
    | 0, he, hz => cases he; cases hz; exact hx1
    | i + 1, he, _ => cases he
  refine ⟨⟨⟨hI, eFm_plain (plain_app (spEnv_plain _) clEnv_plain), fun F hF => absurd hF List.not_mem_nil, fun i v hv => ?_, trivial, fun q hq => ?_, fun B hB => ?_⟩, ⟨hO.1, hO.2.1, hO.2.2.1, UN.rf, fun _ _ q => q, hO.2.2.2.2.2⟩, (show 3 = jmx 207 by decide +kernel), fun i z hz => hz⟩, hI⟩
  · match i, hv with
    | 0, hv => cases hv; exact ⟨_, rfl, a1, ha1, rfl⟩
    | 1, hv => cases hv; exact ⟨_, rfl, x1, rfl, rfl⟩
    | 2, hv => cases hv
    | i + 3, hv => cases hv
  · exact absurd hq List.not_mem_nil
  · exact absurd hB List.not_mem_nil
theorem pt_bk7 {W0 W1 : List aR} {bk0 bk : aB} {h0 h : jH} (hO : hOK TTs g (EIm n) W0 bk0 h0 bk h) {a1 : Nat} (ha1 : bk 1 = some a1) {x1 : Int32} (hx1 : (0 : Int) ≤ x1.toInt ∧ x1.toInt ≤ 1) {x2 : Int32} (hx2 : (5270 : Int) ≤ x2.toInt ∧ x2.toInt ≤ 5270) :
    PT TTs g (EIm n) W1 bk h [x1.toInt, x2.toInt] 207 [x1.toInt, x2.toInt] bk [some (.ref (g.2.2 + (a1 + 0))), some (.int x1), some (.int x2)] [] h (spState [] [some (2, 0, 0, 1, 0), some (0, 0, 1, 0, 0), some (0, 5270, 5270, 0, 0)] [] [] []) ∧ eIv [x1.toInt, x2.toInt] (spEnv [some (2, 0, 0, 1, 0), some (0, 0, 1, 0, 0), some (0, 5270, 5270, 0, 0)] ++ clEnv []) := by
  have hI : eIv [x1.toInt, x2.toInt] (spEnv [some (2, 0, 0, 1, 0), some (0, 0, 1, 0, 0), some (0, 5270, 5270, 0, 0)] ++ clEnv []) := by
    refine ⟨rfl, fun i e z he hz => ?_⟩
    match i, he, hz with
    | 0, he, hz => cases he; cases hz; exact hx1
    | 1, he, hz => cases he; cases hz; exact hx2
    | i + 2, he, _ => cases he
  refine ⟨⟨⟨hI, eFm_plain (plain_app (spEnv_plain _) clEnv_plain), fun F hF => absurd hF List.not_mem_nil, fun i v hv => ?_, trivial, fun q hq => ?_, fun B hB => ?_⟩, ⟨hO.1, hO.2.1, hO.2.2.1, UN.rf, fun _ _ q => q, hO.2.2.2.2.2⟩, (show 3 = jmx 207 by decide +kernel), fun i z hz => hz⟩, hI⟩
  · match i, hv with
    | 0, hv => cases hv; exact ⟨_, rfl, a1, ha1, rfl⟩
    | 1, hv => cases hv; exact ⟨_, rfl, x1, rfl, rfl⟩
    | 2, hv => cases hv; exact ⟨_, rfl, x2, rfl, rfl⟩
    | i + 3, hv => cases hv
  · exact absurd hq List.not_mem_nil
  · exact absurd hB List.not_mem_nil
/-- what image k leaves of the reference -/
def imQ (g : jG) (n : Int) (bk : aB) (h : jH) (b k : Nat) (v : Option Value) (h' : jH) : Prop := v = some (.int 0) ∧ ∃ bk', hOK TTs g (EIm n) imK.2.2.2.2.2.2.2.1 bk h bk' h' ∧ cv h' (b + 3) k 1 ∧ (∀ i x, i < 5270 → cv h (b + 1) i x → cv h' (b + 2) (5270 * k + i) x) ∧ (∀ k' i x, k' < 2 → k' ≠ k → i < 5270 → cv h (b + 2) (5270 * k' + i) x → cv h' (b + 2) (5270 * k' + i) x) ∧ ∀ k' x, k' ≠ k → cv h (b + 3) k' x → cv h' (b + 3) k' x
set_option maxRecDepth 16384 in
theorem imgR_ok (hlow : ∀ (k : Nat) (K : aK), KTx[k]? = some K → kOK TTs g (EIm n) l K) {W0 : List aR} {bk0 bk : aB} {h0 h : jH} (hO0 : hOK TTs g (EIm n) W0 bk0 h0 bk h) {b k : Nat} (hb : bk 1 = some b) (hk2 : k < 2) (hc1 : ∀ x, cv h (b + 1) 1 x → x ≤ n) (hc2 : ∀ x, cv h (b + 1) 5066 x → x ≤ n) : jCal l g 204 3 [.ref (g.2.2 + (b + 0)), .int (Int32.ofInt (k : Int))] h 0 0 (imQ g n bk h b k) := by
  have hcls : jcN 12 = (jyN 204).cls := by decide +kernel
  have hM : mOK TTs g (EIm n) Pm KTx l imKe.1 12 nK := ⟨TTs_cl, TTs_sg, EIm_ok, hcls, fun k K hK _ => hlow k K hK⟩
  refine jCal_of (by decide +kernel) (show 2 ≤ jmx 204 by decide +kernel) ?_
  show J l g 204 3 0 [some (.ref (g.2.2 + (b + 0))), some (.int (Int32.ofInt (k : Int))), none] [] h 0 0 _
  have t2 : (Int32.ofInt (k : Int)).toInt = (k : Int) := i32_ofInt (by omega) (by omega)
  have hz : (0 : Int) ≤ (Int32.ofInt (k : Int)).toInt ∧ (Int32.ofInt (k : Int)).toInt ≤ 1 := by omega
  obtain ⟨hp, hI⟩ := pt_imE (W1 := thW) (o2 := none) hO0 hb hz
  refine chk_okQ (K := imKe) (KI := KIx) (ev' := [(Int32.ofInt (k : Int)).toInt]) hM hI rfl (fun i z hz => hz) (fun v h' hq => ?_) (fun C hC μ _ _ => ?_) 200 true 0 _ _ _ imE_ent _ bk _ [] h hp
  · obtain ⟨-, -, -, -, q, hq, -⟩ := hq
    exact absurd hq List.not_mem_nil
  rw [List.mem_singleton.mp hC]
  intro vs bk2 al h2 hp _
  obtain ⟨⟨i1, i2, i3, i4, i5, i6, i7⟩, hO2, hlen, hpre⟩ := hp
  have hlen : al.length = 3 := hlen.trans (show jmx 204 = 3 by decide +kernel)
  have hO2 : hOK TTs g (EIm n) thW bk h bk2 h2 := hO2
  obtain ⟨a0, a1, a2, hal⟩ := list3 hlen
  subst hal
  obtain ⟨w0, y0, b', hb2, rfl⟩ := i4 0 (2, 1, 0) rfl
  have r0 := Option.some.inj y0
  subst r0
  have hbx := hO2.2.2.2.2.1 1 b hb
  have hb2 : bk2 1 = some b' := hb2
  cases hbx.symm.trans hb2
  obtain ⟨w1, y1, s1, rfl, z1⟩ := i4 1 (0, 1, 0) rfl
  have r1 := Option.some.inj y1
  subst r1
  have j1 := i1.2 1 (eNew 0 1 none) _ rfl z1
  dsimp only [eNew] at j1
  have zk := hpre 0 _ rfl
  have z1 : vs[1]? = some s1.toInt := z1
  have hs1 : s1 = Int32.ofInt (k : Int) := by
    obtain ⟨u1, e1, p1⟩ := i3 ([(0, 1), (1, -1)], 0) List.mem_cons_self
    obtain ⟨u2, e2, p2⟩ := i3 ([(0, -1), (1, 1)], 0) (List.mem_cons_of_mem _ List.mem_cons_self)
    have y3 := fev_of (F := ([(0, 1), (1, -1)], 0)) (fevl_cons (q := (0, 1)) zk (fevl_cons (q := (1, -1)) z1 (show fevl _ [] = some 0 from rfl)))
    have y4 := fev_of (F := ([(0, -1), (1, 1)], 0)) (fevl_cons (q := (0, -1)) zk (fevl_cons (q := (1, 1)) z1 (show fevl _ [] = some 0 from rfl)))
    rw [y3] at e1
    rw [y4] at e2
    have e1 := Option.some.inj e1
    have e2 := Option.some.inj e2
    dsimp only at e1 e2
    exact i32_eq (by omega)
  subst hs1
  obtain ⟨hT2, hD2, hE2, hU2, hx2, hbb2⟩ := hO2
  have hO2 : hOK TTs g (EIm n) thW bk h bk2 h2 := ⟨hT2, hD2, hE2, hU2, hx2, hbb2⟩
  obtain ⟨f, hr, hty⟩ := m_arr hT2 hbx ty_m1
  obtain ⟨F, hrF, -⟩ := m_arr hT2 hbx ty_m2
  obtain ⟨K, hrK, htK⟩ := m_arr hT2 hbx ty_m3
  obtain ⟨fs, ho, hfs⟩ := m_obj hT2 hbx
  obtain ⟨v2, q2, b2, y2, z2⟩ := hfs 2 (2, 0, 0, 1, 1) rfl
  obtain ⟨v3, q3, b3, y3, z3⟩ := hfs 3 (2, 0, 0, 1, 2) rfl
  obtain ⟨v4, q4, b4, y4, z4⟩ := hfs 4 (2, 0, 0, 1, 3) rfl
  have y2 : bk2 1 = some b2 := y2
  have y3 : bk2 1 = some b3 := y3
  have y4 : bk2 1 = some b4 := y4
  cases hbx.symm.trans y2
  cases hbx.symm.trans y3
  cases hbx.symm.trans y4
  subst z2 z3 z4
  have m1 : ∀ (i : Nat) (x : Int), cv h (b + 1) i x → (f i).toInt = x := fun i x hx => cv_inl hr (cv_off hO2 hb (by decide +kernel) (by rfl) hx)
  have m2 : ∀ (i : Nat) (x : Int), cv h (b + 2) i x → (F i).toInt = x := fun i x hx => cv_inl hrF (cv_off hO2 hb (by decide +kernel) (by rfl) hx)
  have m3 : ∀ (i : Nat) (x : Int), cv h (b + 3) i x → (K i).toInt = x := fun i x hx => cv_inl hrK (cv_off hO2 hb (by decide +kernel) (by rfl) hx)
  have hcx : (f 1).toInt ≤ n ∧ (f 5066).toInt ≤ n := by
    obtain ⟨f0, hf0, -⟩ := m_arr hO0.1 hb ty_m1
    have c1 := cv_arr hf0 1
    have c2 := cv_arr hf0 5066
    rw [m1 _ _ c1, m1 _ _ c2]
    exact ⟨hc1 _ c1, hc2 _ c2⟩
  show J l g 204 3 21 [some (.ref (g.2.2 + b)), some (.int (Int32.ofInt (k : Int))), a2] [] h2 0 0 _
  refine image_run (f := f) (F := F) (K := K) hk2 rfl ho q2 q3 q4 hr hrF hrK ?_
  have hct2 : ctOK g bk2 (.inl (0, 10540, [(0, 10540, 1, [(-2147483648, 2147483647)])])) (.inl (0, 10540, imf f F k 5270)) := ⟨_, rfl, fun i hi s hs _ _ q hq => by
    have e := List.mem_singleton.mp hs
    subst e
    have hq2 := List.mem_singleton.mp (List.mem_of_getElem? hq)
    subst hq2
    have t1 := Int32.toInt_lt (imf f F k 5270 i)
    have t2 := Int32.le_toInt (imf f F k 5270 i)
    dsimp only
    omega⟩
  have hct3 : ctOK g bk2 (.inl (1, 2, [(0, 2, 1, [(0, 1)])])) (.inl (1, 2, upd K k 1)) := ⟨_, rfl, fun i hi => by
    by_cases hik : i = k
    · simp only [upd, if_pos hik]
      intro s hs _ _ q hq
      have e := List.mem_singleton.mp hs
      subst e
      have hq2 := List.mem_singleton.mp (List.mem_of_getElem? hq)
      subst hq2
      decide
    · simp only [upd, if_neg hik]
      exact htK i hi⟩
  have hl2 : b + 2 < h2.length := (List.getElem?_eq_some_iff.mp hrF).1
  have hl3 : b + 3 < h2.length := (List.getElem?_eq_some_iff.mp hrK).1
  have hrK2 : (h2.set (b + 2) (.inl (0, 10540, imf f F k 5270)))[b + 3]? = some (.inl (1, 2, K)) := by rw [List.getElem?_set_ne (by omega)]; exact hrK
  have U1 : UN TTs [(1, 0, 0, 1), (1, 2, 0, 10539), (1, 3, 0, 1)] bk2 h2 (h2.set (b + 2) (.inl (0, 10540, imf f F k 5270))) := UN.set hD2 hbx (by decide +kernel) hrF ⟨rfl, rfl, fun i hi => by
    simp only [imf]
    rw [if_neg]
    intro q
    exact hi ⟨(1, 2, 0, 10539), List.mem_cons_of_mem _ List.mem_cons_self, rfl, rfl, by show (0 : Int) ≤ i; omega, by show (i : Int) ≤ 10539; omega⟩⟩
  have U2 : UN TTs [(1, 0, 0, 1), (1, 2, 0, 10539), (1, 3, 0, 1)] bk2 (h2.set (b + 2) (.inl (0, 10540, imf f F k 5270))) ((h2.set (b + 2) (.inl (0, 10540, imf f F k 5270))).set (b + 3) (.inl (1, 2, upd K k 1))) := UN.set hD2 hbx (by decide +kernel) hrK2 ⟨rfl, rfl, fun i hi => by
    simp only [upd]
    rw [if_neg]
    intro q
    exact hi ⟨(1, 3, 0, 1), List.mem_cons_of_mem _ (List.mem_cons_of_mem _ List.mem_cons_self), rfl, rfl, by show (0 : Int) ≤ i; omega, by show (i : Int) ≤ 1; omega⟩⟩
  have hE3 : EIm n bk2 ((h2.set (b + 2) (.inl (0, 10540, imf f F k 5270))).set (b + 3) (.inl (1, 2, upd K k 1))) := by
    intro b' f' F' K' x1 x2 x3 x4
    cases hbx.symm.trans x1
    rw [List.getElem?_set_ne (by omega), List.getElem?_set_ne (by omega)] at x2
    cases hr.symm.trans x2
    rw [List.getElem?_set_ne (by omega), List.getElem?_set_self hl2] at x3
    cases x3
    rw [List.getElem?_set_self (by rw [List.length_set]; exact hl3)] at x4
    cases x4
    obtain ⟨⟨o1, o2⟩, o3⟩ := hE2 b f F K hbx hr hrF hrK
    refine ⟨⟨o1, o2⟩, fun k' hk' hK' => ?_⟩
    by_cases hkk' : k' = k
    · subst hkk'
      have hsh : ∀ i, i < 5270 → imf f F k' 5270 (5270 * k' + i) = f i := fun i hi => by
        simp only [imf]
        rw [if_pos (by omega)]
        congr 1
        omega
      exact ⟨o1.sh hsh, o2.sh hsh, fun i hi => by rw [hsh i hi]; exact hty i hi, by rw [hsh 1 (by omega)]; exact hcx.1, by rw [hsh 5066 (by omega)]; exact hcx.2⟩
    · simp only [upd, if_neg hkk'] at hK'
      obtain ⟨p1, p2, p3, p4, p5⟩ := o3 k' hk' hK'
      have hout : ∀ i, i < 5270 → imf f F k 5270 (5270 * k' + i) = F (5270 * k' + i) := fun i hi => by
        simp only [imf]
        rw [if_neg (by omega)]
      refine ⟨p1.cg (fun i a1 a2 => ?_), p2.cg (fun i a1 a2 => ?_), fun i hi => by rw [hout i hi]; exact p3 i hi, by rw [hout 1 (by omega)]; exact p4, by rw [hout 5066 (by omega)]; exact p5⟩
      · have := hout (i - 5270 * k') (by omega)
        rw [show 5270 * k' + (i - 5270 * k') = i by omega] at this
        exact this
      · have := hout (i - 5270 * k') (by omega)
        rw [show 5270 * k' + (i - 5270 * k') = i by omega] at this
        exact this
  have hO3 : hOK TTs g (EIm n) imK.2.2.2.2.2.2.2.1 bk h bk2 ((h2.set (b + 2) (.inl (0, 10540, imf f F k 5270))).set (b + 3) (.inl (1, 2, upd K k 1))) := ⟨(hT2.set hD2 hbx ty_m2 hct2).set hD2 hbx ty_m3 hct3, hD2, hE3, ((hU2.mono (by decide +kernel)).tr hx2 U1).tr hx2 U2, hx2, hbb2⟩
  have e2 : ((h2.set (b + 2) (.inl (0, 10540, imf f F k 5270))).set (b + 3) (.inl (1, 2, upd K k 1)))[b + 2]? = some (.inl (0, 10540, imf f F k 5270)) := by rw [List.getElem?_set_ne (by omega), List.getElem?_set_self hl2]
  have e3 : ((h2.set (b + 2) (.inl (0, 10540, imf f F k 5270))).set (b + 3) (.inl (1, 2, upd K k 1)))[b + 3]? = some (.inl (1, 2, upd K k 1)) := List.getElem?_set_self (by rw [List.length_set]; exact hl3)
  obtain ⟨hp3, hI3⟩ := pt_im6 (W1 := thW) hO3 hbx (x1 := Int32.ofInt (k : Int)) hz (x2 := Int32.ofInt (5270 : Nat)) ⟨by decide, by decide⟩
  have hM6 : mOK TTs g (EIm n) Pm KTx l imK6.1 12 nK := ⟨TTs_cl, TTs_sg, EIm_ok, hcls, fun k K hK _ => hlow k K hK⟩
  refine chk_okQ (K := imK6) (KI := KIx) (bk0 := bk2) (ev := [(Int32.ofInt (k : Int)).toInt, (Int32.ofInt (5270 : Nat)).toInt]) (ev' := [(Int32.ofInt (k : Int)).toInt, (Int32.ofInt (5270 : Nat)).toInt]) hM6 hI3 rfl (fun i z hz => hz) (fun v h' hq => ?_) (fun C hC => absurd hC List.not_mem_nil) 200 true 61 _ _ _ im6_ent _ bk2 _ [] _ hp3
  obtain ⟨bk4, os, k4, -, qq, hq1, hq2⟩ := hq
  have k4 : hOK TTs g (EIm n) thW bk2 _ bk4 h' := k4
  have hq3 := List.mem_singleton.mp hq1
  subst hq3
  obtain ⟨r, rfl, ⟨r1, r2⟩, -, -⟩ := hq2
  have r1 : (0 : Int) ≤ r.toInt := r1
  have r2 : r.toInt ≤ (0 : Int) := r2
  have hr0 : r = 0 := i32_eq (by rw [show r.toInt = 0 by omega]; rfl)
  subst hr0
  refine ⟨rfl, bk4, hO3.tr (by decide +kernel) k4, ?_, fun i x hi hx => ?_, fun k' i x hk' hne hi hx => ?_, fun k' x hne hx => ?_⟩
  · have := cv_off k4 hbx (by decide +kernel) (by rfl) (cv_arr e3 k)
    simp only [upd, if_pos rfl] at this
    exact this
  · have := cv_off k4 hbx (by decide +kernel) (by rfl) (cv_arr e2 (5270 * k + i))
    simp only [imf] at this
    rw [if_pos (by omega), show 5270 * k + i - 5270 * k = i by omega, m1 i x hx] at this
    exact this
  · have := cv_off k4 hbx (by decide +kernel) (by rfl) (cv_arr e2 (5270 * k' + i))
    simp only [imf] at this
    rw [if_neg (by omega), m2 _ x hx] at this
    exact this
  · have := cv_off k4 hbx (by decide +kernel) (by rfl) (cv_arr e3 k')
    simp only [upd, if_neg hne] at this
    rw [m3 _ x hx] at this
    exact this
/-- what back to image k leaves of the reference -/
def bkQ (g : jG) (n : Int) (bk : aB) (h : jH) (b k : Nat) (v : Option Value) (h' : jH) : Prop := (cv h (b + 3) k 0 ∧ v = some (.int (-2)) ∧ ∃ bk', hOK TTs g (EIm n) thW bk h bk' h') ∨ ((∃ x, x ≠ 0 ∧ cv h (b + 3) k x) ∧ v = some (.int 0) ∧ ∃ bk', hOK TTs g (EIm n) [(1, 0, 0, 1), (1, 1, 0, 5269)] bk h bk' h' ∧ (∀ x, cv h' (b + 1) 1 x → x ≤ n) ∧ (∀ x, cv h' (b + 1) 5066 x → x ≤ n) ∧ ∀ i x, i < 5270 → cv h (b + 2) (5270 * k + i) x → cv h' (b + 1) i x)
set_option maxRecDepth 16384 in
theorem bakR_ok (hlow : ∀ (k : Nat) (K : aK), KTx[k]? = some K → kOK TTs g (EIm n) l K) {W0 : List aR} {bk0 bk : aB} {h0 h : jH} (hO0 : hOK TTs g (EIm n) W0 bk0 h0 bk h) {b k : Nat} (hb : bk 1 = some b) (hk2 : k < 2) : jCal l g 207 3 [.ref (g.2.2 + (b + 0)), .int (Int32.ofInt (k : Int))] h 0 0 (bkQ g n bk h b k) := by
  have hcls : jcN 12 = (jyN 207).cls := by decide +kernel
  have hM : mOK TTs g (EIm n) Pm KTx l bkKe.1 12 nK := ⟨TTs_cl, TTs_sg, EIm_ok, hcls, fun k K hK _ => hlow k K hK⟩
  refine jCal_of (by decide +kernel) (show 2 ≤ jmx 207 by decide +kernel) ?_
  show J l g 207 3 0 [some (.ref (g.2.2 + (b + 0))), some (.int (Int32.ofInt (k : Int))), none] [] h 0 0 _
  have t2 : (Int32.ofInt (k : Int)).toInt = (k : Int) := i32_ofInt (by omega) (by omega)
  have hz : (0 : Int) ≤ (Int32.ofInt (k : Int)).toInt ∧ (Int32.ofInt (k : Int)).toInt ≤ 1 := by omega
  obtain ⟨hp, hI⟩ := pt_bkE (W1 := thW) (o2 := none) hO0 hb hz
  refine chk_okQ (K := bkKe) (KI := KIx) (ev' := [(Int32.ofInt (k : Int)).toInt]) hM hI rfl (fun i z hz => hz) (fun v h' hq => ?_) (fun C hC μ _ _ => ?_) 200 true 0 _ _ _ bkE_ent _ bk _ [] h hp
  · obtain ⟨-, -, -, -, q, hq, -⟩ := hq
    exact absurd hq List.not_mem_nil
  rw [List.mem_singleton.mp hC]
  intro vs bk2 al h2 hp _
  obtain ⟨⟨i1, i2, i3, i4, i5, i6, i7⟩, hO2, hlen, hpre⟩ := hp
  have hlen : al.length = 3 := hlen.trans (show jmx 207 = 3 by decide +kernel)
  have hO2 : hOK TTs g (EIm n) thW bk h bk2 h2 := hO2
  obtain ⟨a0, a1, a2, hal⟩ := list3 hlen
  subst hal
  obtain ⟨w0, y0, b', hb2, rfl⟩ := i4 0 (2, 1, 0) rfl
  have r0 := Option.some.inj y0
  subst r0
  have hbx := hO2.2.2.2.2.1 1 b hb
  have hb2 : bk2 1 = some b' := hb2
  cases hbx.symm.trans hb2
  obtain ⟨w1, y1, s1, rfl, z1⟩ := i4 1 (0, 1, 0) rfl
  have r1 := Option.some.inj y1
  subst r1
  have j1 := i1.2 1 (eNew 0 1 none) _ rfl z1
  dsimp only [eNew] at j1
  have zk := hpre 0 _ rfl
  have z1 : vs[1]? = some s1.toInt := z1
  have hs1 : s1 = Int32.ofInt (k : Int) := by
    obtain ⟨u1, e1, p1⟩ := i3 ([(0, 1), (1, -1)], 0) List.mem_cons_self
    obtain ⟨u2, e2, p2⟩ := i3 ([(0, -1), (1, 1)], 0) (List.mem_cons_of_mem _ List.mem_cons_self)
    have y3 := fev_of (F := ([(0, 1), (1, -1)], 0)) (fevl_cons (q := (0, 1)) zk (fevl_cons (q := (1, -1)) z1 (show fevl _ [] = some 0 from rfl)))
    have y4 := fev_of (F := ([(0, -1), (1, 1)], 0)) (fevl_cons (q := (0, -1)) zk (fevl_cons (q := (1, 1)) z1 (show fevl _ [] = some 0 from rfl)))
    rw [y3] at e1
    rw [y4] at e2
    have e1 := Option.some.inj e1
    have e2 := Option.some.inj e2
    dsimp only at e1 e2
    exact i32_eq (by omega)
  subst hs1
  obtain ⟨hT2, hD2, hE2, hU2, hx2, hbb2⟩ := hO2
  have hO2 : hOK TTs g (EIm n) thW bk h bk2 h2 := ⟨hT2, hD2, hE2, hU2, hx2, hbb2⟩
  obtain ⟨f, hr, hty⟩ := m_arr hT2 hbx ty_m1
  obtain ⟨F, hrF, -⟩ := m_arr hT2 hbx ty_m2
  obtain ⟨K, hrK, htK⟩ := m_arr hT2 hbx ty_m3
  obtain ⟨fs, ho, hfs⟩ := m_obj hT2 hbx
  obtain ⟨v2, q2, b2, y2, z2⟩ := hfs 2 (2, 0, 0, 1, 1) rfl
  obtain ⟨v3, q3, b3, y3, z3⟩ := hfs 3 (2, 0, 0, 1, 2) rfl
  obtain ⟨v4, q4, b4, y4, z4⟩ := hfs 4 (2, 0, 0, 1, 3) rfl
  have y2 : bk2 1 = some b2 := y2
  have y3 : bk2 1 = some b3 := y3
  have y4 : bk2 1 = some b4 := y4
  cases hbx.symm.trans y2
  cases hbx.symm.trans y3
  cases hbx.symm.trans y4
  subst z2 z3 z4
  have m1 : ∀ (i : Nat) (x : Int), cv h (b + 1) i x → (f i).toInt = x := fun i x hx => cv_inl hr (cv_off hO2 hb (by decide +kernel) (by rfl) hx)
  have m2 : ∀ (i : Nat) (x : Int), cv h (b + 2) i x → (F i).toInt = x := fun i x hx => cv_inl hrF (cv_off hO2 hb (by decide +kernel) (by rfl) hx)
  have m3 : ∀ (i : Nat) (x : Int), cv h (b + 3) i x → (K i).toInt = x := fun i x hx => cv_inl hrK (cv_off hO2 hb (by decide +kernel) (by rfl) hx)
  have hK0 : cv h (b + 3) k (K k).toInt := by
    obtain ⟨K0, hK0, -⟩ := m_arr hO0.1 hb ty_m3
    have c1 := cv_arr hK0 k
    rw [m3 _ _ c1]
    exact c1
  show J l g 207 3 21 [some (.ref (g.2.2 + b)), some (.int (Int32.ofInt (k : Int))), a2] [] h2 0 0 _
  refine back_run (f := f) (F := F) (K := K) hk2 rfl ho q2 q3 q4 hr hrF hrK (fun hz0 => ?_) (fun hne => ?_)
  · obtain ⟨hp3, hI3⟩ := pt_bkE (W1 := thW) (o2 := a2) hO2 hbx (x1 := Int32.ofInt (k : Int)) hz
    have hM3 : mOK TTs g (EIm n) Pm KTx l bkK3.1 12 nK := ⟨TTs_cl, TTs_sg, EIm_ok, hcls, fun k K hK _ => hlow k K hK⟩
    refine chk_okQ (K := bkK3) (KI := KIx) (bk0 := bk2) (h0 := h2) (ev := [(Int32.ofInt (k : Int)).toInt]) (ev' := [(Int32.ofInt (k : Int)).toInt]) hM3 hI3 rfl (fun i z hz => hz) (fun v h' hq => ?_) (fun C hC => absurd hC List.not_mem_nil) 200 true 30 _ _ _ bk3_ent _ bk2 _ [] _ hp3
    obtain ⟨bk4, os, k4, -, qq, hq1, hq2⟩ := hq
    have k4 : hOK TTs g (EIm n) thW bk2 h2 bk4 h' := k4
    have hq3 := List.mem_singleton.mp hq1
    subst hq3
    obtain ⟨r, rfl, ⟨r1, r2⟩, -, -⟩ := hq2
    have r1 : (-2 : Int) ≤ r.toInt := r1
    have r2 : r.toInt ≤ (-2 : Int) := r2
    have hr0 : r = -2 := i32_eq (by rw [show r.toInt = -2 by omega]; rfl)
    subst hr0
    rw [hz0] at hK0
    exact Or.inl ⟨hK0, rfl, bk4, hO2.tr (by decide +kernel) k4⟩
  · obtain ⟨⟨o1, o2⟩, o3⟩ := hE2 b f F K hbx hr hrF hrK
    obtain ⟨p1, p2, p3, p4, p5⟩ := o3 k hk2 hne
    have hsh : ∀ i, i < 5270 → F (5270 * k + i) = bkf f F k 5270 i := fun i hi => by
      simp only [bkf]
      rw [if_pos hi]
    have hl1 : b + 1 < h2.length := (List.getElem?_eq_some_iff.mp hr).1
    have hct : ctOK g bk2 (.inl (0, 5270, ROWs)) (.inl (0, 5270, bkf f F k 5270)) := ⟨_, rfl, fun i hi => by rw [← hsh i hi]; exact p3 i hi⟩
    have U1 : UN TTs [(1, 0, 0, 1), (1, 1, 0, 5269)] bk2 h2 (h2.set (b + 1) (.inl (0, 5270, bkf f F k 5270))) := UN.set hD2 hbx (by decide +kernel) hr ⟨rfl, rfl, fun i hi => by
      simp only [bkf]
      rw [if_neg]
      intro q
      exact hi ⟨(1, 1, 0, 5269), List.mem_cons_of_mem _ List.mem_cons_self, rfl, rfl, by show (0 : Int) ≤ i; omega, by show (i : Int) ≤ 5269; omega⟩⟩
    have hE3 : EIm n bk2 (h2.set (b + 1) (.inl (0, 5270, bkf f F k 5270))) := by
      intro b' f' F' K' x1 x2 x3 x4
      cases hbx.symm.trans x1
      rw [List.getElem?_set_self hl1] at x2
      cases x2
      rw [List.getElem?_set_ne (by omega)] at x3 x4
      cases hrF.symm.trans x3
      cases hrK.symm.trans x4
      exact ⟨⟨p1.us hsh, p2.us hsh⟩, o3⟩
    have hO3 : hOK TTs g (EIm n) [(1, 0, 0, 1), (1, 1, 0, 5269)] bk h bk2 (h2.set (b + 1) (.inl (0, 5270, bkf f F k 5270))) := ⟨hT2.set hD2 hbx ty_m1 hct, hD2, hE3, (hU2.mono (by decide +kernel)).tr hx2 U1, hx2, hbb2⟩
    have e1 : (h2.set (b + 1) (.inl (0, 5270, bkf f F k 5270)))[b + 1]? = some (.inl (0, 5270, bkf f F k 5270)) := List.getElem?_set_self hl1
    obtain ⟨hp3, hI3⟩ := pt_bk7 (W1 := thW) hO3 hbx (x1 := Int32.ofInt (k : Int)) hz (x2 := Int32.ofInt (5270 : Nat)) ⟨by decide, by decide⟩
    have hM7 : mOK TTs g (EIm n) Pm KTx l bkK7.1 12 nK := ⟨TTs_cl, TTs_sg, EIm_ok, hcls, fun k K hK _ => hlow k K hK⟩
    refine chk_okQ (K := bkK7) (KI := KIx) (bk0 := bk2) (ev := [(Int32.ofInt (k : Int)).toInt, (Int32.ofInt (5270 : Nat)).toInt]) (ev' := [(Int32.ofInt (k : Int)).toInt, (Int32.ofInt (5270 : Nat)).toInt]) hM7 hI3 rfl (fun i z hz => hz) (fun v h' hq => ?_) (fun C hC => absurd hC List.not_mem_nil) 200 true 70 _ _ _ bk7_ent _ bk2 _ [] _ hp3
    obtain ⟨bk4, os, k4, -, qq, hq1, hq2⟩ := hq
    have k4 : hOK TTs g (EIm n) thW bk2 _ bk4 h' := k4
    have hq3 := List.mem_singleton.mp hq1
    subst hq3
    obtain ⟨r, rfl, ⟨r1, r2⟩, -, -⟩ := hq2
    have r1 : (0 : Int) ≤ r.toInt := r1
    have r2 : r.toInt ≤ (0 : Int) := r2
    have hr0 : r = 0 := i32_eq (by rw [show r.toInt = 0 by omega]; rfl)
    subst hr0
    have row : ∀ i, i < 5270 → cv h' (b + 1) i (F (5270 * k + i)).toInt := fun i hi => by
      have := cv_off k4 hbx (by decide +kernel) (by rfl) (cv_arr e1 i)
      rw [← hsh i hi] at this
      exact this
    refine Or.inr ⟨⟨_, fun e => hne (i32_eq (by rw [e]; rfl)), hK0⟩, rfl, bk4, hO3.tr (by decide +kernel) k4, fun x hx => ?_, fun x hx => ?_, fun i x hi hx => ?_⟩
    · rw [← cv_fun (row 1 (by omega)) hx]
      exact p4
    · rw [← cv_fun (row 5066 (by omega)) hx]
      exact p5
    · have := row i hi
      rw [m2 _ x hx] at this
      exact this
end XM
end
section
/-! what the law's loop keeps; block 7 is forgotten after a call -/
section LQ
variable {l : Launch} {g : jG} {n : Int}
def bkF (bk : aB) : aB := fun B => if B = 7 then none else bk B
theorem bkF_ne {bk : aB} {B : Nat} (h : B ≠ 7) : bkF bk B = bk B := by rw [bkF, if_neg h]
theorem bkF_some {bk : aB} {B b : Nat} (h : bkF bk B = some b) : B ≠ 7 ∧ bk B = some b := by
  rw [bkF] at h
  split at h
  · cases h
  · rename_i h7
    exact ⟨h7, h⟩
theorem ft_forget {bk : aB} {t : aT} {v : Value} (hn : t.1 ≤ 1 ∨ t.2.2.2.1 ≠ 7) (hv : ftOK g bk t v) : ftOK g (bkF bk) t v := by
  obtain ⟨k, lo, hi, B, o⟩ := t
  match k, hv, hn with
  | 0, hv, _ => exact hv
  | 1, hv, _ => exact hv
  | 2, ⟨b, h1, h2⟩, hn =>
    have n7 : B ≠ 7 := hn.resolve_left (by show ¬ (2 : Nat) ≤ 1; decide)
    exact ⟨b, (bkF_ne n7).trans h1, h2⟩
  | 3, hv, hn =>
    have n7 : B ≠ 7 := hn.resolve_left (by show ¬ (3 : Nat) ≤ 1; decide)
    rcases hv with ⟨b, h1, h2⟩ | ⟨h1, h2⟩
    · exact Or.inl ⟨b, (bkF_ne n7).trans h1, h2⟩
    · exact Or.inr ⟨(bkF_ne n7).trans h1, h2⟩
  | m + 4, hv, hn =>
    have n7 : B ≠ 7 := hn.resolve_left (by show ¬ m + 4 ≤ 1; omega)
    rcases hv with ⟨b, h1, h2⟩ | h1
    · exact Or.inl ⟨b, (bkF_ne n7).trans h1, h2⟩
    · exact Or.inr h1
theorem HT_forget {bk : aB} {h : jH} (hT : HT TTs g bk h) : HT TTs g (bkF bk) h := by
  intro B b o t hb ht
  obtain ⟨h7, hb⟩ := bkF_some hb
  obtain ⟨c, hc, hct⟩ := hT B b o t hb ht
  refine ⟨c, hc, ?_⟩
  cases t with
  | inl a => exact hct
  | inr q =>
    obtain ⟨fs, e1, e2, e3⟩ := hct
    refine ⟨fs, e1, e2, fun k t hk => ?_⟩
    obtain ⟨v, v1, v2⟩ := e3 k t hk
    exact ⟨v, v1, ft_forget (no7_ok h7 ht (List.mem_of_getElem? hk)) v2⟩
theorem BD_forget {bk : aB} (hD : BD TTs bk) : BD TTs (bkF bk) := fun B B' b b' o o' h1 h2 => hD B B' b b' o o' (bkF_some h1).2 (bkF_some h2).2
theorem EIm_forget {bk : aB} {h : jH} (hE : EIm n bk h) : EIm n (bkF bk) h := fun b f F K hb => hE b f F K (bkF_some hb).2
theorem lwR_F {bk : aB} {h : jH} (hR : lwR bk h) : lwR (bkF bk) h := by
  intro b0 b1 q0 q1
  obtain ⟨r0, r1, r2⟩ := hR b0 b1 (bkF_some q0).2 (bkF_some q1).2
  have tr : ∀ k, k < 2 → rlI b1 k bk h → rlI b1 k (bkF bk) h := fun k hk hr => by
    rcases hr with ⟨x1, x2⟩ | ⟨a, x1, x2⟩
    · exact Or.inl ⟨(bkF_ne (by omega)).trans x1, x2⟩
    · exact Or.inr ⟨a, (bkF_ne (by omega)).trans x1, x2⟩
  exact ⟨r0, tr 0 (by decide) r1, tr 1 (by decide) r2⟩
/-- b0: the class's object, b1: the reference's -/
def lwI (g : jG) (n : Int) (b0 b1 : Nat) (bk : aB) (h : jH) : Prop :=
  HT TTs g bk h ∧ BD TTs bk ∧ EIm n bk h ∧ bk 0 = some b0 ∧ bk 1 = some b1 ∧ bk 7 = none ∧ (∀ f : Nat → Int32, h[b1 + 1]? = some (.inl (0, 5270, f)) → (f 1).toInt ≤ n ∧ (f 5066).toInt ≤ n) ∧ lwR bk h
theorem lwI.b01 {b0 b1 : Nat} {bk : aB} {h : jH} (hI : lwI g n b0 b1 bk h) : ∀ B, B ≤ 1 → ∃ b, bk B = some b := by
  intro B hB
  have h2 : B = 0 ∨ B = 1 := by omega
  rcases h2 with rfl | rfl
  · exact ⟨b0, hI.2.2.2.1⟩
  · exact ⟨b1, hI.2.2.2.2.1⟩
theorem lwI.ok {b0 b1 : Nat} {bk : aB} {h : jH} (hI : lwI g n b0 b1 bk h) (W : List aR) : hOK TTs g (EIm n) W bk h bk h := hOK.rf hI.1 hI.2.1 hI.2.2.1 hI.b01
/-- the reference's row and its counters -/
theorem lwI.row {b0 b1 : Nat} {bk : aB} {h : jH} (hI : lwI g n b0 b1 bk h) : ∃ f : Nat → Int32, h[b1 + 1]? = some (.inl (0, 5270, f)) ∧ (0 ≤ (f 1).toInt ∧ (f 1).toInt ≤ n) ∧ 0 ≤ (f 5066).toInt ∧ (f 5066).toInt ≤ n := by
  obtain ⟨f, h1, h2⟩ := m_arr hI.1 hI.2.2.2.2.1 ty_m1
  obtain ⟨n1, n2⟩ := hI.2.2.2.2.2.2.1 f h1
  have a1 := h2 1 (by decide)
  have a2 := h2 5066 (by decide)
  refine ⟨f, h1, ⟨?_, n1⟩, ?_, n2⟩
  · exact (a1 (1, 1, 1, [(0, 1073741824)]) (by decide +kernel) (by decide) (by decide) (0, 1073741824) rfl).1
  · exact (a2 (5066, 1, 1, [(0, 1073741824)]) (by decide +kernel) (by decide) (by decide) (0, 1073741824) rfl).1
/-- after a call: the counters as they are, at most n' -/
theorem lwI.step {b0 b1 : Nat} {bk bk' : aB} {h h' : jH} {W : List aR} {n' : Int} (hI : lwI g n b0 b1 bk h) (hO : hOK TTs g (EIm n) W bk h bk' h') (hn : n ≤ n') (hc : ∀ f : Nat → Int32, h'[b1 + 1]? = some (.inl (0, 5270, f)) → (f 1).toInt ≤ n' ∧ (f 5066).toInt ≤ n') (hR : lwR bk' h') : lwI g n' b0 b1 (bkF bk') h' :=
  ⟨HT_forget hO.1, BD_forget hO.2.1, EIm_forget (EIm_mono hn hO.2.2.1), (bkF_ne (by decide)).trans (hO.2.2.2.2.1 0 b0 hI.2.2.2.1), (bkF_ne (by decide)).trans (hO.2.2.2.2.1 1 b1 hI.2.2.2.2.1), by rw [bkF, if_pos rfl], hc, lwR_F hR⟩
/-- a call that writes neither counter -/
theorem lwI.stepN {b0 b1 : Nat} {bk bk' : aB} {h h' : jH} {W : List aR} {n' : Int} (hI : lwI g n b0 b1 bk h) (hO : hOK TTs g (EIm n) W bk h bk' h') (hn : n ≤ n') (h1 : apW W [(1, 1, 1, 1)] = true) (h2 : apW W [(1, 1, 5066, 5066)] = true) (h3 : apW W rlF = true) : lwI g n' b0 b1 (bkF bk') h' := by
  refine hI.step hO hn (fun f' hf' => ?_) (lwR_keep hI.1 hO hI.b01 h3 hI.2.2.2.2.2.2.2)
  obtain ⟨f, e1, e2, e3⟩ := hI.row
  obtain ⟨f1, q1, q2⟩ := hOK.arr hO hI.2.2.2.2.1 ty_m1 e1 h1
  obtain ⟨f2, q3, q4⟩ := hOK.arr hO hI.2.2.2.2.1 ty_m1 e1 h2
  rw [hf'] at q1 q3
  cases q1
  cases q3
  rw [q2 1 (by decide) (by decide), q4 5066 (by decide) (by decide)]
  omega
end LQ
end
section
/-! the law's cases: what a call leaves, the script's places -/
section LA
variable {l : Launch} {g : jG} {n : Int}
abbrev lwL (g : jG) (b0 b1 : Nat) (i : Int32) : List (Option Value) := [some (.ref (g.2.1 80)), some (.ref (g.2.2 + (b0 + 0))), some (.ref (g.2.2 + (b1 + 0))), some (.int i)]
theorem lw_cls : jcN 13 = (jyN 315).cls := by decide +kernel
theorem lw_at {i : Int32} {c : Int} (hi : 0 ≤ i.toInt ∧ i.toInt + 6 ≤ (jsN g : Int)) (hN : jsN g ≤ 3072) (h1 : 0 ≤ c) (h2 : c ≤ 5) : vp_in (i + Int32.ofInt c) (jsN g) := by
  have e : (Int32.ofInt c).toInt = c := i32_ofInt (by omega) (by omega)
  have e2 : (i + Int32.ofInt c).toInt = i.toInt + c := by rw [i32_add (by omega) (by omega), e]
  exact i32_in (by omega) (by omega)
theorem lw_x {b0 b1 : Nat} {bk : aB} {h : jH} (hI : lwI g n b0 b1 bk h) : ∃ fs, h[b0 + 0]? = some (.inr (11, fs)) := by
  obtain ⟨c, hc, fs, rfl, -, -⟩ := hI.1 0 b0 0 _ hI.2.2.2.1 ty_x0
  exact ⟨fs, hc⟩
theorem lw_m {b0 b1 : Nat} {bk : aB} {h : jH} (hI : lwI g n b0 b1 bk h) : ∃ fs, h[b1 + 0]? = some (.inr (12, fs)) := by
  obtain ⟨c, hc, fs, rfl, -, -⟩ := hI.1 1 b1 0 _ hI.2.2.2.2.1 ty_m0
  exact ⟨fs, hc⟩
/-- what is known after a call -/
def lwQ (g : jG) (n' : Int) (b0 b1 : Nat) (bk : aB) (v : Option Value) (h' : jH) : Prop := ∃ x : Int32, v = some (.int x) ∧ ∃ bk', lwI g n' b0 b1 bk' h' ∧ ∀ b, bk 6 = some b → bk' 6 = some b
theorem lw_ans {bk : aB} {ev os : List Int} {post : List aF} {v : Option Value} {as : List aQ} {q : aQ} (h0 : as.all (fun q => Nat.beq q.1 0) = true) (hq : q ∈ as) (ha : ansOK g bk ev os post v q) : ∃ x : Int32, v = some (.int x) ∧ postOK (ev ++ os ++ [x.toInt]) post := by
  have e := Nat.eq_of_beq_eq_true (List.all_eq_true.mp h0 q hq)
  obtain ⟨k, q2⟩ := q
  have e : k = 0 := e
  subst e
  obtain ⟨x, h1, -, -, h4⟩ := ha
  exact ⟨x, h1, h4⟩
theorem lwP {K : aK} {b0 b1 : Nat} {bk : aB} {h h' : jH} {ev : List Int} {v : Option Value} {n' : Int} (hI : lwI g n b0 b1 bk h) (hq : kPost TTs g (EIm n) K bk h ev v h') (h1 : apW K.2.2.2.2.2.2.2.1 [(1, 1, 1, 1)] = true) (h2 : apW K.2.2.2.2.2.2.2.1 [(1, 1, 5066, 5066)] = true) (h3 : apW K.2.2.2.2.2.2.2.1 rlF = true) (h0 : K.2.2.2.2.1.all (fun q => Nat.beq q.1 0) = true) (hn : n ≤ n') : lwQ g n' b0 b1 bk v h' := by
  obtain ⟨bk', os, k1, -, q, hq1, hq2⟩ := hq
  obtain ⟨x, hx, -⟩ := lw_ans h0 hq1 hq2
  exact ⟨x, hx, bkF bk', hI.stepN k1 hn h1 h2 h3, fun b hb => (bkF_ne (by decide)).trans (k1.2.2.2.2.1 6 b hb)⟩
end LA
end
section
/-! calls that write the counters -/
section LO
variable {l : Launch} {g : jG} {n : Int}
theorem lst1 {os : List Int} (h : os.length = 1) : ∃ o, os = [o] := by
  match os, h with
  | [o], _ => exact ⟨o, rfl⟩
theorem lst2 {os : List Int} (h : os.length = 2) : ∃ o p, os = [o, p] := by
  match os, h with
  | [o, p], _ => exact ⟨o, p, rfl⟩
theorem lwP1 {K : aK} {b0 b1 r : Nat} {bk : aB} {h h' : jH} {ev : List Int} {z c : Int} {v : Option Value} (hI : lwI g n b0 b1 bk h) (hq : kPost TTs g (EIm n) K bk h ev v h') (hout : K.2.2.2.2.2.1 = [(1, 1, 1, 0, 1073741824)]) (hpost : K.2.2.2.2.2.2.1 = [([(r, 1), (r + 1, -1)], c)]) (hl : ev.length = r + 1) (hev : ev[r]? = some z) (hz : z ≤ n) (hc : c ≤ 40) (h2 : apW K.2.2.2.2.2.2.2.1 [(1, 1, 5066, 5066)] = true) (h3 : apW K.2.2.2.2.2.2.2.1 rlF = true) (h0 : K.2.2.2.2.1.all (fun q => Nat.beq q.1 0) = true) : lwQ g (n + 40) b0 b1 bk v h' := by
  obtain ⟨bk', os, k1, ko, q, hq1, hq2⟩ := hq
  rw [hout] at ko
  obtain ⟨o, rfl⟩ := lst1 ko.1
  obtain ⟨-, b, cc, e1, e2, e3⟩ := ko.2 0 _ o rfl rfl
  have e1 : bk' 1 = some b := e1
  cases e1.symm.trans (k1.2.2.2.2.1 1 b1 hI.2.2.2.2.1)
  obtain ⟨x, hx, hp⟩ := lw_ans h0 hq1 hq2
  rw [hpost] at hp
  obtain ⟨w, w1, w2⟩ := hp _ List.mem_cons_self
  have y1 : (ev ++ [o] ++ [x.toInt])[r]? = some z := by
    rw [List.append_assoc, List.getElem?_append_left (by omega)]
    exact hev
  have y2 : (ev ++ [o] ++ [x.toInt])[r + 1]? = some o := by
    rw [List.append_assoc, List.getElem?_append_right (by omega), hl, Nat.sub_self]
    rfl
  have y3 := fev_of (F := ([(r, 1), (r + 1, -1)], c)) (fevl_cons (q := (r, 1)) y1 (fevl_cons (q := (r + 1, -1)) y2 (show fevl _ [] = some 0 from rfl)))
  rw [y3] at w1
  have w3 := Option.some.inj w1
  dsimp only at w3
  refine ⟨x, hx, bkF bk', hI.step k1 (by omega) (fun f' hf' => ?_) (lwR_keep hI.1 k1 hI.b01 h3 hI.2.2.2.2.2.2.2), fun b hb => (bkF_ne (by decide)).trans (k1.2.2.2.2.1 6 b hb)⟩
  obtain ⟨f, a1, a2, a3⟩ := hI.row
  obtain ⟨f2, q3, q4⟩ := hOK.arr k1 hI.2.2.2.2.1 ty_m1 a1 h2
  rw [hf'] at q3
  cases q3
  have e2 : h'[b1 + 1]? = some cc := e2
  rw [hf'] at e2
  cases e2
  have e4 : (f' 1).toInt = o := e3.2
  rw [q4 5066 (by decide) (by decide), e4]
  omega
theorem lwP2 {K : aK} {b0 b1 r : Nat} {bk : aB} {h h' : jH} {ev : List Int} {z y c d : Int} {v : Option Value} (hI : lwI g n b0 b1 bk h) (hq : kPost TTs g (EIm n) K bk h ev v h') (hout : K.2.2.2.2.2.1 = [(1, 1, 1, 0, 1073741824), (1, 1, 5066, 0, 1073741824)]) (hpost : K.2.2.2.2.2.2.1 = [([(r, 1), (r + 2, -1)], c), ([(r + 1, 1), (r + 3, -1)], d)]) (hl : ev.length = r + 2) (hev : ev[r]? = some z) (hev2 : ev[r + 1]? = some y) (hz : z ≤ n) (hy : y ≤ n) (hc : c ≤ 40) (hd : d ≤ 40) (h3 : apW K.2.2.2.2.2.2.2.1 rlF = true) (h0 : K.2.2.2.2.1.all (fun q => Nat.beq q.1 0) = true) : lwQ g (n + 40) b0 b1 bk v h' := by
  obtain ⟨bk', os, k1, ko, q, hq1, hq2⟩ := hq
  rw [hout] at ko
  obtain ⟨o, p, rfl⟩ := lst2 ko.1
  obtain ⟨-, b, cc, e1, e2, e3⟩ := ko.2 0 _ o rfl rfl
  obtain ⟨-, b', cd, e5, e6, e7⟩ := ko.2 1 _ p rfl rfl
  have e1 : bk' 1 = some b := e1
  have e5 : bk' 1 = some b' := e5
  cases e1.symm.trans e5
  cases e1.symm.trans (k1.2.2.2.2.1 1 b1 hI.2.2.2.2.1)
  obtain ⟨x, hx, hp⟩ := lw_ans h0 hq1 hq2
  rw [hpost] at hp
  obtain ⟨w, w1, w2⟩ := hp _ List.mem_cons_self
  obtain ⟨u, u1, u2⟩ := hp _ (List.mem_cons_of_mem _ List.mem_cons_self)
  have y1 : (ev ++ [o, p] ++ [x.toInt])[r]? = some z := by
    rw [List.append_assoc, List.getElem?_append_left (by omega)]
    exact hev
  have y4 : (ev ++ [o, p] ++ [x.toInt])[r + 1]? = some y := by
    rw [List.append_assoc, List.getElem?_append_left (by omega)]
    exact hev2
  have y2 : (ev ++ [o, p] ++ [x.toInt])[r + 2]? = some o := by
    rw [List.append_assoc, List.getElem?_append_right (by omega), hl, Nat.sub_self]
    rfl
  have y5 : (ev ++ [o, p] ++ [x.toInt])[r + 3]? = some p := by
    rw [List.append_assoc, List.getElem?_append_right (by omega), hl, show r + 3 - (r + 2) = 1 by omega]
    rfl
  have y3 := fev_of (F := ([(r, 1), (r + 2, -1)], c)) (fevl_cons (q := (r, 1)) y1 (fevl_cons (q := (r + 2, -1)) y2 (show fevl _ [] = some 0 from rfl)))
  have y6 := fev_of (F := ([(r + 1, 1), (r + 3, -1)], d)) (fevl_cons (q := (r + 1, 1)) y4 (fevl_cons (q := (r + 3, -1)) y5 (show fevl _ [] = some 0 from rfl)))
  rw [y3] at w1
  rw [y6] at u1
  have w3 := Option.some.inj w1
  have u3 := Option.some.inj u1
  dsimp only at w3 u3
  refine ⟨x, hx, bkF bk', hI.step k1 (by omega) (fun f' hf' => ?_) (lwR_keep hI.1 k1 hI.b01 h3 hI.2.2.2.2.2.2.2), fun b hb => (bkF_ne (by decide)).trans (k1.2.2.2.2.1 6 b hb)⟩
  have e2 : h'[b1 + 1]? = some cc := e2
  have e6 : h'[b1 + 1]? = some cd := e6
  rw [hf'] at e2 e6
  cases e2
  cases e6
  have e4 : (f' 1).toInt = o := e3.2
  have e8 : (f' 5066).toInt = p := e7.2
  rw [e4, e8]
  omega
end LO
end
