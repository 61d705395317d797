section
/-! isSo keeps its contracts -/
section SK
variable {l : Launch} {g : jG}
theorem ty_m9 : tyAt TTs 1 9 = some (.inl (0, 12, [(0, 12, 1, [(0, 999)])])) := rfl
theorem ty_m10 : tyAt TTs 1 10 = some (.inl (0, 16, [(0, 16, 1, [(0, 1)])])) := rfl
theorem ty_m11 : tyAt TTs 1 11 = some (.inl (1, 400, [(0, 400, 1, [(0, 1)])])) := rfl
def soK (a k : Nat) : aK := (242, [some (2, 0, 0, 1, 0), some (0, ((a + 1 + 8 * k : Nat) : Int), ((a + 1 + 8 * k : Nat) : Int), 0, 0), none, none, none], [(1, 0, 25, (a : Int), (a : Int)), (1, 1, a, ((k + 1 : Nat) : Int), 16)], [], [(0, 0, 1, 0, 0, [])], [], [], [(1, 11, 0, 399)], 2, 0, 0)
theorem list5 {α : Type} {L : List α} (h : L.length = 5) : ∃ a0 a1 a2 a3 a4, L = [a0, a1, a2, a3, a4] := by
  match L, h with
  | [a0, a1, a2, a3, a4], _ => exact ⟨a0, a1, a2, a3, a4, rfl⟩
/-- places of a text in the row -/
theorem row_cl {f : Nat → Int32} {t k j : Nat} {q : Int × Int} (hty : ∀ i, i < 5270 → sgOK ROWs i (f i).toInt) (ht : t < 2) (hk : k < 16) (hj : j < 8) (hq : [((0 : Int), (1 : Int)), (0, 11), (-2147483648, 2147483647), (0, 1), (0, 15), (0, 400), (0, 400), (-2147483648, 2147483647)][j]? = some q) : q.1 ≤ (f (1130 + 930 * t + 1 + 8 * k + j)).toInt ∧ (f (1130 + 930 * t + 1 + 8 * k + j)).toInt ≤ q.2 := by
  have h2 : t = 0 ∨ t = 1 := by omega
  rcases h2 with rfl | rfl
  · exact hty (1130 + 930 * 0 + 1 + 8 * k + j) (by omega) (1131, 128, 8, [(0, 1), (0, 11), (-2147483648, 2147483647), (0, 1), (0, 15), (0, 400), (0, 400), (-2147483648, 2147483647)]) (by decide +kernel) (by show 1131 ≤ _; omega) (by show _ < 1131 + 128; omega) q (by show [((0 : Int), (1 : Int)), (0, 11), (-2147483648, 2147483647), (0, 1), (0, 15), (0, 400), (0, 400), (-2147483648, 2147483647)][(1130 + 930 * 0 + 1 + 8 * k + j - 1131) % 8]? = some q; rw [show (1130 + 930 * 0 + 1 + 8 * k + j - 1131) % 8 = j by omega]; exact hq)
  · exact hty (1130 + 930 * 1 + 1 + 8 * k + j) (by omega) (2061, 128, 8, [(0, 1), (0, 11), (-2147483648, 2147483647), (0, 1), (0, 15), (0, 400), (0, 400), (-2147483648, 2147483647)]) (by decide +kernel) (by show 2061 ≤ _; omega) (by show _ < 2061 + 128; omega) q (by show [((0 : Int), (1 : Int)), (0, 11), (-2147483648, 2147483647), (0, 1), (0, 15), (0, 400), (0, 400), (-2147483648, 2147483647)][(1130 + 930 * 1 + 1 + 8 * k + j - 2061) % 8]? = some q; rw [show (1130 + 930 * 1 + 1 + 8 * k + j - 2061) % 8 = j by omega]; exact hq)
theorem row_cd {f : Nat → Int32} {t p : Nat} (hty : ∀ i, i < 5270 → sgOK ROWs i (f i).toInt) (ht : t < 2) (hp : p < 400) : 0 ≤ (f (1130 + 930 * t + 130 + 2 * p + 1)).toInt ∧ (f (1130 + 930 * t + 130 + 2 * p + 1)).toInt ≤ 15 := by
  have h2 : t = 0 ∨ t = 1 := by omega
  rcases h2 with rfl | rfl
  · exact hty (1130 + 930 * 0 + 130 + 2 * p + 1) (by omega) (1260, 800, 2, [(0, 13), (0, 15)]) (by decide +kernel) (by show 1260 ≤ _; omega) (by show _ < 1260 + 800; omega) (0, 15) (by show [((0 : Int), (13 : Int)), (0, 15)][(1130 + 930 * 0 + 130 + 2 * p + 1 - 1260) % 2]? = _; rw [show (1130 + 930 * 0 + 130 + 2 * p + 1 - 1260) % 2 = 1 by omega]; rfl)
  · exact hty (1130 + 930 * 1 + 130 + 2 * p + 1) (by omega) (2190, 800, 2, [(0, 13), (0, 15)]) (by decide +kernel) (by show 2190 ≤ _; omega) (by show _ < 2190 + 800; omega) (0, 15) (by show [((0 : Int), (13 : Int)), (0, 15)][(1130 + 930 * 1 + 130 + 2 * p + 1 - 2190) % 2]? = _; rw [show (1130 + 930 * 1 + 130 + 2 * p + 1 - 2190) % 2 = 1 by omega]; rfl)
theorem so_ok {n : Int} {t k : Nat} (ht : t < 2) (hk : k < 16) : kOK TTs g (EIm n) l (soK (1130 + 930 * t) k) := by
  intro bk h av ev hT hD hE hb1 hl hn _ hg
  obtain ⟨g1, g2, g3, g4, g5, g6, g7⟩ := hg
  have hlen : (jal 242 av).length = 5 := (jal_len hl).trans (show jmx 242 = 5 by decide +kernel)
  obtain ⟨a0, a1, a2, a3, a4, hal⟩ := list5 hlen
  have l0 := g4 0 (2, 1, 0) rfl
  have l1 := g4 1 (0, 0, 0) rfl
  have hal2 : jal (soK (1130 + 930 * t) k).1 av = [a0, a1, a2, a3, a4] := hal
  rw [hal2] at l0 l1
  obtain ⟨w0, e0, b, hb, rfl⟩ := l0
  obtain ⟨w1, e1, cc, rfl, v1⟩ := l1
  have r0 := Option.some.inj e0
  have r1 := Option.some.inj e1
  clear e0 e1
  subst r0 r1
  have hb : bk 1 = some b := hb
  have i1 := g1.2 0 (eNew ((1130 + 930 * t + 1 + 8 * k : Nat) : Int) ((1130 + 930 * t + 1 + 8 * k : Nat) : Int) none) _ rfl v1
  dsimp only [eNew] at i1
  generalize ha : 1130 + 930 * t = a at i1
  have hcc : cc = Int32.ofInt ((a + 1 + 8 * k : Nat) : Int) := by rw [show ((a + 1 + 8 * k : Nat) : Int) = cc.toInt by omega, Int32.ofInt_toInt]
  -- by
  obtain ⟨z, b', c, x, y1, y2, y3, y4, y5⟩ := g6 (1, 0, fcon 25, 1) List.mem_cons_self
  have i5 := g1.2 1 (eNew ((1130 + 930 * t : Nat) : Int) ((1130 + 930 * t : Nat) : Int) none) _ rfl y5
  dsimp only [eNew] at i5
  rw [ha] at i5
  have y2 : bk 1 = some b' := y2
  cases hb.symm.trans y2
  obtain ⟨fs, ho, hfs⟩ := m_obj hT hb
  have y3 : h[b]? = some c := y3
  cases ho.symm.trans y3
  have y1 : some (25 : Int) = some z := y1
  cases y1
  obtain ⟨-, byv, hby, hbx⟩ := y4
  have hby : fs[25]? = some (.int byv) := hby
  have hby2 : byv = Int32.ofInt (a : Int) := by rw [show (a : Int) = byv.toInt by omega, Int32.ofInt_toInt]
  -- the row
  obtain ⟨f, hr, hty⟩ := m_arr hT hb ty_m1
  obtain ⟨z2, b2, c2, x2, u1, u2, u3, u4, u5⟩ := g6 (1, 1, fcon ((1130 + 930 * t : Nat) : Int), 2) (List.mem_cons_of_mem _ List.mem_cons_self)
  have i6 := g1.2 2 (eNew ((k + 1 : Nat) : Int) 16 none) _ rfl u5
  dsimp only [eNew] at i6
  have u2 : bk 1 = some b2 := u2
  cases hb.symm.trans u2
  have u3 : h[b + 1]? = some c2 := u3
  cases hr.symm.trans u3
  have u1 : some (((1130 + 930 * t : Nat) : Int)) = some z2 := fcon_ok.symm.trans u1
  cases u1
  have u4 : (f ((1130 + 930 * t : Nat) : Int).toNat).toInt = x2 := u4.2
  rw [show ((1130 + 930 * t : Nat) : Int).toNat = a by omega] at u4
  obtain ⟨F, hrF, -⟩ := m_arr hT hb ty_m2
  obtain ⟨K, hrK, -⟩ := m_arr hT hb ty_m3
  obtain ⟨na, hna, -⟩ := m_arr hT hb ty_m9
  obtain ⟨bu, hbu, -⟩ := m_arr hT hb ty_m10
  obtain ⟨so, hso, htso⟩ := m_arr hT hb ty_m11
  have fld : ∀ (q o : Nat), mTs[q]? = some (2, 0, 0, 1, o) → fs[q]? = some (.ref (g.2.2 + (b + o))) := fun q o hq => by
    obtain ⟨v, q1, b3, y3, z3⟩ := hfs q _ hq
    have y3 : bk 1 = some b3 := y3
    cases hb.symm.trans y3
    rw [q1, z3]
    rfl
  have f2 := fld 2 1 rfl
  have f22 := fld 22 9 rfl
  have f23 := fld 23 10 rfl
  have f24 := fld 24 11 rfl
  have hcd := (hE b f F K hb hr hrF hrK).1.2.1 t ht k hk
  have b5 := row_cl (q := (0, 400)) hty ht hk (j := 5) (by omega) rfl
  have b6 := row_cl (q := (0, 400)) hty ht hk (j := 6) (by omega) rfl
  have hcd2 := fun p hp => row_cd (p := p) hty ht hp
  rw [show 0 + 1130 + 930 * t = a by omega] at hcd
  rw [ha] at b5 b6 hcd2
  dsimp only at b5 b6
  obtain ⟨s0, hs0⟩ : ∃ s0 : Nat, (f (a + 1 + 8 * k + 5)).toInt = (s0 : Int) := ⟨(f (a + 1 + 8 * k + 5)).toInt.toNat, by omega⟩
  obtain ⟨e0, he0⟩ : ∃ e0 : Nat, (f (a + 1 + 8 * k + 6)).toInt = (e0 : Int) := ⟨(f (a + 1 + 8 * k + 6)).toInt.toNat, by omega⟩
  have hdep := hcd (by omega) s0 e0 hs0 he0 (by omega)
  have hlb : b + 11 < h.length := (List.getElem?_eq_some_iff.mp hso).1
  have hbool : ∀ i, i < 400 → so i = 0 ∨ so i = 1 := fun i hi => by
    have := htso i hi (0, 400, 1, [(0, 1)]) List.mem_cons_self (Nat.zero_le _) (by show i < 0 + 400; omega) (0, 1) (by show [((0 : Int), (1 : Int))][(i - 0) % 1]? = _; rw [Nat.mod_one]; rfl)
    dsimp only at this
    have h01 : (so i).toInt = 0 ∨ (so i).toInt = 1 := by omega
    rcases h01 with q | q
    · exact Or.inl ((i32_eqv (z := 0) (by omega)).mpr q)
    · exact Or.inr ((i32_eqv (z := 1) (by omega)).mpr q)
  have hQ : ∀ (s : Nat → Int32) (r : Int32), bs so s → (r = 0 ∨ r = 1) → kPost TTs g (EIm n) (soK a k) bk h ev (some (.int r)) (h.set (b + 11) (.inl (1, 400, s))) := by
    intro s r hs hr1
    have hct : ctOK g bk (.inl (1, 400, [(0, 400, 1, [(0, 1)])])) (.inl (1, 400, s)) := ⟨_, rfl, fun i hi p hp _ _ q hq => by
      have e := List.mem_singleton.mp hp
      subst e
      have hq2 := List.mem_singleton.mp (List.mem_of_getElem? hq)
      subst hq2
      rcases hs.1 i hi with e | e <;> rw [e] <;> decide⟩
    have U1 : UN TTs [(1, 11, 0, 399)] bk h (h.set (b + 11) (.inl (1, 400, s))) := UN.set hD hb (by decide +kernel) hso ⟨rfl, rfl, fun i hi => by
      refine hs.2 i (Nat.le_of_not_lt fun q => hi ?_)
      exact ⟨(1, 11, 0, 399), List.mem_cons_self, rfl, rfl, by show (0 : Int) ≤ i; omega, by show (i : Int) ≤ 399; omega⟩⟩
    have hT' := hT.set hD hb ty_m11 hct
    refine ⟨bk, [], ⟨hT', hD, EIm_ok bk h _ [(1, 11, 0, 399)] (by decide +kernel) U1 (by rw [List.length_set]) hT hT' hE, U1, fun B b hB => hB, hb1⟩, ⟨rfl, fun j q z hq => by cases hq⟩, (0, 0, 1, 0, 0, []), List.mem_cons_self, r, rfl, ?_, Or.inl rfl, fun F hF => absurd hF List.not_mem_nil⟩
    rcases hr1 with e | e <;> rw [e] <;> decide
  refine jCal_of (show plainName (jyN 242).cls = true by decide +kernel) hl ?_
  rw [show jal (soK a k).1 av = [some (.ref (g.2.2 + b)), some (.int cc), a2, a3, a4] from hal, hcc]
  have hcls : jcN 12 = (jyN 242).cls := by decide +kernel
  have c5 : (Int32.ofInt ((a + 1 + 8 * k : Nat) : Int) + Int32.ofInt 5).toInt = ((a + 1 + 8 * k + 5 : Nat) : Int) := by
    rw [← Int32.ofInt_add, i32_ofInt (by omega) (by omega)]
    omega
  have hs32 : f (a + 1 + 8 * k + 5) = Int32.ofInt (s0 : Int) := by rw [← hs0, Int32.ofInt_toInt]
  show J l g 242 2 0 [some (.ref (g.2.2 + b)), some (.int (Int32.ofInt ((a + 1 + 8 * k : Nat) : Int))), a2, a3, a4] [] h 0 0 _
  refine j_iconst (n := 0) (dQ (by decide +kernel)) ?_
  refine j_istore_n (k4 := 2) (dQ (by decide +kernel)) (by decide +kernel) ?_
  refine j_aload_n (k4 := 0) (dQ (by decide +kernel)) rfl ?_
  refine j_get (own := 12) (i := 7) (ci := 12) (f := 2) (dQ (by decide +kernel)) hcls (by decide +kernel) ho (hnf 2 (by decide)) f2 ?_
  refine j_iload_n (k4 := 1) (dQ (by decide +kernel)) rfl ?_
  refine j_iconst (n := 5) (dQ (by decide +kernel)) ?_
  refine j_iadd (dQ (by decide +kernel)) ?_
  refine j_iald (dQ (by decide +kernel)) hr (i32_in (by omega) (by omega)) ?_
  rw [i32_at c5, hs32]
  refine j_istore_n (k4 := 3) (dQ (by decide +kernel)) (by decide +kernel) ?_
  have hlp := so_loop (l := l) (d := 2) (kc := 0) (ks := 0) (c := a + 1 + 8 * k) (by omega) (by omega) (by omega) he0 hby2 hty hcd2 ho f2 f22 f23 f24 hby hr hna hbu hlb (by omega) hQ (e0 - s0) s0 0 so a4 rfl (by omega) (Nat.zero_le _) hdep ⟨hbool, fun _ _ => rfl⟩
  obtain ⟨q1, q2⟩ := List.getElem?_eq_some_iff.mp hso
  rw [show h.set (b + 11) (.inl (1, 400, so)) = h by rw [← q2]; exact List.set_getElem_self q1] at hlp
  exact hlp
end SK
end
section
/-! A BLOCK MORE: behind a constructor, and the store of its object -/
section BN
variable {g : jG} {bk : aB} {h : jH}
def bkN (bk : aB) (X b : Nat) : aB := fun B => if B = X then some b else bk B
theorem bkN_self {X b : Nat} : bkN bk X b X = some b := by rw [bkN, if_pos rfl]
theorem bkN_ne {X b B : Nat} (h : ¬ B = X) : bkN bk X b B = bk B := by rw [bkN, if_neg h]
theorem bkN_old {X b B c : Nat} (hX : bk X = none) (h : bk B = some c) : bkN bk X b B = some c := by
  rw [bkN_ne]
  · exact h
  · rintro rfl
    rw [hX] at h
    cases h
/-- the fields that may be null for want of block X: that one alone -/
def only3 (X B0 o0 f0 : Nat) : Bool := (List.range TTs.length).all (fun B => (List.range (tyLen TTs B)).all (fun o => match tyAt TTs B o with
  | some (.inr q) => (List.range q.2.length).all (fun k => match q.2[k]? with
    | some t => !(Nat.beq t.1 3 && Nat.beq t.2.2.2.1 X) || (Nat.beq B B0 && Nat.beq o o0 && Nat.beq k f0)
    | none => true)
  | _ => true))
theorem only3_ok {X B0 o0 f0 B o k : Nat} {q : Nat × List aT} {t : aT} (h : only3 X B0 o0 f0 = true) (ht : tyAt TTs B o = some (.inr q)) (hk : q.2[k]? = some t) (h3 : t.1 = 3) (hX : t.2.2.2.1 = X) : B = B0 ∧ o = o0 ∧ k = f0 := by
  have hB : B < TTs.length := by
    rw [tyAt] at ht
    cases hb : TTs[B]? with
    | none => rw [hb] at ht; cases ht
    | some l => exact (List.getElem?_eq_some_iff.mp hb).1
  have h1 := List.all_eq_true.mp (List.all_eq_true.mp h B (List.mem_range.mpr hB)) o (List.mem_range.mpr (tyAt_lt ht))
  rw [ht] at h1
  have h2 := List.all_eq_true.mp h1 k (List.mem_range.mpr (List.getElem?_eq_some_iff.mp hk).1)
  rw [hk] at h2
  simp only [h3, hX, Nat.beq_refl, Bool.and_self, Bool.not_true, Bool.false_or, Bool.and_eq_true] at h2
  exact ⟨Nat.eq_of_beq_eq_true h2.1.1, Nat.eq_of_beq_eq_true h2.1.2, Nat.eq_of_beq_eq_true h2.2⟩
theorem ft_ext {X b : Nat} {t : aT} {v : Value} (hX : bk X = none) (hno : ¬ (t.1 = 3 ∧ t.2.2.2.1 = X)) (hv : ftOK g bk t v) : ftOK g (bkN bk X b) t v := by
  obtain ⟨k, lo, hi, B, o⟩ := t
  match k, hv, hno with
  | 0, hv, _ => exact hv
  | 1, hv, _ => exact hv
  | 2, hv, _ =>
    obtain ⟨c, h1, h2⟩ := hv
    exact ⟨c, bkN_old hX h1, h2⟩
  | 3, hv, hno =>
    rcases hv with ⟨c, h1, h2⟩ | ⟨h1, h2⟩
    · exact Or.inl ⟨c, bkN_old hX h1, h2⟩
    · exact Or.inr ⟨by show bkN bk X b B = none; rw [bkN_ne (fun e => hno ⟨rfl, e⟩)]; exact h1, h2⟩
  | n + 4, hv, _ =>
    rcases hv with ⟨c, h1, h2⟩ | h1
    · exact Or.inl ⟨c, bkN_old hX h1, h2⟩
    · exact Or.inr h1
def no3 (ts : List aCT) : Bool := ts.all (fun t => match t with
  | .inr o => o.2.all (fun q => !Nat.beq q.1 3)
  | _ => true)
theorem BD_new {X : Nat} (hT : HT TTs g bk h) (hD : BD TTs bk) (hX : bk X = none) : BD TTs (bkN bk X h.length) := by
  have old : ∀ B b o, bk B = some b → o < tyLen TTs B → b + o < h.length := fun B b o hB ho => by
    rw [tyLen] at ho
    cases hb : TTs[B]? with
    | none => rw [hb] at ho; exact absurd ho (Nat.not_lt_zero _)
    | some L =>
      rw [hb] at ho
      have ht : tyAt TTs B o = some L[o] := by rw [tyAt, hb]; exact List.getElem?_eq_getElem ho
      obtain ⟨c, h1, -⟩ := hT B b o _ hB ht
      exact (List.getElem?_eq_some_iff.mp h1).1
  intro B B' b b' o o' hB hB' ho ho' he
  by_cases e1 : B = X
  · by_cases e2 : B' = X
    · subst e1
      subst e2
      rw [bkN_self] at hB hB'
      cases hB
      cases hB'
      exact ⟨rfl, by omega⟩
    · rw [bkN_ne e2] at hB'
      subst e1
      rw [bkN_self] at hB
      cases hB
      have := old B' b' o' hB' ho'
      omega
  · rw [bkN_ne e1] at hB
    by_cases e2 : B' = X
    · subst e2
      rw [bkN_self] at hB'
      cases hB'
      have := old B b o hB ho
      omega
    · rw [bkN_ne e2] at hB'
      exact hD B B' b b' o o' hB hB' ho ho' he
theorem HT_new {X B0 o0 f0 b0 ci : Nat} {fs : List Value} {ts : List aCT} {H : List cC} (hT : HT TTs g bk h) (hD : BD TTs bk) (hX : bk X = none) (hts : TTs[X]? = some ts) (hn3 : no3 ts = true) (hH : ctyH X ts H = true) (ho : only3 X B0 o0 f0 = true) (hb0 : bk B0 = some b0) (hc0 : h[b0 + o0]? = some (.inr (ci, fs))) (hf0 : ∃ q t, tyAt TTs B0 o0 = some (.inr q) ∧ q.2[f0]? = some t ∧ t.1 = 3 ∧ t.2.2.2.1 = X ∧ t.2.2.2.2 = 0) :
    HT TTs g (bkN bk X h.length) ((chp g h H).set (b0 + o0) (.inr (ci, fs.set f0 (jad g h.length 0)))) := by
  have hlt0 : b0 + o0 < h.length := (List.getElem?_eq_some_iff.mp hc0).1
  intro B b o t hB ht
  by_cases e1 : B = X
  · subst e1
    rw [bkN_self] at hB
    cases hB
    rw [tyAt, hts] at ht
    obtain ⟨c, h1, h2⟩ := ctyH_ok (g := g) (bk := bkN bk B h.length) (h0 := h) bkN_self (fun o q ho hq B' _ h3 => by
      have := List.all_eq_true.mp (List.all_eq_true.mp hn3 _ ho) q hq
      rw [h3] at this
      cases this) hH ht
    exact ⟨c, by rw [List.getElem?_set_ne (by omega)]; exact h1, h2⟩
  · rw [bkN_ne e1] at hB
    obtain ⟨c, h1, h2⟩ := hT B b o t hB ht
    have hlt : b + o < h.length := (List.getElem?_eq_some_iff.mp h1).1
    have h1' : (chp g h H)[b + o]? = some c := by rw [chp, List.getElem?_append_left hlt]; exact h1
    by_cases e2 : b0 + o0 = b + o
    · obtain ⟨q, t0, z1, z2, z3, z4, z5⟩ := hf0
      obtain ⟨e3, e4⟩ := hD B0 B b0 b o0 o hb0 hB (tyAt_lt z1) (tyAt_lt ht) e2
      subst e3
      subst e4
      cases z1.symm.trans ht
      cases hb0.symm.trans hB
      obtain ⟨fs', rfl, hlen, hfs⟩ := h2
      cases hc0.symm.trans h1
      refine ⟨_, List.getElem?_set_self (by rw [chp, List.length_append]; omega), fs.set f0 (jad g h.length 0), rfl, by rw [List.length_set]; exact hlen, fun k t hk => ?_⟩
      by_cases ek : k = f0
      · subst ek
        cases z2.symm.trans hk
        have hkl : k < fs.length := by rw [hlen]; exact (List.getElem?_eq_some_iff.mp hk).1
        refine ⟨_, List.getElem?_set_self hkl, ?_⟩
        rw [ftOK, z3]
        refine Or.inl ⟨h.length, by rw [z4]; exact bkN_self, by rw [z5]⟩
      · obtain ⟨v, v1, v2⟩ := hfs k t hk
        exact ⟨v, by rw [List.getElem?_set_ne (Ne.symm ek)]; exact v1, ft_ext hX (fun e => ek (only3_ok ho ht hk e.1 e.2).2.2) v2⟩
    · refine ⟨c, by rw [List.getElem?_set_ne e2]; exact h1', ?_⟩
      match t, h2, ht with
      | .inl a, h2, _ => exact h2
      | .inr q, h2, ht =>
        obtain ⟨fs', rfl, hlen, hfs⟩ := h2
        refine ⟨fs', rfl, hlen, fun k t hk => ?_⟩
        obtain ⟨v, v1, v2⟩ := hfs k t hk
        refine ⟨v, v1, ft_ext hX (fun e => e2 ?_) v2⟩
        obtain ⟨e3, e4, -⟩ := only3_ok ho ht hk e.1 e.2
        subst e3
        subst e4
        cases hb0.symm.trans hB
        rfl
theorem UN_new {B0 o0 f0 b0 ci : Nat} {fs : List Value} {v : Value} {H : List cC} (hD : BD TTs bk) (hb0 : bk B0 = some b0) (ho0 : o0 < tyLen TTs B0) (hc0 : h[b0 + o0]? = some (.inr (ci, fs))) : UN TTs [(B0, o0, (f0 : Int), (f0 : Int))] bk h ((chp g h H).set (b0 + o0) (.inr (ci, fs.set f0 v))) := by
  have hlt0 : b0 + o0 < h.length := (List.getElem?_eq_some_iff.mp hc0).1
  refine ⟨by rw [List.length_set, chp_len]; omega, fun B b o c hB ho hc => ?_⟩
  have hlt : b + o < h.length := (List.getElem?_eq_some_iff.mp hc).1
  have h1' : (chp g h H)[b + o]? = some c := by rw [chp, List.getElem?_append_left hlt]; exact hc
  by_cases e2 : b0 + o0 = b + o
  · obtain ⟨e3, e4⟩ := hD B0 B b0 b o0 o hb0 hB ho0 ho e2
    subst e3
    subst e4
    cases hb0.symm.trans hB
    cases hc0.symm.trans hc
    exact ⟨_, List.getElem?_set_self (by rw [chp_len]; omega), offW_fs⟩
  · exact ⟨c, by rw [List.getElem?_set_ne e2]; exact h1', offW.rf⟩
end BN
end
