/-! isSo keeps its contracts -/
section SK
variable {l : Launch} {g : jG}
theorem ty_m9 : tyAt TTs 1 9 = some (.inl (0, 12, [(0, 12, 1, [(0, 999)])])) := rfl
theorem ty_m10 : tyAt TTs 1 10 = some (.inl (0, 16, [(0, 16, 1, [(0, 1)])])) := rfl
theorem ty_m11 : tyAt TTs 1 11 = some (.inl (1, 400, [(0, 400, 1, [(0, 1)])])) := rfl
def soK (a k : Nat) : aK := (242, [some (2, 0, 0, 1, 0), some (0, ((a + 1 + 8 * k : Nat) : Int), ((a + 1 + 8 * k : Nat) : Int), 0, 0), none, none, none], [(1, 0, 25, (a : Int), (a : Int)), (1, 1, a, ((k + 1 : Nat) : Int), 16)], [], [(0, 0, 1, 0, 0, [])], [], [], [(1, 11, 0, 399)], 2, 0, 0)
theorem list5 {α : Type} {L : List α} (h : L.length = 5) : ∃ a0 a1 a2 a3 a4, L = [a0, a1, a2, a3, a4] := by
  match L, h with
  | [a0, a1, a2, a3, a4], _ => exact ⟨a0, a1, a2, a3, a4, rfl⟩
/-- places of a text in the row -/
theorem row_cl {f : Nat → Int32} {t k j : Nat} {q : Int × Int} (hty : ∀ i, i < 5270 → sgOK ROWs i (f i).toInt) (ht : t < 2) (hk : k < 16) (hj : j < 8) (hq : [((0 : Int), (1 : Int)), (0, 11), (-2147483648, 2147483647), (0, 1), (0, 15), (0, 400), (0, 400), (-2147483648, 2147483647)][j]? = some q) : q.1 ≤ (f (1130 + 930 * t + 1 + 8 * k + j)).toInt ∧ (f (1130 + 930 * t + 1 + 8 * k + j)).toInt ≤ q.2 := by
  have h2 : t = 0 ∨ t = 1 := by omega
  rcases h2 with rfl | rfl
  · exact hty (1130 + 930 * 0 + 1 + 8 * k + j) (by omega) (1131, 128, 8, [(0, 1), (0, 11), (-2147483648, 2147483647), (0, 1), (0, 15), (0, 400), (0, 400), (-2147483648, 2147483647)]) (by decide +kernel) (by show 1131 ≤ _; omega) (by show _ < 1131 + 128; omega) q (by show [((0 : Int), (1 : Int)), (0, 11), (-2147483648, 2147483647), (0, 1), (0, 15), (0, 400), (0, 400), (-2147483648, 2147483647)][(1130 + 930 * 0 + 1 + 8 * k + j - 1131) % 8]? = some q; rw [show (1130 + 930 * 0 + 1 + 8 * k + j - 1131) % 8 = j by omega]; exact hq)
  · exact hty (1130 + 930 * 1 + 1 + 8 * k + j) (by omega) (2061, 128, 8, [(0, 1), (0, 11), (-2147483648, 2147483647), (0, 1), (0, 15), (0, 400), (0, 400), (-2147483648, 2147483647)]) (by decide +kernel) (by show 2061 ≤ _; omega) (by show _ < 2061 + 128; omega) q (by show [((0 : Int), (1 : Int)), (0, 11), (-2147483648, 2147483647), (0, 1), (0, 15), (0, 400), (0, 400), (-2147483648, 2147483647)][(1130 + 930 * 1 + 1 + 8 * k + j - 2061) % 8]? = some q; rw [show (1130 + 930 * 1 + 1 + 8 * k + j - 2061) % 8 = j by omega]; exact hq)
theorem row_cd {f : Nat → Int32} {t p : Nat} (hty : ∀ i, i < 5270 → sgOK ROWs i (f i).toInt) (ht : t < 2) (hp : p < 400) : 0 ≤ (f (1130 + 930 * t + 130 + 2 * p + 1)).toInt ∧ (f (1130 + 930 * t + 130 + 2 * p + 1)).toInt ≤ 15 := by
  have h2 : t = 0 ∨ t = 1 := by omega
  rcases h2 with rfl | rfl
  · exact hty (1130 + 930 * 0 + 130 + 2 * p + 1) (by omega) (1260, 800, 2, [(0, 13), (0, 15)]) (by decide +kernel) (by show 1260 ≤ _; omega) (by show _ < 1260 + 800; omega) (0, 15) (by show [((0 : Int), (13 : Int)), (0, 15)][(1130 + 930 * 0 + 130 + 2 * p + 1 - 1260) % 2]? = _; rw [show (1130 + 930 * 0 + 130 + 2 * p + 1 - 1260) % 2 = 1 by omega]; rfl)
  · exact hty (1130 + 930 * 1 + 130 + 2 * p + 1) (by omega) (2190, 800, 2, [(0, 13), (0, 15)]) (by decide +kernel) (by show 2190 ≤ _; omega) (by show _ < 2190 + 800; omega) (0, 15) (by show [((0 : Int), (13 : Int)), (0, 15)][(1130 + 930 * 1 + 130 + 2 * p + 1 - 2190) % 2]? = _; rw [show (1130 + 930 * 1 + 130 + 2 * p + 1 - 2190) % 2 = 1 by omega]; rfl)
theorem so_ok {n : Int} {t k : Nat} (ht : t < 2) (hk : k < 16) : kOK TTs g (EIm n) l (soK (1130 + 930 * t) k) := by
  intro bk h av ev hT hD hE hb1 hl hn _ hg
  obtain ⟨g1, g2, g3, g4, g5, g6, g7⟩ := hg
  have hlen : (jal 242 av).length = 5 := (jal_len hl).trans (show jmx 242 = 5 by decide +kernel)
  obtain ⟨a0, a1, a2, a3, a4, hal⟩ := list5 hlen
  have l0 := g4 0 (2, 1, 0) rfl
  have l1 := g4 1 (0, 0, 0) rfl
  have hal2 : jal (soK (1130 + 930 * t) k).1 av = [a0, a1, a2, a3, a4] := hal
  rw [hal2] at l0 l1
  obtain ⟨w0, e0, b, hb, rfl⟩ := l0
  obtain ⟨w1, e1, cc, rfl, v1⟩ := l1
  have r0 := Option.some.inj e0
  have r1 := Option.some.inj e1
  clear e0 e1
  subst r0 r1
  have hb : bk 1 = some b := hb
  have i1 := g1.2 0 (eNew ((1130 + 930 * t + 1 + 8 * k : Nat) : Int) ((1130 + 930 * t + 1 + 8 * k : Nat) : Int) none) _ rfl v1
  dsimp only [eNew] at i1
  generalize ha : 1130 + 930 * t = a at i1
  have hcc : cc = Int32.ofInt ((a + 1 + 8 * k : Nat) : Int) := by rw [show ((a + 1 + 8 * k : Nat) : Int) = cc.toInt by omega, Int32.ofInt_toInt]
  -- by
  obtain ⟨z, b', c, x, y1, y2, y3, y4, y5⟩ := g6 (1, 0, fcon 25, 1) List.mem_cons_self
  have i5 := g1.2 1 (eNew ((1130 + 930 * t : Nat) : Int) ((1130 + 930 * t : Nat) : Int) none) _ rfl y5
  dsimp only [eNew] at i5
  rw [ha] at i5
  have y2 : bk 1 = some b' := y2
  cases hb.symm.trans y2
  obtain ⟨fs, ho, hfs⟩ := m_obj hT hb
  have y3 : h[b]? = some c := y3
  cases ho.symm.trans y3
  have y1 : some (25 : Int) = some z := y1
  cases y1
  obtain ⟨-, byv, hby, hbx⟩ := y4
  have hby : fs[25]? = some (.int byv) := hby
  have hby2 : byv = Int32.ofInt (a : Int) := by rw [show (a : Int) = byv.toInt by omega, Int32.ofInt_toInt]
  -- the row
  obtain ⟨f, hr, hty⟩ := m_arr hT hb ty_m1
  obtain ⟨z2, b2, c2, x2, u1, u2, u3, u4, u5⟩ := g6 (1, 1, fcon ((1130 + 930 * t : Nat) : Int), 2) (List.mem_cons_of_mem _ List.mem_cons_self)
  have i6 := g1.2 2 (eNew ((k + 1 : Nat) : Int) 16 none) _ rfl u5
  dsimp only [eNew] at i6
  have u2 : bk 1 = some b2 := u2
  cases hb.symm.trans u2
  have u3 : h[b + 1]? = some c2 := u3
  cases hr.symm.trans u3
  have u1 : some (((1130 + 930 * t : Nat) : Int)) = some z2 := fcon_ok.symm.trans u1
  cases u1
  have u4 : (f ((1130 + 930 * t : Nat) : Int).toNat).toInt = x2 := u4.2
  rw [show ((1130 + 930 * t : Nat) : Int).toNat = a by omega] at u4
  obtain ⟨F, hrF, -⟩ := m_arr hT hb ty_m2
  obtain ⟨K, hrK, -⟩ := m_arr hT hb ty_m3
  obtain ⟨na, hna, -⟩ := m_arr hT hb ty_m9
  obtain ⟨bu, hbu, -⟩ := m_arr hT hb ty_m10
  obtain ⟨so, hso, htso⟩ := m_arr hT hb ty_m11
  have fld : ∀ (q o : Nat), mTs[q]? = some (2, 0, 0, 1, o) → fs[q]? = some (.ref (g.2.2 + (b + o))) := fun q o hq => by
    obtain ⟨v, q1, b3, y3, z3⟩ := hfs q _ hq
    have y3 : bk 1 = some b3 := y3
    cases hb.symm.trans y3
    rw [q1, z3]
    rfl
  have f2 := fld 2 1 rfl
  have f22 := fld 22 9 rfl
  have f23 := fld 23 10 rfl
  have f24 := fld 24 11 rfl
  have hcd := (hE b f F K hb hr hrF hrK).1.2.1 t ht k hk
  have b5 := row_cl (q := (0, 400)) hty ht hk (j := 5) (by omega) rfl
  have b6 := row_cl (q := (0, 400)) hty ht hk (j := 6) (by omega) rfl
  have hcd2 := fun p hp => row_cd (p := p) hty ht hp
  rw [show 0 + 1130 + 930 * t = a by omega] at hcd
  rw [ha] at b5 b6 hcd2
  dsimp only at b5 b6
  obtain ⟨s0, hs0⟩ : ∃ s0 : Nat, (f (a + 1 + 8 * k + 5)).toInt = (s0 : Int) := ⟨(f (a + 1 + 8 * k + 5)).toInt.toNat, by omega⟩
  obtain ⟨e0, he0⟩ : ∃ e0 : Nat, (f (a + 1 + 8 * k + 6)).toInt = (e0 : Int) := ⟨(f (a + 1 + 8 * k + 6)).toInt.toNat, by omega⟩
  have hdep := hcd (by omega) s0 e0 hs0 he0 (by omega)
  have hlb : b + 11 < h.length := (List.getElem?_eq_some_iff.mp hso).1
  have hbool : ∀ i, i < 400 → so i = 0 ∨ so i = 1 := fun i hi => by
    have := htso i hi (0, 400, 1, [(0, 1)]) List.mem_cons_self (Nat.zero_le _) (by show i < 0 + 400; omega) (0, 1) (by show [((0 : Int), (1 : Int))][(i - 0) % 1]? = _; rw [Nat.mod_one]; rfl)
    dsimp only at this
    have h01 : (so i).toInt = 0 ∨ (so i).toInt = 1 := by omega
    rcases h01 with q | q
    · exact Or.inl ((i32_eqv (z := 0) (by omega)).mpr q)
    · exact Or.inr ((i32_eqv (z := 1) (by omega)).mpr q)
  have hQ : ∀ (s : Nat → Int32) (r : Int32), bs so s → (r = 0 ∨ r = 1) → kPost TTs g (EIm n) (soK a k) bk h ev (some (.int r)) (h.set (b + 11) (.inl (1, 400, s))) := by
    intro s r hs hr1
    have hct : ctOK g bk (.inl (1, 400, [(0, 400, 1, [(0, 1)])])) (.inl (1, 400, s)) := ⟨_, rfl, fun i hi p hp _ _ q hq => by
      have e := List.mem_singleton.mp hp
      subst e
      have hq2 := List.mem_singleton.mp (List.mem_of_getElem? hq)
      subst hq2
      rcases hs.1 i hi with e | e <;> rw [e] <;> decide⟩
    have U1 : UN TTs [(1, 11, 0, 399)] bk h (h.set (b + 11) (.inl (1, 400, s))) := UN.set hD hb (by decide +kernel) hso ⟨rfl, rfl, fun i hi => by
      refine hs.2 i (Nat.le_of_not_lt fun q => hi ?_)
      exact ⟨(1, 11, 0, 399), List.mem_cons_self, rfl, rfl, by show (0 : Int) ≤ i; omega, by show (i : Int) ≤ 399; omega⟩⟩
    have hT' := hT.set hD hb ty_m11 hct
    refine ⟨bk, [], ⟨hT', hD, EIm_ok bk h _ [(1, 11, 0, 399)] (by decide +kernel) U1 (by rw [List.length_set]) hT hT' hE, U1, fun B b hB => hB, hb1⟩, ⟨rfl, fun j q z hq => by cases hq⟩, (0, 0, 1, 0, 0, []), List.mem_cons_self, r, rfl, ?_, Or.inl rfl, fun F hF => absurd hF List.not_mem_nil⟩
    rcases hr1 with e | e <;> rw [e] <;> decide
  refine jCal_of (show plainName (jyN 242).cls = true by decide +kernel) hl ?_
  rw [show jal (soK a k).1 av = [some (.ref (g.2.2 + b)), some (.int cc), a2, a3, a4] from hal, hcc]
  have hcls : jcN 12 = (jyN 242).cls := by decide +kernel
  have c5 : (Int32.ofInt ((a + 1 + 8 * k : Nat) : Int) + Int32.ofInt 5).toInt = ((a + 1 + 8 * k + 5 : Nat) : Int) := by
    rw [← Int32.ofInt_add, i32_ofInt (by omega) (by omega)]
    omega
  have hs32 : f (a + 1 + 8 * k + 5) = Int32.ofInt (s0 : Int) := by rw [← hs0, Int32.ofInt_toInt]
  show J l g 242 2 0 [some (.ref (g.2.2 + b)), some (.int (Int32.ofInt ((a + 1 + 8 * k : Nat) : Int))), a2, a3, a4] [] h 0 0 _
  refine j_iconst (n := 0) (by decide +kernel) ?_
  refine j_istore_n (k4 := 2) (by decide +kernel) (by decide +kernel) ?_
  refine j_aload_n (k4 := 0) (by decide +kernel) rfl ?_
  refine j_get (own := 12) (i := 7) (ci := 12) (f := 2) (by decide +kernel) hcls (by decide +kernel) ho (hnf 2 (by decide)) f2 ?_
  refine j_iload_n (k4 := 1) (by decide +kernel) rfl ?_
  refine j_iconst (n := 5) (by decide +kernel) ?_
  refine j_iadd (by decide +kernel) ?_
  refine j_iald (by decide +kernel) hr (i32_in (by omega) (by omega)) ?_
  rw [i32_at c5, hs32]
  refine j_istore_n (k4 := 3) (by decide +kernel) (by decide +kernel) ?_
  have hlp := so_loop (l := l) (d := 2) (kc := 0) (ks := 0) (c := a + 1 + 8 * k) (by omega) (by omega) (by omega) he0 hby2 hty hcd2 ho f2 f22 f23 f24 hby hr hna hbu hlb (by omega) hQ (e0 - s0) s0 0 so a4 rfl (by omega) (Nat.zero_le _) hdep ⟨hbool, fun _ _ => rfl⟩
  obtain ⟨q1, q2⟩ := List.getElem?_eq_some_iff.mp hso
  rw [show h.set (b + 11) (.inl (1, 400, so)) = h by rw [← q2]; exact List.set_getElem_self q1] at hlp
  exact hlp
end SK
