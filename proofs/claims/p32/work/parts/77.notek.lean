/-! note keeps its contracts -/
section NK
variable {l : Launch} {g : jG}
theorem nf_at {f : Nat → Int32} {t : Nat} {kind start goal name : Int32} (ht : t < 100) : nf f t kind start goal name (624 + 5 * t) = f 0 ∧ nf f t kind start goal name (624 + 5 * t + 1) = kind ∧ nf f t kind start goal name (624 + 5 * t + 2) = start ∧ nf f t kind start goal name (624 + 5 * t + 3) = goal ∧ nf f t kind start goal name (624 + 5 * t + 4) = name ∧ nf f t kind start goal name 1 = f 1 + Int32.ofInt 1 := by
  refine ⟨?_, ?_, ?_, ?_, ?_, ?_⟩ <;> simp only [nf, upd]
  · rw [if_neg (by omega), if_neg (by omega), if_neg (by omega), if_neg (by omega), if_neg (by omega), if_pos trivial]
  · rw [if_neg (by omega), if_neg (by omega), if_neg (by omega), if_neg (by omega), if_pos trivial]
  · rw [if_neg (by omega), if_neg (by omega), if_neg (by omega), if_pos trivial]
  · rw [if_neg (by omega), if_neg (by omega), if_pos trivial]
  · rw [if_neg (by omega), if_pos trivial]
  · first | rw [if_pos trivial] | rfl
theorem nf_off {f : Nat → Int32} {t i : Nat} {kind start goal name : Int32} (h1 : ¬ i = 1) (h2 : ¬ (624 + 5 * t ≤ i ∧ i ≤ 624 + 5 * t + 4)) : nf f t kind start goal name i = f i := by
  simp only [nf, upd]
  rw [if_neg (by omega), if_neg (by omega), if_neg (by omega), if_neg (by omega), if_neg (by omega), if_neg (by omega)]
theorem ROWs_wf : sgWF ROWs = true := (tySg_ok TTs_sg ty_m1).1
/-- a place of the row that a form names -/
theorem row_at {i : Nat} {x : Int} {F : aF} {vs : List Int} {lo hi : Int} {b : Int × Int} (hb : sgS ROWs F lo hi = some b) (hF : fev vs F = some (i : Int)) (h1 : lo ≤ i) (h2 : (i : Int) ≤ hi) (hx : b.1 ≤ x ∧ x ≤ b.2) : sgOK ROWs i x := sgS_ok ROWs_wf hb hF h1 h2 hx
theorem row_log {t j : Nat} {x : Int} {b : Int × Int} (ht : t < 100) (hb : sgS ROWs ([(0, 5)], (624 + j : Nat)) (624 + j : Nat) (624 + j + 495 : Nat) = some b) (hx : b.1 ≤ x ∧ x ≤ b.2) : sgOK ROWs (624 + 5 * t + j) x :=
  row_at (vs := [(t : Int)]) hb (by show some ((5 * (t : Int) + 0) + ((624 + j : Nat) : Int)) = _; congr 1; omega) (by omega) (by omega) hx
def noteK (ka kb sa sb ga gb : Int) : aK := (245, [some (2, 0, 0, 1, 0), some (0, ka, kb, 0, 0), some (0, sa, sb, 0, 0), some (0, ga, gb, 0, 0), some (0, 0, 999, 0, 0), none], [(1, 1, 1, 0, 1073741823)], [], [(9, 0, 0, 0, 0, [])], [(1, 1, 1, 1, 1073741824)], [([(4, 1), (5, -1)], 1)], [(1, 1, 1, 1), (1, 1, 624, 1123)], 1, 0, 0)
theorem list6 {α : Type} {L : List α} (h : L.length = 6) : ∃ a0 a1 a2 a3 a4 a5, L = [a0, a1, a2, a3, a4, a5] := by
  match L, h with
  | [a0, a1, a2, a3, a4, a5], _ => exact ⟨a0, a1, a2, a3, a4, a5, rfl⟩
set_option maxRecDepth 4000 in
theorem note_ok {n ka kb sa sb ga gb : Int} (hbd : 0 ≤ ka ∧ kb ≤ 7 ∧ -1 ≤ sa ∧ sb ≤ 11 ∧ -1 ≤ ga ∧ gb ≤ 11) (hsem : ∀ k s q : Int, ka ≤ k → k ≤ kb → sa ≤ s → ga ≤ q → ((k = 0 ∨ k = 2 ∨ k = 6) → 0 ≤ q) ∧ (¬ (k = 0 ∨ k = 2 ∨ k = 6) → 0 ≤ s)) : kOK TTs g (EIm n) l (noteK ka kb sa sb ga gb) := by
  intro bk h av ev hT hD hE hb1 hl hn _ hg
  have hn5 : ev.length = 5 := hn
  obtain ⟨g1, g2, g3, g4, g5, g6, g7⟩ := hg
  have hlen : (jal 245 av).length = 6 := (jal_len hl).trans (show jmx 245 = 6 by decide +kernel)
  obtain ⟨a0, a1, a2, a3, a4, a5, hal⟩ := list6 hlen
  have l0 := g4 0 (2, 1, 0) rfl
  have l1 := g4 1 (0, 0, 0) rfl
  have l2 := g4 2 (0, 1, 0) rfl
  have l3 := g4 3 (0, 2, 0) rfl
  have l4 := g4 4 (0, 3, 0) rfl
  have hal2 : jal (noteK ka kb sa sb ga gb).1 av = [a0, a1, a2, a3, a4, a5] := hal
  rw [hal2] at l0 l1 l2 l3 l4
  obtain ⟨w0, e0, b, hb, rfl⟩ := l0
  obtain ⟨w1, e1, kind, rfl, v1⟩ := l1
  obtain ⟨w2, e2, start, rfl, v2⟩ := l2
  obtain ⟨w3, e3, goal, rfl, v3⟩ := l3
  obtain ⟨w4, e4, name, rfl, v4⟩ := l4
  have r0 := Option.some.inj e0
  have r1 := Option.some.inj e1
  have r2 := Option.some.inj e2
  have r3 := Option.some.inj e3
  have r4 := Option.some.inj e4
  clear e0 e1 e2 e3 e4
  subst r0 r1 r2 r3 r4
  have i1 := g1.2 0 (eNew ka kb none) _ rfl v1
  have i2 := g1.2 1 (eNew sa sb none) _ rfl v2
  have i3 := g1.2 2 (eNew ga gb none) _ rfl v3
  have i4 := g1.2 3 (eNew 0 999 none) _ rfl v4
  dsimp only [eNew] at i1 i2 i3 i4
  obtain ⟨z, b', c, x, y1, y2, y3, y4, y5⟩ := g6 (1, 1, fcon 1, 4) List.mem_cons_self
  have i5 := g1.2 4 (eNew 0 1073741823 none) _ rfl y5
  dsimp only [eNew] at i5
  have y2 : bk 1 = some b' := y2
  cases hb.symm.trans y2
  obtain ⟨f, hr, hty⟩ := m_arr hT hb ty_m1
  have y3 : h[b + 1]? = some c := y3
  cases hr.symm.trans y3
  have y1 : some (1 : Int) = some z := y1
  cases y1
  have y4 : (f 1).toInt = x := y4.2
  obtain ⟨fs, ho, hfs⟩ := m_obj hT hb
  obtain ⟨v, hv1, b2, hb2, hv2⟩ := hfs 2 (2, 0, 0, 1, 1) rfl
  cases hb.symm.trans hb2
  subst hv2
  refine jCal_of (show plainName (jyN 245).cls = true by decide +kernel) hl ?_
  rw [hal2]
  generalize ht : ((f 1).toInt % 100).toNat = t
  have htb : t < 100 := by omega
  have hh : (Int32.ofInt 1).toInt = 1 := by decide
  have hadd : (f 1 + Int32.ofInt 1).toInt = x + 1 := by
    have e : f 1 = Int32.ofInt x := by rw [← y4, Int32.ofInt_toInt]
    rw [e, ← Int32.ofInt_add]
    exact i32_ofInt (by omega) (by omega)
  refine note_run (b := b) (f := f) ho hv1 hr (by omega) ?_
  rw [ht]
  obtain ⟨n0, n1, n2, n3, n4, n5⟩ := nf_at (f := f) (kind := kind) (start := start) (goal := goal) (name := name) htb
  have hct : ctOK g bk (.inl (0, 5270, ROWs)) (.inl (0, 5270, nf f t kind start goal name)) := by
    refine ⟨_, rfl, fun i hi => ?_⟩
    by_cases c1 : i = 1
    · subst c1
      rw [n5, hadd]
      exact row_at (vs := []) (F := ([], 1)) (lo := 1) (hi := 1) (b := (0, 1073741824)) (by decide +kernel) rfl (by omega) (by omega) (by dsimp only; omega)
    · by_cases c2 : 624 + 5 * t ≤ i ∧ i ≤ 624 + 5 * t + 4
      · have hm := hty 0 (by omega) (0, 1, 1, [(0, 9999)]) (by decide +kernel) (by decide) (by decide) (0, 9999) rfl
        dsimp only at hm
        have c3 : i = 624 + 5 * t ∨ i = 624 + 5 * t + 1 ∨ i = 624 + 5 * t + 2 ∨ i = 624 + 5 * t + 3 ∨ i = 624 + 5 * t + 4 := by omega
        rcases c3 with rfl | rfl | rfl | rfl | rfl
        · rw [n0]; exact row_log (j := 0) (b := (0, 9999)) htb (by decide +kernel) hm
        · rw [n1]; exact row_log (j := 1) (b := (0, 7)) htb (by decide +kernel) (by dsimp only; omega)
        · rw [n2]; exact row_log (j := 2) (b := (-1, 11)) htb (by decide +kernel) (by dsimp only; omega)
        · rw [n3]; exact row_log (j := 3) (b := (-1, 11)) htb (by decide +kernel) (by dsimp only; omega)
        · rw [n4]; exact row_log (j := 4) (b := (0, 999)) htb (by decide +kernel) (by dsimp only; omega)
      · rw [nf_off c1 c2]
        exact hty i hi
  have hla : b + 1 < h.length := (List.getElem?_eq_some_iff.mp hr).1
  refine ⟨bk, [x + 1], ⟨hT.set hD hb ty_m1 hct, hD, ?_, UN.set hD hb (by decide +kernel) hr ⟨rfl, rfl, fun i hi => ?_⟩, fun B b hB => hB, hb1⟩, ⟨rfl, fun j q z hq hz => ?_⟩, (9, 0, 0, 0, 0, []), List.mem_cons_self, rfl, fun F hF => ?_⟩
  · -- the log
    intro b3 f' F K q1 q2 q3 q4
    cases hb.symm.trans q1
    rw [List.getElem?_set_self hla] at q2
    cases q2
    rw [List.getElem?_set_ne (by omega)] at q3 q4
    obtain ⟨⟨o1, o2⟩, o3⟩ := hE b f F K hb hr q3 q4
    refine ⟨⟨fun k hk => ?_, o2.cg (fun i a1 a2 => nf_off (by omega) (by omega))⟩, o3⟩
    by_cases hkt : k = t
    · subst hkt
      rw [show 0 + 624 + 5 * k + 1 = 624 + 5 * k + 1 by omega, show 0 + 624 + 5 * k + 2 = 624 + 5 * k + 2 by omega, show 0 + 624 + 5 * k + 3 = 624 + 5 * k + 3 by omega, n1, n2, n3]
      exact hsem _ _ _ i1.1 i1.2 i2.1 i3.1
    · rw [nf_off (i := 0 + 624 + 5 * k + 1) (by omega) (by omega), nf_off (i := 0 + 624 + 5 * k + 2) (by omega) (by omega), nf_off (i := 0 + 624 + 5 * k + 3) (by omega) (by omega)]
      exact o1 k hk
  · refine nf_off (fun e => hi ?_) (fun e => hi ?_)
    · subst e
      exact ⟨(1, 1, 1, 1), List.mem_cons_self, rfl, rfl, by decide, by decide⟩
    · exact ⟨(1, 1, 624, 1123), List.mem_cons_of_mem _ List.mem_cons_self, rfl, rfl, by show (624 : Int) ≤ i; omega, by show (i : Int) ≤ 1123; omega⟩
  · match j, hq, hz with
    | 0, hq, hz =>
      cases hq
      cases hz
      refine ⟨by dsimp only; omega, b, _, hb, List.getElem?_set_self hla, by decide, ?_⟩
      show (nf f t kind start goal name 1).toInt = x + 1
      rw [n5, hadd]
    | j + 1, hq, hz => cases hq
  · have hF2 : F = ([(4, 1), (5, -1)], 1) := List.mem_singleton.mp hF
    subst hF2
    refine ⟨0, ?_, by omega⟩
    have z4 : (ev ++ [x + 1])[4]? = some x := getE_app y5
    have z5 : (ev ++ [x + 1])[5]? = some (x + 1) := by rw [List.getElem?_append_right (by omega), hn5]; rfl
    rw [fev_of (fevl_cons (q := (4, 1)) z4 (fevl_cons (q := (5, -1)) z5 (show fevl _ [] = some 0 from rfl)))]
    congr 1
    dsimp only
    omega
end NK
