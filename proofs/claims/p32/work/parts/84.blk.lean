/-! A BLOCK MORE: behind a constructor, and the store of its object -/
section BN
variable {g : jG} {bk : aB} {h : jH}
def bkN (bk : aB) (X b : Nat) : aB := fun B => if B = X then some b else bk B
theorem bkN_self {X b : Nat} : bkN bk X b X = some b := by rw [bkN, if_pos rfl]
theorem bkN_ne {X b B : Nat} (h : ¬ B = X) : bkN bk X b B = bk B := by rw [bkN, if_neg h]
theorem bkN_old {X b B c : Nat} (hX : bk X = none) (h : bk B = some c) : bkN bk X b B = some c := by
  rw [bkN_ne]
  · exact h
  · rintro rfl
    rw [hX] at h
    cases h
/-- the fields that may be null for want of block X: that one alone -/
def only3 (X B0 o0 f0 : Nat) : Bool := (List.range TTs.length).all (fun B => (List.range (tyLen TTs B)).all (fun o => match tyAt TTs B o with
  | some (.inr q) => (List.range q.2.length).all (fun k => match q.2[k]? with
    | some t => !(Nat.beq t.1 3 && Nat.beq t.2.2.2.1 X) || (Nat.beq B B0 && Nat.beq o o0 && Nat.beq k f0)
    | none => true)
  | _ => true))
theorem only3_ok {X B0 o0 f0 B o k : Nat} {q : Nat × List aT} {t : aT} (h : only3 X B0 o0 f0 = true) (ht : tyAt TTs B o = some (.inr q)) (hk : q.2[k]? = some t) (h3 : t.1 = 3) (hX : t.2.2.2.1 = X) : B = B0 ∧ o = o0 ∧ k = f0 := by
  have hB : B < TTs.length := by
    rw [tyAt] at ht
    cases hb : TTs[B]? with
    | none => rw [hb] at ht; cases ht
    | some l => exact (List.getElem?_eq_some_iff.mp hb).1
  have h1 := List.all_eq_true.mp (List.all_eq_true.mp h B (List.mem_range.mpr hB)) o (List.mem_range.mpr (tyAt_lt ht))
  rw [ht] at h1
  have h2 := List.all_eq_true.mp h1 k (List.mem_range.mpr (List.getElem?_eq_some_iff.mp hk).1)
  rw [hk] at h2
  simp only [h3, hX, Nat.beq_refl, Bool.and_self, Bool.not_true, Bool.false_or, Bool.and_eq_true] at h2
  exact ⟨Nat.eq_of_beq_eq_true h2.1.1, Nat.eq_of_beq_eq_true h2.1.2, Nat.eq_of_beq_eq_true h2.2⟩
theorem ft_ext {X b : Nat} {t : aT} {v : Value} (hX : bk X = none) (hno : ¬ (t.1 = 3 ∧ t.2.2.2.1 = X)) (hv : ftOK g bk t v) : ftOK g (bkN bk X b) t v := by
  obtain ⟨k, lo, hi, B, o⟩ := t
  match k, hv, hno with
  | 0, hv, _ => exact hv
  | 1, hv, _ => exact hv
  | 2, hv, _ =>
    obtain ⟨c, h1, h2⟩ := hv
    exact ⟨c, bkN_old hX h1, h2⟩
  | 3, hv, hno =>
    rcases hv with ⟨c, h1, h2⟩ | ⟨h1, h2⟩
    · exact Or.inl ⟨c, bkN_old hX h1, h2⟩
    · exact Or.inr ⟨by show bkN bk X b B = none; rw [bkN_ne (fun e => hno ⟨rfl, e⟩)]; exact h1, h2⟩
  | n + 4, hv, _ =>
    rcases hv with ⟨c, h1, h2⟩ | h1
    · exact Or.inl ⟨c, bkN_old hX h1, h2⟩
    · exact Or.inr h1
def no3 (ts : List aCT) : Bool := ts.all (fun t => match t with
  | .inr o => o.2.all (fun q => !Nat.beq q.1 3)
  | _ => true)
theorem BD_new {X : Nat} (hT : HT TTs g bk h) (hD : BD TTs bk) (hX : bk X = none) : BD TTs (bkN bk X h.length) := by
  have old : ∀ B b o, bk B = some b → o < tyLen TTs B → b + o < h.length := fun B b o hB ho => by
    rw [tyLen] at ho
    cases hb : TTs[B]? with
    | none => rw [hb] at ho; exact absurd ho (Nat.not_lt_zero _)
    | some L =>
      rw [hb] at ho
      have ht : tyAt TTs B o = some L[o] := by rw [tyAt, hb]; exact List.getElem?_eq_getElem ho
      obtain ⟨c, h1, -⟩ := hT B b o _ hB ht
      exact (List.getElem?_eq_some_iff.mp h1).1
  intro B B' b b' o o' hB hB' ho ho' he
  by_cases e1 : B = X
  · by_cases e2 : B' = X
    · subst e1
      subst e2
      rw [bkN_self] at hB hB'
      cases hB
      cases hB'
      exact ⟨rfl, by omega⟩
    · rw [bkN_ne e2] at hB'
      subst e1
      rw [bkN_self] at hB
      cases hB
      have := old B' b' o' hB' ho'
      omega
  · rw [bkN_ne e1] at hB
    by_cases e2 : B' = X
    · subst e2
      rw [bkN_self] at hB'
      cases hB'
      have := old B b o hB ho
      omega
    · rw [bkN_ne e2] at hB'
      exact hD B B' b b' o o' hB hB' ho ho' he
theorem HT_new {X B0 o0 f0 b0 ci : Nat} {fs : List Value} {ts : List aCT} {H : List cC} (hT : HT TTs g bk h) (hD : BD TTs bk) (hX : bk X = none) (hts : TTs[X]? = some ts) (hn3 : no3 ts = true) (hH : ctyH X ts H = true) (ho : only3 X B0 o0 f0 = true) (hb0 : bk B0 = some b0) (hc0 : h[b0 + o0]? = some (.inr (ci, fs))) (hf0 : ∃ q t, tyAt TTs B0 o0 = some (.inr q) ∧ q.2[f0]? = some t ∧ t.1 = 3 ∧ t.2.2.2.1 = X ∧ t.2.2.2.2 = 0) :
    HT TTs g (bkN bk X h.length) ((chp g h H).set (b0 + o0) (.inr (ci, fs.set f0 (jad g h.length 0)))) := by
  have hlt0 : b0 + o0 < h.length := (List.getElem?_eq_some_iff.mp hc0).1
  intro B b o t hB ht
  by_cases e1 : B = X
  · subst e1
    rw [bkN_self] at hB
    cases hB
    rw [tyAt, hts] at ht
    obtain ⟨c, h1, h2⟩ := ctyH_ok (g := g) (bk := bkN bk B h.length) (h0 := h) bkN_self (fun o q ho hq B' _ h3 => by
      have := List.all_eq_true.mp (List.all_eq_true.mp hn3 _ ho) q hq
      rw [h3] at this
      cases this) hH ht
    exact ⟨c, by rw [List.getElem?_set_ne (by omega)]; exact h1, h2⟩
  · rw [bkN_ne e1] at hB
    obtain ⟨c, h1, h2⟩ := hT B b o t hB ht
    have hlt : b + o < h.length := (List.getElem?_eq_some_iff.mp h1).1
    have h1' : (chp g h H)[b + o]? = some c := by rw [chp, List.getElem?_append_left hlt]; exact h1
    by_cases e2 : b0 + o0 = b + o
    · obtain ⟨q, t0, z1, z2, z3, z4, z5⟩ := hf0
      obtain ⟨e3, e4⟩ := hD B0 B b0 b o0 o hb0 hB (tyAt_lt z1) (tyAt_lt ht) e2
      subst e3
      subst e4
      cases z1.symm.trans ht
      cases hb0.symm.trans hB
      obtain ⟨fs', rfl, hlen, hfs⟩ := h2
      cases hc0.symm.trans h1
      refine ⟨_, List.getElem?_set_self (by rw [chp, List.length_append]; omega), fs.set f0 (jad g h.length 0), rfl, by rw [List.length_set]; exact hlen, fun k t hk => ?_⟩
      by_cases ek : k = f0
      · subst ek
        cases z2.symm.trans hk
        have hkl : k < fs.length := by rw [hlen]; exact (List.getElem?_eq_some_iff.mp hk).1
        refine ⟨_, List.getElem?_set_self hkl, ?_⟩
        rw [ftOK, z3]
        refine Or.inl ⟨h.length, by rw [z4]; exact bkN_self, by rw [z5]⟩
      · obtain ⟨v, v1, v2⟩ := hfs k t hk
        exact ⟨v, by rw [List.getElem?_set_ne (Ne.symm ek)]; exact v1, ft_ext hX (fun e => ek (only3_ok ho ht hk e.1 e.2).2.2) v2⟩
    · refine ⟨c, by rw [List.getElem?_set_ne e2]; exact h1', ?_⟩
      match t, h2, ht with
      | .inl a, h2, _ => exact h2
      | .inr q, h2, ht =>
        obtain ⟨fs', rfl, hlen, hfs⟩ := h2
        refine ⟨fs', rfl, hlen, fun k t hk => ?_⟩
        obtain ⟨v, v1, v2⟩ := hfs k t hk
        refine ⟨v, v1, ft_ext hX (fun e => e2 ?_) v2⟩
        obtain ⟨e3, e4, -⟩ := only3_ok ho ht hk e.1 e.2
        subst e3
        subst e4
        cases hb0.symm.trans hB
        rfl
theorem UN_new {B0 o0 f0 b0 ci : Nat} {fs : List Value} {v : Value} {H : List cC} (hD : BD TTs bk) (hb0 : bk B0 = some b0) (ho0 : o0 < tyLen TTs B0) (hc0 : h[b0 + o0]? = some (.inr (ci, fs))) : UN TTs [(B0, o0, (f0 : Int), (f0 : Int))] bk h ((chp g h H).set (b0 + o0) (.inr (ci, fs.set f0 v))) := by
  have hlt0 : b0 + o0 < h.length := (List.getElem?_eq_some_iff.mp hc0).1
  refine ⟨by rw [List.length_set, chp_len]; omega, fun B b o c hB ho hc => ?_⟩
  have hlt : b + o < h.length := (List.getElem?_eq_some_iff.mp hc).1
  have h1' : (chp g h H)[b + o]? = some c := by rw [chp, List.getElem?_append_left hlt]; exact hc
  by_cases e2 : b0 + o0 = b + o
  · obtain ⟨e3, e4⟩ := hD B0 B b0 b o0 o hb0 hB ho0 ho e2
    subst e3
    subst e4
    cases hb0.symm.trans hB
    cases hc0.symm.trans hc
    exact ⟨_, List.getElem?_set_self (by rw [chp_len]; omega), offW_fs⟩
  · exact ⟨c, by rw [List.getElem?_set_ne e2]; exact h1', offW.rf⟩
end BN
