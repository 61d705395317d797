/-! a new Mender, its told stored -/
section MN
variable {g : jG} {bk : aB} {h : jH}
theorem HT_new2 {X B0 o0 f0 b0 ci : Nat} {fs : List Value} {ts : List aCT} {h1 : jH} (hT : HT TTs g bk h) (hD : BD TTs bk) (hX : bk X = none) (hts : TTs[X]? = some ts) (ho : only3 X B0 o0 f0 = true) (hb0 : bk B0 = some b0) (hc0 : h[b0 + o0]? = some (.inr (ci, fs))) (hf0 : ∃ q t, tyAt TTs B0 o0 = some (.inr q) ∧ q.2[f0]? = some t ∧ t.1 = 3 ∧ t.2.2.2.1 = X ∧ t.2.2.2.2 = 0)
    (hold : ∀ k, k < h.length → ¬ k = b0 + o0 → h1[k]? = h[k]?) (hh : h1[b0 + o0]? = some (.inr (ci, fs.set f0 (jad g h.length 0)))) (hnew : ∀ (o : Nat) (t : aCT), ts[o]? = some t → ∃ c, h1[h.length + o]? = some c ∧ ctOK g (bkN bk X h.length) t c) : HT TTs g (bkN bk X h.length) h1 := by
  have hlt0 : b0 + o0 < h.length := (List.getElem?_eq_some_iff.mp hc0).1
  intro B b o t hB ht
  by_cases e1 : B = X
  · subst e1
    rw [bkN_self] at hB
    cases hB
    rw [tyAt, hts] at ht
    exact hnew o t ht
  · rw [bkN_ne e1] at hB
    obtain ⟨c, h1c, h2⟩ := hT B b o t hB ht
    have hlt : b + o < h.length := (List.getElem?_eq_some_iff.mp h1c).1
    by_cases e2 : b0 + o0 = b + o
    · obtain ⟨q, t0, z1, z2, z3, z4, z5⟩ := hf0
      obtain ⟨e3, e4⟩ := hD B0 B b0 b o0 o hb0 hB (tyAt_lt z1) (tyAt_lt ht) e2
      subst e3
      subst e4
      cases z1.symm.trans ht
      cases hb0.symm.trans hB
      obtain ⟨fs', rfl, hlen, hfs⟩ := h2
      cases hc0.symm.trans h1c
      refine ⟨_, hh, fs.set f0 (jad g h.length 0), rfl, by rw [List.length_set]; exact hlen, fun k t hk => ?_⟩
      by_cases ek : k = f0
      · subst ek
        cases z2.symm.trans hk
        have hkl : k < fs.length := by rw [hlen]; exact (List.getElem?_eq_some_iff.mp hk).1
        refine ⟨_, List.getElem?_set_self hkl, ?_⟩
        rw [ftOK, z3]
        refine Or.inl ⟨h.length, by rw [z4]; exact bkN_self, by rw [z5]⟩
      · obtain ⟨v, v1, v2⟩ := hfs k t hk
        exact ⟨v, by rw [List.getElem?_set_ne (Ne.symm ek)]; exact v1, ft_ext hX (fun e => ek (only3_ok ho ht hk e.1 e.2).2.2) v2⟩
    · refine ⟨c, by rw [hold _ hlt (fun e => e2 e.symm)]; exact h1c, ?_⟩
      match t, h2, ht with
      | .inl a, h2, _ => exact h2
      | .inr q, h2, ht =>
        obtain ⟨fs', rfl, hlen, hfs⟩ := h2
        refine ⟨fs', rfl, hlen, fun k t hk => ?_⟩
        obtain ⟨v, v1, v2⟩ := hfs k t hk
        refine ⟨v, v1, ft_ext hX (fun e => e2 ?_) v2⟩
        obtain ⟨e3, e4, -⟩ := only3_ok ho ht hk e.1 e.2
        subst e3
        subst e4
        cases hb0.symm.trans hB
        rfl
def mT6 : List aT := match TT_6 with
  | .inr q :: _ => q.2
  | _ => []
theorem TT_6_0 : TT_6[0]? = some (.inr (2, mT6)) := rfl
theorem TT_6n_0 : TT_6n[0]? = some (.inr (2, mT6.set 11 (4, 0, 0, 0, 37))) := rfl
theorem TT_6n_s (o : Nat) : TT_6n[o + 1]? = TT_6[o + 1]? := rfl
theorem mT6_11 : mT6[11]? = some (2, 0, 0, 0, 37) := rfl
/-- the heap with the new Mender in its field, and told stored -/
theorem HT_mend {b : Nat} {fs fm : List Value} {H : List cC} (hT : HT TTs g bk h) (hD : BD TTs bk) (h6 : bk 6 = none) (hb : bk 0 = some b) (hc : h[b + 0]? = some (.inr (11, fs))) (hH : ctyH 6 TT_6n H = true) (hm : (chp g h H)[h.length + 0]? = some (.inr (2, fm))) :
    HT TTs g (bkN bk 6 h.length) (((chp g h H).set (b + 0) (.inr (11, fs.set 11 (jad g h.length 0)))).set (h.length + 0) (.inr (2, fm.set 11 (jad g b 37)))) := by
  have hlt0 : b + 0 < h.length := (List.getElem?_eq_some_iff.mp hc).1
  have hltm : h.length + 0 < (chp g h H).length := (List.getElem?_eq_some_iff.mp hm).1
  refine HT_new2 hT hD h6 (ts := TT_6) rfl (by decide +kernel : only3 6 0 0 11 = true) hb hc ⟨(11, (match tyAt TTs 0 0 with | some (.inr q) => q.2 | _ => [])), (3, 0, 0, 6, 0), rfl, rfl, rfl, rfl, rfl⟩ (fun k hk hne => ?_) ?_ (fun o t ht => ?_)
  · rw [List.getElem?_set_ne (by omega), List.getElem?_set_ne (by omega), chp, List.getElem?_append_left hk]
  · rw [List.getElem?_set_ne (by omega)]
    exact List.getElem?_set_self (by omega)
  · have key := fun (o : Nat) (t : aCT) (ht : TT_6n[o]? = some t) => ctyH_ok (g := g) (bk := bkN bk 6 h.length) (h0 := h) bkN_self (fun q r hq hr B' _ h3 => by
      have hn3 : no3 TT_6n = true := by decide +kernel
      have := List.all_eq_true.mp (List.all_eq_true.mp hn3 _ hq) r hr
      rw [h3] at this
      cases this) hH ht
    cases o with
    | zero =>
      rw [TT_6_0] at ht
      cases ht
      obtain ⟨c, k1, fs', rfl, k2, k3⟩ := key 0 _ TT_6n_0
      cases hm.symm.trans k1
      refine ⟨_, List.getElem?_set_self (by rw [List.length_set]; exact hltm), fm.set 11 (jad g b 37), rfl, by rw [List.length_set, k2]; rfl, fun k t hk => ?_⟩
      by_cases ek : k = 11
      · subst ek
        cases mT6_11.symm.trans hk
        have hkl : 11 < fm.length := by rw [k2]; decide +kernel
        exact ⟨_, List.getElem?_set_self hkl, b, bkN_old h6 hb, rfl⟩
      · obtain ⟨v, v1, v2⟩ := k3 k t (by show (mT6.set 11 (4, 0, 0, 0, 37))[k]? = some t; rw [List.getElem?_set_ne (Ne.symm ek)]; exact hk)
        exact ⟨v, by rw [List.getElem?_set_ne (Ne.symm ek)]; exact v1, v2⟩
    | succ o =>
      obtain ⟨c, k1, k2⟩ := key (o + 1) t (by rw [TT_6n_s]; exact ht)
      refine ⟨c, ?_, k2⟩
      rw [List.getElem?_set_ne (by omega), List.getElem?_set_ne (by omega)]
      exact k1
end MN
