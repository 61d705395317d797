/-! NEW BLOCKS: what a constructor leaves is of its types -/
def inB (q : Int × Int) (z : Int) : Bool := decide (q.1 ≤ z) && decide (z ≤ q.2)
def sgU (s : aSeg) (w : Nat × Nat × Int) : Bool := Nat.ble (w.1 + w.2.1) s.1 || Nat.ble (s.1 + s.2.1) w.1 || (bif Nat.beq w.2.1 1 then (match s.2.2.2[(w.1 - s.1) % s.2.2.1]? with
  | some q => inB q w.2.2
  | none => true) else s.2.2.2.all (fun q => inB q w.2.2))
def sgC (s : aSeg) (d : Int) : List (Nat × Nat × Int) → Bool
  | [] => s.2.2.2.all (fun q => inB q d)
  | w :: t => sgU s w && ((Nat.ble w.1 s.1 && Nat.ble (s.1 + s.2.1) (w.1 + w.2.1)) || sgC s d t)
theorem inB_ok {q : Int × Int} {z : Int} (h : inB q z = true) : q.1 ≤ z ∧ z ≤ q.2 := by
  simp only [inB, Bool.and_eq_true, decide_eq_true_eq] at h
  exact h
theorem sgC_ok {s : aSeg} {d : Int} {i : Nat} {q : Int × Int} (h1 : s.1 ≤ i) (h2 : i < s.1 + s.2.1) (hq : s.2.2.2[(i - s.1) % s.2.2.1]? = some q) : ∀ (u : List (Nat × Nat × Int)), sgC s d u = true → q.1 ≤ clook d u i ∧ clook d u i ≤ q.2 := by
  intro u
  induction u with
  | nil =>
    intro h
    exact inB_ok (List.all_eq_true.mp h q (List.mem_of_getElem? hq))
  | cons w t ih =>
    intro h
    rw [sgC, Bool.and_eq_true] at h
    rw [clook]
    cases hb : (Nat.ble w.1 i && Nat.blt i (w.1 + w.2.1)) with
    | true =>
      simp only [cond_true]
      rw [Bool.and_eq_true] at hb
      have b1 := Nat.le_of_ble_eq_true hb.1
      have b2 := blt_lt hb.2
      have h3 := h.1
      rw [sgU, Bool.or_eq_true, Bool.or_eq_true] at h3
      rcases h3 with (h3 | h3) | h3
      · have := Nat.le_of_ble_eq_true h3
        omega
      · have := Nat.le_of_ble_eq_true h3
        omega
      · cases ho : Nat.beq w.2.1 1 with
        | true =>
          rw [ho] at h3
          simp only [cond_true] at h3
          have e := Nat.eq_of_beq_eq_true ho
          have e2 : w.1 = i := by omega
          rw [e2, hq] at h3
          exact inB_ok h3
        | false =>
          rw [ho] at h3
          simp only [cond_false] at h3
          exact inB_ok (List.all_eq_true.mp h3 q (List.mem_of_getElem? hq))
    | false =>
      simp only [cond_false]
      have h4 := h.2
      rw [Bool.or_eq_true, Bool.and_eq_true] at h4
      rcases h4 with ⟨h4, h5⟩ | h4
      · exfalso
        have a1 := Nat.le_of_ble_eq_true h4
        have a2 := Nat.le_of_ble_eq_true h5
        have : (Nat.ble w.1 i && Nat.blt i (w.1 + w.2.1)) = true := by
          rw [Bool.and_eq_true]
          exact ⟨Nat.ble_eq_true_of_le (by omega), Nat.ble_eq_true_of_le (by omega)⟩
        rw [this] at hb
        cases hb
      · exact ih h4
/-- B: the block; nl: fields of blocks that aren't there may be null -/
def ctyF (B : Nat) (t : aT) (v : cV) : Bool := match t.1 with
  | 0 => Nat.beq v.1 0 && cin v.2 && inB (t.2.1, t.2.2.1) v.2
  | 1 => Nat.beq v.1 3 && Nat.beq v.2.natAbs 0 && inB (t.2.1, t.2.2.1) 0
  | 2 => Nat.beq v.1 1 && Nat.beq t.2.2.2.1 B && Nat.beq v.2.toNat t.2.2.2.2
  | 3 => Nat.beq v.1 2 && Nat.ble 2 t.2.2.2.1
  | _ => Nat.beq v.1 2
def ctyC (B : Nat) (t : aCT) (c : cC) : Bool := match t, c with
  | .inl a, .inl b => Nat.beq a.1 b.1 && Nat.beq a.2.1 b.2.1 && cin b.2.2.1 && b.2.2.2.all (fun w => cin w.2.2) && a.2.2.all (fun s => sgC s b.2.2.1 b.2.2.2)
  | .inr o, .inr p => Nat.beq o.1 p.1 && Nat.beq o.2.length p.2.length && (List.range o.2.length).all (fun k => match o.2[k]?, p.2[k]? with
    | some t, some v => ctyF B t v
    | _, _ => false)
  | _, _ => false
def ctyH (B : Nat) (ts : List aCT) (H : List cC) : Bool := Nat.beq ts.length H.length && (List.range ts.length).all (fun k => match ts[k]?, H[k]? with
  | some t, some c => ctyC B t c
  | _, _ => false)
theorem clook_cin {d : Int} {u : List (Nat × Nat × Int)} (h1 : cin d = true) (h2 : u.all (fun w => cin w.2.2) = true) (i : Nat) : cin (clook d u i) = true := by
  induction u with
  | nil => exact h1
  | cons w t ih =>
    rw [List.all_cons, Bool.and_eq_true] at h2
    rw [clook]
    cases (Nat.ble w.1 i && Nat.blt i (w.1 + w.2.1)) with
    | true => exact h2.1
    | false => exact ih h2.2
section CI
variable {g : jG} {bk : aB} {B b0 : Nat}
theorem ctyF_ok {t : aT} {v : cV} (hB : bk B = some b0) (hab : ∀ B', 2 ≤ B' → t.1 = 3 → bk B' = none) (h : ctyF B t v = true) : ftOK g bk t (cval g b0 v) := by
  obtain ⟨k, lo, hi, B2, o2⟩ := t
  match k, h, hab with
  | 0, h, _ =>
    simp only [ctyF, Bool.and_eq_true] at h
    obtain ⟨⟨a1, a2⟩, a3⟩ := h
    rw [cv0 a1]
    have a4 := inB_ok a3
    exact ⟨_, rfl, by rw [cin_ok a2]; exact a4.1, by rw [cin_ok a2]; exact a4.2⟩
  | 1, h, _ =>
    simp only [ctyF, Bool.and_eq_true] at h
    obtain ⟨⟨a1, a2⟩, a3⟩ := h
    have e1 := Nat.eq_of_beq_eq_true a1
    have e2 := Nat.eq_of_beq_eq_true a2
    have e3 : v.2 = 0 := by omega
    have a4 := inB_ok a3
    refine ⟨0, ?_, a4.1, a4.2⟩
    rw [cval, e1, e3]
    rfl
  | 2, h, _ =>
    simp only [ctyF, Bool.and_eq_true] at h
    obtain ⟨⟨a1, a2⟩, a3⟩ := h
    have e1 := Nat.eq_of_beq_eq_true a2
    have e2 := Nat.eq_of_beq_eq_true a3
    rw [cv1 a1, e2]
    exact ⟨b0, by show bk B2 = _; rw [show B2 = B from e1]; exact hB, rfl⟩
  | 3, h, hab =>
    simp only [ctyF, Bool.and_eq_true] at h
    have e1 := Nat.eq_of_beq_eq_true h.1
    refine Or.inr ⟨hab _ (Nat.le_of_ble_eq_true h.2) rfl, ?_⟩
    rw [cval, e1]
    rfl
  | n + 4, h, _ =>
    have e1 : v.1 = 2 := Nat.eq_of_beq_eq_true h
    refine Or.inr ?_
    rw [cval, e1]
    rfl
theorem ctyC_ok {t : aCT} {c : cC} (hB : bk B = some b0) (hab : ∀ (o : Nat × List aT) (q : aT), t = .inr o → q ∈ o.2 → ∀ B', 2 ≤ B' → q.1 = 3 → bk B' = none) (h : ctyC B t c = true) : ctOK g bk t (ccel g b0 c) := by
  match t, c, h, hab with
  | .inl a, .inl b, h, _ =>
    simp only [ctyC, Bool.and_eq_true] at h
    obtain ⟨⟨⟨⟨a1, a2⟩, a3⟩, a4⟩, a5⟩ := h
    have e1 := Nat.eq_of_beq_eq_true a1
    have e2 := Nat.eq_of_beq_eq_true a2
    refine ⟨fun i => if i < b.2.1 then Int32.ofInt (clook b.2.2.1 b.2.2.2 i) else 0, ?_, fun i hi => ?_⟩
    · rw [e1, e2]
      rfl
    · intro s hs h1 h2 q hq
      dsimp only
      rw [if_pos (by omega), cin_ok (clook_cin a3 a4 i)]
      exact sgC_ok h1 h2 hq _ (List.all_eq_true.mp a5 s hs)
  | .inr o, .inr p, h, hab =>
    simp only [ctyC, Bool.and_eq_true] at h
    obtain ⟨⟨a1, a2⟩, a3⟩ := h
    have e1 := Nat.eq_of_beq_eq_true a1
    have e2 := Nat.eq_of_beq_eq_true a2
    refine ⟨p.2.map (cval g b0), ?_, by rw [List.length_map]; exact e2.symm, fun k t hk => ?_⟩
    · rw [e1]
      rfl
    · have hlt : k < o.2.length := (List.getElem?_eq_some_iff.mp hk).1
      have h4 := List.all_eq_true.mp a3 k (List.mem_range.mpr hlt)
      rw [hk] at h4
      split at h4
      · rename_i t' v' ht' hv'
        cases ht'
        exact ⟨cval g b0 v', by rw [List.getElem?_map, hv']; rfl, ctyF_ok hB (hab o t rfl (List.mem_of_getElem? hk)) h4⟩
      · cases h4
  | .inl _, .inr _, h, _ => cases h
  | .inr _, .inl _, h, _ => cases h
theorem ctyH_ok {ts : List aCT} {H : List cC} {h0 : jH} {o : Nat} {t : aCT} (hB : bk B = some h0.length) (hab : ∀ (o : Nat × List aT) (q : aT), .inr o ∈ ts → q ∈ o.2 → ∀ B', 2 ≤ B' → q.1 = 3 → bk B' = none) (h : ctyH B ts H = true) (ht : ts[o]? = some t) : ∃ c, (chp g h0 H)[h0.length + o]? = some c ∧ ctOK g bk t c := by
  simp only [ctyH, Bool.and_eq_true] at h
  have hlt : o < ts.length := (List.getElem?_eq_some_iff.mp ht).1
  have h4 := List.all_eq_true.mp h.2 o (List.mem_range.mpr hlt)
  rw [ht] at h4
  split at h4
  · rename_i t' c hc1 hc
    cases hc1
    exact ⟨_, chp_get hc, ctyC_ok hB (fun q r he hr => hab q r (by rw [← he]; exact List.mem_of_getElem? ht) hr) h4⟩
  · cases h4
end CI
