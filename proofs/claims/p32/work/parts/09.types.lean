/-! TYPES of the heap's cells, by blocks: a block's cells stand one behind another. A field's type (kind, lo, hi, B, o): 0 int, 1 long, 2 the cell o of block B, 3 that, or null where block B isn't there, 4 that or null. An array's: (type, length, segments (start, length, period, bounds by residue)). -/
abbrev aT : Type := Nat × Int × Int × Nat × Nat
abbrev aSeg : Type := Nat × Nat × Nat × List (Int × Int)
abbrev aCT : Type := (Nat × Nat × List aSeg) ⊕ (Nat × List aT)
abbrev aB : Type := Nat → Option Nat
/-- written places: (B, o, lo, hi) -/
abbrev aR : Type := Nat × Nat × Int × Int
def jad (g : jG) (b o : Nat) : Value := .ref (g.2.2 + (b + o))
def ftOK (g : jG) (bk : aB) (t : aT) (v : Value) : Prop := match t.1 with
  | 0 => ∃ x : Int32, v = .int x ∧ t.2.1 ≤ x.toInt ∧ x.toInt ≤ t.2.2.1
  | 1 => ∃ x : Int64, v = .long x ∧ t.2.1 ≤ x.toInt ∧ x.toInt ≤ t.2.2.1
  | 2 => ∃ b, bk t.2.2.2.1 = some b ∧ v = jad g b t.2.2.2.2
  | 3 => (∃ b, bk t.2.2.2.1 = some b ∧ v = jad g b t.2.2.2.2) ∨ (bk t.2.2.2.1 = none ∧ v = .null)
  | _ => (∃ b, bk t.2.2.2.1 = some b ∧ v = jad g b t.2.2.2.2) ∨ v = .null
def sgOK (sg : List aSeg) (i : Nat) (x : Int) : Prop := ∀ s ∈ sg, s.1 ≤ i → i < s.1 + s.2.1 → ∀ q, s.2.2.2[(i - s.1) % s.2.2.1]? = some q → q.1 ≤ x ∧ x ≤ q.2
def ctOK (g : jG) (bk : aB) (t : aCT) (c : jC) : Prop := match t with
  | .inl a => ∃ f, c = .inl (a.1, a.2.1, f) ∧ ∀ i, i < a.2.1 → sgOK a.2.2 i (f i).toInt
  | .inr o => ∃ fs, c = .inr (o.1, fs) ∧ fs.length = o.2.length ∧ ∀ (k : Nat) (t : aT), o.2[k]? = some t → ∃ v, fs[k]? = some v ∧ ftOK g bk t v
def tyAt (TT : List (List aCT)) (B o : Nat) : Option aCT := match TT[B]? with
  | some l => l[o]?
  | none => none
def tyLen (TT : List (List aCT)) (B : Nat) : Nat := match TT[B]? with
  | some l => l.length
  | none => 0
def HT (TT : List (List aCT)) (g : jG) (bk : aB) (h : jH) : Prop := ∀ (B b o : Nat) (t : aCT), bk B = some b → tyAt TT B o = some t → ∃ c, h[b + o]? = some c ∧ ctOK g bk t c
def BD (TT : List (List aCT)) (bk : aB) : Prop := ∀ (B B' b b' o o' : Nat), bk B = some b → bk B' = some b' → o < tyLen TT B → o' < tyLen TT B' → b + o = b' + o' → B = B' ∧ o = o'
def inW (W : List aR) (B o : Nat) (i : Nat) : Prop := ∃ w ∈ W, w.1 = B ∧ w.2.1 = o ∧ w.2.2.1 ≤ i ∧ (i : Int) ≤ w.2.2.2
def offW (W : List aR) (B o : Nat) (c c' : jC) : Prop := match c, c' with
  | .inl a, .inl a' => a'.1 = a.1 ∧ a'.2.1 = a.2.1 ∧ ∀ i : Nat, ¬ inW W B o i → a'.2.2 i = a.2.2 i
  | .inr a, .inr a' => a'.1 = a.1 ∧ a'.2.length = a.2.length ∧ ∀ i : Nat, ¬ inW W B o i → a'.2[i]? = a.2[i]?
  | _, _ => False
theorem offW.rf {W : List aR} {B o : Nat} {c : jC} : offW W B o c c := by
  cases c with
  | inl a => exact ⟨rfl, rfl, fun _ _ => rfl⟩
  | inr a => exact ⟨rfl, rfl, fun _ _ => rfl⟩
theorem offW.tr {W : List aR} {B o : Nat} {a b c : jC} (h1 : offW W B o a b) (h2 : offW W B o b c) : offW W B o a c := by
  cases a with
  | inl a => cases b with
    | inl b => cases c with
      | inl c => exact ⟨h2.1.trans h1.1, h2.2.1.trans h1.2.1, fun i hi => (h2.2.2 i hi).trans (h1.2.2 i hi)⟩
      | inr c => exact absurd h2 id
    | inr b => exact absurd h1 id
  | inr a => cases b with
    | inl b => exact absurd h1 id
    | inr b => cases c with
      | inl c => exact absurd h2 id
      | inr c => exact ⟨h2.1.trans h1.1, h2.2.1.trans h1.2.1, fun i hi => (h2.2.2 i hi).trans (h1.2.2 i hi)⟩
theorem offW.mono {W W' : List aR} {B o : Nat} {a b : jC} (h : offW W B o a b) (hw : ∀ i, inW W B o i → inW W' B o i) : offW W' B o a b := by
  cases a with
  | inl a => cases b with
    | inl b => exact ⟨h.1, h.2.1, fun i hi => h.2.2 i (fun q => hi (hw i q))⟩
    | inr b => exact absurd h id
  | inr a => cases b with
    | inl b => exact absurd h id
    | inr b => exact ⟨h.1, h.2.1, fun i hi => h.2.2 i (fun q => hi (hw i q))⟩
def UN (TT : List (List aCT)) (W : List aR) (bk : aB) (h h' : jH) : Prop := h.length ≤ h'.length ∧ ∀ (B b o : Nat) (c : jC), bk B = some b → o < tyLen TT B → h[b + o]? = some c → ∃ c', h'[b + o]? = some c' ∧ offW W B o c c'
theorem UN.rf {TT : List (List aCT)} {W : List aR} {bk : aB} {h : jH} : UN TT W bk h h := ⟨Nat.le_refl _, fun _ _ _ c _ _ hc => ⟨c, hc, offW.rf⟩⟩
theorem UN.tr {TT : List (List aCT)} {W : List aR} {bk bk' : aB} {h h1 h2 : jH} (a : UN TT W bk h h1) (hb : ∀ B b, bk B = some b → bk' B = some b) (b : UN TT W bk' h1 h2) : UN TT W bk h h2 :=
  ⟨Nat.le_trans a.1 b.1, fun B b0 o c hB ho hc => by
    obtain ⟨c1, g1, g2⟩ := a.2 B b0 o c hB ho hc
    obtain ⟨c2, g3, g4⟩ := b.2 B b0 o c1 (hb B b0 hB) ho g1
    exact ⟨c2, g3, g2.tr g4⟩⟩
/-- W's places lie within W's -/
def subW (W W' : List aR) : Bool := W.all (fun w => W'.any (fun v => Nat.beq v.1 w.1 && Nat.beq v.2.1 w.2.1 && decide (v.2.2.1 ≤ w.2.2.1) && decide (w.2.2.2 ≤ v.2.2.2)))
theorem subW_ok {W W' : List aR} (h : subW W W' = true) {B o i : Nat} (hi : inW W B o i) : inW W' B o i := by
  obtain ⟨w, hw, h1, h2, h3, h4⟩ := hi
  have h5 := List.all_eq_true.mp h w hw
  obtain ⟨v, hv, h6⟩ := List.any_eq_true.mp h5
  simp only [Bool.and_eq_true, decide_eq_true_eq] at h6
  obtain ⟨⟨⟨g1, g2⟩, g3⟩, g4⟩ := h6
  exact ⟨v, hv, (Nat.eq_of_beq_eq_true g1).trans h1, (Nat.eq_of_beq_eq_true g2).trans h2, by omega, by omega⟩
theorem UN.mono {TT : List (List aCT)} {W W' : List aR} {bk : aB} {h h' : jH} (a : UN TT W bk h h') (hw : subW W W' = true) : UN TT W' bk h h' :=
  ⟨a.1, fun B b o c hB ho hc => by
    obtain ⟨c', g1, g2⟩ := a.2 B b o c hB ho hc
    exact ⟨c', g1, g2.mono (fun i hi => subW_ok hw hi)⟩⟩
/-- W's places are apart from P's -/
def apW (W P : List aR) : Bool := W.all (fun w => P.all (fun v => !(Nat.beq v.1 w.1 && Nat.beq v.2.1 w.2.1 && decide (v.2.2.1 ≤ w.2.2.2) && decide (w.2.2.1 ≤ v.2.2.2))))
theorem tyAt_lt {TT : List (List aCT)} {B o : Nat} {t : aCT} (h : tyAt TT B o = some t) : o < tyLen TT B := by
  rw [tyAt] at h
  rw [tyLen]
  cases h1 : TT[B]? with
  | none => rw [h1] at h; cases h
  | some l => rw [h1] at h; exact (List.getElem?_eq_some_iff.mp h).1
/-- a cell becomes another one of its type -/
theorem HT.set {TT : List (List aCT)} {g : jG} {bk : aB} {h : jH} {B b o : Nat} {t : aCT} {c : jC} (hT : HT TT g bk h) (hD : BD TT bk) (hb : bk B = some b) (ht : tyAt TT B o = some t) (hc : ctOK g bk t c) : HT TT g bk (h.set (b + o) c) := by
  intro B' b' o' t' hB' ht'
  obtain ⟨c', g1, g2⟩ := hT B' b' o' t' hB' ht'
  by_cases he : b + o = b' + o'
  · obtain ⟨e1, e2⟩ := hD B B' b b' o o' hb hB' (tyAt_lt ht) (tyAt_lt ht') he
    subst e1
    subst e2
    cases hb.symm.trans hB'
    cases ht.symm.trans ht'
    exact ⟨c, List.getElem?_set_self (List.getElem?_eq_some_iff.mp g1).1, hc⟩
  · exact ⟨c', by rw [List.getElem?_set_ne he]; exact g1, g2⟩
theorem UN.set {TT : List (List aCT)} {bk : aB} {h : jH} {B b o : Nat} {c c' : jC} {W : List aR} (hD : BD TT bk) (hb : bk B = some b) (ho : o < tyLen TT B) (hc : h[b + o]? = some c) (hoff : offW W B o c c') : UN TT W bk h (h.set (b + o) c') := by
  refine ⟨by rw [List.length_set]; exact Nat.le_refl _, fun B2 b2 o2 c2 hB2 ho2 hc2 => ?_⟩
  by_cases he : b + o = b2 + o2
  · obtain ⟨e1, e2⟩ := hD B B2 b b2 o o2 hb hB2 ho ho2 he
    subst e1
    subst e2
    cases hb.symm.trans hB2
    cases hc.symm.trans hc2
    exact ⟨c', List.getElem?_set_self (List.getElem?_eq_some_iff.mp hc).1, hoff⟩
  · exact ⟨c2, by rw [List.getElem?_set_ne he]; exact hc2, offW.rf⟩
/-! abstract values: (0, id, _) int; (1, id, _) long; (2, B, o) a cell; (3, _, _) null; (4, B, o) that cell, or null where block B isn't there -/
abbrev aV : Type := Nat × Nat × Nat
def vOK (g : jG) (vs : List Int) (bk : aB) (v : aV) (w : Value) : Prop := match v.1 with
  | 0 => ∃ x : Int32, w = .int x ∧ vs[v.2.1]? = some x.toInt
  | 1 => ∃ x : Int64, w = .long x ∧ vs[v.2.1]? = some x.toInt
  | 2 => ∃ b, bk v.2.1 = some b ∧ w = jad g b v.2.2
  | 3 => w = .null
  | _ => (∃ b, bk v.2.1 = some b ∧ w = jad g b v.2.2) ∨ (bk v.2.1 = none ∧ w = .null)
theorem vOK.app {g : jG} {vs ws : List Int} {bk : aB} {v : aV} {w : Value} (h : vOK g vs bk v w) : vOK g (vs ++ ws) bk v w := by
  obtain ⟨k, a, o⟩ := v
  match k, h with
  | 0, ⟨x, h1, h2⟩ => exact ⟨x, h1, by rw [List.getElem?_append_left (List.getElem?_eq_some_iff.mp h2).1]; exact h2⟩
  | 1, ⟨x, h1, h2⟩ => exact ⟨x, h1, by rw [List.getElem?_append_left (List.getElem?_eq_some_iff.mp h2).1]; exact h2⟩
  | 2, h => exact h
  | 3, h => exact h
  | k + 4, h => exact h
theorem vOK.ext {g : jG} {vs : List Int} {bk bk' : aB} {v : aV} {w : Value} (hb : ∀ B b, bk B = some b → bk' B = some b) (h4 : Nat.ble v.1 3 = true) (h : vOK g vs bk v w) : vOK g vs bk' v w := by
  obtain ⟨k, a, o⟩ := v
  have h4 : k ≤ 3 := Nat.le_of_ble_eq_true h4
  match k, h, h4 with
  | 0, h, _ => exact h
  | 1, h, _ => exact h
  | 2, ⟨b, h1, h2⟩, _ => exact ⟨b, hb _ _ h1, h2⟩
  | 3, h, _ => exact h
  | k + 4, h, h4 => omega
/-- cells known: (B, o, the place's form, id) -/
abbrev aO : Type := Nat × Nat × aF × Nat
def plAt (c : jC) (z x : Int) : Prop := match c with
  | .inl a => 0 ≤ z ∧ (a.2.2 z.toNat).toInt = x
  | .inr a => 0 ≤ z ∧ ∃ w : Int32, a.2[z.toNat]? = some (.int w) ∧ w.toInt = x
def ovOK (vs : List Int) (bk : aB) (h : jH) (ov : List aO) : Prop := ∀ q ∈ ov, ∃ (z : Int) (b : Nat) (c : jC) (x : Int), fev vs q.2.2.1 = some z ∧ bk q.1 = some b ∧ h[b + q.2.1]? = some c ∧ plAt c z x ∧ vs[q.2.2.2]? = some x
/-- (entries, facts, locals, stack, cells known, blocks that are there) -/
abbrev aS : Type := List aE × List aF × List (Option aV) × List aV × List aO × List Nat
def loOK (g : jG) (vs : List Int) (bk : aB) (loc : List (Option aV)) (al : List (Option Value)) : Prop := ∀ (i : Nat) (v : aV), loc[i]? = some (some v) → ∃ w, al[i]? = some (some w) ∧ vOK g vs bk v w
def skOK (g : jG) (vs : List Int) (bk : aB) : List aV → List Value → Prop
  | [], [] => True
  | v :: t, w :: u => vOK g vs bk v w ∧ skOK g vs bk t u
  | _, _ => False
theorem skOK.app {g : jG} {vs ws : List Int} {bk : aB} : ∀ {t : List aV} {u : List Value}, skOK g vs bk t u → skOK g (vs ++ ws) bk t u := by
  intro t
  induction t with
  | nil => intro u h; cases u with
    | nil => trivial
    | cons => exact h
  | cons v t ih => intro u h; cases u with
    | nil => exact h
    | cons w u => exact ⟨h.1.app, ih h.2⟩
theorem skOK.ext {g : jG} {vs : List Int} {bk bk' : aB} (hb : ∀ B b, bk B = some b → bk' B = some b) : ∀ {t : List aV} {u : List Value}, t.all (fun v => Nat.ble v.1 3) = true → skOK g vs bk t u → skOK g vs bk' t u := by
  intro t
  induction t with
  | nil => intro u _ h; cases u with
    | nil => trivial
    | cons => exact h
  | cons v t ih => intro u h4 h; cases u with
    | nil => exact h
    | cons w u =>
      simp only [List.all_cons, Bool.and_eq_true] at h4
      exact ⟨h.1.ext hb h4.1, ih h4.2 h.2⟩
/-- locals of which nothing is said but what stays so when blocks come -/
def lo4 (loc : List (Option aV)) : List (Option aV) := loc.map (fun z => match z with
  | some v => bif Nat.ble v.1 3 then some v else none
  | none => none)
theorem loOK.ext {g : jG} {vs : List Int} {bk bk' : aB} {loc : List (Option aV)} {al : List (Option Value)} (hb : ∀ B b, bk B = some b → bk' B = some b) (h : loOK g vs bk loc al) : loOK g vs bk' (lo4 loc) al := by
  intro i v hv
  rw [lo4, List.getElem?_map] at hv
  cases hl : loc[i]? with
  | none => rw [hl] at hv; cases hv
  | some z =>
    rw [hl] at hv
    cases z with
    | none => cases hv
    | some u =>
      have hv : (bif Nat.ble u.1 3 then some u else none) = some v := Option.some.inj hv
      cases h4 : Nat.ble u.1 3 with
      | false => rw [h4] at hv; cases hv
      | true =>
        rw [h4] at hv
        have huv : u = v := Option.some.inj hv
        obtain ⟨w, g1, g2⟩ := h i u hl
        rw [← huv]
        exact ⟨w, g1, g2.ext hb h4⟩
