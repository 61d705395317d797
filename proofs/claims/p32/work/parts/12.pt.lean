/-! WHAT A STATE OF THE CHECKER SAYS OF THE MACHINE'S -/
theorem getE_app {α : Type} {a b : List α} {i : Nat} {x : α} (h : a[i]? = some x) : (a ++ b)[i]? = some x := by
  rw [List.getElem?_append_left (List.getElem?_eq_some_iff.mp h).1]; exact h
theorem eIv.push {vs : List Int} {env : List aE} {e : aE} {z : Int} (h : eIv vs env) (hz : e.1 ≤ z ∧ z ≤ e.2.1) : eIv (vs ++ [z]) (env ++ [e]) := by
  refine ⟨by simp [h.1], fun i x y hx hy => ?_⟩
  rcases Nat.lt_or_ge i env.length with hl | hl
  · rw [List.getElem?_append_left hl] at hx
    rw [List.getElem?_append_left (by rw [← h.1]; exact hl)] at hy
    exact h.2 i x y hx hy
  · rw [List.getElem?_append_right hl] at hx
    rw [List.getElem?_append_right (by rw [← h.1]; exact hl)] at hy
    have h0 : i - env.length = 0 := by
      have := (List.getElem?_eq_some_iff.mp hx).1
      simp at this
      omega
    rw [h0] at hx
    rw [← h.1, h0] at hy
    cases hx
    cases hy
    exact hz
theorem tgOK.app {vs ws : List Int} {e : aE} {z : Int} (h : tgOK vs e z) : tgOK (vs ++ ws) e z := by
  obtain ⟨h1, h2, h3⟩ := h
  refine ⟨fun q => ?_, fun q => ?_, fun q F hF => ?_⟩
  · rcases h1 q with ⟨a, b⟩ | ⟨a, b, c⟩
    · exact Or.inl ⟨a, fun F hF => by obtain ⟨w, g1, g2⟩ := b F hF; exact ⟨w, fev_app g1, g2⟩⟩
    · exact Or.inr ⟨a, fun F hF => by obtain ⟨w, g1⟩ := b F hF; exact ⟨w, fev_app g1⟩, by obtain ⟨F, hF, w, g1, g2⟩ := c; exact ⟨F, hF, w, fev_app g1, g2⟩⟩
  · obtain ⟨x, g1, g2⟩ := h2 q
    exact ⟨x, getE_app g1, g2⟩
  · obtain ⟨w, g1, g2⟩ := h3 q F hF
    exact ⟨w, fev_app g1, g2⟩
theorem eFm.push {vs : List Int} {env : List aE} {e : aE} {z : Int} (hl : env.length = vs.length) (h : eFm vs env) (hF : ∀ F, e.2.2.1 = some F → fev (vs ++ [z]) F = some z) (ht : tgOK (vs ++ [z]) e z) : eFm (vs ++ [z]) (env ++ [e]) := by
  intro i x y hx hy
  rcases Nat.lt_or_ge i env.length with hlt | hlt
  · rw [List.getElem?_append_left hlt] at hx
    rw [List.getElem?_append_left (by rw [← hl]; exact hlt)] at hy
    obtain ⟨g1, g2⟩ := h i x y hx hy
    exact ⟨fun F hF => fev_app (g1 F hF), g2.app⟩
  · rw [List.getElem?_append_right hlt] at hx
    rw [List.getElem?_append_right (by rw [← hl]; exact hlt)] at hy
    have h0 : i - env.length = 0 := by
      have := (List.getElem?_eq_some_iff.mp hx).1
      simp at this
      omega
    rw [h0] at hx
    rw [← hl, h0] at hy
    cases hx
    cases hy
    exact ⟨hF, ht⟩
theorem fcOK.app {vs ws : List Int} {fc : List aF} (h : fcOK vs fc) : fcOK (vs ++ ws) fc := fun F hF => by
  obtain ⟨z, g1, g2⟩ := h F hF
  exact ⟨z, fev_app g1, g2⟩
theorem loOK.app {g : jG} {vs ws : List Int} {bk : aB} {loc : List (Option aV)} {al : List (Option Value)} (h : loOK g vs bk loc al) : loOK g (vs ++ ws) bk loc al := fun i v hv => by
  obtain ⟨w, g1, g2⟩ := h i v hv
  exact ⟨w, g1, g2.app⟩
theorem ovOK.app {vs ws : List Int} {bk : aB} {h : jH} {ov : List aO} (ho : ovOK vs bk h ov) : ovOK (vs ++ ws) bk h ov := fun q hq => by
  obtain ⟨z, b, c, x, g1, g2, g3, g4, g5⟩ := ho q hq
  exact ⟨z, b, c, x, fev_app g1, g2, g3, g4, getE_app g5⟩
theorem tg0 {vs : List Int} {lo hi z : Int} {F : Option aF} : tgOK vs (eNew lo hi F) z := ⟨(fun q => by cases q), (fun q => by cases q), (fun q => by cases q)⟩
/-- the entries, facts, locals, stack, cells known, blocks: all as they are said -/
def gOK (g : jG) (vs : List Int) (bk : aB) (al : List (Option Value)) (st : List Value) (h : jH) (env : List aE) (fc : List aF) (loc : List (Option aV)) (stk : List aV) (ov : List aO) (pr : List Nat) : Prop :=
  eIv vs env ∧ eFm vs env ∧ fcOK vs fc ∧ loOK g vs bk loc al ∧ skOK g vs bk stk st ∧ ovOK vs bk h ov ∧ ∀ B ∈ pr, ∃ b, bk B = some b
theorem gOK.env {g : jG} {vs : List Int} {bk : aB} {al : List (Option Value)} {st : List Value} {h : jH} {env env' : List aE} {fc fc' : List aF} {loc : List (Option aV)} {stk : List aV} {ov : List aO} {pr : List Nat} (a : gOK g vs bk al st h env fc loc stk ov pr) (h1 : eIv vs env') (h2 : eFm vs env') (h3 : fcOK vs fc') : gOK g vs bk al st h env' fc' loc stk ov pr := ⟨h1, h2, h3, a.2.2.2⟩
/-- a new id: its value's on the stack -/
theorem gOK.push {g : jG} {vs : List Int} {bk : aB} {al : List (Option Value)} {st : List Value} {h : jH} {env : List aE} {fc : List aF} {loc : List (Option aV)} {stk : List aV} {ov : List aO} {pr : List Nat} {k : Nat} {e : aE} {z : Int} {w : Value} (a : gOK g vs bk al st h env fc loc stk ov pr) (hz : e.1 ≤ z ∧ z ≤ e.2.1) (hF : ∀ F, e.2.2.1 = some F → fev vs F = some z) (ht : tgOK vs e z) (hw : (k = 0 ∧ ∃ x : Int32, w = .int x ∧ x.toInt = z) ∨ (k = 1 ∧ ∃ x : Int64, w = .long x ∧ x.toInt = z)) :
    gOK g (vs ++ [z]) bk al (w :: st) h (env ++ [e]) fc loc ((k, env.length, 0) :: stk) ov pr := by
  obtain ⟨a1, a2, a3, a4, a5, a6, a7⟩ := a
  refine ⟨a1.push hz, a2.push a1.1 (fun F q => fev_app (hF F q)) ht.app, a3.app, a4.app, ⟨?_, a5.app⟩, a6.app, a7⟩
  have hv : (vs ++ [z])[env.length]? = some z := by rw [a1.1]; simp
  rcases hw with ⟨rfl, x, rfl, hx⟩ | ⟨rfl, x, rfl, hx⟩
  · exact ⟨x, rfl, by rw [hx]; exact hv⟩
  · exact ⟨x, rfl, by rw [hx]; exact hv⟩
theorem vOK.int {g : jG} {vs : List Int} {bk : aB} {v : aV} {w : Value} (h : vOK g vs bk v w) (hk : Nat.beq v.1 0 = true) : ∃ x : Int32, w = .int x ∧ vs[v.2.1]? = some x.toInt := by
  have h0 : v.1 = 0 := Nat.eq_of_beq_eq_true hk
  simp only [vOK, h0] at h
  exact h
theorem vOK.long {g : jG} {vs : List Int} {bk : aB} {v : aV} {w : Value} (h : vOK g vs bk v w) (hk : Nat.beq v.1 1 = true) : ∃ x : Int64, w = .long x ∧ vs[v.2.1]? = some x.toInt := by
  have h0 : v.1 = 1 := Nat.eq_of_beq_eq_true hk
  simp only [vOK, h0] at h
  exact h
theorem vOK.rf {g : jG} {vs : List Int} {bk : aB} {v : aV} {w : Value} (h : vOK g vs bk v w) (hk : Nat.beq v.1 2 = true) : ∃ b, bk v.2.1 = some b ∧ w = .ref (g.2.2 + (b + v.2.2)) := by
  have h0 : v.1 = 2 := Nat.eq_of_beq_eq_true hk
  simp only [vOK, h0] at h
  exact h
theorem vOK.ge2 {g : jG} {vs : List Int} {bk : aB} {v : aV} {w : Value} (h : vOK g vs bk v w) (hk : Nat.ble 2 v.1 = true) : w = .null ∨ ∃ a, w = .ref a := by
  obtain ⟨k, a, o⟩ := v
  have hk : 2 ≤ k := Nat.le_of_ble_eq_true hk
  match k, h, hk with
  | 2, ⟨b, h1, h2⟩, _ => exact Or.inr ⟨_, h2⟩
  | 3, h, _ => exact Or.inl h
  | k + 4, h, _ =>
    rcases h with ⟨b, h1, h2⟩ | ⟨_, h⟩
    · exact Or.inr ⟨_, h2⟩
    · exact Or.inl h
theorem vOK.cat {g : jG} {vs : List Int} {bk : aB} {v : aV} {w : Value} (h : vOK g vs bk v w) : w.category = (bif Nat.beq v.1 1 then 2 else 1) := by
  obtain ⟨k, a, o⟩ := v
  match k, h with
  | 0, ⟨x, h1, h2⟩ => rw [h1]; rfl
  | 1, ⟨x, h1, h2⟩ => rw [h1]; rfl
  | 2, ⟨b, h1, h2⟩ => rw [h2]; rfl
  | 3, h => rw [show w = .null from h]; rfl
  | k + 4, h =>
    rcases h with ⟨b, h1, h2⟩ | ⟨_, h⟩
    · rw [h2]; rfl
    · rw [h]; rfl
theorem catS_ok {g : jG} {vs : List Int} {bk : aB} : ∀ {t : List aV} {u : List Value}, skOK g vs bk t u → (u.map fun v => v.category).sum = catS t := by
  intro t
  induction t with
  | nil => intro u h; cases u with
    | nil => rfl
    | cons => exact absurd h id
  | cons v t ih => intro u h; cases u with
    | nil => exact absurd h id
    | cons w u =>
      simp only [List.map_cons, List.sum_cons, catS]
      rw [h.1.cat, ih h.2]
/-- arithmetic -/
theorem aSum_ok32 {g : jG} {vs : List Int} {env : List aE} {fc : List aF} {x y : Nat} {a b : Int32} {e : aE} (h1 : eIv vs env) (h2 : eFm vs env) (h3 : fcOK vs fc) (hx : vs[x]? = some a.toInt) (hy : vs[y]? = some b.toInt) (h : aSum (-2147483648 : Int) (2147483647 : Int) env fc x y = some e) : (e.1 ≤ (a + b).toInt ∧ (a + b).toInt ≤ e.2.1) ∧ (∀ F, e.2.2.1 = some F → fev vs F = some (a + b).toInt) ∧ tgOK vs e (a + b).toInt := by
  rw [aSum] at h
  cases q1 : aiv env fc x with
  | none => rw [q1] at h; simp at h
  | some p =>
    cases q2 : aiv env fc y with
    | none => rw [q1, q2] at h; simp at h
    | some r =>
      rw [q1, q2] at h
      dsimp only at h
      have b1 := aiv_ok h1 h2 h3 q1 hx
      have b2 := aiv_ok h1 h2 h3 q2 hy
      cases hc : (decide ((-2147483648 : Int) ≤ p.1 + r.1) && decide (p.2 + r.2 ≤ (2147483647 : Int))) with
      | false =>
        rw [hc] at h
        cases h
        exact ⟨⟨i32_lo _, i32_hi _⟩, (fun F q => by cases q), tg0⟩
      | true =>
        rw [hc] at h
        cases h
        simp only [Bool.and_eq_true, decide_eq_true_eq] at hc
        have e1 := i32_add (x := a) (y := b) (by omega) (by omega)
        rw [e1]
        refine ⟨⟨by show p.1 + r.1 ≤ _; omega, by show _ ≤ p.2 + r.2; omega⟩, fun F q => ?_, tg0⟩
        cases q
        rw [fadd_ok (lin_ok h2 hx) (lin_ok h2 hy)]
        congr 1
        omega
theorem aSum_ok64 {g : jG} {vs : List Int} {env : List aE} {fc : List aF} {x y : Nat} {a b : Int64} {e : aE} (h1 : eIv vs env) (h2 : eFm vs env) (h3 : fcOK vs fc) (hx : vs[x]? = some a.toInt) (hy : vs[y]? = some b.toInt) (h : aSum (-9223372036854775808 : Int) (9223372036854775807 : Int) env fc x y = some e) : (e.1 ≤ (a + b).toInt ∧ (a + b).toInt ≤ e.2.1) ∧ (∀ F, e.2.2.1 = some F → fev vs F = some (a + b).toInt) ∧ tgOK vs e (a + b).toInt := by
  rw [aSum] at h
  cases q1 : aiv env fc x with
  | none => rw [q1] at h; simp at h
  | some p =>
    cases q2 : aiv env fc y with
    | none => rw [q1, q2] at h; simp at h
    | some r =>
      rw [q1, q2] at h
      dsimp only at h
      have b1 := aiv_ok h1 h2 h3 q1 hx
      have b2 := aiv_ok h1 h2 h3 q2 hy
      cases hc : (decide ((-9223372036854775808 : Int) ≤ p.1 + r.1) && decide (p.2 + r.2 ≤ (9223372036854775807 : Int))) with
      | false =>
        rw [hc] at h
        cases h
        exact ⟨⟨i64_lo _, i64_hi _⟩, (fun F q => by cases q), tg0⟩
      | true =>
        rw [hc] at h
        cases h
        simp only [Bool.and_eq_true, decide_eq_true_eq] at hc
        have e1 := i64_add (x := a) (y := b) (by omega) (by omega)
        rw [e1]
        refine ⟨⟨by show p.1 + r.1 ≤ _; omega, by show _ ≤ p.2 + r.2; omega⟩, fun F q => ?_, tg0⟩
        cases q
        rw [fadd_ok (lin_ok h2 hx) (lin_ok h2 hy)]
        congr 1
        omega
