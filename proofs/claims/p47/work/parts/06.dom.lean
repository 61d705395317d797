section
/-! THE CHECKER'S DOMAIN: values have numbers (ids); an id has bounds, maybe a linear form over other ids; facts are linear forms that aren't negative. -/
abbrev aF : Type := List (Nat × Int) × Int
def fevl (vs : List Int) : List (Nat × Int) → Option Int
  | [] => some 0
  | q :: t => match vs[q.1]?, fevl vs t with
    | some z, some r => some (q.2 * z + r)
    | _, _ => none
def fev (vs : List Int) (F : aF) : Option Int := (fevl vs F.1).map (fun r => r + F.2)
def fins (i : Nat) (c : Int) : List (Nat × Int) → List (Nat × Int)
  | [] => [(i, c)]
  | q :: t => bif Nat.beq i q.1 then (bif decide (c + q.2 = 0) then t else (i, c + q.2) :: t) else bif Nat.blt i q.1 then (i, c) :: q :: t else q :: fins i c t
def faddl (m : Int) (F : List (Nat × Int)) : List (Nat × Int) → List (Nat × Int)
  | [] => F
  | q :: t => fins q.1 (m * q.2) (faddl m F t)
/-- F + m G -/
def fadd (m : Int) (F G : aF) : aF := (faddl m F.1 G.1, F.2 + m * G.2)
def fmul (m : Int) (F : aF) : aF := (F.1.map (fun q => (q.1, m * q.2)), m * F.2)
def fcon (c : Int) : aF := ([], c)
/-- bounds, form, tag (0 none; 1 a test: 1 if all forms hold, else 0; 2 the quotient of id by c; 3 a comparison's form) -/
abbrev aE : Type := Int × Int × Option aF × Nat × Nat × Int × List aF
def flbl (env : List aE) : List (Nat × Int) → Option Int
  | [] => some 0
  | q :: t => match env[q.1]?, flbl env t with
    | some e, some r => some ((bif decide (0 ≤ q.2) then q.2 * e.1 else q.2 * e.2.1) + r)
    | _, _ => none
def flb (env : List aE) (F : aF) : Option Int := (flbl env F.1).map (fun r => r + F.2)
theorem fevl_some {vs : List Int} {q : Nat × Int} {t : List (Nat × Int)} {z : Int} (h : fevl vs (q :: t) = some z) : ∃ x r, vs[q.1]? = some x ∧ fevl vs t = some r ∧ z = q.2 * x + r := by
  rw [fevl] at h
  cases h1 : vs[q.1]? with
  | none => rw [h1] at h; simp at h
  | some x =>
    cases h2 : fevl vs t with
    | none => rw [h1, h2] at h; simp at h
    | some r => rw [h1, h2] at h; exact ⟨x, r, rfl, rfl, (Option.some.inj h).symm⟩
theorem fevl_cons {vs : List Int} {q : Nat × Int} {t : List (Nat × Int)} {x r : Int} (h1 : vs[q.1]? = some x) (h2 : fevl vs t = some r) : fevl vs (q :: t) = some (q.2 * x + r) := by
  rw [fevl, h1, h2]
theorem fins_ok {vs : List Int} {i : Nat} {c x : Int} (hx : vs[i]? = some x) : ∀ (l : List (Nat × Int)) (r : Int), fevl vs l = some r → fevl vs (fins i c l) = some (c * x + r) := by
  intro l
  induction l with
  | nil => intro r h; rw [fins]; exact fevl_cons hx h
  | cons q t ih =>
    intro r h
    obtain ⟨x2, r2, h1, h2, rfl⟩ := fevl_some h
    rw [fins]
    cases hb : Nat.beq i q.1 with
    | true =>
      have hi : i = q.1 := Nat.eq_of_beq_eq_true hb
      rw [← hi] at h1
      cases hx.symm.trans h1
      simp only [cond_true]
      by_cases hz : c + q.2 = 0
      · simp only [hz, decide_true, cond_true]
        rw [h2]
        congr 1
        have : c * x + (q.2 * x + r2) = (c + q.2) * x + r2 := by rw [Int.add_mul]; omega
        rw [this, hz]; omega
      · simp only [hz, decide_false, cond_false]
        rw [fevl_cons (q := (i, c + q.2)) hx h2]
        congr 1
        show (c + q.2) * x + r2 = _
        rw [Int.add_mul]; omega
    | false =>
      simp only [cond_false]
      cases hl : Nat.blt i q.1 with
      | true =>
        simp only [cond_true]
        exact fevl_cons (q := (i, c)) hx h
      | false =>
        simp only [cond_false]
        rw [fevl_cons h1 (ih r2 h2)]
        congr 1
        omega
theorem faddl_ok {vs : List Int} {m : Int} {F : List (Nat × Int)} {a : Int} (hF : fevl vs F = some a) : ∀ (G : List (Nat × Int)) (b : Int), fevl vs G = some b → fevl vs (faddl m F G) = some (a + m * b) := by
  intro G
  induction G with
  | nil => intro b h; rw [fevl] at h; cases h; rw [faddl, hF]; simp
  | cons q t ih =>
    intro b h
    obtain ⟨x, r, h1, h2, rfl⟩ := fevl_some h
    rw [faddl, fins_ok h1 _ _ (ih r h2)]
    congr 1
    rw [Int.mul_add, Int.mul_assoc]; omega
theorem fev_some {vs : List Int} {F : aF} {z : Int} (h : fev vs F = some z) : ∃ r, fevl vs F.1 = some r ∧ z = r + F.2 := by
  rw [fev] at h
  cases h1 : fevl vs F.1 with
  | none => rw [h1] at h; simp at h
  | some r => rw [h1] at h; exact ⟨r, rfl, by simpa using h.symm⟩
theorem fev_of {vs : List Int} {F : aF} {r : Int} (h : fevl vs F.1 = some r) : fev vs F = some (r + F.2) := by rw [fev, h]; rfl
theorem fadd_ok {vs : List Int} {m : Int} {F G : aF} {a b : Int} (hF : fev vs F = some a) (hG : fev vs G = some b) : fev vs (fadd m F G) = some (a + m * b) := by
  obtain ⟨r, h1, rfl⟩ := fev_some hF
  obtain ⟨r2, h2, rfl⟩ := fev_some hG
  rw [fadd, fev_of (faddl_ok h1 _ _ h2)]
  congr 1
  show r + m * r2 + (F.2 + m * G.2) = _
  rw [Int.mul_add]; omega
theorem fmul_ok {vs : List Int} {m : Int} {F : aF} {a : Int} (hF : fev vs F = some a) : fev vs (fmul m F) = some (m * a) := by
  obtain ⟨r, h1, rfl⟩ := fev_some hF
  have key : ∀ (l : List (Nat × Int)) (r : Int), fevl vs l = some r → fevl vs (l.map (fun q => (q.1, m * q.2))) = some (m * r) := by
    intro l
    induction l with
    | nil => intro r h; rw [fevl] at h; cases h; simp [fevl]
    | cons q t ih =>
      intro r h
      obtain ⟨x, r2, h1, h2, rfl⟩ := fevl_some h
      rw [List.map_cons, fevl_cons (q := (q.1, m * q.2)) h1 (ih r2 h2)]
      congr 1
      show m * q.2 * x + m * r2 = _
      rw [Int.mul_add, Int.mul_assoc]
  rw [fmul, fev_of (key _ _ h1)]
  congr 1
  show m * r + m * F.2 = _
  rw [Int.mul_add]
theorem fcon_ok {vs : List Int} {c : Int} : fev vs (fcon c) = some c := by simp [fcon, fev, fevl]
/-- more values: what had a value keeps it -/
theorem fev_app {vs ws : List Int} {F : aF} {z : Int} (h : fev vs F = some z) : fev (vs ++ ws) F = some z := by
  obtain ⟨r, h1, rfl⟩ := fev_some h
  have key : ∀ (l : List (Nat × Int)) (r : Int), fevl vs l = some r → fevl (vs ++ ws) l = some r := by
    intro l
    induction l with
    | nil => intro r h; exact h
    | cons q t ih =>
      intro r h
      obtain ⟨x, r2, h1, h2, rfl⟩ := fevl_some h
      refine fevl_cons ?_ (ih r2 h2)
      rw [List.getElem?_append_left ((List.getElem?_eq_some_iff.mp h1).1)]
      exact h1
  exact fev_of (key _ _ h1)
/-- an entry and its value -/
def eIv (vs : List Int) (env : List aE) : Prop := env.length = vs.length ∧ ∀ (i : Nat) (e : aE) (z : Int), env[i]? = some e → vs[i]? = some z → e.1 ≤ z ∧ z ≤ e.2.1
theorem flbl_ok {vs : List Int} {env : List aE} (hE : eIv vs env) : ∀ (l : List (Nat × Int)) (b : Int), flbl env l = some b → ∃ z, fevl vs l = some z ∧ b ≤ z := by
  intro l
  induction l with
  | nil => intro b h; rw [flbl] at h; cases h; exact ⟨0, rfl, Int.le_refl _⟩
  | cons q t ih =>
    intro b h
    rw [flbl] at h
    cases h1 : env[q.1]? with
    | none => rw [h1] at h; simp at h
    | some e =>
      cases h2 : flbl env t with
      | none => rw [h1, h2] at h; simp at h
      | some r =>
        rw [h1, h2] at h
        have h := (Option.some.inj h).symm
        obtain ⟨z, hz, hzr⟩ := ih r h2
        have hlt : q.1 < vs.length := by rw [← hE.1]; exact (List.getElem?_eq_some_iff.mp h1).1
        have hx : vs[q.1]? = some vs[q.1] := List.getElem?_eq_getElem hlt
        obtain ⟨g1, g2⟩ := hE.2 q.1 e _ h1 hx
        refine ⟨_, fevl_cons hx hz, ?_⟩
        rw [h]
        by_cases hq : 0 ≤ q.2
        · simp only [hq, decide_true, cond_true]
          have := Int.mul_le_mul_of_nonneg_left g1 hq
          omega
        · simp only [hq, decide_false, cond_false]
          have := Int.mul_le_mul_of_nonpos_left (a := q.2) (by omega) g2
          omega
theorem flb_ok {vs : List Int} {env : List aE} (hE : eIv vs env) {F : aF} {b : Int} (h : flb env F = some b) : ∃ z, fev vs F = some z ∧ b ≤ z := by
  rw [flb] at h
  cases h1 : flbl env F.1 with
  | none => rw [h1] at h; simp at h
  | some r =>
    rw [h1] at h
    have h : b = r + F.2 := by simpa using h.symm
    obtain ⟨z, hz, hr⟩ := flbl_ok hE _ _ h1
    exact ⟨_, fev_of hz, by omega⟩
/-- facts hold -/
def fcOK (vs : List Int) (fc : List aF) : Prop := ∀ F ∈ fc, ∃ z, fev vs F = some z ∧ 0 ≤ z
def fco (l : List (Nat × Int)) (i : Nat) : Int := match l with
  | [] => 0
  | q :: t => bif Nat.beq q.1 i then q.2 else fco t i
def entm (env : List aE) (F G : aF) (m : Int) : Bool := match flb env (fadd (-1) (fmul m F) G) with
  | some b => decide (-m < b)
  | none => false
def entr (env : List aE) (F G : aF) : Bool := match G.1 with
  | [] => false
  | q :: _ => bif decide (q.2 = 0) then false else
    bif decide (fco F.1 q.1 % q.2 = 0) && decide (1 < fco F.1 q.1 / q.2) then
      (match flb env (fadd (-(fco F.1 q.1 / q.2)) F G) with
      | some b => decide (0 ≤ b)
      | none => false)
    else false
/-- F isn't negative -/
def ent (env : List aE) (fc : List aF) (F : aF) : Bool := match flb env F with
  | some b => decide (0 ≤ b) || fc.any (fun G => entm env F G 1 || entm env F G 2 || entm env F G 3 || entr env F G)
  | none => false
theorem ent_ok {vs : List Int} {env : List aE} {fc : List aF} (hE : eIv vs env) (hC : fcOK vs fc) {F : aF} (h : ent env fc F = true) : ∃ z, fev vs F = some z ∧ 0 ≤ z := by
  rw [ent] at h
  cases h1 : flb env F with
  | none => rw [h1] at h; simp at h
  | some b =>
    rw [h1] at h
    obtain ⟨z, hz, hb⟩ := flb_ok hE h1
    refine ⟨z, hz, ?_⟩
    simp only [Bool.or_eq_true, decide_eq_true_eq, List.any_eq_true] at h
    rcases h with h | ⟨G, hG, h⟩
    · omega
    · obtain ⟨y, hy, hy0⟩ := hC G hG
      have em : ∀ m : Int, 0 < m → entm env F G m = true → 0 ≤ z := by
        intro m hm he
        rw [entm] at he
        cases h2 : flb env (fadd (-1) (fmul m F) G) with
        | none => rw [h2] at he; simp at he
        | some b2 =>
          rw [h2] at he
          have he : -m < b2 := by simpa using he
          obtain ⟨w, hw, hbw⟩ := flb_ok hE h2
          rw [fadd_ok (fmul_ok hz) hy] at hw
          have hw : w = m * z + -1 * y := (Option.some.inj hw).symm
          by_cases hz0 : 0 ≤ z
          · exact hz0
          · exfalso
            have h3 : m * z ≤ m * (-1) := Int.mul_le_mul_of_nonneg_left (by omega) (by omega)
            omega
      rcases h with ((h | h) | h) | h
      · exact em 1 (by decide) h
      · exact em 2 (by decide) h
      · exact em 3 (by decide) h
      · rw [entr] at h
        cases hG1 : G.1 with
        | nil => rw [hG1] at h; simp at h
        | cons q t =>
          rw [hG1] at h
          dsimp only at h
          cases hq : decide (q.2 = 0) with
          | true => rw [hq] at h; simp at h
          | false =>
            rw [hq] at h
            simp only [cond_false] at h
            cases hr : (decide (fco F.1 q.1 % q.2 = 0) && decide (1 < fco F.1 q.1 / q.2)) with
            | false => rw [hr] at h; simp at h
            | true =>
              rw [hr] at h
              simp only [cond_true] at h
              cases h2 : flb env (fadd (-(fco F.1 q.1 / q.2)) F G) with
              | none => rw [h2] at h; simp at h
              | some b2 =>
                rw [h2] at h
                have h : 0 ≤ b2 := by simpa using h
                obtain ⟨w, hw, hbw⟩ := flb_ok hE h2
                rw [fadd_ok hz hy] at hw
                have hw : w = z + -(fco F.1 q.1 / q.2) * y := (Option.some.inj hw).symm
                simp only [Bool.and_eq_true, decide_eq_true_eq] at hr
                have h4 : 0 ≤ (fco F.1 q.1 / q.2) * y := Int.mul_nonneg (by omega) hy0
                rw [Int.neg_mul] at hw
                omega
/-- F isn't negative, by two facts at once -/
def ent2 (env : List aE) (fc : List aF) (F : aF) : Bool := ent env fc F || fc.any (fun G => fc.any (fun G2 => match flb env (fadd (-1) (fadd (-1) F G) G2) with
  | some b => decide (0 ≤ b)
  | none => false))
theorem ent2_ok {vs : List Int} {env : List aE} {fc : List aF} (hE : eIv vs env) (hC : fcOK vs fc) {F : aF} {z : Int} (hz : fev vs F = some z) (h : ent2 env fc F = true) : 0 ≤ z := by
  rw [ent2, Bool.or_eq_true] at h
  rcases h with h | h
  · obtain ⟨w, h1, h2⟩ := ent_ok hE hC h
    cases hz.symm.trans h1
    exact h2
  · obtain ⟨G, hG, h⟩ := List.any_eq_true.mp h
    obtain ⟨G2, hG2, h⟩ := List.any_eq_true.mp h
    obtain ⟨y, hy, hy0⟩ := hC G hG
    obtain ⟨x, hx, hx0⟩ := hC G2 hG2
    cases h2 : flb env (fadd (-1) (fadd (-1) F G) G2) with
    | none => rw [h2] at h; cases h
    | some b =>
      rw [h2] at h
      have h3 : 0 ≤ b := by simpa using h
      obtain ⟨w, hw, hbw⟩ := flb_ok hE h2
      rw [fadd_ok (fadd_ok hz hy) hx] at hw
      have hw2 := Option.some.inj hw
      omega
end
section
/-! what an entry's form and tag say -/
def tgOK (vs : List Int) (e : aE) (z : Int) : Prop :=
  (e.2.2.2.1 = 1 → (z = 1 ∧ ∀ F ∈ e.2.2.2.2.2.2, ∃ w, fev vs F = some w ∧ 0 ≤ w) ∨ (z = 0 ∧ (∀ F ∈ e.2.2.2.2.2.2, ∃ w, fev vs F = some w) ∧ ∃ F ∈ e.2.2.2.2.2.2, ∃ w, fev vs F = some w ∧ w < 0)) ∧
  (e.2.2.2.1 = 2 → ∃ x, vs[e.2.2.2.2.1]? = some x ∧ 0 ≤ x ∧ 0 < e.2.2.2.2.2.1 ∧ z = x / e.2.2.2.2.2.1) ∧
  (e.2.2.2.1 = 3 → ∀ F ∈ e.2.2.2.2.2.2, ∃ w, fev vs F = some w ∧ ((0 < w ∧ z = 1) ∨ (w = 0 ∧ z = 0) ∨ (w < 0 ∧ z = -1)))
def eFm (vs : List Int) (env : List aE) : Prop := ∀ (i : Nat) (e : aE) (z : Int), env[i]? = some e → vs[i]? = some z → (∀ F, e.2.2.1 = some F → fev vs F = some z) ∧ tgOK vs e z
def lin (env : List aE) (i : Nat) : aF := match env[i]? with
  | some e => (match e.2.2.1 with | some F => F | none => ([(i, 1)], 0))
  | none => ([(i, 1)], 0)
theorem fone_ok {vs : List Int} {i : Nat} {z : Int} (h : vs[i]? = some z) : fev vs ([(i, 1)], 0) = some z := by
  rw [fev_of (fevl_cons (q := (i, 1)) h (show fevl vs [] = some 0 from rfl))]
  congr 1
  show 1 * z + 0 + 0 = z
  omega
theorem lin_ok {vs : List Int} {env : List aE} (hF : eFm vs env) {i : Nat} {z : Int} (h : vs[i]? = some z) : fev vs (lin env i) = some z := by
  rw [lin]
  cases h1 : env[i]? with
  | none => exact fone_ok h
  | some e =>
    dsimp only
    cases h2 : e.2.2.1 with
    | none => exact fone_ok h
    | some F => exact (hF i e z h1 h).1 F h2
/-- one id's bounds, F not negative; none: it can't be -/
def tgt1 (env : List aE) (F : aF) (q : Nat × Int) : Option (List aE) := match env[q.1]?, flb env (fmul (-1) (fadd (-1) F ([q], 0))) with
  | some e, some nb =>
    bif decide (0 < q.2) then
      (bif decide (e.2.1 < -((-nb) / q.2)) then none else bif decide (e.1 < -((-nb) / q.2)) then some (env.set q.1 (-((-nb) / q.2), e.2)) else some env)
    else bif decide (q.2 < 0) then
      (bif decide ((-nb) / (-q.2) < e.1) then none else bif decide ((-nb) / (-q.2) < e.2.1) then some (env.set q.1 (e.1, (-nb) / (-q.2), e.2.2)) else some env)
    else some env
  | _, _ => some env
def eSame (env env' : List aE) : Prop := env'.length = env.length ∧ ∀ (i : Nat) (e' : aE), env'[i]? = some e' → ∃ e, env[i]? = some e ∧ e'.2.2 = e.2.2
theorem eSame.rf {env : List aE} : eSame env env := ⟨rfl, fun _ e h => ⟨e, h, rfl⟩⟩
theorem eSame.tr {a b c : List aE} (h1 : eSame a b) (h2 : eSame b c) : eSame a c := ⟨h2.1.trans h1.1, fun i e h => by
  obtain ⟨e1, g1, g2⟩ := h2.2 i e h
  obtain ⟨e0, g3, g4⟩ := h1.2 i e1 g1
  exact ⟨e0, g3, g2.trans g4⟩⟩
theorem eSame.set {env : List aE} {i : Nat} {e e' : aE} (h : env[i]? = some e) (h2 : e'.2.2 = e.2.2) : eSame env (env.set i e') := by
  refine ⟨List.length_set .., fun j x hx => ?_⟩
  by_cases hj : i = j
  · subst hj
    rw [List.getElem?_set_self (List.getElem?_eq_some_iff.mp h).1] at hx
    cases hx
    exact ⟨e, h, h2⟩
  · rw [List.getElem?_set_ne hj] at hx
    exact ⟨x, hx, rfl⟩
theorem eFm.same {vs : List Int} {env env' : List aE} (h : eFm vs env) (hs : eSame env env') : eFm vs env' := fun i e z he hz => by
  obtain ⟨e0, h0, h1⟩ := hs.2 i e he
  obtain ⟨g1, g2, g3, g4⟩ := h i e0 z h0 hz
  refine ⟨fun F hF => g1 F (by rw [← h1]; exact hF), ?_, ?_, ?_⟩
  · rw [h1]; exact g2
  · rw [h1]; exact g3
  · rw [h1]; exact g4
theorem eIv.set {vs : List Int} {env : List aE} {i : Nat} {e' : aE} (h : eIv vs env) (hz : ∀ z, vs[i]? = some z → e'.1 ≤ z ∧ z ≤ e'.2.1) : eIv vs (env.set i e') := by
  refine ⟨by rw [List.length_set]; exact h.1, fun j x z hx hv => ?_⟩
  by_cases hj : i = j
  · subst hj
    have hi : i < env.length := by
      have := (List.getElem?_eq_some_iff.mp hx).1
      rw [List.length_set] at this
      exact this
    rw [List.getElem?_set_self hi] at hx
    cases hx
    exact hz z hv
  · rw [List.getElem?_set_ne hj] at hx
    exact h.2 j x z hx hv
theorem tgt1_ok {vs : List Int} {env : List aE} {F : aF} {q : Nat × Int} {z : Int} (hE : eIv vs env) (hF : fev vs F = some z) (hz : 0 ≤ z) : ∃ env', tgt1 env F q = some env' ∧ eIv vs env' ∧ eSame env env' := by
  rw [tgt1]
  cases h1 : env[q.1]? with
  | none => exact ⟨env, rfl, hE, eSame.rf⟩
  | some e =>
    cases h2 : flb env (fmul (-1) (fadd (-1) F ([q], 0))) with
    | none => exact ⟨env, rfl, hE, eSame.rf⟩
    | some nb =>
      dsimp only
      have hlt : q.1 < vs.length := by rw [← hE.1]; exact (List.getElem?_eq_some_iff.mp h1).1
      have hx : vs[q.1]? = some vs[q.1] := List.getElem?_eq_getElem hlt
      generalize vs[q.1] = x at hx
      obtain ⟨b1, b2⟩ := hE.2 q.1 e x h1 hx
      obtain ⟨w, hw, hb⟩ := flb_ok hE h2
      have hq : fev vs ([q], 0) = some (q.2 * x + 0 + 0) := fev_of (fevl_cons hx rfl)
      rw [fmul_ok (fadd_ok hF hq)] at hw
      have hw : w = -1 * (z + -1 * (q.2 * x + 0 + 0)) := (Option.some.inj hw).symm
      have key : -(q.2 * x) ≤ -nb := by omega
      by_cases hp : 0 < q.2
      · simp only [hp, decide_true, cond_true]
        have h3 : -x ≤ -nb / q.2 := by
          apply (Int.le_ediv_iff_mul_le hp).mpr
          rw [Int.neg_mul, Int.mul_comm]
          exact key
        have h4 : ¬ e.2.1 < -(-nb / q.2) := by omega
        simp only [h4, decide_false, cond_false]
        by_cases h5 : e.1 < -(-nb / q.2)
        · simp only [h5, decide_true, cond_true]
          refine ⟨_, rfl, hE.set (fun y hy => ?_), eSame.set h1 rfl⟩
          cases hx.symm.trans hy
          exact ⟨by show -(-nb / q.2) ≤ x; omega, b2⟩
        · simp only [h5, decide_false, cond_false]
          exact ⟨env, rfl, hE, eSame.rf⟩
      · simp only [hp, decide_false, cond_false]
        by_cases hn : q.2 < 0
        · simp only [hn, decide_true, cond_true]
          have h3 : x ≤ -nb / -q.2 := by
            apply (Int.le_ediv_iff_mul_le (by omega)).mpr
            rw [Int.mul_neg, Int.mul_comm]
            exact key
          have h4 : ¬ -nb / -q.2 < e.1 := by omega
          simp only [h4, decide_false, cond_false]
          by_cases h5 : -nb / -q.2 < e.2.1
          · simp only [h5, decide_true, cond_true]
            refine ⟨_, rfl, hE.set (fun y hy => ?_), eSame.set h1 rfl⟩
            cases hx.symm.trans hy
            exact ⟨b1, h3⟩
          · simp only [h5, decide_false, cond_false]
            exact ⟨env, rfl, hE, eSame.rf⟩
        · simp only [hn, decide_false, cond_false]
          exact ⟨env, rfl, hE, eSame.rf⟩
def asml (F : aF) : List (Nat × Int) → List aE → Option (List aE)
  | [], env => some env
  | q :: t, env => match tgt1 env F q with
    | none => none
    | some env' => asml F t env'
theorem asml_ok {vs : List Int} {F : aF} {z : Int} (hF : fev vs F = some z) (hz : 0 ≤ z) : ∀ (l : List (Nat × Int)) (env : List aE), eIv vs env → ∃ env', asml F l env = some env' ∧ eIv vs env' ∧ eSame env env' := by
  intro l
  induction l with
  | nil => intro env hE; exact ⟨env, rfl, hE, eSame.rf⟩
  | cons q t ih =>
    intro env hE
    obtain ⟨e1, h1, h2, h3⟩ := tgt1_ok (q := q) hE hF hz
    obtain ⟨e2, h4, h5, h6⟩ := ih e1 h2
    exact ⟨e2, by rw [asml, h1]; exact h4, h5, h3.tr h6⟩
/-- a fact speaks against F -/
def asmX (env : List aE) (fc : List aF) (F : aF) : Bool := match F.1 with
  | _ :: _ :: _ => fc.any (fun G => match flb env (fmul (-1) (fadd 1 F G)) with
    | some c => decide (0 < c)
    | none => false)
  | _ => false
theorem asmX_ok {vs : List Int} {env : List aE} {fc : List aF} {F : aF} {z : Int} (hE : eIv vs env) (hC : fcOK vs fc) (hF : fev vs F = some z) (hz : 0 ≤ z) : asmX env fc F = false := by
  rw [asmX]
  split
  · cases h : fc.any (fun G => match flb env (fmul (-1) (fadd 1 F G)) with
      | some c => decide (0 < c)
      | none => false) with
    | false => rfl
    | true =>
      exfalso
      obtain ⟨G, hG, h⟩ := List.any_eq_true.mp h
      obtain ⟨y, hy, hy0⟩ := hC G hG
      cases h2 : flb env (fmul (-1) (fadd 1 F G)) with
      | none => rw [h2] at h; cases h
      | some c =>
        rw [h2] at h
        have h : 0 < c := by simpa using h
        obtain ⟨w, hw, hcw⟩ := flb_ok hE h2
        rw [fmul_ok (fadd_ok hF hy)] at hw
        have := Option.some.inj hw
        omega
  · rfl
/-- F isn't negative, from here on; none: it can't be -/
def asm (env : List aE) (fc : List aF) (F : aF) : Option (List aE × List aF) := match asml F F.1 env with
  | none => none
  | some env' => match flb env' (fmul (-1) F) with
    | none => some (env', fc)
    | some b => bif decide (0 < b) then none else bif asmX env' fc F then none else some (env', match F.1 with | _ :: _ :: _ => F :: fc | _ => fc)
theorem asm_ok {vs : List Int} {env : List aE} {fc : List aF} {F : aF} {z : Int} (hE : eIv vs env) (hM : eFm vs env) (hC : fcOK vs fc) (hF : fev vs F = some z) (hz : 0 ≤ z) : ∃ env' fc', asm env fc F = some (env', fc') ∧ eIv vs env' ∧ eFm vs env' ∧ fcOK vs fc' ∧ eSame env env' := by
  obtain ⟨env', h1, h2, h3⟩ := asml_ok hF hz F.1 env hE
  rw [asm, h1]
  dsimp only
  cases h4 : flb env' (fmul (-1) F) with
  | none => exact ⟨env', fc, rfl, h2, hM.same h3, hC, h3⟩
  | some b =>
    dsimp only
    obtain ⟨w, hw, hb⟩ := flb_ok h2 h4
    rw [fmul_ok hF] at hw
    have hw : w = -1 * z := (Option.some.inj hw).symm
    have hb0 : ¬ 0 < b := by omega
    simp only [hb0, decide_false, cond_false, asmX_ok h2 hC hF hz]
    refine ⟨env', _, rfl, h2, hM.same h3, ?_, h3⟩
    have hc2 : fcOK vs (F :: fc) := fun G hG => by
      rcases List.mem_cons.mp hG with rfl | h
      · exact ⟨z, hF, hz⟩
      · exact hC G h
    split
    · exact hc2
    · exact hC
/-- bounds of an id, by its form and the facts too -/
def bmx (a : Int) (b : Option Int) : Int := match b with | some c => bif decide (a < c) then c else a | none => a
def bmn (a : Int) (b : Option Int) : Int := match b with | some c => bif decide (-c < a) then -c else a | none => a
def aivf (env : List aE) (F N : aF) : List aF → Int → Int → Int × Int
  | [], lo, hi => (lo, hi)
  | G :: t, lo, hi => aivf env F N t (bmx lo (flb env (fadd (-1) F G))) (bmn hi (flb env (fadd (-1) N G)))
def aiv (env : List aE) (fc : List aF) (i : Nat) : Option (Int × Int) := match env[i]? with
  | none => none
  | some e => match e.2.2.1 with
    | none => some (e.1, e.2.1)
    | some F => match F.1 with
      | _ :: _ :: _ => some (aivf env F (fmul (-1) F) fc (bmx e.1 (flb env F)) (bmn e.2.1 (flb env (fmul (-1) F))))
      | _ => some (bmx e.1 (flb env F), bmn e.2.1 (flb env (fmul (-1) F)))
theorem bmx_ok {a z : Int} {b : Option Int} (h1 : a ≤ z) (h2 : ∀ c, b = some c → c ≤ z) : bmx a b ≤ z := by
  cases b with
  | none => exact h1
  | some c =>
    have := h2 c rfl
    simp only [bmx]
    cases h : decide (a < c) <;> simp <;> assumption
theorem bmn_ok {a z : Int} {b : Option Int} (h1 : z ≤ a) (h2 : ∀ c, b = some c → c ≤ -z) : z ≤ bmn a b := by
  cases b with
  | none => exact h1
  | some c =>
    have := h2 c rfl
    simp only [bmn]
    cases h : decide (-c < a) <;> simp <;> omega
theorem aivf_ok {vs : List Int} {env : List aE} {F N : aF} {z : Int} (hE : eIv vs env) (hF : fev vs F = some z) (hN : fev vs N = some (-z)) : ∀ (fc : List aF), fcOK vs fc → ∀ lo hi : Int, lo ≤ z → z ≤ hi → (aivf env F N fc lo hi).1 ≤ z ∧ z ≤ (aivf env F N fc lo hi).2 := by
  intro fc
  induction fc with
  | nil => intro _ lo hi h1 h2; exact ⟨h1, h2⟩
  | cons G t ih =>
    intro hC lo hi h1 h2
    obtain ⟨y, hy, hy0⟩ := hC G List.mem_cons_self
    rw [aivf]
    apply ih (fun F hF => hC F (List.mem_cons_of_mem _ hF))
    · refine bmx_ok h1 (fun c hc => ?_)
      obtain ⟨w, hw, hb⟩ := flb_ok hE hc
      rw [fadd_ok hF hy] at hw
      have := (Option.some.inj hw).symm
      omega
    · refine bmn_ok h2 (fun c hc => ?_)
      obtain ⟨w, hw, hb⟩ := flb_ok hE hc
      rw [fadd_ok hN hy] at hw
      have := (Option.some.inj hw).symm
      omega
theorem aiv_ok {vs : List Int} {env : List aE} {fc : List aF} {i : Nat} {lo hi z : Int} (hE : eIv vs env) (hM : eFm vs env) (hC : fcOK vs fc) (h : aiv env fc i = some (lo, hi)) (hz : vs[i]? = some z) : lo ≤ z ∧ z ≤ hi := by
  rw [aiv] at h
  cases h1 : env[i]? with
  | none => rw [h1] at h; simp at h
  | some e =>
    rw [h1] at h
    dsimp only at h
    obtain ⟨b1, b2⟩ := hE.2 i e z h1 hz
    cases h2 : e.2.2.1 with
    | none =>
      rw [h2] at h
      cases h
      exact ⟨b1, b2⟩
    | some F =>
      rw [h2] at h
      dsimp only at h
      have hF := (hM i e z h1 hz).1 F h2
      have hN : fev vs (fmul (-1) F) = some (-z) := by rw [fmul_ok hF]; congr 1; omega
      have g1 : bmx e.1 (flb env F) ≤ z := bmx_ok b1 (fun c hc => by
        obtain ⟨w, hw, hb⟩ := flb_ok hE hc
        rw [hF] at hw
        cases hw
        exact hb)
      have g2 : z ≤ bmn e.2.1 (flb env (fmul (-1) F)) := bmn_ok b2 (fun c hc => by
        obtain ⟨w, hw, hb⟩ := flb_ok hE hc
        rw [hN] at hw
        cases hw
        exact hb)
      split at h
      · have h := Option.some.inj h
        have g3 := aivf_ok hE hF hN fc hC _ _ g1 g2
        rw [h] at g3
        exact g3
      · cases h
        exact ⟨g1, g2⟩
end
section
/-! numbers of 32 and 64 bits as whole numbers -/
theorem i32_lo (x : Int32) : -2147483648 ≤ x.toInt := by have := Int32.le_toInt x; simpa using this
theorem i32_hi (x : Int32) : x.toInt ≤ 2147483647 := by have := Int32.toInt_lt x; simp at this; omega
theorem i64_lo (x : Int64) : -9223372036854775808 ≤ x.toInt := by have := Int64.le_toInt x; simpa using this
theorem i64_hi (x : Int64) : x.toInt ≤ 9223372036854775807 := by have := Int64.toInt_lt x; simp at this; omega
theorem bmod32 {z : Int} (h1 : -2147483648 ≤ z) (h2 : z ≤ 2147483647) : z.bmod (2 ^ 32) = z := by
  rw [Int.bmod_eq_of_le] <;> omega
theorem bmod64 {z : Int} (h1 : -9223372036854775808 ≤ z) (h2 : z ≤ 9223372036854775807) : z.bmod (2 ^ 64) = z := by
  rw [Int.bmod_eq_of_le] <;> omega
theorem i32_add {x y : Int32} (h1 : -2147483648 ≤ x.toInt + y.toInt) (h2 : x.toInt + y.toInt ≤ 2147483647) : (x + y).toInt = x.toInt + y.toInt := by
  rw [Int32.toInt_add]; exact bmod32 h1 h2
theorem i32_sub {x y : Int32} (h1 : -2147483648 ≤ x.toInt - y.toInt) (h2 : x.toInt - y.toInt ≤ 2147483647) : (x - y).toInt = x.toInt - y.toInt := by
  rw [Int32.toInt_sub]; exact bmod32 h1 h2
theorem i32_mul {x y : Int32} (h1 : -2147483648 ≤ x.toInt * y.toInt) (h2 : x.toInt * y.toInt ≤ 2147483647) : (x * y).toInt = x.toInt * y.toInt := by
  rw [Int32.toInt_mul]; exact bmod32 h1 h2
theorem i64_add {x y : Int64} (h1 : -9223372036854775808 ≤ x.toInt + y.toInt) (h2 : x.toInt + y.toInt ≤ 9223372036854775807) : (x + y).toInt = x.toInt + y.toInt := by
  rw [Int64.toInt_add]; exact bmod64 h1 h2
theorem i64_sub {x y : Int64} (h1 : -9223372036854775808 ≤ x.toInt - y.toInt) (h2 : x.toInt - y.toInt ≤ 9223372036854775807) : (x - y).toInt = x.toInt - y.toInt := by
  rw [Int64.toInt_sub]; exact bmod64 h1 h2
theorem i32_neg {x : Int32} (h2 : -2147483647 ≤ x.toInt) : (-x).toInt = -x.toInt := by
  rw [Int32.toInt_neg]; have := i32_hi x; exact bmod32 (by omega) (by omega)
theorem i32_ofInt {n : Int} (h1 : -2147483648 ≤ n) (h2 : n ≤ 2147483647) : (Int32.ofInt n).toInt = n := by
  rw [Int32.toInt_ofInt]; exact bmod32 h1 h2
theorem i2l_ok (x : Int32) : x.toInt64.toInt = x.toInt := by simp
theorem l2i_ok {x : Int64} (h1 : -2147483648 ≤ x.toInt) (h2 : x.toInt ≤ 2147483647) : x.toInt32.toInt = x.toInt := by
  rw [Int64.toInt_toInt32]; exact bmod32 h1 h2
/-- a quotient of what isn't negative -/
theorem i32_div {x y : Int32} (h1 : 0 ≤ x.toInt) (h2 : 0 < y.toInt) : (x / y).toInt = x.toInt / y.toInt := by
  obtain ⟨a, ha, rfl⟩ := nI_of (x := x) (by rw [Int32.lt_iff_toInt_lt]; simp; omega)
  obtain ⟨b, hb, rfl⟩ := nI_of (x := y) (by rw [Int32.lt_iff_toInt_lt]; simp; omega)
  rw [nI_toInt ha] at h1 ⊢
  rw [nI_toInt hb] at h2 ⊢
  have hb0 : 0 < b := by omega
  rw [pk_div ha hb0 hb, nI_toInt (Nat.lt_of_le_of_lt (Nat.div_le_self a b) ha)]
  simp
theorem i32_rem {x y : Int32} (h1 : 0 ≤ x.toInt) (h2 : 0 < y.toInt) : (x - x / y * y).toInt = x.toInt % y.toInt := by
  obtain ⟨a, ha, rfl⟩ := nI_of (x := x) (by rw [Int32.lt_iff_toInt_lt]; simp; omega)
  obtain ⟨b, hb, rfl⟩ := nI_of (x := y) (by rw [Int32.lt_iff_toInt_lt]; simp; omega)
  rw [nI_toInt ha] at h1 ⊢
  rw [nI_toInt hb] at h2 ⊢
  have hb0 : 0 < b := by omega
  rw [pk_rem ha hb0 hb, nI_toInt (Nat.lt_of_le_of_lt (Nat.mod_le a b) ha)]
  simp
theorem i32_and {x y : Int32} (h : 0 ≤ y.toInt) : 0 ≤ (x &&& y).toInt ∧ (x &&& y).toInt ≤ y.toInt := by
  obtain ⟨b, hb, rfl⟩ := nI_of (x := y) (by rw [Int32.lt_iff_toInt_lt]; simp; omega)
  have h1 : (x &&& nI b).toBitVec.toNat ≤ b := by
    rw [Int32.toBitVec_and, BitVec.toNat_and, pk_tn (by omega)]
    exact Nat.and_le_right
  have h2 : (x &&& nI b).toInt = ((x &&& nI b).toBitVec.toNat : Int) := by
    show (x &&& nI b).toBitVec.toInt = _
    rw [BitVec.toInt_eq_toNat_of_lt (by omega)]
  rw [h2, nI_toInt hb]
  omega
theorem i32_and' {x y : Int32} (h : 0 ≤ x.toInt) : 0 ≤ (x &&& y).toInt ∧ (x &&& y).toInt ≤ x.toInt := by
  rw [show x &&& y = y &&& x from Int32.and_comm ..]
  exact i32_and h
theorem i32_or {x y : Int32} {k : Nat} (hk : k ≤ 30) (hx : 0 ≤ x.toInt) (hy : 0 ≤ y.toInt) (hx2 : x.toInt < 2 ^ k) (hy2 : y.toInt < 2 ^ k) : 0 ≤ (x ||| y).toInt ∧ (x ||| y).toInt < 2 ^ k := by
  obtain ⟨a, ha, rfl⟩ := nI_of (x := x) (by rw [Int32.lt_iff_toInt_lt]; simp; omega)
  obtain ⟨b, hb, rfl⟩ := nI_of (x := y) (by rw [Int32.lt_iff_toInt_lt]; simp; omega)
  rw [nI_toInt ha] at hx2
  rw [nI_toInt hb] at hy2
  have h1 : (nI a ||| nI b).toBitVec.toNat < 2 ^ k := by
    rw [Int32.toBitVec_or, BitVec.toNat_or, pk_tn (by omega), pk_tn (by omega)]
    exact Nat.or_lt_two_pow (by exact_mod_cast hx2) (by exact_mod_cast hy2)
  have h3 : 2 ^ k ≤ 2 ^ 30 := Nat.pow_le_pow_right (by decide) hk
  have h2 : (nI a ||| nI b).toInt = ((nI a ||| nI b).toBitVec.toNat : Int) := by
    show (nI a ||| nI b).toBitVec.toInt = _
    rw [BitVec.toInt_eq_toNat_of_lt (by omega)]
  rw [h2]
  exact ⟨by omega, by exact_mod_cast h1⟩
theorem i32_xor {x y : Int32} {k : Nat} (hk : k ≤ 30) (hx : 0 ≤ x.toInt) (hy : 0 ≤ y.toInt) (hx2 : x.toInt < 2 ^ k) (hy2 : y.toInt < 2 ^ k) : 0 ≤ (x ^^^ y).toInt ∧ (x ^^^ y).toInt < 2 ^ k := by
  obtain ⟨a, ha, rfl⟩ := nI_of (x := x) (by rw [Int32.lt_iff_toInt_lt]; simp; omega)
  obtain ⟨b, hb, rfl⟩ := nI_of (x := y) (by rw [Int32.lt_iff_toInt_lt]; simp; omega)
  rw [nI_toInt ha] at hx2
  rw [nI_toInt hb] at hy2
  have h1 : (nI a ^^^ nI b).toBitVec.toNat < 2 ^ k := by
    rw [Int32.toBitVec_xor, BitVec.toNat_xor, pk_tn (by omega), pk_tn (by omega)]
    exact Nat.xor_lt_two_pow (by exact_mod_cast hx2) (by exact_mod_cast hy2)
  have h3 : 2 ^ k ≤ 2 ^ 30 := Nat.pow_le_pow_right (by decide) hk
  have h2 : (nI a ^^^ nI b).toInt = ((nI a ^^^ nI b).toBitVec.toNat : Int) := by
    show (nI a ^^^ nI b).toBitVec.toInt = _
    rw [BitVec.toInt_eq_toNat_of_lt (by omega)]
  rw [h2]
  exact ⟨by omega, by exact_mod_cast h1⟩
theorem i32_shl {x : Int32} {k : Nat} (hk : k ≤ 30) (hx : 0 ≤ x.toInt) (h2 : x.toInt * 2 ^ k ≤ 2147483647) : (x <<< (nI k &&& 31)).toInt = x.toInt * 2 ^ k := by
  obtain ⟨a, ha, rfl⟩ := nI_of (x := x) (by rw [Int32.lt_iff_toInt_lt]; simp; omega)
  rw [nI_toInt ha] at h2 ⊢
  have h3 : a * 2 ^ k < 2 ^ 31 := by
    have : ((a * 2 ^ k : Nat) : Int) ≤ 2147483647 := by push_cast; exact h2
    omega
  have hs : nI k &&& 31 = nI k := by
    have : k = 0 ∨ k = 1 ∨ k = 2 ∨ k = 3 ∨ k = 4 ∨ k = 5 ∨ k = 6 ∨ k = 7 ∨ k = 8 ∨ k = 9 ∨ k = 10 ∨ k = 11 ∨ k = 12 ∨ k = 13 ∨ k = 14 ∨ k = 15 ∨ k = 16 ∨ k = 17 ∨ k = 18 ∨ k = 19 ∨ k = 20 ∨ k = 21 ∨ k = 22 ∨ k = 23 ∨ k = 24 ∨ k = 25 ∨ k = 26 ∨ k = 27 ∨ k = 28 ∨ k = 29 ∨ k = 30 := by omega
    rcases this with rfl | rfl | rfl | rfl | rfl | rfl | rfl | rfl | rfl | rfl | rfl | rfl | rfl | rfl | rfl | rfl | rfl | rfl | rfl | rfl | rfl | rfl | rfl | rfl | rfl | rfl | rfl | rfl | rfl | rfl | rfl <;> decide
  have hm : ((nI k).toBitVec.smod 32).toNat = k := by
    have : k = 0 ∨ k = 1 ∨ k = 2 ∨ k = 3 ∨ k = 4 ∨ k = 5 ∨ k = 6 ∨ k = 7 ∨ k = 8 ∨ k = 9 ∨ k = 10 ∨ k = 11 ∨ k = 12 ∨ k = 13 ∨ k = 14 ∨ k = 15 ∨ k = 16 ∨ k = 17 ∨ k = 18 ∨ k = 19 ∨ k = 20 ∨ k = 21 ∨ k = 22 ∨ k = 23 ∨ k = 24 ∨ k = 25 ∨ k = 26 ∨ k = 27 ∨ k = 28 ∨ k = 29 ∨ k = 30 := by omega
    rcases this with rfl | rfl | rfl | rfl | rfl | rfl | rfl | rfl | rfl | rfl | rfl | rfl | rfl | rfl | rfl | rfl | rfl | rfl | rfl | rfl | rfl | rfl | rfl | rfl | rfl | rfl | rfl | rfl | rfl | rfl | rfl <;> decide
  rw [hs, pk_shlN _ k hm (by omega), nI_toInt h3]
  push_cast
  rfl
theorem i32_shr {x : Int32} {k : Nat} (hk : k ≤ 30) (hx : 0 ≤ x.toInt) : (x >>> (nI k &&& 31)).toInt = x.toInt / 2 ^ k := by
  obtain ⟨a, ha, rfl⟩ := nI_of (x := x) (by rw [Int32.lt_iff_toInt_lt]; simp; omega)
  have hs : nI k &&& 31 = nI k := by
    have : k = 0 ∨ k = 1 ∨ k = 2 ∨ k = 3 ∨ k = 4 ∨ k = 5 ∨ k = 6 ∨ k = 7 ∨ k = 8 ∨ k = 9 ∨ k = 10 ∨ k = 11 ∨ k = 12 ∨ k = 13 ∨ k = 14 ∨ k = 15 ∨ k = 16 ∨ k = 17 ∨ k = 18 ∨ k = 19 ∨ k = 20 ∨ k = 21 ∨ k = 22 ∨ k = 23 ∨ k = 24 ∨ k = 25 ∨ k = 26 ∨ k = 27 ∨ k = 28 ∨ k = 29 ∨ k = 30 := by omega
    rcases this with rfl | rfl | rfl | rfl | rfl | rfl | rfl | rfl | rfl | rfl | rfl | rfl | rfl | rfl | rfl | rfl | rfl | rfl | rfl | rfl | rfl | rfl | rfl | rfl | rfl | rfl | rfl | rfl | rfl | rfl | rfl <;> decide
  have hm : ((nI k).toBitVec.smod 32).toNat = k := by
    have : k = 0 ∨ k = 1 ∨ k = 2 ∨ k = 3 ∨ k = 4 ∨ k = 5 ∨ k = 6 ∨ k = 7 ∨ k = 8 ∨ k = 9 ∨ k = 10 ∨ k = 11 ∨ k = 12 ∨ k = 13 ∨ k = 14 ∨ k = 15 ∨ k = 16 ∨ k = 17 ∨ k = 18 ∨ k = 19 ∨ k = 20 ∨ k = 21 ∨ k = 22 ∨ k = 23 ∨ k = 24 ∨ k = 25 ∨ k = 26 ∨ k = 27 ∨ k = 28 ∨ k = 29 ∨ k = 30 := by omega
    rcases this with rfl | rfl | rfl | rfl | rfl | rfl | rfl | rfl | rfl | rfl | rfl | rfl | rfl | rfl | rfl | rfl | rfl | rfl | rfl | rfl | rfl | rfl | rfl | rfl | rfl | rfl | rfl | rfl | rfl | rfl | rfl <;> decide
  rw [hs, pk_shrN ha _ k hm, nI_toInt ha, nI_toInt (Nat.lt_of_le_of_lt (Nat.div_le_self a _) ha)]
  push_cast
  rfl
theorem i32_in {i : Int32} {n : Nat} (h1 : 0 ≤ i.toInt) (h2 : i.toInt < n) : vp_in i n := vp_in_iff.mpr ⟨h1, h2⟩
theorem i32_clamp {i : Int32} (h1 : 0 ≤ i.toInt) : (i.toNatClampNeg : Int) = i.toInt := by
  show ((i.toInt.toNat : Nat) : Int) = _
  omega
theorem cmp_ok (x y : Int64) : (0 < x.toInt - y.toInt ∧ (lg_cmp x y).toInt = 1) ∨ (x.toInt - y.toInt = 0 ∧ (lg_cmp x y).toInt = 0) ∨ (x.toInt - y.toInt < 0 ∧ (lg_cmp x y).toInt = -1) := by
  unfold lg_cmp
  by_cases h1 : x > y
  · rw [if_pos h1]
    left
    have := Int64.lt_iff_toInt_lt.mp h1
    exact ⟨by omega, rfl⟩
  · rw [if_neg h1]
    by_cases h2 : x = y
    · subst h2
      rw [if_pos rfl]
      right; left
      exact ⟨by omega, rfl⟩
    · rw [if_neg h2]
      right; right
      have h3 : ¬ y.toInt < x.toInt := fun q => h1 (Int64.lt_iff_toInt_lt.mpr q)
      have h4 : x.toInt ≠ y.toInt := fun q => h2 (Int64.toInt_inj.mp q)
      exact ⟨by omega, rfl⟩
end
section
/-! TYPES of the heap's cells, by blocks: a block's cells stand one behind another. A field's type (kind, lo, hi, B, o): 0 int, 1 long, 2 the cell o of block B, 3 that, or null where block B isn't there, 4 that or null. An array's: (type, length, segments (start, length, period, bounds by residue)). -/
abbrev aT : Type := Nat × Int × Int × Nat × Nat
abbrev aSeg : Type := Nat × Nat × Nat × List (Int × Int)
abbrev aCT : Type := (Nat × Nat × List aSeg) ⊕ (Nat × List aT)
abbrev aB : Type := Nat → Option Nat
/-- written places: (B, o, lo, hi) -/
abbrev aR : Type := Nat × Nat × Int × Int
def jad (g : jG) (b o : Nat) : Value := .ref (g.2.2 + (b + o))
def ftOK (g : jG) (bk : aB) (t : aT) (v : Value) : Prop := match t.1 with
  | 0 => ∃ x : Int32, v = .int x ∧ t.2.1 ≤ x.toInt ∧ x.toInt ≤ t.2.2.1
  | 1 => ∃ x : Int64, v = .long x ∧ t.2.1 ≤ x.toInt ∧ x.toInt ≤ t.2.2.1
  | 2 => ∃ b, bk t.2.2.2.1 = some b ∧ v = jad g b t.2.2.2.2
  | 3 => (∃ b, bk t.2.2.2.1 = some b ∧ v = jad g b t.2.2.2.2) ∨ (bk t.2.2.2.1 = none ∧ v = .null)
  | _ => (∃ b, bk t.2.2.2.1 = some b ∧ v = jad g b t.2.2.2.2) ∨ v = .null
def sgOK (sg : List aSeg) (i : Nat) (x : Int) : Prop := ∀ s ∈ sg, s.1 ≤ i → i < s.1 + s.2.1 → ∀ q, s.2.2.2[(i - s.1) % s.2.2.1]? = some q → q.1 ≤ x ∧ x ≤ q.2
def ctOK (g : jG) (bk : aB) (t : aCT) (c : jC) : Prop := match t with
  | .inl a => ∃ f, c = .inl (a.1, a.2.1, f) ∧ ∀ i, i < a.2.1 → sgOK a.2.2 i (f i).toInt
  | .inr o => ∃ fs, c = .inr (o.1, fs) ∧ fs.length = o.2.length ∧ ∀ (k : Nat) (t : aT), o.2[k]? = some t → ∃ v, fs[k]? = some v ∧ ftOK g bk t v
def tyAt (TT : List (List aCT)) (B o : Nat) : Option aCT := match TT[B]? with
  | some l => l[o]?
  | none => none
def tyLen (TT : List (List aCT)) (B : Nat) : Nat := match TT[B]? with
  | some l => l.length
  | none => 0
def HT (TT : List (List aCT)) (g : jG) (bk : aB) (h : jH) : Prop := ∀ (B b o : Nat) (t : aCT), bk B = some b → tyAt TT B o = some t → ∃ c, h[b + o]? = some c ∧ ctOK g bk t c
def BD (TT : List (List aCT)) (bk : aB) : Prop := ∀ (B B' b b' o o' : Nat), bk B = some b → bk B' = some b' → o < tyLen TT B → o' < tyLen TT B' → b + o = b' + o' → B = B' ∧ o = o'
def inW (W : List aR) (B o : Nat) (i : Nat) : Prop := ∃ w ∈ W, w.1 = B ∧ w.2.1 = o ∧ w.2.2.1 ≤ i ∧ (i : Int) ≤ w.2.2.2
def offW (W : List aR) (B o : Nat) (c c' : jC) : Prop := match c, c' with
  | .inl a, .inl a' => a'.1 = a.1 ∧ a'.2.1 = a.2.1 ∧ ∀ i : Nat, ¬ inW W B o i → a'.2.2 i = a.2.2 i
  | .inr a, .inr a' => a'.1 = a.1 ∧ a'.2.length = a.2.length ∧ ∀ i : Nat, ¬ inW W B o i → a'.2[i]? = a.2[i]?
  | _, _ => False
theorem offW.rf {W : List aR} {B o : Nat} {c : jC} : offW W B o c c := by
  cases c with
  | inl a => exact ⟨rfl, rfl, fun _ _ => rfl⟩
  | inr a => exact ⟨rfl, rfl, fun _ _ => rfl⟩
theorem offW.tr {W : List aR} {B o : Nat} {a b c : jC} (h1 : offW W B o a b) (h2 : offW W B o b c) : offW W B o a c := by
  cases a with
  | inl a => cases b with
    | inl b => cases c with
      | inl c => exact ⟨h2.1.trans h1.1, h2.2.1.trans h1.2.1, fun i hi => (h2.2.2 i hi).trans (h1.2.2 i hi)⟩
      | inr c => exact absurd h2 id
    | inr b => exact absurd h1 id
  | inr a => cases b with
    | inl b => exact absurd h1 id
    | inr b => cases c with
      | inl c => exact absurd h2 id
      | inr c => exact ⟨h2.1.trans h1.1, h2.2.1.trans h1.2.1, fun i hi => (h2.2.2 i hi).trans (h1.2.2 i hi)⟩
theorem offW.mono {W W' : List aR} {B o : Nat} {a b : jC} (h : offW W B o a b) (hw : ∀ i, inW W B o i → inW W' B o i) : offW W' B o a b := by
  cases a with
  | inl a => cases b with
    | inl b => exact ⟨h.1, h.2.1, fun i hi => h.2.2 i (fun q => hi (hw i q))⟩
    | inr b => exact absurd h id
  | inr a => cases b with
    | inl b => exact absurd h id
    | inr b => exact ⟨h.1, h.2.1, fun i hi => h.2.2 i (fun q => hi (hw i q))⟩
def UN (TT : List (List aCT)) (W : List aR) (bk : aB) (h h' : jH) : Prop := h.length ≤ h'.length ∧ ∀ (B b o : Nat) (c : jC), bk B = some b → o < tyLen TT B → h[b + o]? = some c → ∃ c', h'[b + o]? = some c' ∧ offW W B o c c'
theorem UN.rf {TT : List (List aCT)} {W : List aR} {bk : aB} {h : jH} : UN TT W bk h h := ⟨Nat.le_refl _, fun _ _ _ c _ _ hc => ⟨c, hc, offW.rf⟩⟩
theorem UN.tr {TT : List (List aCT)} {W : List aR} {bk bk' : aB} {h h1 h2 : jH} (a : UN TT W bk h h1) (hb : ∀ B b, bk B = some b → bk' B = some b) (b : UN TT W bk' h1 h2) : UN TT W bk h h2 :=
  ⟨Nat.le_trans a.1 b.1, fun B b0 o c hB ho hc => by
    obtain ⟨c1, g1, g2⟩ := a.2 B b0 o c hB ho hc
    obtain ⟨c2, g3, g4⟩ := b.2 B b0 o c1 (hb B b0 hB) ho g1
    exact ⟨c2, g3, g2.tr g4⟩⟩
/-- W's places lie within W's -/
def subW (W W' : List aR) : Bool := W.all (fun w => W'.any (fun v => Nat.beq v.1 w.1 && Nat.beq v.2.1 w.2.1 && decide (v.2.2.1 ≤ w.2.2.1) && decide (w.2.2.2 ≤ v.2.2.2)))
theorem subW_ok {W W' : List aR} (h : subW W W' = true) {B o i : Nat} (hi : inW W B o i) : inW W' B o i := by
  obtain ⟨w, hw, h1, h2, h3, h4⟩ := hi
  have h5 := List.all_eq_true.mp h w hw
  obtain ⟨v, hv, h6⟩ := List.any_eq_true.mp h5
  simp only [Bool.and_eq_true, decide_eq_true_eq] at h6
  obtain ⟨⟨⟨g1, g2⟩, g3⟩, g4⟩ := h6
  exact ⟨v, hv, (Nat.eq_of_beq_eq_true g1).trans h1, (Nat.eq_of_beq_eq_true g2).trans h2, by omega, by omega⟩
theorem UN.mono {TT : List (List aCT)} {W W' : List aR} {bk : aB} {h h' : jH} (a : UN TT W bk h h') (hw : subW W W' = true) : UN TT W' bk h h' :=
  ⟨a.1, fun B b o c hB ho hc => by
    obtain ⟨c', g1, g2⟩ := a.2 B b o c hB ho hc
    exact ⟨c', g1, g2.mono (fun i hi => subW_ok hw hi)⟩⟩
/-- W's places are apart from P's -/
def apW (W P : List aR) : Bool := W.all (fun w => P.all (fun v => !(Nat.beq v.1 w.1 && Nat.beq v.2.1 w.2.1 && decide (v.2.2.1 ≤ w.2.2.2) && decide (w.2.2.1 ≤ v.2.2.2))))
theorem tyAt_lt {TT : List (List aCT)} {B o : Nat} {t : aCT} (h : tyAt TT B o = some t) : o < tyLen TT B := by
  rw [tyAt] at h
  rw [tyLen]
  cases h1 : TT[B]? with
  | none => rw [h1] at h; cases h
  | some l => rw [h1] at h; exact (List.getElem?_eq_some_iff.mp h).1
/-- a cell becomes another one of its type -/
theorem HT.set {TT : List (List aCT)} {g : jG} {bk : aB} {h : jH} {B b o : Nat} {t : aCT} {c : jC} (hT : HT TT g bk h) (hD : BD TT bk) (hb : bk B = some b) (ht : tyAt TT B o = some t) (hc : ctOK g bk t c) : HT TT g bk (h.set (b + o) c) := by
  intro B' b' o' t' hB' ht'
  obtain ⟨c', g1, g2⟩ := hT B' b' o' t' hB' ht'
  by_cases he : b + o = b' + o'
  · obtain ⟨e1, e2⟩ := hD B B' b b' o o' hb hB' (tyAt_lt ht) (tyAt_lt ht') he
    subst e1
    subst e2
    cases hb.symm.trans hB'
    cases ht.symm.trans ht'
    exact ⟨c, List.getElem?_set_self (List.getElem?_eq_some_iff.mp g1).1, hc⟩
  · exact ⟨c', by rw [List.getElem?_set_ne he]; exact g1, g2⟩
theorem UN.set {TT : List (List aCT)} {bk : aB} {h : jH} {B b o : Nat} {c c' : jC} {W : List aR} (hD : BD TT bk) (hb : bk B = some b) (ho : o < tyLen TT B) (hc : h[b + o]? = some c) (hoff : offW W B o c c') : UN TT W bk h (h.set (b + o) c') := by
  refine ⟨by rw [List.length_set]; exact Nat.le_refl _, fun B2 b2 o2 c2 hB2 ho2 hc2 => ?_⟩
  by_cases he : b + o = b2 + o2
  · obtain ⟨e1, e2⟩ := hD B B2 b b2 o o2 hb hB2 ho ho2 he
    subst e1
    subst e2
    cases hb.symm.trans hB2
    cases hc.symm.trans hc2
    exact ⟨c', List.getElem?_set_self (List.getElem?_eq_some_iff.mp hc).1, hoff⟩
  · exact ⟨c2, by rw [List.getElem?_set_ne he]; exact hc2, offW.rf⟩
/-! abstract values: (0, id, _) int; (1, id, _) long; (2, B, o) a cell; (3, _, _) null; (4, B, o) that cell, or null where block B isn't there -/
abbrev aV : Type := Nat × Nat × Nat
def vOK (g : jG) (vs : List Int) (bk : aB) (v : aV) (w : Value) : Prop := match v.1 with
  | 0 => ∃ x : Int32, w = .int x ∧ vs[v.2.1]? = some x.toInt
  | 1 => ∃ x : Int64, w = .long x ∧ vs[v.2.1]? = some x.toInt
  | 2 => ∃ b, bk v.2.1 = some b ∧ w = jad g b v.2.2
  | 3 => w = .null
  | _ => (∃ b, bk v.2.1 = some b ∧ w = jad g b v.2.2) ∨ (bk v.2.1 = none ∧ w = .null)
theorem vOK.app {g : jG} {vs ws : List Int} {bk : aB} {v : aV} {w : Value} (h : vOK g vs bk v w) : vOK g (vs ++ ws) bk v w := by
  obtain ⟨k, a, o⟩ := v
  match k, h with
  | 0, ⟨x, h1, h2⟩ => exact ⟨x, h1, by rw [List.getElem?_append_left (List.getElem?_eq_some_iff.mp h2).1]; exact h2⟩
  | 1, ⟨x, h1, h2⟩ => exact ⟨x, h1, by rw [List.getElem?_append_left (List.getElem?_eq_some_iff.mp h2).1]; exact h2⟩
  | 2, h => exact h
  | 3, h => exact h
  | k + 4, h => exact h
theorem vOK.ext {g : jG} {vs : List Int} {bk bk' : aB} {v : aV} {w : Value} (hb : ∀ B b, bk B = some b → bk' B = some b) (h4 : Nat.ble v.1 3 = true) (h : vOK g vs bk v w) : vOK g vs bk' v w := by
  obtain ⟨k, a, o⟩ := v
  have h4 : k ≤ 3 := Nat.le_of_ble_eq_true h4
  match k, h, h4 with
  | 0, h, _ => exact h
  | 1, h, _ => exact h
  | 2, ⟨b, h1, h2⟩, _ => exact ⟨b, hb _ _ h1, h2⟩
  | 3, h, _ => exact h
  | k + 4, h, h4 => omega
/-- cells known: (B, o, the place's form, id) -/
abbrev aO : Type := Nat × Nat × aF × Nat
def plAt (c : jC) (z x : Int) : Prop := match c with
  | .inl a => 0 ≤ z ∧ (a.2.2 z.toNat).toInt = x
  | .inr a => 0 ≤ z ∧ ∃ w : Int32, a.2[z.toNat]? = some (.int w) ∧ w.toInt = x
def ovOK (vs : List Int) (bk : aB) (h : jH) (ov : List aO) : Prop := ∀ q ∈ ov, ∃ (z : Int) (b : Nat) (c : jC) (x : Int), fev vs q.2.2.1 = some z ∧ bk q.1 = some b ∧ h[b + q.2.1]? = some c ∧ plAt c z x ∧ vs[q.2.2.2]? = some x
/-- (entries, facts, locals, stack, cells known, blocks that are there) -/
abbrev aS : Type := List aE × List aF × List (Option aV) × List aV × List aO × List Nat
def loOK (g : jG) (vs : List Int) (bk : aB) (loc : List (Option aV)) (al : List (Option Value)) : Prop := ∀ (i : Nat) (v : aV), loc[i]? = some (some v) → ∃ w, al[i]? = some (some w) ∧ vOK g vs bk v w
def skOK (g : jG) (vs : List Int) (bk : aB) : List aV → List Value → Prop
  | [], [] => True
  | v :: t, w :: u => vOK g vs bk v w ∧ skOK g vs bk t u
  | _, _ => False
theorem skOK.app {g : jG} {vs ws : List Int} {bk : aB} : ∀ {t : List aV} {u : List Value}, skOK g vs bk t u → skOK g (vs ++ ws) bk t u := by
  intro t
  induction t with
  | nil => intro u h; cases u with
    | nil => trivial
    | cons => exact h
  | cons v t ih => intro u h; cases u with
    | nil => exact h
    | cons w u => exact ⟨h.1.app, ih h.2⟩
theorem skOK.ext {g : jG} {vs : List Int} {bk bk' : aB} (hb : ∀ B b, bk B = some b → bk' B = some b) : ∀ {t : List aV} {u : List Value}, t.all (fun v => Nat.ble v.1 3) = true → skOK g vs bk t u → skOK g vs bk' t u := by
  intro t
  induction t with
  | nil => intro u _ h; cases u with
    | nil => trivial
    | cons => exact h
  | cons v t ih => intro u h4 h; cases u with
    | nil => exact h
    | cons w u =>
      simp only [List.all_cons, Bool.and_eq_true] at h4
      exact ⟨h.1.ext hb h4.1, ih h4.2 h.2⟩
/-- locals of which nothing is said but what stays so when blocks come -/
def lo4 (loc : List (Option aV)) : List (Option aV) := loc.map (fun z => match z with
  | some v => bif Nat.ble v.1 3 then some v else none
  | none => none)
theorem loOK.ext {g : jG} {vs : List Int} {bk bk' : aB} {loc : List (Option aV)} {al : List (Option Value)} (hb : ∀ B b, bk B = some b → bk' B = some b) (h : loOK g vs bk loc al) : loOK g vs bk' (lo4 loc) al := by
  intro i v hv
  rw [lo4, List.getElem?_map] at hv
  cases hl : loc[i]? with
  | none => rw [hl] at hv; cases hv
  | some z =>
    rw [hl] at hv
    cases z with
    | none => cases hv
    | some u =>
      have hv : (bif Nat.ble u.1 3 then some u else none) = some v := Option.some.inj hv
      cases h4 : Nat.ble u.1 3 with
      | false => rw [h4] at hv; cases hv
      | true =>
        rw [h4] at hv
        have huv : u = v := Option.some.inj hv
        obtain ⟨w, g1, g2⟩ := h i u hl
        rw [← huv]
        exact ⟨w, g1, g2.ext hb h4⟩
end
section
/-! THE CHECKER'S STEP -/
/-- of each class the fields' kinds: 0 int, 1 boolean, 2 long, 3 a reference, 9 final -/
def jfk : List (List Nat) := [[9, 0, 0], [0, 9, 9, 1], [1, 0, 0, 9, 9, 9, 9, 9, 9, 0, 0, 3], [9, 9, 9, 9, 0, 0, 0], [9, 9, 0, 0], [0, 9, 9, 9, 9, 0, 9, 9], [0, 9, 9, 9, 0, 9, 9, 9], [9, 9, 9, 0, 0, 0, 9, 9, 9, 9, 9, 9, 9, 9, 9, 9, 9, 9, 9, 9], [0, 9, 9, 9, 9], [9, 9, 9, 9, 9, 9, 9, 0, 9, 9, 9, 9, 9, 1, 0], [0, 0, 9, 9, 9], [9, 3, 3, 9, 0, 9, 0, 0, 9, 3, 3, 3], [0, 0, 9, 9, 9, 9, 0, 0, 0, 0, 2, 0, 1, 0, 9, 0, 9, 9, 0, 9, 0, 0, 9, 9, 9, 0, 0, 9, 9, 0, 9, 9, 9, 9, 9, 9, 9, 9, 9, 9, 9, 9]]
def jfkAt (ci f : Nat) : Option Nat := match jfk[ci]? with
  | some l => l[f]?
  | none => none
def jfkB (r : vw_C) (l : List Nat) : Bool := Nat.beq l.length r.2.2 && (List.range r.2.2).all (fun f => match l[f]? with
  | some 0 => !(r.2.1 f).2.2.2 && decide (parseFieldDescriptor (r.2.1 f).2.2.1 = some .int)
  | some 1 => !(r.2.1 f).2.2.2 && decide (parseFieldDescriptor (r.2.1 f).2.2.1 = some .boolean)
  | some 2 => !(r.2.1 f).2.2.2 && decide (parseFieldDescriptor (r.2.1 f).2.2.1 = some .long)
  | some 3 => !(r.2.1 f).2.2.2 && (match parseFieldDescriptor (r.2.1 f).2.2.1 with | some (.object _) => true | _ => false)
  | _ => true)
def fkI (k : Option Nat) (lo hi : Int) : Bool := match k with
  | some 0 => true
  | some 1 => decide (0 ≤ lo) && decide (hi ≤ 1)
  | _ => false
def fkJ (k : Option Nat) : Bool := match k with
  | some 2 => true
  | _ => false
def fkR (k : Option Nat) : Bool := match k with
  | some 3 => true
  | _ => false
theorem jfk_all : (List.range 13).all (fun ci => match jcl[ci]?, jfk[ci]? with | some r, some l => jfkB r l | _, _ => false) = true := by decide +kernel
theorem jfk_at {ci f k : Nat} {r : vw_C} (hr : jcl[ci]? = some r) (hk : jfkAt ci f = some k) : f < r.2.2 ∧ (k = 0 → (r.2.1 f).2.2.2 = false ∧ parseFieldDescriptor (r.2.1 f).2.2.1 = some .int) ∧ (k = 1 → (r.2.1 f).2.2.2 = false ∧ parseFieldDescriptor (r.2.1 f).2.2.1 = some .boolean) ∧ (k = 2 → (r.2.1 f).2.2.2 = false ∧ parseFieldDescriptor (r.2.1 f).2.2.1 = some .long) ∧ (k = 3 → (r.2.1 f).2.2.2 = false ∧ ∃ n, parseFieldDescriptor (r.2.1 f).2.2.1 = some (.object n)) := by
  have hci : ci < 13 := (List.getElem?_eq_some_iff.mp hr).1
  have h1 := List.all_eq_true.mp jfk_all ci (List.mem_range.mpr hci)
  rw [hr] at h1
  rw [jfkAt] at hk
  cases hl : jfk[ci]? with
  | none => rw [hl] at hk; cases hk
  | some L =>
    rw [hl] at hk h1
    dsimp only at h1 hk
    rw [jfkB] at h1
    simp only [Bool.and_eq_true] at h1
    have hlen := Nat.eq_of_beq_eq_true h1.1
    have hf : f < r.2.2 := by rw [← hlen]; exact (List.getElem?_eq_some_iff.mp hk).1
    have h2 := List.all_eq_true.mp h1.2 f (List.mem_range.mpr hf)
    rw [hk] at h2
    refine ⟨hf, fun e => ?_, fun e => ?_, fun e => ?_, fun e => ?_⟩
    · subst e
      simp only [Bool.and_eq_true, Bool.not_eq_true', decide_eq_true_eq] at h2
      exact h2
    · subst e
      simp only [Bool.and_eq_true, Bool.not_eq_true', decide_eq_true_eq] at h2
      exact h2
    · subst e
      simp only [Bool.and_eq_true, Bool.not_eq_true', decide_eq_true_eq] at h2
      exact h2
    · subst e
      simp only [Bool.and_eq_true, Bool.not_eq_true'] at h2
      refine ⟨h2.1, ?_⟩
      have h3 := h2.2
      split at h3
      · next n hn => exact ⟨n, hn⟩
      · cases h3
def eNew (lo hi : Int) (F : Option aF) : aE := (lo, hi, F, 0, 0, 0, [])
/-- a new id of kind k on the stack -/
def aPush (k : Nat) (env : List aE) (fc : List aF) (loc : List (Option aV)) (stk : List aV) (ov : List aO) (pr : List Nat) (e : aE) : aS := (env ++ [e], fc, loc, (k, env.length, 0) :: stk, ov, pr)
/-- bounds and form of a sum, a difference; else anything -/
def aSum (mn mx : Int) (env : List aE) (fc : List aF) (x y : Nat) : Option aE := match aiv env fc x, aiv env fc y with
  | some a, some b => bif decide (mn ≤ a.1 + b.1) && decide (a.2 + b.2 ≤ mx) then some (eNew (a.1 + b.1) (a.2 + b.2) (some (fadd 1 (lin env x) (lin env y)))) else some (eNew mn mx none)
  | _, _ => none
def aDif (mn mx : Int) (env : List aE) (fc : List aF) (x y : Nat) : Option aE := match aiv env fc x, aiv env fc y with
  | some a, some b => bif decide (mn ≤ a.1 - b.2) && decide (a.2 - b.1 ≤ mx) then
      let F := fadd (-1) (lin env x) (lin env y)
      some (eNew (bif decide (a.1 - b.2 < 0) && ent env fc F then 0 else a.1 - b.2) (bif decide (0 < a.2 - b.1) && ent env fc (fmul (-1) F) then 0 else a.2 - b.1) (some F))
    else some (eNew mn mx none)
  | _, _ => none
def aMulC (env : List aE) (x : Nat) (a : Int × Int) (c : Int) : aE :=
  bif decide (0 ≤ c) then (bif decide ((-2147483648 : Int) ≤ a.1 * c) && decide (a.2 * c ≤ (2147483647 : Int)) then eNew (a.1 * c) (a.2 * c) (some (fmul c (lin env x))) else eNew (-2147483648 : Int) (2147483647 : Int) none)
  else (bif decide ((-2147483648 : Int) ≤ a.2 * c) && decide (a.1 * c ≤ (2147483647 : Int)) then eNew (a.2 * c) (a.1 * c) (some (fmul c (lin env x))) else eNew (-2147483648 : Int) (2147483647 : Int) none)
def aMul (env : List aE) (fc : List aF) (x y : Nat) : Option aE := match aiv env fc x, aiv env fc y with
  | some a, some b => bif decide (b.1 = b.2) then some (aMulC env x a b.1) else bif decide (a.1 = a.2) then some (aMulC env y b a.1) else some (eNew (-2147483648 : Int) (2147483647 : Int) none)
  | _, _ => none
def aDiv (env : List aE) (fc : List aF) (x y : Nat) : Option (aE × List aF) := match aiv env fc x, aiv env fc y with
  | some a, some b => bif decide (0 ≤ a.1) && decide (0 < b.1) then
      (bif decide (b.1 = b.2) then
        let F := fadd (-b.1) (lin env x) ([(env.length, 1)], 0)
        some ((a.1 / b.1, a.2 / b.1, none, 2, x, b.1, []), F :: fadd (-1) (fcon (b.1 - 1)) F :: fc)
      else some (eNew 0 a.2 none, fc))
    else bif decide (0 < b.1) then some (eNew (-2147483648 : Int) (2147483647 : Int) none, fc) else none
  | _, _ => none
def aQuo (x : Nat) (c : Int) : Nat → List aE → Option Nat
  | _, [] => none
  | k, e :: t => bif Nat.beq e.2.2.2.1 2 && Nat.beq e.2.2.2.2.1 x && decide (e.2.2.2.2.2.1 = c) then some k else aQuo x c (k + 1) t
def aRem (env : List aE) (fc : List aF) (x y : Nat) : Option aE := match aiv env fc x, aiv env fc y with
  | some a, some b => bif decide (0 < b.1) then
      (bif decide (0 ≤ a.1) && decide (b.1 = b.2) then
        some (eNew 0 (bif decide (a.2 < b.1) then a.2 else b.1 - 1) (bif decide (a.2 < b.1) then some (lin env x) else match aQuo x b.1 0 env with
          | some q => some (fadd (-b.1) (lin env x) ([(q, 1)], 0))
          | none => none))
      else bif decide (b.1 = b.2) then some (eNew (1 - b.1) (b.1 - 1) none) else some (eNew (-2147483648 : Int) (2147483647 : Int) none))
    else none
  | _, _ => none
/-- a quotient beside the remainder, where none is known -/
def aGh (env : List aE) (fc : List aF) (x y : Nat) : List aE × List aF := match aiv env fc x, aiv env fc y with
  | some a, some b => bif decide (0 ≤ a.1) && decide (0 < b.1) && decide (b.1 = b.2) && decide (b.1 ≤ a.2) && (aQuo x b.1 0 env).isNone then
      (env ++ [(a.1 / b.1, a.2 / b.1, none, 2, x, b.1, [])], fadd (-b.1) (lin env x) ([(env.length, 1)], 0) :: fadd (-1) (fcon (b.1 - 1)) (fadd (-b.1) (lin env x) ([(env.length, 1)], 0)) :: fc)
    else (env, fc)
  | _, _ => (env, fc)
def aAnd (env : List aE) (fc : List aF) (x y : Nat) : Option aE := match aiv env fc x, aiv env fc y with
  | some a, some b => bif decide (0 ≤ b.1) then some (eNew 0 (bif decide (0 ≤ a.1) && decide (a.2 < b.2) then a.2 else b.2) none) else bif decide (0 ≤ a.1) then some (eNew 0 a.2 none) else some (eNew (-2147483648 : Int) (2147483647 : Int) none)
  | _, _ => none
/-- the least 2^k - 1 that isn't below -/
def aCap (z : Int) : Option Int := [0, 1, 3, 7, 15, 31, 63, 127, 255, 511, 1023, 2047, 4095, 8191, 16383, 32767, 65535].find? (fun c => decide (z ≤ c))
def aOr (env : List aE) (fc : List aF) (x y : Nat) : Option aE := match aiv env fc x, aiv env fc y with
  | some a, some b => bif decide (0 ≤ a.1) && decide (0 ≤ b.1) then (match aCap a.2, aCap b.2 with
      | some c, some e => some (eNew 0 (bif decide (c < e) then e else c) none)
      | _, _ => some (eNew (-2147483648 : Int) (2147483647 : Int) none)) else some (eNew (-2147483648 : Int) (2147483647 : Int) none)
  | _, _ => none
def aShl (env : List aE) (fc : List aF) (x y : Nat) : Option aE := match aiv env fc x, aiv env fc y with
  | some a, some b => bif decide (0 ≤ a.1) && decide (b.1 = b.2) && decide (0 ≤ b.1) && decide (b.1 ≤ 30) then
      (bif decide (a.2 * 2 ^ b.1.toNat ≤ (2147483647 : Int)) then some (eNew (a.1 * 2 ^ b.1.toNat) (a.2 * 2 ^ b.1.toNat) none) else some (eNew (-2147483648 : Int) (2147483647 : Int) none)) else some (eNew (-2147483648 : Int) (2147483647 : Int) none)
  | _, _ => none
def aShr (env : List aE) (fc : List aF) (x y : Nat) : Option aE := match aiv env fc x, aiv env fc y with
  | some a, some b => bif decide (0 ≤ a.1) && decide (b.1 = b.2) && decide (0 ≤ b.1) && decide (b.1 ≤ 30) then some (eNew (a.1 / 2 ^ b.1.toNat) (a.2 / 2 ^ b.1.toNat) none) else some (eNew (-2147483648 : Int) (2147483647 : Int) none)
  | _, _ => none
def aNeg (env : List aE) (fc : List aF) (x : Nat) : Option aE := match aiv env fc x with
  | some a => bif decide ((-2147483647 : Int) ≤ a.1) then some (eNew (-a.2) (-a.1) (some (fmul (-1) (lin env x)))) else some (eNew (-2147483648 : Int) (2147483647 : Int) none)
  | none => none
/-- a condition of F against 0, from here on; none: it can't be -/
def cAsm (env : List aE) (fc : List aF) (c : ClassFile.Cond) (F : aF) : Option (List aE × List aF) := match c with
  | .ge => asm env fc F
  | .gt => asm env fc (fadd 1 F (fcon (-1)))
  | .le => asm env fc (fmul (-1) F)
  | .lt => asm env fc (fadd 1 (fmul (-1) F) (fcon (-1)))
  | .eq => match asm env fc F with
    | none => none
    | some q => asm q.1 q.2 (fmul (-1) F)
  | .ne => bif ent env fc F then asm env fc (fadd 1 F (fcon (-1))) else bif ent env fc (fmul (-1) F) then asm env fc (fadd 1 (fmul (-1) F) (fcon (-1))) else some (env, fc)
def cHolds (c : ClassFile.Cond) (z : Int) : Prop := match c with
  | .ge => 0 ≤ z | .gt => 0 < z | .le => z ≤ 0 | .lt => z < 0 | .eq => z = 0 | .ne => z ≠ 0
def cNeg : ClassFile.Cond → ClassFile.Cond
  | .ge => .lt | .gt => .le | .le => .gt | .lt => .ge | .eq => .ne | .ne => .eq
/-- all of these aren't negative -/
def asmA : List aF → List aE → List aF → Option (List aE × List aF)
  | [], env, fc => some (env, fc)
  | F :: t, env, fc => match asm env fc F with
    | none => none
    | some q => asmA t q.1 q.2
/-- an id that is tested against 0, with its tag -/
def tAsm (env : List aE) (fc : List aF) (c : ClassFile.Cond) (i : Nat) : Option (List aE × List aF) := match env[i]? with
  | none => none
  | some e => bif Nat.beq e.2.2.2.1 3 then (match e.2.2.2.2.2.2 with | [F] => cAsm env fc c F | _ => cAsm env fc c (lin env i)) else
    match cAsm env fc c (lin env i) with
    | none => none
    | some q => bif Nat.beq e.2.2.2.1 1 then (match c with
        | .ne => asmA e.2.2.2.2.2.2 q.1 q.2
        | .eq => (match e.2.2.2.2.2.2.filter (fun F => !ent q.1 q.2 F) with
          | [] => none
          | [F] => asm q.1 q.2 (fadd 1 (fmul (-1) F) (fcon (-1)))
          | _ => some q)
        | _ => some q)
      else some q
/-- an index within n: its bounds -/
def aIdx (env : List aE) (fc : List aF) (x n : Nat) : Option (Int × Int) := match aiv env fc x with
  | none => none
  | some a =>
    let lo := bif decide (a.1 < 0) && ent env fc (lin env x) then 0 else a.1
    let hi := bif decide ((n : Int) ≤ a.2) && ent env fc (fadd (-1) (fcon ((n : Int) - 1)) (lin env x)) then (n : Int) - 1 else a.2
    bif decide (0 ≤ lo) && decide (hi < (n : Int)) then some (lo, hi) else none
def sgHull : List (Int × Int) → Int × Int → Int × Int
  | [], a => a
  | q :: t, a => sgHull t (bif decide (q.1 < a.1) then q.1 else a.1, bif decide (a.2 < q.2) then q.2 else a.2)
def sgMeet : List (Int × Int) → Int × Int → Int × Int
  | [], a => a
  | q :: t, a => sgMeet t (bif decide (a.1 < q.1) then q.1 else a.1, bif decide (q.2 < a.2) then q.2 else a.2)
def sgRes (s : aSeg) (F : aF) : Option (Int × Int) := bif F.1.all (fun q => decide (q.2 % (s.2.2.1 : Int) = 0)) then s.2.2.2[((F.2 - (s.1 : Int)) % (s.2.2.1 : Int)).toNat]? else none
def sgFind (sg : List aSeg) (lo hi : Int) : Option aSeg := sg.find? (fun s => decide ((s.1 : Int) ≤ lo) && decide (hi < (s.1 : Int) + (s.2.1 : Int)) && Nat.blt 0 s.2.2.1 && Nat.beq s.2.2.2.length s.2.2.1)
/-- bounds of what is read at the places lo .. hi of form F -/
def sgL (sg : List aSeg) (F : aF) (lo hi : Int) : Int × Int := match sgFind sg lo hi with
  | none => ((-2147483648 : Int), (2147483647 : Int))
  | some s => match sgRes s F with
    | some q => q
    | none => (match s.2.2.2 with | [] => ((-2147483648 : Int), (2147483647 : Int)) | q :: t => sgHull t q)
/-- bounds of what may be written there -/
def sgS (sg : List aSeg) (F : aF) (lo hi : Int) : Option (Int × Int) := match sgFind sg lo hi with
  | none => none
  | some s => match sgRes s F with
    | some q => some q
    | none => (match s.2.2.2 with | [] => none | q :: t => some (sgMeet t q))
def aWithin (env : List aE) (fc : List aF) (x : Nat) (lo hi : Int) : Bool := match aiv env fc x with
  | none => false
  | some a => (decide (lo ≤ a.1) || ent env fc (fadd 1 (lin env x) (fcon (-lo)))) && (decide (a.2 ≤ hi) || ent env fc (fadd (-1) (fcon hi) (lin env x)))
def fEq (F G : aF) : Bool := decide (F = G)
def ovFind (B o : Nat) (F : aF) : List aO → Option Nat
  | [] => none
  | q :: t => bif Nat.beq q.1 B && Nat.beq q.2.1 o && fEq q.2.2.1 F then some q.2.2.2 else ovFind B o F t
/-- what is known of cells, those of W left out -/
def ovKill (TT : List (List aCT)) (env : List aE) (W : List aR) (ov : List aO) : List aO := ov.filter (fun q => Nat.blt q.2.1 (tyLen TT q.1) && W.all (fun w => !(Nat.beq q.1 w.1 && Nat.beq q.2.1 w.2.1) || (match flb env q.2.2.1, flb env (fmul (-1) q.2.2.1) with
  | some a, some b => decide (-b < w.2.2.1) || decide (w.2.2.2 < a)
  | _, _ => false)))
/-- a place's form, a number where it is one -/
def pForm (env : List aE) (x : Nat) (lo hi : Int) : aF := bif decide (lo = hi) then fcon lo else lin env x
def jfind (l : List (Nat × Nat × Nat × Nat)) (own i : Nat) : Option (Nat × Nat) := match l.find? (fun q => Nat.beq q.2.1 i && Nat.beq q.1 own) with
  | some q => some q.2.2
  | none => none
/-- reading an int's place -/
def aRead (env : List aE) (fc : List aF) (loc : List (Option aV)) (stk : List aV) (ov : List aO) (pr : List Nat) (B o : Nat) (F : aF) (lo hi : Int) : aS := match ovFind B o F ov with
  | some i => (env, fc, loc, (0, i, 0) :: stk, ov, pr)
  | none => (env ++ [eNew lo hi none], fc, loc, (0, env.length, 0) :: stk, (B, o, F, env.length) :: ov, pr)
def aGet (TT : List (List aCT)) (env : List aE) (fc : List aF) (loc : List (Option aV)) (stk : List aV) (ov : List aO) (pr : List Nat) (B o ci f : Nat) : Option aS := match tyAt TT B o with
  | some (.inr q) => bif Nat.beq q.1 ci then (match q.2[f]? with
      | some t => (match t.1 with
        | 0 => some (aRead env fc loc stk ov pr B o (fcon f) t.2.1 t.2.2.1)
        | 1 => some (env ++ [eNew t.2.1 t.2.2.1 none], fc, loc, (1, env.length, 0) :: stk, ov, pr)
        | 2 => some (env, fc, loc, (2, t.2.2.2.1, t.2.2.2.2) :: stk, ov, pr)
        | 3 => some (env, fc, loc, (bif pr.contains t.2.2.2.1 then 2 else 4, t.2.2.2.1, t.2.2.2.2) :: stk, ov, pr)
        | _ => none)
      | none => none) else none
  | _ => none
/-- W is what the method may write; P what it may not write by itself -/
def aPut (TT : List (List aCT)) (W P : List aR) (env : List aE) (fc : List aF) (loc : List (Option aV)) (stk : List aV) (ov : List aO) (pr : List Nat) (B o ci f : Nat) (v : aV) : Option aS := match tyAt TT B o with
  | some (.inr q) => bif Nat.beq q.1 ci && subW [(B, o, (f : Int), (f : Int))] W && apW [(B, o, (f : Int), (f : Int))] P then (match q.2[f]? with
      | some t => (match t.1, v.1 with
        | 0, 0 => bif aWithin env fc v.2.1 t.2.1 t.2.2.1 && fkI (jfkAt ci f) t.2.1 t.2.2.1 then some (env, fc, loc, stk, (B, o, fcon f, v.2.1) :: ovKill TT env [(B, o, (f : Int), (f : Int))] ov, pr) else none
        | 1, 1 => bif aWithin env fc v.2.1 t.2.1 t.2.2.1 && fkJ (jfkAt ci f) then some (env, fc, loc, stk, ovKill TT env [(B, o, (f : Int), (f : Int))] ov, pr) else none
        | 2, 2 => bif Nat.beq v.2.1 t.2.2.2.1 && Nat.beq v.2.2 t.2.2.2.2 && fkR (jfkAt ci f) then some (env, fc, loc, stk, ovKill TT env [(B, o, (f : Int), (f : Int))] ov, pr) else none
        | _, _ => none)
      | none => none) else none
  | _ => none
def aAld (TT : List (List aCT)) (ty : Nat) (env : List aE) (fc : List aF) (loc : List (Option aV)) (stk : List aV) (ov : List aO) (pr : List Nat) (B o x : Nat) : Option aS := match tyAt TT B o with
  | some (.inl q) => bif Nat.beq q.1 ty then (match aIdx env fc x q.2.1 with
      | some a => let b := sgL q.2.2 (pForm env x a.1 a.2) a.1 a.2
        some (aRead env fc loc stk ov pr B o (pForm env x a.1 a.2) b.1 b.2)
      | none => none) else none
  | _ => none
def aAst (TT : List (List aCT)) (W P : List aR) (ty : Nat) (env : List aE) (fc : List aF) (loc : List (Option aV)) (stk : List aV) (ov : List aO) (pr : List Nat) (B o x v : Nat) : Option aS := match tyAt TT B o with
  | some (.inl q) => bif Nat.beq q.1 ty then (match aIdx env fc x q.2.1 with
      | some a => (match sgS q.2.2 (pForm env x a.1 a.2) a.1 a.2 with
        | some b => bif aWithin env fc v b.1 b.2 && (Nat.beq ty 0 || aWithin env fc v 0 1) && subW [(B, o, a.1, a.2)] W && apW [(B, o, a.1, a.2)] P then
            some (env, fc, loc, stk, (B, o, pForm env x a.1 a.2, v) :: ovKill TT env [(B, o, a.1, a.2)] ov, pr) else none
        | none => none)
      | none => none) else none
  | _ => none
/-! SPECS of locals: none, or (kind, lo, hi, B, o); of cells: (B, o, place, lo, hi) -/
abbrev aC : Type := Nat × Nat × Nat × Int × Int
/-- answers: (9, ..) nothing; (0, lo, hi, _, _, forms) an int, with forms a test; (2, _, _, B, o, _) a cell; (5, lo, n, s, _) lo + s t, t = 0 .. n -/
abbrev aQ : Type := Nat × Int × Int × Nat × Nat × List aF
/-- contracts: (y, locals, cells, facts; answers; cells behind it, facts behind it; written; depth, cells and slots made) -/
abbrev aK : Type := Nat × List (Option aT) × List aC × List aF × List aQ × List aC × List aF × List aR × Nat × Nat × Nat
/-- a none behind each long -/
def spMk : List (Option aT) → List (Option aT)
  | [] => []
  | none :: t => none :: spMk t
  | some q :: t => bif Nat.beq q.1 1 then some q :: none :: spMk t else some q :: spMk t
def spFit (sp : List (Option aT)) (n : Nat) : Bool := decide (sp = spMk (sp.filter (fun q => q.isSome)) ++ List.replicate (n - (spMk (sp.filter (fun q => q.isSome))).length) none) && Nat.ble (spMk (sp.filter (fun q => q.isSome))).length n
def spEnv : List (Option aT) → List aE
  | [] => []
  | none :: t => spEnv t
  | some q :: t => bif Nat.ble q.1 1 then eNew q.2.1 q.2.2.1 none :: spEnv t else spEnv t
def spLoc : Nat → List (Option aT) → List (Option aV)
  | _, [] => []
  | n, none :: t => none :: spLoc n t
  | n, some q :: t => bif Nat.ble q.1 1 then some (q.1, n, 0) :: spLoc (n + 1) t else some (q.1, q.2.2.2.1, q.2.2.2.2) :: spLoc n t
def clEnv (cl : List aC) : List aE := cl.map (fun q => eNew q.2.2.2.1 q.2.2.2.2 none)
def clOv : Nat → List aC → List aO
  | _, [] => []
  | n, q :: t => (q.1, q.2.1, fcon q.2.2.1, n) :: clOv (n + 1) t
/-- the state of a spec, behind the entries pre -/
def spState (pre : List aE) (sp : List (Option aT)) (cl : List aC) (fc : List aF) (pr : List Nat) : aS :=
  (pre ++ spEnv sp ++ clEnv cl, fc, spLoc pre.length sp, [], clOv (pre.length + (spEnv sp).length) cl, pr)
/-- the ids of what a spec wants; none: it isn't so -/
def spIds (env : List aE) (fc : List aF) : List (Option aV) → List (Option aT) → Option (List Nat)
  | _, [] => some []
  | [], none :: t => spIds env fc [] t
  | [], some _ :: _ => none
  | _ :: u, none :: t => spIds env fc u t
  | none :: _, some _ :: _ => none
  | some v :: u, some q :: t => match spIds env fc u t with
    | none => none
    | some l => match q.1 with
      | 0 => bif Nat.beq v.1 0 && aWithin env fc v.2.1 q.2.1 q.2.2.1 then some (v.2.1 :: l) else none
      | 1 => bif Nat.beq v.1 1 && aWithin env fc v.2.1 q.2.1 q.2.2.1 then some (v.2.1 :: l) else none
      | 2 => bif Nat.beq v.1 2 && Nat.beq v.2.1 q.2.2.2.1 && Nat.beq v.2.2 q.2.2.2.2 then some l else none
      | 3 => bif Nat.beq v.1 3 then some l else none
      | _ => none
/-- the cells of a spec read, one after another: state and ids -/
def clIds (TT : List (List aCT)) : List aC → List aE → List aO → List aF → Option (List aE × List aO × List Nat)
  | [], env, ov, _ => some (env, ov, [])
  | q :: t, env, ov, fc => match ovFind q.1 q.2.1 (fcon q.2.2.1) ov with
    | some i => bif aWithin env fc i q.2.2.2.1 q.2.2.2.2 then (match clIds TT t env ov fc with
        | some r => some (r.1, r.2.1, i :: r.2.2)
        | none => none) else none
    | none => match tyAt TT q.1 q.2.1 with
      | some (.inr o) => (match o.2[q.2.2.1]? with
        | some ty => bif Nat.ble q.1 1 && Nat.beq ty.1 0 && decide (q.2.2.2.1 ≤ ty.2.1) && decide (ty.2.2.1 ≤ q.2.2.2.2) then
            (match clIds TT t (env ++ [eNew ty.2.1 ty.2.2.1 none]) ((q.1, q.2.1, fcon q.2.2.1, env.length) :: ov) fc with
            | some r => some (r.1, r.2.1, env.length :: r.2.2)
            | none => none) else none
        | none => none)
      | some (.inl a) => bif Nat.ble q.1 1 && Nat.blt q.2.2.1 a.2.1 && decide (q.2.2.2.1 ≤ (sgL a.2.2 (fcon q.2.2.1) q.2.2.1 q.2.2.1).1) && decide ((sgL a.2.2 (fcon q.2.2.1) q.2.2.1 q.2.2.1).2 ≤ q.2.2.2.2) then
          (match clIds TT t (env ++ [eNew (sgL a.2.2 (fcon q.2.2.1) q.2.2.1 q.2.2.1).1 (sgL a.2.2 (fcon q.2.2.1) q.2.2.1 q.2.2.1).2 none]) ((q.1, q.2.1, fcon q.2.2.1, env.length) :: ov) fc with
          | some r => some (r.1, r.2.1, env.length :: r.2.2)
          | none => none) else none
      | none => none
/-- a form over other ids -/
def fsubl (env : List aE) (m : List Nat) : List (Nat × Int) → Option aF
  | [] => some ([], 0)
  | q :: t => match m[q.1]?, fsubl env m t with
    | some i, some F => some (fadd q.2 F (lin env i))
    | _, _ => none
def fsub (env : List aE) (m : List Nat) (F : aF) : Option aF := match fsubl env m F.1 with
  | some G => some (fadd 1 G (fcon F.2))
  | none => none
def entA (env : List aE) (fc : List aF) (m : List Nat) (l : List aF) : Bool := l.all (fun F => match fsub env m F with
  | some G => ent2 env fc G
  | none => false)
def fsubA (env : List aE) (m : List Nat) : List aF → Option (List aF)
  | [] => some []
  | F :: t => match fsub env m F, fsubA env m t with
    | some G, some l => some (G :: l)
    | _, _ => none
def tgN : List aF → Nat
  | [] => 0
  | _ => 1
/-- one answer of a contract, in the caller's state behind it -/
def aAns (env : List aE) (fc : List aF) (loc : List (Option aV)) (stk : List aV) (ov : List aO) (pr : List Nat) (m : List Nat) (post : List aF) (q : aQ) : Option aS := match q.1 with
  | 0 => (match fsubA env m q.2.2.2.2.2 with
    | none => none
    | some ts => match fsubA (env ++ [(q.2.1, q.2.2.1, none, tgN ts, 0, 0, ts)]) (m ++ [env.length]) post with
      | none => none
      | some ps => some (env ++ [(q.2.1, q.2.2.1, none, tgN ts, 0, 0, ts)], ps ++ fc, loc, (0, env.length, 0) :: stk, ov, pr))
  | 2 => (match fsubA env m post with
    | none => none
    | some ps => some (env, ps ++ fc, loc, (2, q.2.2.2.1, q.2.2.2.2.1) :: stk, ov, pr))
  | 5 => (match fsubA (env ++ [eNew 0 q.2.2.1 none, eNew q.2.1 (q.2.1 + q.2.2.2.1 * q.2.2.1) (some ([(env.length, (q.2.2.2.1 : Int))], q.2.1))]) (m ++ [env.length + 1]) post with
    | none => none
    | some ps => some (env ++ [eNew 0 q.2.2.1 none, eNew q.2.1 (q.2.1 + q.2.2.2.1 * q.2.2.1) (some ([(env.length, (q.2.2.2.1 : Int))], q.2.1))], ps ++ fc, loc, (0, env.length + 1, 0) :: stk, ov, pr))
  | 9 => (match fsubA env m post with
    | none => none
    | some ps => some (env, ps ++ fc, loc, stk, ov, pr))
  | _ => none
def aAnsA (env : List aE) (fc : List aF) (loc : List (Option aV)) (stk : List aV) (ov : List aO) (pr : List Nat) (m : List Nat) (post : List aF) : List aQ → Option (List aS)
  | [] => some []
  | q :: t => match aAns env fc loc stk ov pr m post q, aAnsA env fc loc stk ov pr m post t with
    | some S, some l => some (S :: l)
    | _, _ => none
def catS (stk : List aV) : Nat := match stk with
  | [] => 0
  | v :: t => (bif Nat.beq v.1 1 then 2 else 1) + catS t
/-- ints of a contract that go by steps: (number, from, step); an int's spec (0, lo, hi, s, _) with 1 < s wants lo + s t -/
def spSd : Nat → List (Option aT) → List (Nat × Int × Nat)
  | _, [] => []
  | n, none :: t => spSd n t
  | n, some q :: t => bif Nat.ble q.1 1 then (bif Nat.blt 1 q.2.2.2.1 then (n, q.2.1, q.2.2.2.1) :: spSd (n + 1) t else spSd (n + 1) t) else spSd n t
def stepB (env : List aE) (i : Nat) (lo : Int) (s : Nat) : Bool := (lin env i).1.all (fun r => decide (r.2 % (s : Int) = 0)) && decide (((lin env i).2 - lo) % (s : Int) = 0)
def stepsB (env : List aE) (pids : List Nat) (l : List (Nat × Int × Nat)) : Bool := l.all (fun q => match pids[q.1]? with
  | some i => stepB env i q.2.1 q.2.2
  | none => false)
/-- a contract at a call -/
def aApp (TT : List (List aCT)) (W : List aR) (d : Nat) (K : aK) (env : List aE) (fc : List aF) (loc : List (Option aV)) (stk : List aV) (ov : List aO) (pr : List Nat) (as : List aV) : Option (List aS) :=
  match spIds env fc (as.map some) (K.2.1.filter (fun q => q.isSome)) with
  | none => none
  | some pids => match clIds TT K.2.2.1 env ov fc with
    | none => none
    | some r => bif spFit K.2.1 (jmx K.1) && Nat.beq as.length (K.2.1.filter (fun q => q.isSome)).length && entA r.1 fc (pids ++ r.2.2) K.2.2.2.1 && subW K.2.2.2.2.2.2.2.1 W && Nat.ble (K.2.2.2.2.2.2.2.2.1 + 1) d && Nat.ble (catS stk) 8 && stk.all (fun v => Nat.ble v.1 3) && stepsB env pids (spSd 0 K.2.1) then
        aAnsA (r.1 ++ clEnv K.2.2.2.2.2.1) fc (lo4 loc) stk (clOv r.1.length K.2.2.2.2.2.1 ++ ovKill TT r.1 K.2.2.2.2.2.2.2.1 r.2.1) pr (pids ++ r.2.2 ++ (List.range K.2.2.2.2.2.1.length).map (fun j => r.1.length + j)) K.2.2.2.2.2.2.1 K.2.2.2.2.1
      else none
/-- the first contract of y2, below the number n, that can be had -/
def aCall (TT : List (List aCT)) (KT : List aK) (W : List aR) (d n y2 kc ks : Nat) (env : List aE) (fc : List aF) (loc : List (Option aV)) (stk : List aV) (ov : List aO) (pr : List Nat) (as : List aV) : List Nat → Option (Nat × Nat × List aS)
  | [] => none
  | k :: t => match KT[k]? with
    | none => none
    | some K => bif Nat.blt k n && Nat.beq K.1 y2 && Nat.ble K.2.2.2.2.2.2.2.2.2.1 kc && Nat.ble K.2.2.2.2.2.2.2.2.2.2 ks then
        (match aApp TT W d K env fc loc stk ov pr as with
        | some l => some (kc - K.2.2.2.2.2.2.2.2.2.1, ks - K.2.2.2.2.2.2.2.2.2.2, l)
        | none => aCall TT KT W d n y2 kc ks env fc loc stk ov pr as t)
      else aCall TT KT W d n y2 kc ks env fc loc stk ov pr as t
def jfind3 (l : List (Nat × Nat × Nat)) (own i : Nat) : Option Nat := match l.find? (fun q => Nat.beq q.2.1 i && Nat.beq q.1 own) with
  | some q => some q.2.2
  | none => none
def aSt1 (loc : List (Option aV)) (i : Nat) (v : aV) : List (Option aV) :=
  (match i with | 0 => loc | k + 1 => match loc[k]? with | some (some w) => bif Nat.beq w.1 1 then loc.set k none else loc | _ => loc).set i (some v)
def aSt2 (loc : List (Option aV)) (i : Nat) (v : aV) : List (Option aV) :=
  ((match i with | 0 => loc | k + 1 => match loc[k]? with | some (some w) => bif Nat.beq w.1 1 then loc.set k none else loc | _ => loc).set (i + 1) none).set i (some v)
def tgtN (pc : Nat) (off : Int) : Nat := ((pc : Int) + off).toNat
/-- the state in which B is there: what was 'a cell of B or null' is that cell -/
def aPres (env : List aE) (fc : List aF) (loc : List (Option aV)) (stk : List aV) (ov : List aO) (pr : List Nat) (B : Nat) : aS := (env, fc, loc, stk, ov, B :: pr)
def aBr (q : Option (List aE × List aF)) (pc : Nat) (loc : List (Option aV)) (stk : List aV) (ov : List aO) (pr : List Nat) (kc ks : Nat) : List (Nat × aS × Nat × Nat) := match q with
  | some r => [(pc, (r.1, r.2, loc, stk, ov, pr), kc, ks)]
  | none => []
/-- the ways of a switch on the id i: the numbers from lo on with their offsets -/
def aSw (env : List aE) (fc : List aF) (pc : Nat) (loc : List (Option aV)) (stk : List aV) (ov : List aO) (pr : List Nat) (kc ks i : Nat) : Int → List Int → List (Nat × aS × Nat × Nat)
  | _, [] => []
  | lo, o :: t => aBr (cAsm env fc .eq (fadd 1 (lin env i) (fcon (-lo)))) (tgtN pc o) loc stk ov pr kc ks ++ aSw env fc pc loc stk ov pr kc ks i (lo + 1) t
/-- the ways of a lookupswitch: its pairs -/
def aSwL (env : List aE) (fc : List aF) (pc : Nat) (loc : List (Option aV)) (stk : List aV) (ov : List aO) (pr : List Nat) (kc ks i : Nat) : List (Int × Int) → List (Nat × aS × Nat × Nat)
  | [] => []
  | q :: t => aBr (cAsm env fc .eq (fadd 1 (lin env i) (fcon (-q.1)))) (tgtN pc q.2) loc stk ov pr kc ks ++ aSwL env fc pc loc stk ov pr kc ks i t
/-- what the checker is given of a method: (types, contracts, contracts by method; written, not to be written; method, its class, depth, its contract's number) -/
abbrev aM : Type := List (List aCT) × List aK × List (List Nat) × List aR × List aR × Nat × Nat × Nat × Nat
def aInv (M : aM) (pc kc ks y2 : Nat) (env : List aE) (fc : List aF) (loc : List (Option aV)) (stk : List aV) (ov : List aO) (pr : List Nat) (n : Nat) : Option (List (Nat × aS × Nat × Nat)) :=
  bif Nat.ble n stk.length then (match M.2.2.1[y2]? with
    | none => none
    | some ks2 => match aCall M.1 M.2.1 M.2.2.2.1 M.2.2.2.2.2.2.2.1 M.2.2.2.2.2.2.2.2 y2 kc ks env fc loc (stk.drop n) ov pr (stk.take n).reverse ks2 with
      | none => none
      | some r => some (r.2.2.map (fun S => (pc + 3, S, r.1, r.2.1)))) else none
/-- the class of each method, among jcl -/
def jyo : List Nat := [11, 99, 7, 0, 5, 4, 99, 10, 1, 99, 6, 8, 3, 11, 11, 11, 11, 11, 11, 11, 11, 11, 7, 0, 4, 7, 5, 0, 5, 0, 7, 7, 10, 11, 11, 7, 11, 11, 11, 11, 11, 10, 11, 11, 11, 11, 11, 4, 4, 99, 11, 7, 99, 11, 11, 11, 11, 11, 11, 3, 3, 3, 3, 3, 99, 99, 99, 99, 99, 99, 99, 99, 99, 99, 99, 3, 3, 3, 3, 5, 3, 3, 3, 3, 3, 3, 3, 3, 5, 5, 3, 5, 7, 11, 11, 11, 9, 9, 0, 9, 9, 9, 9, 9, 9, 9, 9, 9, 9, 11, 11, 9, 11, 9, 11, 9, 11, 9, 9, 11, 9, 9, 11, 9, 9, 11, 1, 11, 11, 6, 11, 11, 6, 6, 11, 11, 2, 2, 2, 2, 1, 1, 1, 2, 2, 2, 2, 6, 2, 2, 2, 2, 11, 2, 11, 6, 11, 8, 11, 7, 8, 99, 11, 11, 7, 8, 11, 7, 11, 7, 11, 7, 0, 1, 11, 7, 8, 8, 11, 11, 11, 11, 11, 11, 11, 7, 7, 11, 7, 11, 7, 0, 0, 11, 7, 4, 10, 1, 6, 8, 11, 11, 11, 12, 12, 12, 12, 12, 12, 12, 12, 12, 12, 12, 12, 12, 12, 12, 12, 12, 12, 12, 12, 12, 12, 12, 12, 12, 12, 12, 12, 12, 12, 12, 12, 12, 12, 12, 12, 12, 12, 12, 12, 12, 12, 12, 12, 12, 12, 12, 12, 12, 12, 12, 12, 12, 12, 12, 12, 12, 12, 12, 12, 12, 12, 12, 12, 12, 12, 12, 12, 12, 12, 12, 12, 12, 12, 12, 12, 12, 12, 12, 12, 12, 12, 12, 12, 12, 12, 12, 12, 12, 12, 12, 12, 12, 12, 12, 12, 12, 12, 12, 12, 12, 12, 12, 12, 12, 12, 12, 12, 12, 12, 12, 12]
/-- the receiver is of the method's class -/
def aRcv (TT : List (List aCT)) (y2 : Nat) (stk : List aV) : Bool := match stk[jnp y2]? with
  | some v => Nat.beq v.1 2 && (match tyAt TT v.2.1 v.2.2 with
    | some (.inr q) => Nat.beq q.1 (jyo.getD y2 99)
    | _ => false)
  | none => false
/-- arraycopy: between two arrays of ints, all of the second's bounds hold what the first may hold -/
def cpTy (n0 : Nat) (s0 s1 : List aSeg) : Bool := match s0 with
  | [(0, n, 1, [b])] => Nat.beq n n0 && s1.all (fun s => s.2.2.2.all (fun q => decide (q.1 ≤ b.1) && decide (b.2 ≤ q.2)))
  | _ => false
def aCpy (TT : List (List aCT)) (W P : List aR) (env : List aE) (fc : List aF) (loc : List (Option aV)) (stk : List aV) (ov : List aO) (pr : List Nat) (B0 o0 B1 o1 sp dp n : Nat) : Option aS := match tyAt TT B0 o0, tyAt TT B1 o1 with
  | some (.inl q0), some (.inl q1) => bif Nat.beq q0.1 0 && Nat.beq q1.1 0 && aWithin env fc sp 0 2147483647 && aWithin env fc dp 0 2147483647 && aWithin env fc n 0 2147483647 && ent env fc (fadd (-1) (fadd (-1) (fcon (q0.2.1 : Nat)) (lin env sp)) (lin env n)) && ent env fc (fadd (-1) (fadd (-1) (fcon (q1.2.1 : Nat)) (lin env dp)) (lin env n)) && cpTy q0.2.1 q0.2.2 q1.2.2 && subW [(B1, o1, 0, (q1.2.1 : Int) - 1)] W && apW [(B1, o1, 0, (q1.2.1 : Int) - 1)] P then
      some (env, fc, loc, stk, ovKill TT env [(B1, o1, 0, (q1.2.1 : Int) - 1)] ov, pr) else none
  | _, _ => none
def isCp (own j : Nat) : Bool := jcp.any (fun q => Nat.beq q.1 own && Nat.beq q.2 j)
def one (pc : Nat) (S : Option aS) (kc ks : Nat) : Option (List (Nat × aS × Nat × Nat)) := match S with
  | some S => some [(pc, S, kc, ks)]
  | none => none
def aCpyS (M : aM) (pc kc ks : Nat) (env : List aE) (fc : List aF) (loc : List (Option aV)) (stk : List aV) (ov : List aO) (pr : List Nat) : Option (List (Nat × aS × Nat × Nat)) := match stk with
  | n :: dp :: w1 :: sp :: w0 :: stk => bif Nat.beq n.1 0 && Nat.beq dp.1 0 && Nat.beq w1.1 2 && Nat.beq sp.1 0 && Nat.beq w0.1 2 && Nat.ble 1 M.2.2.2.2.2.2.2.1 && Nat.ble (catS stk) 8 then one (pc + 3) (aCpy M.1 M.2.2.2.1 M.2.2.2.2.1 env fc loc stk ov pr w0.2.1 w0.2.2 w1.2.1 w1.2.2 sp.2.1 dp.2.1 n.2.1) kc ks else none
  | _ => none
/-- a static call: its method, linked plainly or within the nest -/
def jfindS (own j : Nat) : Option Nat := match jfind3 jeM own j with
  | some y => some y
  | none => jfind3 jeN own j
/-- Math.min, Math.abs -/
def aMin (env : List aE) (fc : List aF) (x z : Nat) : Option (aE × List aF) := match aiv env fc x, aiv env fc z with
  | some a, some b => some (eNew (bif decide (a.1 < b.1) then a.1 else b.1) (bif decide (a.2 < b.2) then a.2 else b.2) none, fadd (-1) (lin env x) ([(env.length, 1)], 0) :: fadd (-1) (lin env z) ([(env.length, 1)], 0) :: fc)
  | _, _ => none
def aAbs (env : List aE) (fc : List aF) (x : Nat) : Option aE := match aiv env fc x with
  | some a => bif decide ((-2147483648 : Int) < a.1) then some (eNew 0 (bif decide (a.2 < -a.1) then -a.1 else a.2) none) else some (eNew (-2147483648 : Int) (2147483647 : Int) none)
  | none => none
def aMinS (M : aM) (pc kc ks : Nat) (env : List aE) (fc : List aF) (loc : List (Option aV)) (stk : List aV) (ov : List aO) (pr : List Nat) : Option (List (Nat × aS × Nat × Nat)) := match stk with
  | v :: w :: stk => bif Nat.beq v.1 0 && Nat.beq w.1 0 && Nat.ble 1 M.2.2.2.2.2.2.2.1 && Nat.ble (catS stk) 8 then (match aMin env fc w.2.1 v.2.1 with
      | some q => one (pc + 3) (some (env ++ [q.1], q.2, loc, (0, env.length, 0) :: stk, ov, pr)) kc ks
      | none => none) else none
  | _ => none
def aAbsS (M : aM) (pc kc ks : Nat) (env : List aE) (fc : List aF) (loc : List (Option aV)) (stk : List aV) (ov : List aO) (pr : List Nat) : Option (List (Nat × aS × Nat × Nat)) := match stk with
  | v :: stk => bif Nat.beq v.1 0 && Nat.ble 1 M.2.2.2.2.2.2.2.1 && Nat.ble (catS stk) 8 then (match aAbs env fc v.2.1 with
      | some e => one (pc + 3) (some (env ++ [e], fc, loc, (0, env.length, 0) :: stk, ov, pr)) kc ks
      | none => none) else none
  | _ => none
def oneE (k : Nat) (pc : Nat) (e : Option aE) (env : List aE) (fc : List aF) (loc : List (Option aV)) (stk : List aV) (ov : List aO) (pr : List Nat) (kc ks : Nat) : Option (List (Nat × aS × Nat × Nat)) := match e with
  | some e => some [(pc, (env ++ [e], fc, loc, (k, env.length, 0) :: stk, ov, pr), kc, ks)]
  | none => none
def aLoad (k i : Nat) (pc : Nat) (env : List aE) (fc : List aF) (loc : List (Option aV)) (stk : List aV) (ov : List aO) (pr : List Nat) (kc ks : Nat) : Option (List (Nat × aS × Nat × Nat)) := match loc[i]? with
  | some (some v) => bif (match k with | 0 => Nat.beq v.1 0 | 1 => Nat.beq v.1 1 | _ => Nat.ble 2 v.1) then some [(pc, (env, fc, loc, v :: stk, ov, pr), kc, ks)] else none
  | _ => none
def aStep (M : aM) (pc kc ks : Nat) (i : Instr) (len : Nat) (env : List aE) (fc : List aF) (loc : List (Option aV)) (stk : List aV) (ov : List aO) (pr : List Nat) : Option (List (Nat × aS × Nat × Nat)) :=
  match i, stk with
  | .iconst n, stk => bif Nat.beq len 1 && decide (-1 ≤ n) && decide (n ≤ 5) then oneE 0 (pc + 1) (some (eNew n n (some (fcon n)))) env fc loc stk ov pr kc ks else none
  | .bipush n, stk => bif Nat.beq len 2 && decide (-128 ≤ n) && decide (n ≤ 127) then oneE 0 (pc + 2) (some (eNew n n (some (fcon n)))) env fc loc stk ov pr kc ks else none
  | .sipush n, stk => bif Nat.beq len 3 && decide (-32768 ≤ n) && decide (n ≤ 32767) then oneE 0 (pc + 3) (some (eNew n n (some (fcon n)))) env fc loc stk ov pr kc ks else none
  | .lconst n, stk => bif Nat.beq len 1 then oneE 1 (pc + 1) (some (eNew (n : Nat) (n : Nat) (some (fcon (n : Nat))))) env fc loc stk ov pr kc ks else none
  | .ldc j, stk => bif Nat.beq len 2 then (match jeV.find? (fun q => Nat.beq q.2.1 j && Nat.beq q.1 M.2.2.2.2.2.2.1) with
      | some q => oneE 0 (pc + 2) (some (eNew q.2.2.toInt q.2.2.toInt (some (fcon q.2.2.toInt)))) env fc loc stk ov pr kc ks
      | none => none) else none
  | .ldc_w j, stk => bif Nat.beq len 3 then (match jeV.find? (fun q => Nat.beq q.2.1 j && Nat.beq q.1 M.2.2.2.2.2.2.1) with
      | some q => oneE 0 (pc + 3) (some (eNew q.2.2.toInt q.2.2.toInt (some (fcon q.2.2.toInt)))) env fc loc stk ov pr kc ks
      | none => none) else none
  | .ldc2_w j, stk => bif Nat.beq len 3 then (match jeW.find? (fun q => Nat.beq q.2.1 j && Nat.beq q.1 M.2.2.2.2.2.2.1) with
      | some q => oneE 1 (pc + 3) (some (eNew q.2.2.toInt q.2.2.toInt (some (fcon q.2.2.toInt)))) env fc loc stk ov pr kc ks
      | none => none) else none
  | .aconst_null, stk => bif Nat.beq len 1 then one (pc + 1) (some (env, fc, loc, (3, 0, 0) :: stk, ov, pr)) kc ks else none
  | .iload_n k, stk => bif Nat.beq len 1 then aLoad 0 k (pc + 1) env fc loc stk ov pr kc ks else none
  | .iload k, stk => bif Nat.beq len 2 then aLoad 0 k (pc + 2) env fc loc stk ov pr kc ks else none
  | .lload_n k, stk => bif Nat.beq len 1 then aLoad 1 k (pc + 1) env fc loc stk ov pr kc ks else none
  | .lload k, stk => bif Nat.beq len 2 then aLoad 1 k (pc + 2) env fc loc stk ov pr kc ks else none
  | .aload_n k, stk => bif Nat.beq len 1 then aLoad 2 k (pc + 1) env fc loc stk ov pr kc ks else none
  | .aload k, stk => bif Nat.beq len 2 then aLoad 2 k (pc + 2) env fc loc stk ov pr kc ks else none
  | .istore_n k, v :: stk => bif Nat.beq len 1 && Nat.beq v.1 0 && Nat.blt k (jmx M.2.2.2.2.2.1) then one (pc + 1) (some (env, fc, aSt1 loc k v, stk, ov, pr)) kc ks else none
  | .istore k, v :: stk => bif Nat.beq len 2 && Nat.beq v.1 0 && Nat.blt k (jmx M.2.2.2.2.2.1) then one (pc + 2) (some (env, fc, aSt1 loc k v, stk, ov, pr)) kc ks else none
  | .astore_n k, v :: stk => bif Nat.beq len 1 && Nat.ble 2 v.1 && Nat.blt k (jmx M.2.2.2.2.2.1) then one (pc + 1) (some (env, fc, aSt1 loc k v, stk, ov, pr)) kc ks else none
  | .astore k, v :: stk => bif Nat.beq len 2 && Nat.ble 2 v.1 && Nat.blt k (jmx M.2.2.2.2.2.1) then one (pc + 2) (some (env, fc, aSt1 loc k v, stk, ov, pr)) kc ks else none
  | .lstore_n k, v :: stk => bif Nat.beq len 1 && Nat.beq v.1 1 && Nat.blt (k + 1) (jmx M.2.2.2.2.2.1) then one (pc + 1) (some (env, fc, aSt2 loc k v, stk, ov, pr)) kc ks else none
  | .lstore k, v :: stk => bif Nat.beq len 2 && Nat.beq v.1 1 && Nat.blt (k + 1) (jmx M.2.2.2.2.2.1) then one (pc + 2) (some (env, fc, aSt2 loc k v, stk, ov, pr)) kc ks else none
  | .iinc k n, stk => bif Nat.beq len 3 && Nat.blt k (jmx M.2.2.2.2.2.1) && decide (-32768 ≤ n) && decide (n ≤ 32767) then (match loc[k]? with
      | some (some v) => bif Nat.beq v.1 0 then (match aiv env fc v.2.1 with
          | some a => bif decide ((-2147483648 : Int) ≤ a.1 + n) && decide (a.2 + n ≤ (2147483647 : Int)) then one (pc + 3) (some (env ++ [eNew (a.1 + n) (a.2 + n) (some (fadd 1 (lin env v.2.1) (fcon n)))], fc, aSt1 loc k (0, env.length, 0), stk, ov, pr)) kc ks
              else one (pc + 3) (some (env ++ [eNew (-2147483648 : Int) (2147483647 : Int) none], fc, aSt1 loc k (0, env.length, 0), stk, ov, pr)) kc ks
          | none => none) else none
      | _ => none) else none
  | .iadd, v :: w :: stk => bif Nat.beq len 1 && Nat.beq v.1 0 && Nat.beq w.1 0 then oneE 0 (pc + 1) (aSum (-2147483648 : Int) (2147483647 : Int) env fc w.2.1 v.2.1) env fc loc stk ov pr kc ks else none
  | .isub, v :: w :: stk => bif Nat.beq len 1 && Nat.beq v.1 0 && Nat.beq w.1 0 then oneE 0 (pc + 1) (aDif (-2147483648 : Int) (2147483647 : Int) env fc w.2.1 v.2.1) env fc loc stk ov pr kc ks else none
  | .imul, v :: w :: stk => bif Nat.beq len 1 && Nat.beq v.1 0 && Nat.beq w.1 0 then oneE 0 (pc + 1) (aMul env fc w.2.1 v.2.1) env fc loc stk ov pr kc ks else none
  | .idiv, v :: w :: stk => bif Nat.beq len 1 && Nat.beq v.1 0 && Nat.beq w.1 0 then (match aDiv env fc w.2.1 v.2.1 with
      | some q => one (pc + 1) (some (env ++ [q.1], q.2, loc, (0, env.length, 0) :: stk, ov, pr)) kc ks
      | none => none) else none
  | .irem, v :: w :: stk => bif Nat.beq len 1 && Nat.beq v.1 0 && Nat.beq w.1 0 then oneE 0 (pc + 1) (aRem (aGh env fc w.2.1 v.2.1).1 (aGh env fc w.2.1 v.2.1).2 w.2.1 v.2.1) (aGh env fc w.2.1 v.2.1).1 (aGh env fc w.2.1 v.2.1).2 loc stk ov pr kc ks else none
  | .iand, v :: w :: stk => bif Nat.beq len 1 && Nat.beq v.1 0 && Nat.beq w.1 0 then oneE 0 (pc + 1) (aAnd env fc w.2.1 v.2.1) env fc loc stk ov pr kc ks else none
  | .ior, v :: w :: stk => bif Nat.beq len 1 && Nat.beq v.1 0 && Nat.beq w.1 0 then oneE 0 (pc + 1) (aOr env fc w.2.1 v.2.1) env fc loc stk ov pr kc ks else none
  | .ixor, v :: w :: stk => bif Nat.beq len 1 && Nat.beq v.1 0 && Nat.beq w.1 0 then oneE 0 (pc + 1) (aOr env fc w.2.1 v.2.1) env fc loc stk ov pr kc ks else none
  | .ishl, v :: w :: stk => bif Nat.beq len 1 && Nat.beq v.1 0 && Nat.beq w.1 0 then oneE 0 (pc + 1) (aShl env fc w.2.1 v.2.1) env fc loc stk ov pr kc ks else none
  | .ishr, v :: w :: stk => bif Nat.beq len 1 && Nat.beq v.1 0 && Nat.beq w.1 0 then oneE 0 (pc + 1) (aShr env fc w.2.1 v.2.1) env fc loc stk ov pr kc ks else none
  | .iushr, v :: w :: stk => bif Nat.beq len 1 && Nat.beq v.1 0 && Nat.beq w.1 0 then oneE 0 (pc + 1) (some (eNew (-2147483648 : Int) (2147483647 : Int) none)) env fc loc stk ov pr kc ks else none
  | .ineg, v :: stk => bif Nat.beq len 1 && Nat.beq v.1 0 then oneE 0 (pc + 1) (aNeg env fc v.2.1) env fc loc stk ov pr kc ks else none
  | .ladd, v :: w :: stk => bif Nat.beq len 1 && Nat.beq v.1 1 && Nat.beq w.1 1 then oneE 1 (pc + 1) (aSum (-9223372036854775808 : Int) (9223372036854775807 : Int) env fc w.2.1 v.2.1) env fc loc stk ov pr kc ks else none
  | .lsub, v :: w :: stk => bif Nat.beq len 1 && Nat.beq v.1 1 && Nat.beq w.1 1 then oneE 1 (pc + 1) (aDif (-9223372036854775808 : Int) (9223372036854775807 : Int) env fc w.2.1 v.2.1) env fc loc stk ov pr kc ks else none
  | .lmul, v :: w :: stk => bif Nat.beq len 1 && Nat.beq v.1 1 && Nat.beq w.1 1 then oneE 1 (pc + 1) (some (eNew (-9223372036854775808 : Int) (9223372036854775807 : Int) none)) env fc loc stk ov pr kc ks else none
  | .land, v :: w :: stk => bif Nat.beq len 1 && Nat.beq v.1 1 && Nat.beq w.1 1 then oneE 1 (pc + 1) (some (eNew (-9223372036854775808 : Int) (9223372036854775807 : Int) none)) env fc loc stk ov pr kc ks else none
  | .lor, v :: w :: stk => bif Nat.beq len 1 && Nat.beq v.1 1 && Nat.beq w.1 1 then oneE 1 (pc + 1) (some (eNew (-9223372036854775808 : Int) (9223372036854775807 : Int) none)) env fc loc stk ov pr kc ks else none
  | .lxor, v :: w :: stk => bif Nat.beq len 1 && Nat.beq v.1 1 && Nat.beq w.1 1 then oneE 1 (pc + 1) (some (eNew (-9223372036854775808 : Int) (9223372036854775807 : Int) none)) env fc loc stk ov pr kc ks else none
  | .lshl, v :: w :: stk => bif Nat.beq len 1 && Nat.beq v.1 0 && Nat.beq w.1 1 then oneE 1 (pc + 1) (some (eNew (-9223372036854775808 : Int) (9223372036854775807 : Int) none)) env fc loc stk ov pr kc ks else none
  | .lshr, v :: w :: stk => bif Nat.beq len 1 && Nat.beq v.1 0 && Nat.beq w.1 1 then oneE 1 (pc + 1) (some (eNew (-9223372036854775808 : Int) (9223372036854775807 : Int) none)) env fc loc stk ov pr kc ks else none
  | .lcmp, v :: w :: stk => bif Nat.beq len 1 && Nat.beq v.1 1 && Nat.beq w.1 1 then oneE 0 (pc + 1) (some (-1, 1, none, 3, 0, 0, [fadd (-1) (lin env w.2.1) (lin env v.2.1)])) env fc loc stk ov pr kc ks else none
  | .i2l, v :: stk => bif Nat.beq len 1 && Nat.beq v.1 0 then (match aiv env fc v.2.1 with
      | some a => oneE 1 (pc + 1) (some (eNew a.1 a.2 (some (lin env v.2.1)))) env fc loc stk ov pr kc ks
      | none => none) else none
  | .l2i, v :: stk => bif Nat.beq len 1 && Nat.beq v.1 1 then (match aiv env fc v.2.1 with
      | some a => bif decide ((-2147483648 : Int) ≤ a.1) && decide (a.2 ≤ (2147483647 : Int)) then oneE 0 (pc + 1) (some (eNew a.1 a.2 (some (lin env v.2.1)))) env fc loc stk ov pr kc ks else oneE 0 (pc + 1) (some (eNew (-2147483648 : Int) (2147483647 : Int) none)) env fc loc stk ov pr kc ks
      | none => none) else none
  | .dup, v :: stk => bif Nat.beq len 1 && !Nat.beq v.1 1 then one (pc + 1) (some (env, fc, loc, v :: v :: stk, ov, pr)) kc ks else none
  | .dup2, v :: w :: stk => bif Nat.beq len 1 && !Nat.beq v.1 1 && !Nat.beq w.1 1 then one (pc + 1) (some (env, fc, loc, v :: w :: v :: w :: stk, ov, pr)) kc ks else none
  | .pop, v :: stk => bif Nat.beq len 1 && !Nat.beq v.1 1 then one (pc + 1) (some (env, fc, loc, stk, ov, pr)) kc ks else none
  | .goto off, stk => bif Nat.beq len 3 && decide (0 ≤ (pc : Int) + off) then one (tgtN pc off) (some (env, fc, loc, stk, ov, pr)) kc ks else none
  | .if_icmp c off, v :: w :: stk => bif Nat.beq len 3 && decide (0 ≤ (pc : Int) + off) && Nat.beq v.1 0 && Nat.beq w.1 0 then
      some (aBr (cAsm env fc c (fadd (-1) (lin env w.2.1) (lin env v.2.1))) (tgtN pc off) loc stk ov pr kc ks ++ aBr (cAsm env fc (cNeg c) (fadd (-1) (lin env w.2.1) (lin env v.2.1))) (pc + 3) loc stk ov pr kc ks) else none
  | .ifCond c off, v :: stk => bif Nat.beq len 3 && decide (0 ≤ (pc : Int) + off) && Nat.beq v.1 0 then
      some (aBr (tAsm env fc c v.2.1) (tgtN pc off) loc stk ov pr kc ks ++ aBr (tAsm env fc (cNeg c) v.2.1) (pc + 3) loc stk ov pr kc ks) else none
  | .ifnull off, v :: stk => bif Nat.beq len 3 && decide (0 ≤ (pc : Int) + off) then (match v.1 with
      | 2 => one (pc + 3) (some (env, fc, loc, stk, ov, pr)) kc ks
      | 3 => one (tgtN pc off) (some (env, fc, loc, stk, ov, pr)) kc ks
      | 4 => some [(tgtN pc off, (env, fc, loc, stk, ov, pr), kc, ks), (pc + 3, (env, fc, loc.map (fun z => bif decide (z = some v) then some (2, v.2.1, v.2.2) else z), stk, ov, v.2.1 :: pr), kc, ks)]
      | _ => none) else none
  | .ifnonnull off, v :: stk => bif Nat.beq len 3 && decide (0 ≤ (pc : Int) + off) then (match v.1 with
      | 2 => one (tgtN pc off) (some (env, fc, loc, stk, ov, pr)) kc ks
      | 3 => one (pc + 3) (some (env, fc, loc, stk, ov, pr)) kc ks
      | 4 => some [(pc + 3, (env, fc, loc, stk, ov, pr), kc, ks), (tgtN pc off, (env, fc, loc.map (fun z => bif decide (z = some v) then some (2, v.2.1, v.2.2) else z), stk, ov, v.2.1 :: pr), kc, ks)]
      | _ => none) else none
  | .tableswitch dflt lo hi offs, v :: stk => bif Nat.beq v.1 0 && decide ((offs.toList.length : Int) = hi - lo + 1) && decide (0 ≤ (pc : Int) + dflt) && offs.toList.all (fun o => decide (0 ≤ (pc : Int) + o)) then
      some (aSw env fc pc loc stk ov pr kc ks v.2.1 lo offs.toList ++ (aBr (cAsm env fc .lt (fadd 1 (lin env v.2.1) (fcon (-lo)))) (tgtN pc dflt) loc stk ov pr kc ks ++ aBr (cAsm env fc .gt (fadd 1 (lin env v.2.1) (fcon (-hi)))) (tgtN pc dflt) loc stk ov pr kc ks)) else none
  | .lookupswitch dflt ps, v :: stk => bif Nat.beq v.1 0 && (ps.toList.zip (ps.toList.drop 1)).all (fun (a, next) => a.1 < next.1) && decide (0 ≤ (pc : Int) + dflt) && ps.toList.all (fun o => decide (0 ≤ (pc : Int) + o.2)) then
      some (aSwL env fc pc loc stk ov pr kc ks v.2.1 ps.toList ++ [(tgtN pc dflt, (env, fc, loc, stk, ov, pr), kc, ks)]) else none
  | .getfield j, v :: stk => bif Nat.beq len 3 && Nat.beq v.1 2 then (match jfind jeF M.2.2.2.2.2.2.1 j with
      | some q => one (pc + 3) (aGet M.1 env fc loc stk ov pr v.2.1 v.2.2 q.1 q.2) kc ks
      | none => none) else none
  | .putfield j, v :: w :: stk => bif Nat.beq len 3 && Nat.beq w.1 2 then (match jfind jeF M.2.2.2.2.2.2.1 j with
      | some q => one (pc + 3) (aPut M.1 M.2.2.2.1 M.2.2.2.2.1 env fc loc stk ov pr w.2.1 w.2.2 q.1 q.2 v) kc ks
      | none => none) else none
  | .iaload, v :: w :: stk => bif Nat.beq len 1 && Nat.beq v.1 0 && Nat.beq w.1 2 then one (pc + 1) (aAld M.1 0 env fc loc stk ov pr w.2.1 w.2.2 v.2.1) kc ks else none
  | .baload, v :: w :: stk => bif Nat.beq len 1 && Nat.beq v.1 0 && Nat.beq w.1 2 then one (pc + 1) (aAld M.1 1 env fc loc stk ov pr w.2.1 w.2.2 v.2.1) kc ks else none
  | .iastore, v :: x :: w :: stk => bif Nat.beq len 1 && Nat.beq v.1 0 && Nat.beq x.1 0 && Nat.beq w.1 2 then one (pc + 1) (aAst M.1 M.2.2.2.1 M.2.2.2.2.1 0 env fc loc stk ov pr w.2.1 w.2.2 x.2.1 v.2.1) kc ks else none
  | .bastore, v :: x :: w :: stk => bif Nat.beq len 1 && Nat.beq v.1 0 && Nat.beq x.1 0 && Nat.beq w.1 2 then one (pc + 1) (aAst M.1 M.2.2.2.1 M.2.2.2.2.1 1 env fc loc stk ov pr w.2.1 w.2.2 x.2.1 v.2.1) kc ks else none
  | .arraylength, w :: stk => bif Nat.beq len 1 && Nat.beq w.1 2 then (match tyAt M.1 w.2.1 w.2.2 with
      | some (.inl q) => bif Nat.ble q.1 1 && decide ((q.2.1 : Int) ≤ (2147483647 : Int)) then oneE 0 (pc + 1) (some (eNew q.2.1 q.2.1 (some (fcon q.2.1)))) env fc loc stk ov pr kc ks else none
      | _ => none) else none
  | .invokevirtual j, stk => bif Nat.beq len 3 then (match jfind3 jeM M.2.2.2.2.2.2.1 j with
      | some y2 => bif Nat.beq (jkd y2) 0 && Nat.blt y2 315 && aRcv M.1 y2 stk then aInv M pc kc ks y2 env fc loc stk ov pr (jnp y2 + 1) else none
      | none => none) else none
  | .invokestatic j, stk => bif Nat.beq len 3 then (bif isCp M.2.2.2.2.2.2.1 j then aCpyS M pc kc ks env fc loc stk ov pr else (match jfindS M.2.2.2.2.2.2.1 j with
      | some 49 => bif (jfind3 jeM M.2.2.2.2.2.2.1 j).isSome then aMinS M pc kc ks env fc loc stk ov pr else none
      | some 161 => bif (jfind3 jeM M.2.2.2.2.2.2.1 j).isSome then aAbsS M pc kc ks env fc loc stk ov pr else none
      | some y2 => bif Nat.beq (jkd y2) 1 && Nat.blt y2 315 then aInv M pc kc ks y2 env fc loc stk ov pr (jnp y2) else none
      | none => none)) else none
  | _, _ => none
end
section
/-! THE CHECKER: paths from the entry, and from each cut, to returns and cuts -/
/-- cuts: (pc, locals, cells, facts, measure, blocks that are there) -/
abbrev aCu : Type := Nat × List (Option aT) × List aC × List aF × aF × List Nat
def kN (K : aK) : Nat := (spEnv K.2.1).length + K.2.2.1.length
def kEnv (K : aK) : List aE := spEnv K.2.1 ++ clEnv K.2.2.1
def aBool (y : Nat) : Bool := decide (jrT y = some .boolean)
/-- an answer, by one of the contract's -/
def aRetV (env : List aE) (fc : List aF) (m : List Nat) (v : aV) (bl : Bool) (q : aQ) : Bool := match q.1 with
  | 0 => Nat.beq v.1 0 && aWithin env fc v.2.1 q.2.1 q.2.2.1 && (!bl || aWithin env fc v.2.1 0 1) && (match q.2.2.2.2.2 with
    | [] => true
    | ts => (aWithin env fc v.2.1 1 1 && entA env fc m ts) || (aWithin env fc v.2.1 0 0 && ts.any (fun F => entA env fc m [fadd 1 (fmul (-1) F) (fcon (-1))]) && (fsubA env m ts).isSome))
  | 2 => Nat.beq v.1 2 && Nat.beq v.2.1 q.2.2.2.1 && Nat.beq v.2.2 q.2.2.2.2.1
  | 5 => Nat.beq v.1 0 && !bl && Nat.blt 0 q.2.2.2.1 && aWithin env fc v.2.1 q.2.1 (q.2.1 + q.2.2.2.1 * q.2.2.1) && (lin env v.2.1).1.all (fun r => decide (r.2 % (q.2.2.2.1 : Int) = 0)) && decide (((lin env v.2.1).2 - q.2.1) % (q.2.2.2.1 : Int) = 0)
  | _ => false
def aRet (TT : List (List aCT)) (K : aK) (i : Instr) (len : Nat) (env : List aE) (fc : List aF) (stk : List aV) (ov : List aO) : Bool := match clIds TT K.2.2.2.2.2.1 env ov fc with
  | none => false
  | some r => match i, stk with
    | .return_, [] => Nat.beq len 1 && decide (jrT K.1 = none) && K.2.2.2.2.1.any (fun q => Nat.beq q.1 9) && entA r.1 fc (List.range (kN K) ++ r.2.2) K.2.2.2.2.2.2.1
    | .ireturn, [v] => Nat.beq len 1 && Nat.beq v.1 0 && (decide (jrT K.1 = some .int) || aBool K.1) && K.2.2.2.2.1.any (aRetV r.1 fc (List.range (kN K)) v (aBool K.1)) && entA r.1 fc (List.range (kN K) ++ r.2.2 ++ [v.2.1]) K.2.2.2.2.2.2.1
    | .areturn, [v] => Nat.beq len 1 && (match jrT K.1 with | some (.object _) => true | _ => false) && K.2.2.2.2.1.any (fun q => Nat.beq q.1 2 && aRetV r.1 fc (List.range (kN K)) v false q) && entA r.1 fc (List.range (kN K) ++ r.2.2) K.2.2.2.2.2.2.1
    | _, _ => false
def isRet : Instr → Bool
  | .return_ => true
  | .ireturn => true
  | .areturn => true
  | _ => false
def aCut (TT : List (List aCT)) (K : aK) (C : aCu) (m0 : Option aF) (kc ks : Nat) (env : List aE) (fc : List aF) (loc : List (Option aV)) (stk : List aV) (ov : List aO) (pr : List Nat) : Bool := match stk with
  | [] => (match spIds env fc loc C.2.1 with
    | none => false
    | some pids => match clIds TT C.2.2.1 env ov fc with
      | none => false
      | some r => Nat.beq kc K.2.2.2.2.2.2.2.2.2.1 && Nat.beq ks K.2.2.2.2.2.2.2.2.2.2 && C.2.2.2.2.2.all (fun B => pr.contains B) && entA r.1 fc (List.range (kN K) ++ pids ++ r.2.2) C.2.2.2.1 &&
        (match fsub r.1 (List.range (kN K) ++ pids ++ r.2.2) C.2.2.2.2.1 with
        | none => false
        | some G => ent r.1 fc G && (match m0 with | none => true | some F => ent r.1 fc (fadd 1 (fadd (-1) F G) (fcon (-1))))))
  | _ => false
def cutAt (cs : List aCu) (pc : Nat) : Option aCu := cs.find? (fun C => Nat.beq C.1 pc)
/-- splits: (pc, 0, B, o, place, c): the known cell is at most c, or above it; (pc, 1, local, _, _, c); (pc, 2, place on the stack, _, _, c) -/
abbrev aSp : Type := Nat × Nat × Nat × Nat × Nat × Int
def spId (S : aS) (q : aSp) : Option Nat := match q.2.1 with
  | 0 => ovFind q.2.2.1 q.2.2.2.1 (fcon q.2.2.2.2.1) S.2.2.2.2.1
  | 1 => (match S.2.2.1[q.2.2.1]? with
    | some (some v) => bif Nat.ble v.1 1 then some v.2.1 else none
    | _ => none)
  | _ => match S.2.2.2.1[q.2.2.1]? with
    | some v => bif Nat.ble v.1 1 then some v.2.1 else none
    | _ => none
def brS (q : Option (List aE × List aF)) (S : aS) : List aS := match q with
  | some r => [(r.1, r.2, S.2.2)]
  | none => []
def isTg (env : List aE) (i : Nat) : Bool := match env[i]? with
  | some e => Nat.beq e.2.2.2.1 1
  | none => false
def spl1 (q : aSp) (S : aS) : List aS := match spId S q with
  | none => [S]
  | some i => bif isTg S.1 i then brS (tAsm S.1 S.2.1 .eq i) S ++ brS (tAsm S.1 S.2.1 .ne i) S else brS (cAsm S.1 S.2.1 .le (fadd 1 (lin S.1 i) (fcon (-q.2.2.2.2.2)))) S ++ brS (cAsm S.1 S.2.1 .gt (fadd 1 (lin S.1 i) (fcon (-q.2.2.2.2.2)))) S
def spl (pc : Nat) : List aSp → aS → List aS
  | [], S => [S]
  | q :: t, S => bif Nat.beq q.1 pc then (spl1 q S).flatMap (spl pc t) else spl pc t S
def chk (M : aM) (K : aK) (cs : List aCu) (sp : List aSp) (m0 : Option aF) : Nat → Bool → Nat → aS → Nat → Nat → Bool
  | 0, _, _, _, _, _ => false
  | n + 1, first, pc, S, kc, ks => match (bif first then none else cutAt cs pc) with
    | some C => aCut M.1 K C m0 kc ks S.1 S.2.1 S.2.2.1 S.2.2.2.1 S.2.2.2.2.1 S.2.2.2.2.2
    | none => match dcF K.1 pc with
      | .ok q => (spl pc sp S).all (fun S => bif isRet q.1 then aRet M.1 K q.1 q.2 S.1 S.2.1 S.2.2.2.1 S.2.2.2.2.1 else (match aStep M pc kc ks q.1 q.2 S.1 S.2.1 S.2.2.1 S.2.2.2.1 S.2.2.2.2.1 S.2.2.2.2.2 with
        | some l => l.all (fun r => chk M K cs sp m0 n false r.1 r.2.1 r.2.2.1 r.2.2.2)
        | none => false))
      | .error _ => false
/-- the whole check of contract number k, with its cuts; P: what may not be written by a method itself -/
def kchk (TT : List (List aCT)) (KT : List aK) (KI : List (List Nat)) (P : List aR) (fuel k own : Nat) (cs : List aCu) (sp : List aSp) : Bool := match KT[k]? with
  | none => false
  | some K => decide (jcN own = (jyN K.1).cls) && Nat.blt K.1 jNM && Nat.beq K.2.1.length (jmx K.1) &&
    chk (TT, KT, KI, K.2.2.2.2.2.2.2.1, P, K.1, own, K.2.2.2.2.2.2.2.2.1, k) K cs sp none fuel true 0 (spState [] K.2.1 K.2.2.1 K.2.2.2.1 []) K.2.2.2.2.2.2.2.2.2.1 K.2.2.2.2.2.2.2.2.2.2 &&
    cs.all (fun C => Nat.beq C.2.1.length (jmx K.1) && chk (TT, KT, KI, K.2.2.2.2.2.2.2.1, P, K.1, own, K.2.2.2.2.2.2.2.2.1, k) K cs sp (some C.2.2.2.2.1) fuel true C.1 (spState (kEnv K) C.2.1 C.2.2.1 C.2.2.2.1 C.2.2.2.2.2) K.2.2.2.2.2.2.2.2.2.1 K.2.2.2.2.2.2.2.2.2.2)
end
section
/-! WHAT A STATE OF THE CHECKER SAYS OF THE MACHINE'S -/
theorem getE_app {α : Type} {a b : List α} {i : Nat} {x : α} (h : a[i]? = some x) : (a ++ b)[i]? = some x := by
  rw [List.getElem?_append_left (List.getElem?_eq_some_iff.mp h).1]; exact h
theorem eIv.push {vs : List Int} {env : List aE} {e : aE} {z : Int} (h : eIv vs env) (hz : e.1 ≤ z ∧ z ≤ e.2.1) : eIv (vs ++ [z]) (env ++ [e]) := by
  refine ⟨by simp [h.1], fun i x y hx hy => ?_⟩
  rcases Nat.lt_or_ge i env.length with hl | hl
  · rw [List.getElem?_append_left hl] at hx
    rw [List.getElem?_append_left (by rw [← h.1]; exact hl)] at hy
    exact h.2 i x y hx hy
  · rw [List.getElem?_append_right hl] at hx
    rw [List.getElem?_append_right (by rw [← h.1]; exact hl)] at hy
    have h0 : i - env.length = 0 := by
      have := (List.getElem?_eq_some_iff.mp hx).1
      simp at this
      omega
    rw [h0] at hx
    rw [← h.1, h0] at hy
    cases hx
    cases hy
    exact hz
theorem tgOK.app {vs ws : List Int} {e : aE} {z : Int} (h : tgOK vs e z) : tgOK (vs ++ ws) e z := by
  obtain ⟨h1, h2, h3⟩ := h
  refine ⟨fun q => ?_, fun q => ?_, fun q F hF => ?_⟩
  · rcases h1 q with ⟨a, b⟩ | ⟨a, b, c⟩
    · exact Or.inl ⟨a, fun F hF => by obtain ⟨w, g1, g2⟩ := b F hF; exact ⟨w, fev_app g1, g2⟩⟩
    · exact Or.inr ⟨a, fun F hF => by obtain ⟨w, g1⟩ := b F hF; exact ⟨w, fev_app g1⟩, by obtain ⟨F, hF, w, g1, g2⟩ := c; exact ⟨F, hF, w, fev_app g1, g2⟩⟩
  · obtain ⟨x, g1, g2⟩ := h2 q
    exact ⟨x, getE_app g1, g2⟩
  · obtain ⟨w, g1, g2⟩ := h3 q F hF
    exact ⟨w, fev_app g1, g2⟩
theorem eFm.push {vs : List Int} {env : List aE} {e : aE} {z : Int} (hl : env.length = vs.length) (h : eFm vs env) (hF : ∀ F, e.2.2.1 = some F → fev (vs ++ [z]) F = some z) (ht : tgOK (vs ++ [z]) e z) : eFm (vs ++ [z]) (env ++ [e]) := by
  intro i x y hx hy
  rcases Nat.lt_or_ge i env.length with hlt | hlt
  · rw [List.getElem?_append_left hlt] at hx
    rw [List.getElem?_append_left (by rw [← hl]; exact hlt)] at hy
    obtain ⟨g1, g2⟩ := h i x y hx hy
    exact ⟨fun F hF => fev_app (g1 F hF), g2.app⟩
  · rw [List.getElem?_append_right hlt] at hx
    rw [List.getElem?_append_right (by rw [← hl]; exact hlt)] at hy
    have h0 : i - env.length = 0 := by
      have := (List.getElem?_eq_some_iff.mp hx).1
      simp at this
      omega
    rw [h0] at hx
    rw [← hl, h0] at hy
    cases hx
    cases hy
    exact ⟨hF, ht⟩
theorem fcOK.app {vs ws : List Int} {fc : List aF} (h : fcOK vs fc) : fcOK (vs ++ ws) fc := fun F hF => by
  obtain ⟨z, g1, g2⟩ := h F hF
  exact ⟨z, fev_app g1, g2⟩
theorem loOK.app {g : jG} {vs ws : List Int} {bk : aB} {loc : List (Option aV)} {al : List (Option Value)} (h : loOK g vs bk loc al) : loOK g (vs ++ ws) bk loc al := fun i v hv => by
  obtain ⟨w, g1, g2⟩ := h i v hv
  exact ⟨w, g1, g2.app⟩
theorem ovOK.app {vs ws : List Int} {bk : aB} {h : jH} {ov : List aO} (ho : ovOK vs bk h ov) : ovOK (vs ++ ws) bk h ov := fun q hq => by
  obtain ⟨z, b, c, x, g1, g2, g3, g4, g5⟩ := ho q hq
  exact ⟨z, b, c, x, fev_app g1, g2, g3, g4, getE_app g5⟩
theorem tg0 {vs : List Int} {lo hi z : Int} {F : Option aF} : tgOK vs (eNew lo hi F) z := ⟨(fun q => by cases q), (fun q => by cases q), (fun q => by cases q)⟩
/-- the entries, facts, locals, stack, cells known, blocks: all as they are said -/
def gOK (g : jG) (vs : List Int) (bk : aB) (al : List (Option Value)) (st : List Value) (h : jH) (env : List aE) (fc : List aF) (loc : List (Option aV)) (stk : List aV) (ov : List aO) (pr : List Nat) : Prop :=
  eIv vs env ∧ eFm vs env ∧ fcOK vs fc ∧ loOK g vs bk loc al ∧ skOK g vs bk stk st ∧ ovOK vs bk h ov ∧ ∀ B ∈ pr, ∃ b, bk B = some b
theorem gOK.env {g : jG} {vs : List Int} {bk : aB} {al : List (Option Value)} {st : List Value} {h : jH} {env env' : List aE} {fc fc' : List aF} {loc : List (Option aV)} {stk : List aV} {ov : List aO} {pr : List Nat} (a : gOK g vs bk al st h env fc loc stk ov pr) (h1 : eIv vs env') (h2 : eFm vs env') (h3 : fcOK vs fc') : gOK g vs bk al st h env' fc' loc stk ov pr := ⟨h1, h2, h3, a.2.2.2⟩
/-- a new id: its value's on the stack -/
theorem gOK.push {g : jG} {vs : List Int} {bk : aB} {al : List (Option Value)} {st : List Value} {h : jH} {env : List aE} {fc : List aF} {loc : List (Option aV)} {stk : List aV} {ov : List aO} {pr : List Nat} {k : Nat} {e : aE} {z : Int} {w : Value} (a : gOK g vs bk al st h env fc loc stk ov pr) (hz : e.1 ≤ z ∧ z ≤ e.2.1) (hF : ∀ F, e.2.2.1 = some F → fev vs F = some z) (ht : tgOK vs e z) (hw : (k = 0 ∧ ∃ x : Int32, w = .int x ∧ x.toInt = z) ∨ (k = 1 ∧ ∃ x : Int64, w = .long x ∧ x.toInt = z)) :
    gOK g (vs ++ [z]) bk al (w :: st) h (env ++ [e]) fc loc ((k, env.length, 0) :: stk) ov pr := by
  obtain ⟨a1, a2, a3, a4, a5, a6, a7⟩ := a
  refine ⟨a1.push hz, a2.push a1.1 (fun F q => fev_app (hF F q)) ht.app, a3.app, a4.app, ⟨?_, a5.app⟩, a6.app, a7⟩
  have hv : (vs ++ [z])[env.length]? = some z := by rw [a1.1]; simp
  rcases hw with ⟨rfl, x, rfl, hx⟩ | ⟨rfl, x, rfl, hx⟩
  · exact ⟨x, rfl, by rw [hx]; exact hv⟩
  · exact ⟨x, rfl, by rw [hx]; exact hv⟩
theorem vOK.int {g : jG} {vs : List Int} {bk : aB} {v : aV} {w : Value} (h : vOK g vs bk v w) (hk : Nat.beq v.1 0 = true) : ∃ x : Int32, w = .int x ∧ vs[v.2.1]? = some x.toInt := by
  have h0 : v.1 = 0 := Nat.eq_of_beq_eq_true hk
  simp only [vOK, h0] at h
  exact h
theorem vOK.long {g : jG} {vs : List Int} {bk : aB} {v : aV} {w : Value} (h : vOK g vs bk v w) (hk : Nat.beq v.1 1 = true) : ∃ x : Int64, w = .long x ∧ vs[v.2.1]? = some x.toInt := by
  have h0 : v.1 = 1 := Nat.eq_of_beq_eq_true hk
  simp only [vOK, h0] at h
  exact h
theorem vOK.rf {g : jG} {vs : List Int} {bk : aB} {v : aV} {w : Value} (h : vOK g vs bk v w) (hk : Nat.beq v.1 2 = true) : ∃ b, bk v.2.1 = some b ∧ w = .ref (g.2.2 + (b + v.2.2)) := by
  have h0 : v.1 = 2 := Nat.eq_of_beq_eq_true hk
  simp only [vOK, h0] at h
  exact h
theorem vOK.ge2 {g : jG} {vs : List Int} {bk : aB} {v : aV} {w : Value} (h : vOK g vs bk v w) (hk : Nat.ble 2 v.1 = true) : w = .null ∨ ∃ a, w = .ref a := by
  obtain ⟨k, a, o⟩ := v
  have hk : 2 ≤ k := Nat.le_of_ble_eq_true hk
  match k, h, hk with
  | 2, ⟨b, h1, h2⟩, _ => exact Or.inr ⟨_, h2⟩
  | 3, h, _ => exact Or.inl h
  | k + 4, h, _ =>
    rcases h with ⟨b, h1, h2⟩ | ⟨_, h⟩
    · exact Or.inr ⟨_, h2⟩
    · exact Or.inl h
theorem vOK.cat {g : jG} {vs : List Int} {bk : aB} {v : aV} {w : Value} (h : vOK g vs bk v w) : w.category = (bif Nat.beq v.1 1 then 2 else 1) := by
  obtain ⟨k, a, o⟩ := v
  match k, h with
  | 0, ⟨x, h1, h2⟩ => rw [h1]; rfl
  | 1, ⟨x, h1, h2⟩ => rw [h1]; rfl
  | 2, ⟨b, h1, h2⟩ => rw [h2]; rfl
  | 3, h => rw [show w = .null from h]; rfl
  | k + 4, h =>
    rcases h with ⟨b, h1, h2⟩ | ⟨_, h⟩
    · rw [h2]; rfl
    · rw [h]; rfl
theorem catS_ok {g : jG} {vs : List Int} {bk : aB} : ∀ {t : List aV} {u : List Value}, skOK g vs bk t u → (u.map fun v => v.category).sum = catS t := by
  intro t
  induction t with
  | nil => intro u h; cases u with
    | nil => rfl
    | cons => exact absurd h id
  | cons v t ih => intro u h; cases u with
    | nil => exact absurd h id
    | cons w u =>
      simp only [List.map_cons, List.sum_cons, catS]
      rw [h.1.cat, ih h.2]
/-- arithmetic -/
theorem aSum_ok32 {g : jG} {vs : List Int} {env : List aE} {fc : List aF} {x y : Nat} {a b : Int32} {e : aE} (h1 : eIv vs env) (h2 : eFm vs env) (h3 : fcOK vs fc) (hx : vs[x]? = some a.toInt) (hy : vs[y]? = some b.toInt) (h : aSum (-2147483648 : Int) (2147483647 : Int) env fc x y = some e) : (e.1 ≤ (a + b).toInt ∧ (a + b).toInt ≤ e.2.1) ∧ (∀ F, e.2.2.1 = some F → fev vs F = some (a + b).toInt) ∧ tgOK vs e (a + b).toInt := by
  rw [aSum] at h
  cases q1 : aiv env fc x with
  | none => rw [q1] at h; simp at h
  | some p =>
    cases q2 : aiv env fc y with
    | none => rw [q1, q2] at h; simp at h
    | some r =>
      rw [q1, q2] at h
      dsimp only at h
      have b1 := aiv_ok h1 h2 h3 q1 hx
      have b2 := aiv_ok h1 h2 h3 q2 hy
      cases hc : (decide ((-2147483648 : Int) ≤ p.1 + r.1) && decide (p.2 + r.2 ≤ (2147483647 : Int))) with
      | false =>
        rw [hc] at h
        cases h
        exact ⟨⟨i32_lo _, i32_hi _⟩, (fun F q => by cases q), tg0⟩
      | true =>
        rw [hc] at h
        cases h
        simp only [Bool.and_eq_true, decide_eq_true_eq] at hc
        have e1 := i32_add (x := a) (y := b) (by omega) (by omega)
        rw [e1]
        refine ⟨⟨by show p.1 + r.1 ≤ _; omega, by show _ ≤ p.2 + r.2; omega⟩, fun F q => ?_, tg0⟩
        cases q
        rw [fadd_ok (lin_ok h2 hx) (lin_ok h2 hy)]
        congr 1
        omega
theorem aSum_ok64 {g : jG} {vs : List Int} {env : List aE} {fc : List aF} {x y : Nat} {a b : Int64} {e : aE} (h1 : eIv vs env) (h2 : eFm vs env) (h3 : fcOK vs fc) (hx : vs[x]? = some a.toInt) (hy : vs[y]? = some b.toInt) (h : aSum (-9223372036854775808 : Int) (9223372036854775807 : Int) env fc x y = some e) : (e.1 ≤ (a + b).toInt ∧ (a + b).toInt ≤ e.2.1) ∧ (∀ F, e.2.2.1 = some F → fev vs F = some (a + b).toInt) ∧ tgOK vs e (a + b).toInt := by
  rw [aSum] at h
  cases q1 : aiv env fc x with
  | none => rw [q1] at h; simp at h
  | some p =>
    cases q2 : aiv env fc y with
    | none => rw [q1, q2] at h; simp at h
    | some r =>
      rw [q1, q2] at h
      dsimp only at h
      have b1 := aiv_ok h1 h2 h3 q1 hx
      have b2 := aiv_ok h1 h2 h3 q2 hy
      cases hc : (decide ((-9223372036854775808 : Int) ≤ p.1 + r.1) && decide (p.2 + r.2 ≤ (9223372036854775807 : Int))) with
      | false =>
        rw [hc] at h
        cases h
        exact ⟨⟨i64_lo _, i64_hi _⟩, (fun F q => by cases q), tg0⟩
      | true =>
        rw [hc] at h
        cases h
        simp only [Bool.and_eq_true, decide_eq_true_eq] at hc
        have e1 := i64_add (x := a) (y := b) (by omega) (by omega)
        rw [e1]
        refine ⟨⟨by show p.1 + r.1 ≤ _; omega, by show _ ≤ p.2 + r.2; omega⟩, fun F q => ?_, tg0⟩
        cases q
        rw [fadd_ok (lin_ok h2 hx) (lin_ok h2 hy)]
        congr 1
        omega
end
section
/-- what a new entry says of its value -/
def eVal (vs : List Int) (e : aE) (z : Int) : Prop := (e.1 ≤ z ∧ z ≤ e.2.1) ∧ (∀ F, e.2.2.1 = some F → fev vs F = some z) ∧ tgOK vs e z
theorem eVal.any32 {vs : List Int} (x : Int32) : eVal vs (eNew (-2147483648 : Int) (2147483647 : Int) none) x.toInt := ⟨⟨i32_lo x, i32_hi x⟩, (fun F q => by cases q), tg0⟩
theorem eVal.any64 {vs : List Int} (x : Int64) : eVal vs (eNew (-9223372036854775808 : Int) (9223372036854775807 : Int) none) x.toInt := ⟨⟨i64_lo x, i64_hi x⟩, (fun F q => by cases q), tg0⟩
theorem eVal.bd {vs : List Int} {lo hi z : Int} (h1 : lo ≤ z) (h2 : z ≤ hi) : eVal vs (eNew lo hi none) z := ⟨⟨h1, h2⟩, (fun F q => by cases q), tg0⟩
theorem eVal.fm {vs : List Int} {lo hi z : Int} {F : aF} (h1 : lo ≤ z) (h2 : z ≤ hi) (h3 : fev vs F = some z) : eVal vs (eNew lo hi (some F)) z := ⟨⟨h1, h2⟩, (fun G q => by cases q; exact h3), tg0⟩
theorem eVal.fo {vs : List Int} {lo hi z : Int} {F : Option aF} (h1 : lo ≤ z) (h2 : z ≤ hi) (h3 : ∀ G, F = some G → fev vs G = some z) : eVal vs (eNew lo hi F) z := ⟨⟨h1, h2⟩, (fun G q => h3 G q), tg0⟩
theorem aiv2 {env : List aE} {fc : List aF} {x y : Nat} {β : Type} {f : Int × Int → Int × Int → Option β} {e : β} (h : (match aiv env fc x, aiv env fc y with | some a, some b => f a b | _, _ => none) = some e) : ∃ a b, aiv env fc x = some a ∧ aiv env fc y = some b ∧ f a b = some e := by
  cases q1 : aiv env fc x with
  | none => rw [q1] at h; simp at h
  | some a =>
    cases q2 : aiv env fc y with
    | none => rw [q1, q2] at h; simp at h
    | some b => rw [q1, q2] at h; exact ⟨a, b, rfl, rfl, h⟩
section AR
variable {vs : List Int} {env : List aE} {fc : List aF} {x y : Nat} {e : aE}
theorem aDif_ok32 {a b : Int32} (h1 : eIv vs env) (h2 : eFm vs env) (h3 : fcOK vs fc) (hx : vs[x]? = some a.toInt) (hy : vs[y]? = some b.toInt) (h : aDif (-2147483648 : Int) (2147483647 : Int) env fc x y = some e) : eVal vs e (a - b).toInt := by
  obtain ⟨p, r, q1, q2, h⟩ := aiv2 h
  have b1 := aiv_ok h1 h2 h3 q1 hx
  have b2 := aiv_ok h1 h2 h3 q2 hy
  cases hc : (decide ((-2147483648 : Int) ≤ p.1 - r.2) && decide (p.2 - r.1 ≤ (2147483647 : Int))) with
  | false => rw [hc] at h; cases h; exact eVal.any32 _
  | true =>
    rw [hc] at h
    cases h
    simp only [Bool.and_eq_true, decide_eq_true_eq] at hc
    have e1 := i32_sub (x := a) (y := b) (by omega) (by omega)
    have hF : fev vs (fadd (-1) (lin env x) (lin env y)) = some (a.toInt - b.toInt) := by
      rw [fadd_ok (lin_ok h2 hx) (lin_ok h2 hy)]; congr 1; omega
    rw [e1]
    refine eVal.fm ?_ ?_ hF
    · cases hq : (decide (p.1 - r.2 < 0) && ent env fc (fadd (-1) (lin env x) (lin env y))) with
      | false => simp only [cond_false]; omega
      | true =>
        simp only [cond_true]
        simp only [Bool.and_eq_true] at hq
        obtain ⟨z, hz, hz0⟩ := ent_ok h1 h3 hq.2
        rw [hF] at hz
        cases hz
        exact hz0
    · cases hq : (decide (0 < p.2 - r.1) && ent env fc (fmul (-1) (fadd (-1) (lin env x) (lin env y)))) with
      | false => simp only [cond_false]; omega
      | true =>
        simp only [cond_true]
        simp only [Bool.and_eq_true] at hq
        obtain ⟨z, hz, hz0⟩ := ent_ok h1 h3 hq.2
        rw [fmul_ok hF] at hz
        cases hz
        omega
theorem aDif_ok64 {a b : Int64} (h1 : eIv vs env) (h2 : eFm vs env) (h3 : fcOK vs fc) (hx : vs[x]? = some a.toInt) (hy : vs[y]? = some b.toInt) (h : aDif (-9223372036854775808 : Int) (9223372036854775807 : Int) env fc x y = some e) : eVal vs e (a - b).toInt := by
  obtain ⟨p, r, q1, q2, h⟩ := aiv2 h
  have b1 := aiv_ok h1 h2 h3 q1 hx
  have b2 := aiv_ok h1 h2 h3 q2 hy
  cases hc : (decide ((-9223372036854775808 : Int) ≤ p.1 - r.2) && decide (p.2 - r.1 ≤ (9223372036854775807 : Int))) with
  | false => rw [hc] at h; cases h; exact eVal.any64 _
  | true =>
    rw [hc] at h
    cases h
    simp only [Bool.and_eq_true, decide_eq_true_eq] at hc
    have e1 := i64_sub (x := a) (y := b) (by omega) (by omega)
    have hF : fev vs (fadd (-1) (lin env x) (lin env y)) = some (a.toInt - b.toInt) := by
      rw [fadd_ok (lin_ok h2 hx) (lin_ok h2 hy)]; congr 1; omega
    rw [e1]
    refine eVal.fm ?_ ?_ hF
    · cases hq : (decide (p.1 - r.2 < 0) && ent env fc (fadd (-1) (lin env x) (lin env y))) with
      | false => simp only [cond_false]; omega
      | true =>
        simp only [cond_true]
        simp only [Bool.and_eq_true] at hq
        obtain ⟨z, hz, hz0⟩ := ent_ok h1 h3 hq.2
        rw [hF] at hz
        cases hz
        exact hz0
    · cases hq : (decide (0 < p.2 - r.1) && ent env fc (fmul (-1) (fadd (-1) (lin env x) (lin env y)))) with
      | false => simp only [cond_false]; omega
      | true =>
        simp only [cond_true]
        simp only [Bool.and_eq_true] at hq
        obtain ⟨z, hz, hz0⟩ := ent_ok h1 h3 hq.2
        rw [fmul_ok hF] at hz
        cases hz
        omega
theorem aMulC_ok {a b : Int32} {p : Int × Int} {c : Int} (h2 : eFm vs env) (hx : vs[x]? = some a.toInt) (b1 : p.1 ≤ a.toInt ∧ a.toInt ≤ p.2) (hc : b.toInt = c) : eVal vs (aMulC env x p c) (a * b).toInt := by
  rw [aMulC]
  by_cases h0 : 0 ≤ c
  · simp only [h0, decide_true, cond_true]
    have g1 := Int.mul_le_mul_of_nonneg_right b1.1 h0
    have g2 := Int.mul_le_mul_of_nonneg_right b1.2 h0
    cases hq : (decide ((-2147483648 : Int) ≤ p.1 * c) && decide (p.2 * c ≤ (2147483647 : Int))) with
    | false => exact eVal.any32 _
    | true =>
      simp only [Bool.and_eq_true, decide_eq_true_eq] at hq
      have e1 := i32_mul (x := a) (y := b) (by rw [hc]; omega) (by rw [hc]; omega)
      rw [e1, hc]
      exact eVal.fm g1 g2 (by rw [fmul_ok (lin_ok h2 hx), Int.mul_comm])
  · simp only [h0, decide_false, cond_false]
    have g1 := Int.mul_le_mul_of_nonpos_right b1.1 (show c ≤ 0 by omega)
    have g2 := Int.mul_le_mul_of_nonpos_right b1.2 (show c ≤ 0 by omega)
    cases hq : (decide ((-2147483648 : Int) ≤ p.2 * c) && decide (p.1 * c ≤ (2147483647 : Int))) with
    | false => exact eVal.any32 _
    | true =>
      simp only [Bool.and_eq_true, decide_eq_true_eq] at hq
      have e1 := i32_mul (x := a) (y := b) (by rw [hc]; omega) (by rw [hc]; omega)
      rw [e1, hc]
      exact eVal.fm g2 g1 (by rw [fmul_ok (lin_ok h2 hx), Int.mul_comm])
theorem aMul_ok {a b : Int32} (h1 : eIv vs env) (h2 : eFm vs env) (h3 : fcOK vs fc) (hx : vs[x]? = some a.toInt) (hy : vs[y]? = some b.toInt) (h : aMul env fc x y = some e) : eVal vs e (a * b).toInt := by
  obtain ⟨p, r, q1, q2, h⟩ := aiv2 h
  have b1 := aiv_ok h1 h2 h3 q1 hx
  have b2 := aiv_ok h1 h2 h3 q2 hy
  by_cases hc : r.1 = r.2
  · simp only [hc, decide_true, cond_true] at h
    cases h
    exact aMulC_ok h2 hx b1 (by omega)
  · simp only [hc, decide_false, cond_false] at h
    by_cases hd : p.1 = p.2
    · simp only [hd, decide_true, cond_true] at h
      cases h
      rw [show a * b = b * a from Int32.mul_comm ..]
      exact aMulC_ok h2 hy b2 (by omega)
    · simp only [hd, decide_false, cond_false] at h
      cases h
      exact eVal.any32 _
theorem aRem_ok {a b : Int32} (h1 : eIv vs env) (h2 : eFm vs env) (h3 : fcOK vs fc) (hx : vs[x]? = some a.toInt) (hy : vs[y]? = some b.toInt) (h : aRem env fc x y = some e) : ¬ b = 0 ∧ eVal vs e (a - a / b * b).toInt := by
  obtain ⟨p, r, q1, q2, h⟩ := aiv2 h
  have b1 := aiv_ok h1 h2 h3 q1 hx
  have b2 := aiv_ok h1 h2 h3 q2 hy
  by_cases h0 : 0 < r.1
  · simp only [h0, decide_true, cond_true] at h
    refine ⟨fun q => by rw [q] at b2; simp at b2; omega, ?_⟩
    cases hc : (decide (0 ≤ p.1) && decide (r.1 = r.2)) with
    | true =>
      rw [hc] at h
      simp only [Bool.and_eq_true, decide_eq_true_eq] at hc
      simp only [cond_true] at h
      cases h
      have hb : b.toInt = r.1 := by omega
      have e1 := i32_rem (x := a) (y := b) (by omega) (by omega)
      rw [e1, hb]
      have m1 := Int.emod_nonneg a.toInt (show r.1 ≠ 0 by omega)
      have m2 := Int.emod_lt_of_pos a.toInt h0
      by_cases hl : p.2 < r.1
      · simp only [hl, decide_true, cond_true]
        have e2 : a.toInt % r.1 = a.toInt := Int.emod_eq_of_lt (by omega) (by omega)
        rw [e2]
        exact eVal.fm (by omega) (by omega) (lin_ok h2 hx)
      · simp only [hl, decide_false, cond_false]
        refine eVal.fo m1 (by omega) (fun G hG => ?_)
        cases hq : aQuo x r.1 0 env with
        | none => rw [hq] at hG; cases hG
        | some k =>
          rw [hq] at hG
          cases hG
          have key : ∀ (l : List aE) (n k : Nat), aQuo x r.1 n l = some k → n ≤ k ∧ ∃ e, l[k - n]? = some e ∧ e.2.2.2.1 = 2 ∧ e.2.2.2.2.1 = x ∧ e.2.2.2.2.2.1 = r.1 := by
            intro l
            induction l with
            | nil => intro n k h; cases h
            | cons e t ih =>
              intro n k h
              rw [aQuo] at h
              cases hb : (Nat.beq e.2.2.2.1 2 && Nat.beq e.2.2.2.2.1 x && decide (e.2.2.2.2.2.1 = r.1)) with
              | true =>
                rw [hb] at h
                cases h
                simp only [Bool.and_eq_true, decide_eq_true_eq] at hb
                exact ⟨Nat.le_refl _, e, by simp, Nat.eq_of_beq_eq_true hb.1.1, Nat.eq_of_beq_eq_true hb.1.2, hb.2⟩
              | false =>
                rw [hb] at h
                obtain ⟨g1, e', g2, g3⟩ := ih (n + 1) k h
                exact ⟨by omega, e', by rw [show k - n = (k - (n + 1)) + 1 by omega, List.getElem?_cons_succ]; exact g2, g3⟩
          obtain ⟨-, e', g1, g2, g3, g4⟩ := key env 0 k hq
          rw [Nat.sub_zero] at g1
          have hk : k < vs.length := by rw [← h1.1]; exact (List.getElem?_eq_some_iff.mp g1).1
          have hv : vs[k]? = some vs[k] := List.getElem?_eq_getElem hk
          obtain ⟨-, -, ht, -⟩ := h2 k e' _ g1 hv
          obtain ⟨w, w1, w2, w3, w4⟩ := ht g2
          rw [g3, hx] at w1
          cases w1
          rw [fadd_ok (lin_ok h2 hx) (fone_ok hv), w4, g4]
          congr 1
          have := Int.emod_add_mul_ediv a.toInt r.1
          rw [Int.neg_mul]
          omega
    | false =>
      rw [hc] at h
      simp only [cond_false] at h
      by_cases he : r.1 = r.2
      · simp only [he, decide_true, cond_true] at h
        cases h
        have hb : b.toInt = r.1 := by omega
        have hrem : (a - a / b * b).toInt = a.toInt.tmod b.toInt := by
          have hm := tmod_bounds (a := a.toInt) (M := b.toInt) (by omega)
          have hb2 := i32_hi b
          rw [Int32.toInt_sub, Int32.toInt_mul, Int32.toInt_div, Int.bmod_mul_bmod, Int.sub_bmod_bmod, Int.mul_comm, ← Int.tmod_def]
          exact bmod32 (by omega) (by omega)
        rw [hrem, hb]
        have := tmod_bounds (a := a.toInt) h0
        exact eVal.bd (by omega) (by omega)
      · simp only [he, decide_false, cond_false] at h
        cases h
        exact eVal.any32 _
  · simp only [h0, decide_false, cond_false] at h
    cases h
theorem aAnd_ok {a b : Int32} (h1 : eIv vs env) (h2 : eFm vs env) (h3 : fcOK vs fc) (hx : vs[x]? = some a.toInt) (hy : vs[y]? = some b.toInt) (h : aAnd env fc x y = some e) : eVal vs e (a &&& b).toInt := by
  obtain ⟨p, r, q1, q2, h⟩ := aiv2 h
  have b1 := aiv_ok h1 h2 h3 q1 hx
  have b2 := aiv_ok h1 h2 h3 q2 hy
  by_cases h0 : 0 ≤ r.1
  · simp only [h0, decide_true, cond_true] at h
    cases h
    have g1 := i32_and (x := a) (y := b) (by omega)
    refine eVal.bd g1.1 ?_
    cases hc : (decide (0 ≤ p.1) && decide (p.2 < r.2)) with
    | false => simp only [cond_false]; omega
    | true =>
      simp only [Bool.and_eq_true, decide_eq_true_eq] at hc
      simp only [cond_true]
      have g2 := i32_and' (x := a) (y := b) (by omega)
      omega
  · simp only [h0, decide_false, cond_false] at h
    by_cases h4 : 0 ≤ p.1
    · simp only [h4, decide_true, cond_true] at h
      cases h
      have g2 := i32_and' (x := a) (y := b) (by omega)
      exact eVal.bd g2.1 (by omega)
    · simp only [h4, decide_false, cond_false] at h
      cases h
      exact eVal.any32 _
theorem aCap_ok {z c : Int} (h : aCap z = some c) : ∃ k : Nat, k ≤ 30 ∧ c + 1 = 2 ^ k ∧ z ≤ c := by
  have h1 := List.find?_some h
  have h2 := List.mem_of_find?_eq_some h
  simp only [decide_eq_true_eq] at h1
  simp only [List.mem_cons, List.not_mem_nil, or_false] at h2
  rcases h2 with rfl | rfl | rfl | rfl | rfl | rfl | rfl | rfl | rfl | rfl | rfl | rfl | rfl | rfl | rfl | rfl | rfl
  · exact ⟨0, by decide, by decide, h1⟩
  · exact ⟨1, by decide, by decide, h1⟩
  · exact ⟨2, by decide, by decide, h1⟩
  · exact ⟨3, by decide, by decide, h1⟩
  · exact ⟨4, by decide, by decide, h1⟩
  · exact ⟨5, by decide, by decide, h1⟩
  · exact ⟨6, by decide, by decide, h1⟩
  · exact ⟨7, by decide, by decide, h1⟩
  · exact ⟨8, by decide, by decide, h1⟩
  · exact ⟨9, by decide, by decide, h1⟩
  · exact ⟨10, by decide, by decide, h1⟩
  · exact ⟨11, by decide, by decide, h1⟩
  · exact ⟨12, by decide, by decide, h1⟩
  · exact ⟨13, by decide, by decide, h1⟩
  · exact ⟨14, by decide, by decide, h1⟩
  · exact ⟨15, by decide, by decide, h1⟩
  · exact ⟨16, by decide, by decide, h1⟩
theorem aOr_ok {a b o : Int32} (ho : o = a ||| b ∨ o = a ^^^ b) (h1 : eIv vs env) (h2 : eFm vs env) (h3 : fcOK vs fc) (hx : vs[x]? = some a.toInt) (hy : vs[y]? = some b.toInt) (h : aOr env fc x y = some e) : eVal vs e o.toInt := by
  obtain ⟨p, r, q1, q2, h⟩ := aiv2 h
  have b1 := aiv_ok h1 h2 h3 q1 hx
  have b2 := aiv_ok h1 h2 h3 q2 hy
  cases hc : (decide (0 ≤ p.1) && decide (0 ≤ r.1)) with
  | false => rw [hc] at h; cases h; exact eVal.any32 _
  | true =>
    rw [hc] at h
    simp only [Bool.and_eq_true, decide_eq_true_eq] at hc
    simp only [cond_true] at h
    cases c1 : aCap p.2 with
    | none => rw [c1] at h; cases h; exact eVal.any32 _
    | some c =>
      cases c2 : aCap r.2 with
      | none => rw [c1, c2] at h; cases h; exact eVal.any32 _
      | some d =>
        rw [c1, c2] at h
        cases h
        have key : ∀ (m : Int) (k : Nat), k ≤ 30 → m + 1 = 2 ^ k → a.toInt ≤ m → b.toInt ≤ m → 0 ≤ o.toInt ∧ o.toInt ≤ m := by
          intro m k hk hm ha hb
          have hlt : ((2 : Int) ^ k) = m + 1 := hm.symm
          rcases ho with rfl | rfl
          · have := i32_or (x := a) (y := b) hk (by omega) (by omega) (by omega) (by omega)
            omega
          · have := i32_xor (x := a) (y := b) hk (by omega) (by omega) (by omega) (by omega)
            omega
        obtain ⟨k1, g1, g2, g3⟩ := aCap_ok c1
        obtain ⟨k2, g4, g5, g6⟩ := aCap_ok c2
        by_cases hl : c < d
        · simp only [hl, decide_true, cond_true]
          have := key d k2 g4 g5 (by omega) (by omega)
          exact eVal.bd this.1 this.2
        · simp only [hl, decide_false, cond_false]
          have := key c k1 g1 g2 (by omega) (by omega)
          exact eVal.bd this.1 this.2
theorem nI_ofInt {b : Int32} (h : 0 ≤ b.toInt) : b = nI b.toInt.toNat := by
  apply Int32.toInt_inj.mp
  have := i32_hi b
  rw [nI_toInt (by omega)]
  omega
theorem aShl_ok {a b : Int32} (h1 : eIv vs env) (h2 : eFm vs env) (h3 : fcOK vs fc) (hx : vs[x]? = some a.toInt) (hy : vs[y]? = some b.toInt) (h : aShl env fc x y = some e) : eVal vs e (a <<< (b &&& 31)).toInt := by
  obtain ⟨p, r, q1, q2, h⟩ := aiv2 h
  have b1 := aiv_ok h1 h2 h3 q1 hx
  have b2 := aiv_ok h1 h2 h3 q2 hy
  cases hc : (decide (0 ≤ p.1) && decide (r.1 = r.2) && decide (0 ≤ r.1) && decide (r.1 ≤ 30)) with
  | false => rw [hc] at h; cases h; exact eVal.any32 _
  | true =>
    rw [hc] at h
    simp only [Bool.and_eq_true, decide_eq_true_eq] at hc
    simp only [cond_true] at h
    have hb : b.toInt = r.1 := by omega
    have hp : (0 : Int) < 2 ^ r.1.toNat := Int.pow_pos (by decide)
    have g1 := Int.mul_le_mul_of_nonneg_right b1.1 (Int.le_of_lt hp)
    have g2 := Int.mul_le_mul_of_nonneg_right b1.2 (Int.le_of_lt hp)
    by_cases hm : p.2 * 2 ^ r.1.toNat ≤ (2147483647 : Int)
    · simp only [hm, decide_true, cond_true] at h
      cases h
      have e1 := i32_shl (x := a) (k := r.1.toNat) (by omega) (by omega) (by omega)
      rw [nI_ofInt (b := b) (by omega), hb, e1]
      exact eVal.bd g1 g2
    · simp only [hm, decide_false, cond_false] at h
      cases h
      exact eVal.any32 _
theorem aShr_ok {a b : Int32} (h1 : eIv vs env) (h2 : eFm vs env) (h3 : fcOK vs fc) (hx : vs[x]? = some a.toInt) (hy : vs[y]? = some b.toInt) (h : aShr env fc x y = some e) : eVal vs e (a >>> (b &&& 31)).toInt := by
  obtain ⟨p, r, q1, q2, h⟩ := aiv2 h
  have b1 := aiv_ok h1 h2 h3 q1 hx
  have b2 := aiv_ok h1 h2 h3 q2 hy
  cases hc : (decide (0 ≤ p.1) && decide (r.1 = r.2) && decide (0 ≤ r.1) && decide (r.1 ≤ 30)) with
  | false => rw [hc] at h; cases h; exact eVal.any32 _
  | true =>
    rw [hc] at h
    simp only [Bool.and_eq_true, decide_eq_true_eq] at hc
    simp only [cond_true] at h
    cases h
    have hb : b.toInt = r.1 := by omega
    have hp : (0 : Int) < 2 ^ r.1.toNat := Int.pow_pos (by decide)
    have e1 := i32_shr (x := a) (k := r.1.toNat) (by omega) (by omega)
    rw [nI_ofInt (b := b) (by omega), hb, e1]
    exact eVal.bd (Int.ediv_le_ediv hp b1.1) (Int.ediv_le_ediv hp b1.2)
theorem aNeg_ok {a : Int32} (h1 : eIv vs env) (h2 : eFm vs env) (h3 : fcOK vs fc) (hx : vs[x]? = some a.toInt) (h : aNeg env fc x = some e) : eVal vs e (-a).toInt := by
  rw [aNeg] at h
  cases q1 : aiv env fc x with
  | none => rw [q1] at h; cases h
  | some p =>
    rw [q1] at h
    dsimp only at h
    have b1 := aiv_ok h1 h2 h3 q1 hx
    by_cases h0 : (-2147483647 : Int) ≤ p.1
    · simp only [h0, decide_true, cond_true] at h
      cases h
      rw [i32_neg (x := a) (by omega)]
      exact eVal.fm (by omega) (by omega) (by rw [fmul_ok (lin_ok h2 hx)]; congr 1; omega)
    · simp only [h0, decide_false, cond_false] at h
      cases h
      exact eVal.any32 _
end AR
end
section
/-! conditions -/
def envOK (vs : List Int) (env : List aE) (fc : List aF) : Prop := eIv vs env ∧ eFm vs env ∧ fcOK vs fc
theorem asm_ok' {vs : List Int} {env : List aE} {fc : List aF} {F : aF} {z : Int} (h : envOK vs env fc) (hF : fev vs F = some z) (hz : 0 ≤ z) : ∃ q, asm env fc F = some q ∧ envOK vs q.1 q.2 := by
  obtain ⟨e, f, g1, g2, g3, g4, -⟩ := asm_ok h.1 h.2.1 h.2.2 hF hz
  exact ⟨(e, f), g1, g2, g3, g4⟩
theorem fneg1 {vs : List Int} {F : aF} {z : Int} (h : fev vs F = some z) : fev vs (fmul (-1) F) = some (-z) := by rw [fmul_ok h]; congr 1; omega
theorem fadd1 {vs : List Int} {F : aF} {z c : Int} (h : fev vs F = some z) : fev vs (fadd 1 F (fcon c)) = some (z + c) := by rw [fadd_ok h fcon_ok]; congr 1; omega
theorem cAsm_ok {vs : List Int} {env : List aE} {fc : List aF} {F : aF} {z : Int} {c : ClassFile.Cond} (h : envOK vs env fc) (hF : fev vs F = some z) (hc : cHolds c z) : ∃ q, cAsm env fc c F = some q ∧ envOK vs q.1 q.2 := by
  cases c with
  | ge => exact asm_ok' h hF hc
  | gt => exact asm_ok' h (fadd1 hF) (by have : 0 < z := hc; omega)
  | le => exact asm_ok' h (fneg1 hF) (by have : z ≤ 0 := hc; omega)
  | lt => exact asm_ok' h (fadd1 (fneg1 hF)) (by have : z < 0 := hc; omega)
  | eq =>
    have hc : z = 0 := hc
    obtain ⟨q, g1, g2⟩ := asm_ok' h hF (by omega)
    obtain ⟨q2, g3, g4⟩ := asm_ok' g2 (fneg1 hF) (by omega)
    exact ⟨q2, by rw [cAsm, g1]; exact g3, g4⟩
  | ne =>
    have hc : z ≠ 0 := hc
    rw [cAsm]
    cases h1 : ent env fc F with
    | true =>
      simp only [cond_true]
      obtain ⟨w, g1, g2⟩ := ent_ok h.1 h.2.2 h1
      rw [hF] at g1
      cases g1
      exact asm_ok' h (fadd1 hF) (by omega)
    | false =>
      simp only [cond_false]
      cases h2 : ent env fc (fmul (-1) F) with
      | true =>
        simp only [cond_true]
        obtain ⟨w, g1, g2⟩ := ent_ok h.1 h.2.2 h2
        rw [fneg1 hF] at g1
        cases g1
        exact asm_ok' h (fadd1 (fneg1 hF)) (by omega)
      | false => exact ⟨(env, fc), rfl, h⟩
theorem asmA_ok {vs : List Int} : ∀ (l : List aF) (env : List aE) (fc : List aF), envOK vs env fc → (∀ F ∈ l, ∃ w, fev vs F = some w ∧ 0 ≤ w) → ∃ q, asmA l env fc = some q ∧ envOK vs q.1 q.2 := by
  intro l
  induction l with
  | nil => intro env fc h _; exact ⟨(env, fc), rfl, h⟩
  | cons F t ih =>
    intro env fc h hl
    obtain ⟨w, g1, g2⟩ := hl F List.mem_cons_self
    obtain ⟨q, g3, g4⟩ := asm_ok' h g1 g2
    obtain ⟨q2, g5, g6⟩ := ih q.1 q.2 g4 (fun G hG => hl G (List.mem_cons_of_mem _ hG))
    exact ⟨q2, by rw [asmA, g3]; exact g5, g6⟩
theorem tAsm_ok {vs : List Int} {env : List aE} {fc : List aF} {i : Nat} {z : Int} {c : ClassFile.Cond} (h : envOK vs env fc) (hz : vs[i]? = some z) (hc : cHolds c z) : ∃ q, tAsm env fc c i = some q ∧ envOK vs q.1 q.2 := by
  have hi : i < env.length := by rw [h.1.1]; exact (List.getElem?_eq_some_iff.mp hz).1
  have he : env[i]? = some env[i] := List.getElem?_eq_getElem hi
  generalize env[i] = e at he
  obtain ⟨-, t1, t2, t3⟩ := h.2.1 i e z he hz
  rw [tAsm, he]
  dsimp only
  cases h3 : Nat.beq e.2.2.2.1 3 with
  | true =>
    simp only [cond_true]
    have t3 := t3 (Nat.eq_of_beq_eq_true h3)
    split
    · next F hF =>
      obtain ⟨w, g1, g2⟩ := t3 F (by rw [hF]; exact List.mem_cons_self)
      refine cAsm_ok h g1 ?_
      rcases g2 with ⟨a, b⟩ | ⟨a, b⟩ | ⟨a, b⟩ <;> subst b <;> cases c <;> simp only [cHolds] at hc ⊢ <;> omega
    · exact cAsm_ok h (lin_ok h.2.1 hz) hc
  | false =>
    simp only [cond_false]
    obtain ⟨q, g1, g2⟩ := cAsm_ok h (lin_ok h.2.1 hz) hc
    rw [g1]
    dsimp only
    cases h1 : Nat.beq e.2.2.2.1 1 with
    | false => exact ⟨q, rfl, g2⟩
    | true =>
      simp only [cond_true]
      have t1 := t1 (Nat.eq_of_beq_eq_true h1)
      cases c with
      | ne =>
        have hc : z ≠ 0 := hc
        rcases t1 with ⟨a, b⟩ | ⟨a, b⟩
        · exact asmA_ok _ _ _ g2 b
        · exact absurd a hc
      | eq =>
        have hc : z = 0 := hc
        rcases t1 with ⟨a, b⟩ | ⟨a, b, F, hF, w, w1, w2⟩
        · omega
        · dsimp only
          have hm : F ∈ e.2.2.2.2.2.2.filter (fun F => !ent q.1 q.2 F) := by
            refine List.mem_filter.mpr ⟨hF, ?_⟩
            cases hq : ent q.1 q.2 F with
            | false => rfl
            | true =>
              obtain ⟨v, v1, v2⟩ := ent_ok g2.1 g2.2.2 hq
              rw [w1] at v1
              cases v1
              omega
          split
          · next hn => rw [hn] at hm; exact absurd hm List.not_mem_nil
          · next G hG =>
            rw [hG] at hm
            have : F = G := by simpa using hm
            subst this
            exact asm_ok' g2 (fadd1 (fneg1 w1)) (by omega)
          · exact ⟨q, rfl, g2⟩
      | ge => exact ⟨q, rfl, g2⟩
      | gt => exact ⟨q, rfl, g2⟩
      | le => exact ⟨q, rfl, g2⟩
      | lt => exact ⟨q, rfl, g2⟩
theorem cNeg_ok {c : ClassFile.Cond} {z : Int} (h : ¬ cHolds c z) : cHolds (cNeg c) z := by
  cases c <;> simp only [cHolds, cNeg] at h ⊢ <;> omega
end
section
/-! A POINT of a method's walk -/
def hOK (TT : List (List aCT)) (g : jG) (EI : aB → jH → Prop) (W : List aR) (bk0 : aB) (h0 : jH) (bk : aB) (h : jH) : Prop :=
  HT TT g bk h ∧ BD TT bk ∧ EI bk h ∧ UN TT W bk0 h0 h ∧ (∀ B b, bk0 B = some b → bk B = some b) ∧ ∀ B, B ≤ 1 → ∃ b, bk B = some b
def PT (TT : List (List aCT)) (g : jG) (EI : aB → jH → Prop) (W : List aR) (bk0 : aB) (h0 : jH) (ev : List Int) (y : Nat) (vs : List Int) (bk : aB) (al : List (Option Value)) (st : List Value) (h : jH) (S : aS) : Prop :=
  gOK g vs bk al st h S.1 S.2.1 S.2.2.1 S.2.2.2.1 S.2.2.2.2.1 S.2.2.2.2.2 ∧ hOK TT g EI W bk0 h0 bk h ∧ al.length = jmx y ∧ ∀ (i : Nat) (z : Int), ev[i]? = some z → vs[i]? = some z
/-- the answer of a contract, with the values ev of its ids -/
def postOK (vs : List Int) (l : List aF) : Prop := ∀ F ∈ l, ∃ z, fev vs F = some z ∧ 0 ≤ z
def outOK (bk : aB) (h : jH) (os : List Int) (outs : List aC) : Prop := os.length = outs.length ∧ ∀ (j : Nat) (q : aC) (x : Int), outs[j]? = some q → os[j]? = some x → (q.2.2.2.1 ≤ x ∧ x ≤ q.2.2.2.2) ∧ ∃ b c, bk q.1 = some b ∧ h[b + q.2.1]? = some c ∧ plAt c (q.2.2.1 : Nat) x
def tsOK (ev : List Int) (ts : List aF) (z : Int) : Prop := ts = [] ∨ (z = 1 ∧ ∀ F ∈ ts, ∃ w, fev ev F = some w ∧ 0 ≤ w) ∨ (z = 0 ∧ (∀ F ∈ ts, ∃ w, fev ev F = some w) ∧ ∃ F ∈ ts, ∃ w, fev ev F = some w ∧ w < 0)
def ansOK (g : jG) (bk : aB) (ev os : List Int) (post : List aF) (v : Option Value) (q : aQ) : Prop := match q.1 with
  | 0 => ∃ x : Int32, v = some (.int x) ∧ (q.2.1 ≤ x.toInt ∧ x.toInt ≤ q.2.2.1) ∧ tsOK ev q.2.2.2.2.2 x.toInt ∧ postOK (ev ++ os ++ [x.toInt]) post
  | 2 => (∃ b, bk q.2.2.2.1 = some b ∧ v = some (jad g b q.2.2.2.2.1)) ∧ postOK (ev ++ os) post
  | 5 => ∃ (x : Int32) (t : Int), v = some (.int x) ∧ 0 ≤ t ∧ t ≤ q.2.2.1 ∧ x.toInt = q.2.1 + q.2.2.2.1 * t ∧ postOK (ev ++ os ++ [x.toInt]) post
  | 9 => v = none ∧ postOK (ev ++ os) post
  | _ => False
def kPost (TT : List (List aCT)) (g : jG) (EI : aB → jH → Prop) (K : aK) (bk : aB) (h : jH) (ev : List Int) (v : Option Value) (h' : jH) : Prop :=
  ∃ (bk' : aB) (os : List Int), hOK TT g EI K.2.2.2.2.2.2.2.1 bk h bk' h' ∧ outOK bk' h' os K.2.2.2.2.2.1 ∧ ∃ q ∈ K.2.2.2.2.1, ansOK g bk' ev os K.2.2.2.2.2.2.1 v q
/-- WHAT A CONTRACT SAYS -/
def kOK (TT : List (List aCT)) (g : jG) (EI : aB → jH → Prop) (l : Launch) (K : aK) : Prop :=
  ∀ (bk : aB) (h : jH) (av : List Value) (ev : List Int), HT TT g bk h → BD TT bk → EI bk h → (∀ B, B ≤ 1 → ∃ b, bk B = some b) → (lg_sl av).length ≤ jmx K.1 → ev.length = kN K → (∀ q ∈ spSd 0 K.2.1, ∀ z, ev[q.1]? = some z → (z - q.2.1) % (q.2.2 : Int) = 0) →
    gOK g ev bk (jal K.1 av) [] h (kEnv K) K.2.2.2.1 (spLoc 0 K.2.1) [] (clOv (spEnv K.2.1).length K.2.2.1) [] →
    jCal l g K.1 K.2.2.2.2.2.2.2.2.1 av h K.2.2.2.2.2.2.2.2.2.1 K.2.2.2.2.2.2.2.2.2.2 (kPost TT g EI K bk h ev)
end
section

section ST
variable {TT : List (List aCT)} {g : jG} {EI : aB → jH → Prop} {W : List aR} {bk0 : aB} {h0 : jH} {ev : List Int} {y : Nat} {vs : List Int} {bk : aB} {al : List (Option Value)} {st : List Value} {h : jH} {env : List aE} {fc : List aF} {loc : List (Option aV)} {stk : List aV} {ov : List aO} {pr : List Nat}
theorem PT.push {k : Nat} {e : aE} {z : Int} {w : Value} (hp : PT TT g EI W bk0 h0 ev y vs bk al st h (env, fc, loc, stk, ov, pr)) (he : eVal vs e z) (hw : (k = 0 ∧ ∃ x : Int32, w = .int x ∧ x.toInt = z) ∨ (k = 1 ∧ ∃ x : Int64, w = .long x ∧ x.toInt = z)) : PT TT g EI W bk0 h0 ev y (vs ++ [z]) bk al (w :: st) h (env ++ [e], fc, loc, (k, env.length, 0) :: stk, ov, pr) :=
  ⟨gOK.push hp.1 he.1 he.2.1 he.2.2 hw, hp.2.1, hp.2.2.1, fun i z q => getE_app (hp.2.2.2 i z q)⟩
theorem PT.push32 {e : aE} {x : Int32} (hp : PT TT g EI W bk0 h0 ev y vs bk al st h (env, fc, loc, stk, ov, pr)) (he : eVal vs e x.toInt) : PT TT g EI W bk0 h0 ev y (vs ++ [x.toInt]) bk al (.int x :: st) h (env ++ [e], fc, loc, (0, env.length, 0) :: stk, ov, pr) := hp.push he (Or.inl ⟨rfl, x, rfl, rfl⟩)
theorem PT.push64 {e : aE} {x : Int64} (hp : PT TT g EI W bk0 h0 ev y vs bk al st h (env, fc, loc, stk, ov, pr)) (he : eVal vs e x.toInt) : PT TT g EI W bk0 h0 ev y (vs ++ [x.toInt]) bk al (.long x :: st) h (env ++ [e], fc, loc, (1, env.length, 0) :: stk, ov, pr) := hp.push he (Or.inr ⟨rfl, x, rfl, rfl⟩)
theorem PT.pop {v : aV} (hp : PT TT g EI W bk0 h0 ev y vs bk al st h (env, fc, loc, v :: stk, ov, pr)) : ∃ w st', st = w :: st' ∧ vOK g vs bk v w ∧ PT TT g EI W bk0 h0 ev y vs bk al st' h (env, fc, loc, stk, ov, pr) := by
  obtain ⟨⟨a1, a2, a3, a4, a5, a6, a7⟩, hh⟩ := hp
  match st, a5 with
  | [], a5 => exact absurd a5 id
  | w :: st', a5 => exact ⟨w, st', rfl, a5.1, ⟨a1, a2, a3, a4, a5.2, a6, a7⟩, hh⟩
theorem PT.put {v : aV} {w : Value} (hp : PT TT g EI W bk0 h0 ev y vs bk al st h (env, fc, loc, stk, ov, pr)) (hv : vOK g vs bk v w) : PT TT g EI W bk0 h0 ev y vs bk al (w :: st) h (env, fc, loc, v :: stk, ov, pr) :=
  ⟨⟨hp.1.1, hp.1.2.1, hp.1.2.2.1, hp.1.2.2.2.1, ⟨hv, hp.1.2.2.2.2.1⟩, hp.1.2.2.2.2.2⟩, hp.2⟩
theorem PT.ee (hp : PT TT g EI W bk0 h0 ev y vs bk al st h (env, fc, loc, stk, ov, pr)) : envOK vs env fc := ⟨hp.1.1, hp.1.2.1, hp.1.2.2.1⟩
theorem PT.setE {env' : List aE} {fc' : List aF} (hp : PT TT g EI W bk0 h0 ev y vs bk al st h (env, fc, loc, stk, ov, pr)) (he : envOK vs env' fc') : PT TT g EI W bk0 h0 ev y vs bk al st h (env', fc', loc, stk, ov, pr) := ⟨⟨he.1, he.2.1, he.2.2, hp.1.2.2.2⟩, hp.2⟩
variable {l : Launch} {d pc kc ks : Nat} {Q : Option Value → jH → Prop}
/-- from all points of the state S at pc the method goes on to its end -/
def Go (TT : List (List aCT)) (g : jG) (EI : aB → jH → Prop) (W : List aR) (bk0 : aB) (h0 : jH) (ev : List Int) (y : Nat) (l : Launch) (d : Nat) (Q : Option Value → jH → Prop) (pc : Nat) (S : aS) (kc ks : Nat) : Prop :=
  ∀ (vs : List Int) (bk : aB) (al : List (Option Value)) (st : List Value) (h : jH), PT TT g EI W bk0 h0 ev y vs bk al st h S → J l g y d pc al st h kc ks Q

theorem st_iconst {n : Int} (hd : decode (jbC y) pc = .ok (.iconst n, 1)) (h1 : -1 ≤ n) (h2 : n ≤ 5) (hp : PT TT g EI W bk0 h0 ev y vs bk al st h (env, fc, loc, stk, ov, pr)) (k : Go TT g EI W bk0 h0 ev y l d Q (pc + 1) (env ++ [eNew n n (some (fcon n))], fc, loc, (0, env.length, 0) :: stk, ov, pr) kc ks) : J l g y d pc al st h kc ks Q := by
  have hv : (Int32.ofInt n).toInt = n := by exact i32_ofInt (by omega) (by omega)
  refine j_iconst hd (k _ _ _ _ _ (hp.push32 (x := Int32.ofInt n) ?_))
  rw [hv]
  exact eVal.fm (Int.le_refl _) (Int.le_refl _) fcon_ok
theorem st_bipush {n : Int} (hd : decode (jbC y) pc = .ok (.bipush n, 2)) (h1 : -128 ≤ n) (h2 : n ≤ 127) (hp : PT TT g EI W bk0 h0 ev y vs bk al st h (env, fc, loc, stk, ov, pr)) (k : Go TT g EI W bk0 h0 ev y l d Q (pc + 2) (env ++ [eNew n n (some (fcon n))], fc, loc, (0, env.length, 0) :: stk, ov, pr) kc ks) : J l g y d pc al st h kc ks Q := by
  have hv : ((Int8.ofInt n).toInt32).toInt = n := by rw [Int8.toInt_toInt32, Int8.toInt_ofInt, show Int8.size = 256 from rfl]; exact Int.bmod_eq_of_le (by omega) (by omega)
  refine j_bipush hd (k _ _ _ _ _ (hp.push32 (x := (Int8.ofInt n).toInt32) ?_))
  rw [hv]
  exact eVal.fm (Int.le_refl _) (Int.le_refl _) fcon_ok
theorem st_sipush {n : Int} (hd : decode (jbC y) pc = .ok (.sipush n, 3)) (h1 : -32768 ≤ n) (h2 : n ≤ 32767) (hp : PT TT g EI W bk0 h0 ev y vs bk al st h (env, fc, loc, stk, ov, pr)) (k : Go TT g EI W bk0 h0 ev y l d Q (pc + 3) (env ++ [eNew n n (some (fcon n))], fc, loc, (0, env.length, 0) :: stk, ov, pr) kc ks) : J l g y d pc al st h kc ks Q := by
  have hv : ((Int16.ofInt n).toInt32).toInt = n := by rw [Int16.toInt_toInt32, Int16.toInt_ofInt, show Int16.size = 65536 from rfl]; exact Int.bmod_eq_of_le (by omega) (by omega)
  refine j_sipush hd (k _ _ _ _ _ (hp.push32 (x := (Int16.ofInt n).toInt32) ?_))
  rw [hv]
  exact eVal.fm (Int.le_refl _) (Int.le_refl _) fcon_ok
theorem st_lconst {n : Fin 2} (hd : decode (jbC y) pc = .ok (.lconst n, 1)) (hp : PT TT g EI W bk0 h0 ev y vs bk al st h (env, fc, loc, stk, ov, pr)) (k : Go TT g EI W bk0 h0 ev y l d Q (pc + 1) (env ++ [eNew (n : Nat) (n : Nat) (some (fcon (n : Nat)))], fc, loc, (1, env.length, 0) :: stk, ov, pr) kc ks) : J l g y d pc al st h kc ks Q := by
  have hv : (Int64.ofNat (n : Nat)).toInt = ((n : Nat) : Int) := (by decide : ∀ n : Fin 2, (Int64.ofNat (n : Nat)).toInt = ((n : Nat) : Int)) n
  refine j_lconst hd (k _ _ _ _ _ (hp.push64 (x := Int64.ofNat (n : Nat)) ?_))
  rw [hv]
  exact eVal.fm (Int.le_refl _) (Int.le_refl _) fcon_ok
theorem st_iadd {v w : aV} {e : aE} (hd : decode (jbC y) pc = .ok (.iadd, 1)) (hv : Nat.beq v.1 0 = true) (hw : Nat.beq w.1 0 = true) (he : aSum (-2147483648 : Int) (2147483647 : Int) env fc w.2.1 v.2.1 = some e) (hp : PT TT g EI W bk0 h0 ev y vs bk al st h (env, fc, loc, v :: w :: stk, ov, pr)) (k : Go TT g EI W bk0 h0 ev y l d Q (pc + 1) (env ++ [e], fc, loc, (0, env.length, 0) :: stk, ov, pr) kc ks) : J l g y d pc al st h kc ks Q := by
  obtain ⟨w1, s1, rfl, q1, hp9⟩ := hp.pop
  clear hp
  have hp := hp9
  clear hp9
  obtain ⟨w2, s2, rfl, q2, hp9⟩ := hp.pop
  clear hp
  have hp := hp9
  clear hp9
  obtain ⟨b, rfl, hb⟩ := q1.int hv
  obtain ⟨a, rfl, ha⟩ := q2.int hw
  exact j_iadd hd (k _ _ _ _ _ (hp.push32 (aSum_ok32 (g := g) hp.ee.1 hp.ee.2.1 hp.ee.2.2 ha hb he)))
theorem st_isub {v w : aV} {e : aE} (hd : decode (jbC y) pc = .ok (.isub, 1)) (hv : Nat.beq v.1 0 = true) (hw : Nat.beq w.1 0 = true) (he : aDif (-2147483648 : Int) (2147483647 : Int) env fc w.2.1 v.2.1 = some e) (hp : PT TT g EI W bk0 h0 ev y vs bk al st h (env, fc, loc, v :: w :: stk, ov, pr)) (k : Go TT g EI W bk0 h0 ev y l d Q (pc + 1) (env ++ [e], fc, loc, (0, env.length, 0) :: stk, ov, pr) kc ks) : J l g y d pc al st h kc ks Q := by
  obtain ⟨w1, s1, rfl, q1, hp9⟩ := hp.pop
  clear hp
  have hp := hp9
  clear hp9
  obtain ⟨w2, s2, rfl, q2, hp9⟩ := hp.pop
  clear hp
  have hp := hp9
  clear hp9
  obtain ⟨b, rfl, hb⟩ := q1.int hv
  obtain ⟨a, rfl, ha⟩ := q2.int hw
  exact j_isub hd (k _ _ _ _ _ (hp.push32 (aDif_ok32 hp.ee.1 hp.ee.2.1 hp.ee.2.2 ha hb he)))
theorem st_imul {v w : aV} {e : aE} (hd : decode (jbC y) pc = .ok (.imul, 1)) (hv : Nat.beq v.1 0 = true) (hw : Nat.beq w.1 0 = true) (he : aMul env fc w.2.1 v.2.1 = some e) (hp : PT TT g EI W bk0 h0 ev y vs bk al st h (env, fc, loc, v :: w :: stk, ov, pr)) (k : Go TT g EI W bk0 h0 ev y l d Q (pc + 1) (env ++ [e], fc, loc, (0, env.length, 0) :: stk, ov, pr) kc ks) : J l g y d pc al st h kc ks Q := by
  obtain ⟨w1, s1, rfl, q1, hp9⟩ := hp.pop
  clear hp
  have hp := hp9
  clear hp9
  obtain ⟨w2, s2, rfl, q2, hp9⟩ := hp.pop
  clear hp
  have hp := hp9
  clear hp9
  obtain ⟨b, rfl, hb⟩ := q1.int hv
  obtain ⟨a, rfl, ha⟩ := q2.int hw
  exact j_imul hd (k _ _ _ _ _ (hp.push32 (aMul_ok hp.ee.1 hp.ee.2.1 hp.ee.2.2 ha hb he)))
theorem PT.gh {x' z' : Nat} {a b : Int32} (hp : PT TT g EI W bk0 h0 ev y vs bk al st h (env, fc, loc, stk, ov, pr)) (ha : vs[x']? = some a.toInt) (hb : vs[z']? = some b.toInt) : ∃ ws, PT TT g EI W bk0 h0 ev y (vs ++ ws) bk al st h ((aGh env fc x' z').1, (aGh env fc x' z').2, loc, stk, ov, pr) := by
  rw [aGh]
  cases g1 : aiv env fc x' with
  | none => exact ⟨[], by rw [List.append_nil]; exact hp⟩
  | some p =>
    cases g2 : aiv env fc z' with
    | none => exact ⟨[], by rw [List.append_nil]; exact hp⟩
    | some r =>
      dsimp only
      cases hc : (decide (0 ≤ p.1) && decide (0 < r.1) && decide (r.1 = r.2) && decide (r.1 ≤ p.2) && (aQuo x' r.1 0 env).isNone) with
      | false => exact ⟨[], by rw [List.append_nil]; exact hp⟩
      | true =>
        simp only [Bool.and_eq_true, decide_eq_true_eq] at hc
        obtain ⟨⟨⟨⟨u1, u2⟩, u3⟩, u4⟩, -⟩ := hc
        simp only [cond_true]
        obtain ⟨h1, h2, h3⟩ := hp.ee
        have b1 := aiv_ok h1 h2 h3 g1 ha
        have b2 := aiv_ok h1 h2 h3 g2 hb
        have e1 := i32_div (x := a) (y := b) (by omega) (by omega)
        have hb2 : b.toInt = r.1 := by omega
        have hP := hp.push32 (e := (p.1 / r.1, p.2 / r.1, none, 2, x', r.1, [])) (x := a / b) ⟨by rw [e1, hb2]; exact ⟨Int.ediv_le_ediv u2 b1.1, Int.ediv_le_ediv u2 b1.2⟩, (fun F q => by cases q), (fun q => absurd (show (_ : Nat) = _ from q) (by simp)), (fun _ => ⟨a.toInt, ha, by omega, u2, by rw [e1, hb2]⟩), (fun q => absurd (show (_ : Nat) = _ from q) (by simp))⟩
        have hF : fev (vs ++ [(a / b).toInt]) (fadd (-r.1) (lin env x') ([(env.length, 1)], 0)) = some (a.toInt - r.1 * (a.toInt / r.1)) := by
          rw [fadd_ok (fev_app (lin_ok h2 ha)) (fone_ok (z := (a / b).toInt) (by rw [h1.1]; simp))]
          congr 1
          rw [e1, hb2, Int.neg_mul]
          omega
        have m1 := Int.emod_nonneg a.toInt (show r.1 ≠ 0 by omega)
        have m2 := Int.emod_lt_of_pos a.toInt u2
        have m3 := Int.emod_add_mul_ediv a.toInt r.1
        obtain ⟨w9, s9, e9, -, hP2⟩ := hP.pop
        cases e9
        refine ⟨[(a / b).toInt], hP2.setE ⟨hP2.ee.1, hP2.ee.2.1, fun F hF2 => ?_⟩⟩
        rcases List.mem_cons.mp hF2 with rfl | hF2
        · exact ⟨_, hF, by omega⟩
        · rcases List.mem_cons.mp hF2 with rfl | hF2
          · refine ⟨_, fadd_ok fcon_ok hF, by omega⟩
          · exact hP2.ee.2.2 F hF2
theorem st_irem {v w : aV} {e : aE} (hd : decode (jbC y) pc = .ok (.irem, 1)) (hv : Nat.beq v.1 0 = true) (hw : Nat.beq w.1 0 = true) (he : aRem (aGh env fc w.2.1 v.2.1).1 (aGh env fc w.2.1 v.2.1).2 w.2.1 v.2.1 = some e) (hp : PT TT g EI W bk0 h0 ev y vs bk al st h (env, fc, loc, v :: w :: stk, ov, pr)) (k : Go TT g EI W bk0 h0 ev y l d Q (pc + 1) ((aGh env fc w.2.1 v.2.1).1 ++ [e], (aGh env fc w.2.1 v.2.1).2, loc, (0, (aGh env fc w.2.1 v.2.1).1.length, 0) :: stk, ov, pr) kc ks) : J l g y d pc al st h kc ks Q := by
  obtain ⟨w1, s1, rfl, q1, hp1⟩ := hp.pop
  obtain ⟨w2, s2, rfl, q2, hp2⟩ := hp1.pop
  obtain ⟨b, rfl, hb⟩ := q1.int hv
  obtain ⟨a, rfl, ha⟩ := q2.int hw
  obtain ⟨ws, hp3⟩ := hp2.gh ha hb
  have hq := aRem_ok hp3.ee.1 hp3.ee.2.1 hp3.ee.2.2 (getE_app ha) (getE_app hb) he
  exact j_irem hd hq.1 (k _ _ _ _ _ (hp3.push32 hq.2))
theorem st_iand {v w : aV} {e : aE} (hd : decode (jbC y) pc = .ok (.iand, 1)) (hv : Nat.beq v.1 0 = true) (hw : Nat.beq w.1 0 = true) (he : aAnd env fc w.2.1 v.2.1 = some e) (hp : PT TT g EI W bk0 h0 ev y vs bk al st h (env, fc, loc, v :: w :: stk, ov, pr)) (k : Go TT g EI W bk0 h0 ev y l d Q (pc + 1) (env ++ [e], fc, loc, (0, env.length, 0) :: stk, ov, pr) kc ks) : J l g y d pc al st h kc ks Q := by
  obtain ⟨w1, s1, rfl, q1, hp9⟩ := hp.pop
  clear hp
  have hp := hp9
  clear hp9
  obtain ⟨w2, s2, rfl, q2, hp9⟩ := hp.pop
  clear hp
  have hp := hp9
  clear hp9
  obtain ⟨b, rfl, hb⟩ := q1.int hv
  obtain ⟨a, rfl, ha⟩ := q2.int hw
  exact j_iand hd (k _ _ _ _ _ (hp.push32 (aAnd_ok hp.ee.1 hp.ee.2.1 hp.ee.2.2 ha hb he)))
theorem st_ior {v w : aV} {e : aE} (hd : decode (jbC y) pc = .ok (.ior, 1)) (hv : Nat.beq v.1 0 = true) (hw : Nat.beq w.1 0 = true) (he : aOr env fc w.2.1 v.2.1 = some e) (hp : PT TT g EI W bk0 h0 ev y vs bk al st h (env, fc, loc, v :: w :: stk, ov, pr)) (k : Go TT g EI W bk0 h0 ev y l d Q (pc + 1) (env ++ [e], fc, loc, (0, env.length, 0) :: stk, ov, pr) kc ks) : J l g y d pc al st h kc ks Q := by
  obtain ⟨w1, s1, rfl, q1, hp9⟩ := hp.pop
  clear hp
  have hp := hp9
  clear hp9
  obtain ⟨w2, s2, rfl, q2, hp9⟩ := hp.pop
  clear hp
  have hp := hp9
  clear hp9
  obtain ⟨b, rfl, hb⟩ := q1.int hv
  obtain ⟨a, rfl, ha⟩ := q2.int hw
  exact j_ior hd (k _ _ _ _ _ (hp.push32 (aOr_ok (Or.inl rfl) hp.ee.1 hp.ee.2.1 hp.ee.2.2 ha hb he)))
theorem st_ixor {v w : aV} {e : aE} (hd : decode (jbC y) pc = .ok (.ixor, 1)) (hv : Nat.beq v.1 0 = true) (hw : Nat.beq w.1 0 = true) (he : aOr env fc w.2.1 v.2.1 = some e) (hp : PT TT g EI W bk0 h0 ev y vs bk al st h (env, fc, loc, v :: w :: stk, ov, pr)) (k : Go TT g EI W bk0 h0 ev y l d Q (pc + 1) (env ++ [e], fc, loc, (0, env.length, 0) :: stk, ov, pr) kc ks) : J l g y d pc al st h kc ks Q := by
  obtain ⟨w1, s1, rfl, q1, hp9⟩ := hp.pop
  clear hp
  have hp := hp9
  clear hp9
  obtain ⟨w2, s2, rfl, q2, hp9⟩ := hp.pop
  clear hp
  have hp := hp9
  clear hp9
  obtain ⟨b, rfl, hb⟩ := q1.int hv
  obtain ⟨a, rfl, ha⟩ := q2.int hw
  exact j_ixor hd (k _ _ _ _ _ (hp.push32 (aOr_ok (Or.inr rfl) hp.ee.1 hp.ee.2.1 hp.ee.2.2 ha hb he)))
theorem st_ishl {v w : aV} {e : aE} (hd : decode (jbC y) pc = .ok (.ishl, 1)) (hv : Nat.beq v.1 0 = true) (hw : Nat.beq w.1 0 = true) (he : aShl env fc w.2.1 v.2.1 = some e) (hp : PT TT g EI W bk0 h0 ev y vs bk al st h (env, fc, loc, v :: w :: stk, ov, pr)) (k : Go TT g EI W bk0 h0 ev y l d Q (pc + 1) (env ++ [e], fc, loc, (0, env.length, 0) :: stk, ov, pr) kc ks) : J l g y d pc al st h kc ks Q := by
  obtain ⟨w1, s1, rfl, q1, hp9⟩ := hp.pop
  clear hp
  have hp := hp9
  clear hp9
  obtain ⟨w2, s2, rfl, q2, hp9⟩ := hp.pop
  clear hp
  have hp := hp9
  clear hp9
  obtain ⟨b, rfl, hb⟩ := q1.int hv
  obtain ⟨a, rfl, ha⟩ := q2.int hw
  exact j_ishl hd (k _ _ _ _ _ (hp.push32 (aShl_ok hp.ee.1 hp.ee.2.1 hp.ee.2.2 ha hb he)))
theorem st_ishr {v w : aV} {e : aE} (hd : decode (jbC y) pc = .ok (.ishr, 1)) (hv : Nat.beq v.1 0 = true) (hw : Nat.beq w.1 0 = true) (he : aShr env fc w.2.1 v.2.1 = some e) (hp : PT TT g EI W bk0 h0 ev y vs bk al st h (env, fc, loc, v :: w :: stk, ov, pr)) (k : Go TT g EI W bk0 h0 ev y l d Q (pc + 1) (env ++ [e], fc, loc, (0, env.length, 0) :: stk, ov, pr) kc ks) : J l g y d pc al st h kc ks Q := by
  obtain ⟨w1, s1, rfl, q1, hp9⟩ := hp.pop
  clear hp
  have hp := hp9
  clear hp9
  obtain ⟨w2, s2, rfl, q2, hp9⟩ := hp.pop
  clear hp
  have hp := hp9
  clear hp9
  obtain ⟨b, rfl, hb⟩ := q1.int hv
  obtain ⟨a, rfl, ha⟩ := q2.int hw
  exact j_ishr hd (k _ _ _ _ _ (hp.push32 (aShr_ok hp.ee.1 hp.ee.2.1 hp.ee.2.2 ha hb he)))
theorem st_ladd {v w : aV} {e : aE} (hd : decode (jbC y) pc = .ok (.ladd, 1)) (hv : Nat.beq v.1 1 = true) (hw : Nat.beq w.1 1 = true) (he : aSum (-9223372036854775808 : Int) (9223372036854775807 : Int) env fc w.2.1 v.2.1 = some e) (hp : PT TT g EI W bk0 h0 ev y vs bk al st h (env, fc, loc, v :: w :: stk, ov, pr)) (k : Go TT g EI W bk0 h0 ev y l d Q (pc + 1) (env ++ [e], fc, loc, (1, env.length, 0) :: stk, ov, pr) kc ks) : J l g y d pc al st h kc ks Q := by
  obtain ⟨w1, s1, rfl, q1, hp9⟩ := hp.pop
  clear hp
  have hp := hp9
  clear hp9
  obtain ⟨w2, s2, rfl, q2, hp9⟩ := hp.pop
  clear hp
  have hp := hp9
  clear hp9
  obtain ⟨b, rfl, hb⟩ := q1.long hv
  obtain ⟨a, rfl, ha⟩ := q2.long hw
  exact j_ladd hd (k _ _ _ _ _ (hp.push64 (aSum_ok64 (g := g) hp.ee.1 hp.ee.2.1 hp.ee.2.2 ha hb he)))
theorem st_lsub {v w : aV} {e : aE} (hd : decode (jbC y) pc = .ok (.lsub, 1)) (hv : Nat.beq v.1 1 = true) (hw : Nat.beq w.1 1 = true) (he : aDif (-9223372036854775808 : Int) (9223372036854775807 : Int) env fc w.2.1 v.2.1 = some e) (hp : PT TT g EI W bk0 h0 ev y vs bk al st h (env, fc, loc, v :: w :: stk, ov, pr)) (k : Go TT g EI W bk0 h0 ev y l d Q (pc + 1) (env ++ [e], fc, loc, (1, env.length, 0) :: stk, ov, pr) kc ks) : J l g y d pc al st h kc ks Q := by
  obtain ⟨w1, s1, rfl, q1, hp9⟩ := hp.pop
  clear hp
  have hp := hp9
  clear hp9
  obtain ⟨w2, s2, rfl, q2, hp9⟩ := hp.pop
  clear hp
  have hp := hp9
  clear hp9
  obtain ⟨b, rfl, hb⟩ := q1.long hv
  obtain ⟨a, rfl, ha⟩ := q2.long hw
  exact j_lsub hd (k _ _ _ _ _ (hp.push64 (aDif_ok64 hp.ee.1 hp.ee.2.1 hp.ee.2.2 ha hb he)))
theorem st_iushr {v w : aV} (hd : decode (jbC y) pc = .ok (.iushr, 1)) (hv : Nat.beq v.1 0 = true) (hw : Nat.beq w.1 0 = true) (hp : PT TT g EI W bk0 h0 ev y vs bk al st h (env, fc, loc, v :: w :: stk, ov, pr)) (k : Go TT g EI W bk0 h0 ev y l d Q (pc + 1) (env ++ [eNew (-2147483648 : Int) (2147483647 : Int) none], fc, loc, (0, env.length, 0) :: stk, ov, pr) kc ks) : J l g y d pc al st h kc ks Q := by
  obtain ⟨w1, s1, rfl, q1, hp9⟩ := hp.pop
  clear hp
  have hp := hp9
  clear hp9
  obtain ⟨w2, s2, rfl, q2, hp9⟩ := hp.pop
  clear hp
  have hp := hp9
  clear hp9
  obtain ⟨b, rfl, hb⟩ := q1.int hv
  obtain ⟨a, rfl, ha⟩ := q2.int hw
  exact j_iushr hd (k _ _ _ _ _ (hp.push32 (eVal.any32 _)))
theorem st_lmul {v w : aV} (hd : decode (jbC y) pc = .ok (.lmul, 1)) (hv : Nat.beq v.1 1 = true) (hw : Nat.beq w.1 1 = true) (hp : PT TT g EI W bk0 h0 ev y vs bk al st h (env, fc, loc, v :: w :: stk, ov, pr)) (k : Go TT g EI W bk0 h0 ev y l d Q (pc + 1) (env ++ [eNew (-9223372036854775808 : Int) (9223372036854775807 : Int) none], fc, loc, (1, env.length, 0) :: stk, ov, pr) kc ks) : J l g y d pc al st h kc ks Q := by
  obtain ⟨w1, s1, rfl, q1, hp9⟩ := hp.pop
  clear hp
  have hp := hp9
  clear hp9
  obtain ⟨w2, s2, rfl, q2, hp9⟩ := hp.pop
  clear hp
  have hp := hp9
  clear hp9
  obtain ⟨b, rfl, hb⟩ := q1.long hv
  obtain ⟨a, rfl, ha⟩ := q2.long hw
  exact j_lmul hd (k _ _ _ _ _ (hp.push64 (eVal.any64 _)))
theorem st_land {v w : aV} (hd : decode (jbC y) pc = .ok (.land, 1)) (hv : Nat.beq v.1 1 = true) (hw : Nat.beq w.1 1 = true) (hp : PT TT g EI W bk0 h0 ev y vs bk al st h (env, fc, loc, v :: w :: stk, ov, pr)) (k : Go TT g EI W bk0 h0 ev y l d Q (pc + 1) (env ++ [eNew (-9223372036854775808 : Int) (9223372036854775807 : Int) none], fc, loc, (1, env.length, 0) :: stk, ov, pr) kc ks) : J l g y d pc al st h kc ks Q := by
  obtain ⟨w1, s1, rfl, q1, hp9⟩ := hp.pop
  clear hp
  have hp := hp9
  clear hp9
  obtain ⟨w2, s2, rfl, q2, hp9⟩ := hp.pop
  clear hp
  have hp := hp9
  clear hp9
  obtain ⟨b, rfl, hb⟩ := q1.long hv
  obtain ⟨a, rfl, ha⟩ := q2.long hw
  exact j_land hd (k _ _ _ _ _ (hp.push64 (eVal.any64 _)))
theorem st_lor {v w : aV} (hd : decode (jbC y) pc = .ok (.lor, 1)) (hv : Nat.beq v.1 1 = true) (hw : Nat.beq w.1 1 = true) (hp : PT TT g EI W bk0 h0 ev y vs bk al st h (env, fc, loc, v :: w :: stk, ov, pr)) (k : Go TT g EI W bk0 h0 ev y l d Q (pc + 1) (env ++ [eNew (-9223372036854775808 : Int) (9223372036854775807 : Int) none], fc, loc, (1, env.length, 0) :: stk, ov, pr) kc ks) : J l g y d pc al st h kc ks Q := by
  obtain ⟨w1, s1, rfl, q1, hp9⟩ := hp.pop
  clear hp
  have hp := hp9
  clear hp9
  obtain ⟨w2, s2, rfl, q2, hp9⟩ := hp.pop
  clear hp
  have hp := hp9
  clear hp9
  obtain ⟨b, rfl, hb⟩ := q1.long hv
  obtain ⟨a, rfl, ha⟩ := q2.long hw
  exact j_lor hd (k _ _ _ _ _ (hp.push64 (eVal.any64 _)))
theorem st_lxor {v w : aV} (hd : decode (jbC y) pc = .ok (.lxor, 1)) (hv : Nat.beq v.1 1 = true) (hw : Nat.beq w.1 1 = true) (hp : PT TT g EI W bk0 h0 ev y vs bk al st h (env, fc, loc, v :: w :: stk, ov, pr)) (k : Go TT g EI W bk0 h0 ev y l d Q (pc + 1) (env ++ [eNew (-9223372036854775808 : Int) (9223372036854775807 : Int) none], fc, loc, (1, env.length, 0) :: stk, ov, pr) kc ks) : J l g y d pc al st h kc ks Q := by
  obtain ⟨w1, s1, rfl, q1, hp9⟩ := hp.pop
  clear hp
  have hp := hp9
  clear hp9
  obtain ⟨w2, s2, rfl, q2, hp9⟩ := hp.pop
  clear hp
  have hp := hp9
  clear hp9
  obtain ⟨b, rfl, hb⟩ := q1.long hv
  obtain ⟨a, rfl, ha⟩ := q2.long hw
  exact j_lxor hd (k _ _ _ _ _ (hp.push64 (eVal.any64 _)))
theorem st_lshl {v w : aV} (hd : decode (jbC y) pc = .ok (.lshl, 1)) (hv : Nat.beq v.1 0 = true) (hw : Nat.beq w.1 1 = true) (hp : PT TT g EI W bk0 h0 ev y vs bk al st h (env, fc, loc, v :: w :: stk, ov, pr)) (k : Go TT g EI W bk0 h0 ev y l d Q (pc + 1) (env ++ [eNew (-9223372036854775808 : Int) (9223372036854775807 : Int) none], fc, loc, (1, env.length, 0) :: stk, ov, pr) kc ks) : J l g y d pc al st h kc ks Q := by
  obtain ⟨w1, s1, rfl, q1, hp9⟩ := hp.pop
  clear hp
  have hp := hp9
  clear hp9
  obtain ⟨w2, s2, rfl, q2, hp9⟩ := hp.pop
  clear hp
  have hp := hp9
  clear hp9
  obtain ⟨b, rfl, hb⟩ := q1.int hv
  obtain ⟨a, rfl, ha⟩ := q2.long hw
  exact j_lshl hd (k _ _ _ _ _ (hp.push64 (eVal.any64 _)))
theorem st_lshr {v w : aV} (hd : decode (jbC y) pc = .ok (.lshr, 1)) (hv : Nat.beq v.1 0 = true) (hw : Nat.beq w.1 1 = true) (hp : PT TT g EI W bk0 h0 ev y vs bk al st h (env, fc, loc, v :: w :: stk, ov, pr)) (k : Go TT g EI W bk0 h0 ev y l d Q (pc + 1) (env ++ [eNew (-9223372036854775808 : Int) (9223372036854775807 : Int) none], fc, loc, (1, env.length, 0) :: stk, ov, pr) kc ks) : J l g y d pc al st h kc ks Q := by
  obtain ⟨w1, s1, rfl, q1, hp9⟩ := hp.pop
  clear hp
  have hp := hp9
  clear hp9
  obtain ⟨w2, s2, rfl, q2, hp9⟩ := hp.pop
  clear hp
  have hp := hp9
  clear hp9
  obtain ⟨b, rfl, hb⟩ := q1.int hv
  obtain ⟨a, rfl, ha⟩ := q2.long hw
  exact j_lshr hd (k _ _ _ _ _ (hp.push64 (eVal.any64 _)))
theorem st_idiv {v w : aV} {e : aE × List aF} (hd : decode (jbC y) pc = .ok (.idiv, 1)) (hv : Nat.beq v.1 0 = true) (hw : Nat.beq w.1 0 = true) (he : aDiv env fc w.2.1 v.2.1 = some e) (hp : PT TT g EI W bk0 h0 ev y vs bk al st h (env, fc, loc, v :: w :: stk, ov, pr)) (k : Go TT g EI W bk0 h0 ev y l d Q (pc + 1) (env ++ [e.1], e.2, loc, (0, env.length, 0) :: stk, ov, pr) kc ks) : J l g y d pc al st h kc ks Q := by
  obtain ⟨w1, s1, rfl, q1, hp9⟩ := hp.pop
  clear hp
  have hp := hp9
  clear hp9
  obtain ⟨w2, s2, rfl, q2, hp9⟩ := hp.pop
  clear hp
  have hp := hp9
  clear hp9
  obtain ⟨b, rfl, hb⟩ := q1.int hv
  obtain ⟨a, rfl, ha⟩ := q2.int hw
  obtain ⟨h1, h2, h3⟩ := hp.ee
  obtain ⟨p, r, g1, g2, he⟩ := aiv2 he
  have b1 := aiv_ok h1 h2 h3 g1 ha
  have b2 := aiv_ok h1 h2 h3 g2 hb
  have hne : 0 < r.1 → ¬ b = 0 := fun q1 q => by rw [q] at b2; simp at b2; omega
  cases hc : (decide (0 ≤ p.1) && decide (0 < r.1)) with
  | true =>
    rw [hc] at he
    simp only [Bool.and_eq_true, decide_eq_true_eq] at hc
    simp only [cond_true] at he
    have e1 := i32_div (x := a) (y := b) (by omega) (by omega)
    by_cases hr : r.1 = r.2
    · simp only [hr, decide_true, cond_true] at he
      have hb2 : b.toInt = r.2 := by omega
      have hr0 : 0 < r.2 := by omega
      cases he
      have hP := hp.push32 (e := (p.1 / r.2, p.2 / r.2, none, 2, w.2.1, r.2, [])) (x := a / b) ⟨by rw [e1, hb2]; exact ⟨Int.ediv_le_ediv hr0 b1.1, Int.ediv_le_ediv hr0 b1.2⟩, (fun F q => by cases q), (fun q => absurd (show (_ : Nat) = _ from q) (by simp)), (fun _ => ⟨a.toInt, ha, by omega, hr0, by rw [e1, hb2]⟩), (fun q => absurd (show (_ : Nat) = _ from q) (by simp))⟩
      have hF : fev (vs ++ [(a / b).toInt]) (fadd (-r.2) (lin env w.2.1) ([(env.length, 1)], 0)) = some (a.toInt - r.2 * (a.toInt / r.2)) := by
        rw [fadd_ok (fev_app (lin_ok h2 ha)) (fone_ok (z := (a / b).toInt) (by rw [h1.1]; simp))]
        congr 1
        rw [e1, hb2, Int.neg_mul]
        omega
      have m1 := Int.emod_nonneg a.toInt (show r.2 ≠ 0 by omega)
      have m2 := Int.emod_lt_of_pos a.toInt hr0
      have m3 := Int.emod_add_mul_ediv a.toInt r.2
      refine j_idiv hd (hne (by omega)) (k _ _ _ _ _ (hP.setE ⟨hP.ee.1, hP.ee.2.1, fun F hF2 => ?_⟩))
      rcases List.mem_cons.mp hF2 with rfl | hF2
      · exact ⟨_, hF, by omega⟩
      · rcases List.mem_cons.mp hF2 with rfl | hF2
        · refine ⟨_, fadd_ok fcon_ok hF, by omega⟩
        · exact hP.ee.2.2 F hF2
    · simp only [hr, decide_false, cond_false] at he
      cases he
      refine j_idiv hd (hne (by omega)) (k _ _ _ _ _ (hp.push32 ?_))
      rw [e1]
      have hb0 : 0 < b.toInt := by omega
      exact eVal.bd (Int.ediv_nonneg (by omega) (by omega)) (Int.le_trans (Int.ediv_le_self _ (by omega)) b1.2)
  | false =>
    rw [hc] at he
    simp only [cond_false] at he
    by_cases hr : 0 < r.1
    · simp only [hr, decide_true, cond_true] at he
      cases he
      exact j_idiv hd (hne hr) (k _ _ _ _ _ (hp.push32 (eVal.any32 _)))
    · simp only [hr, decide_false, cond_false] at he
      cases he
theorem st_ineg {v : aV} {e : aE} (hd : decode (jbC y) pc = .ok (.ineg, 1)) (hv : Nat.beq v.1 0 = true) (he : aNeg env fc v.2.1 = some e) (hp : PT TT g EI W bk0 h0 ev y vs bk al st h (env, fc, loc, v :: stk, ov, pr)) (k : Go TT g EI W bk0 h0 ev y l d Q (pc + 1) (env ++ [e], fc, loc, (0, env.length, 0) :: stk, ov, pr) kc ks) : J l g y d pc al st h kc ks Q := by
  obtain ⟨w1, s1, rfl, q1, hp9⟩ := hp.pop
  clear hp
  have hp := hp9
  clear hp9
  obtain ⟨a, rfl, ha⟩ := q1.int hv
  exact j_ineg hd (k _ _ _ _ _ (hp.push32 (aNeg_ok hp.ee.1 hp.ee.2.1 hp.ee.2.2 ha he)))
theorem st_i2l {v : aV} {a : Int × Int} (hd : decode (jbC y) pc = .ok (.i2l, 1)) (hv : Nat.beq v.1 0 = true) (he : aiv env fc v.2.1 = some a) (hp : PT TT g EI W bk0 h0 ev y vs bk al st h (env, fc, loc, v :: stk, ov, pr)) (k : Go TT g EI W bk0 h0 ev y l d Q (pc + 1) (env ++ [eNew a.1 a.2 (some (lin env v.2.1))], fc, loc, (1, env.length, 0) :: stk, ov, pr) kc ks) : J l g y d pc al st h kc ks Q := by
  obtain ⟨w1, s1, rfl, q1, hp9⟩ := hp.pop
  clear hp
  have hp := hp9
  clear hp9
  obtain ⟨x, rfl, hx⟩ := q1.int hv
  have b := aiv_ok hp.ee.1 hp.ee.2.1 hp.ee.2.2 he hx
  refine j_i2l hd (k _ _ _ _ _ (hp.push64 ?_))
  rw [i2l_ok]
  exact eVal.fm b.1 b.2 (lin_ok hp.ee.2.1 hx)
theorem st_l2i {v : aV} {a : Int × Int} (hd : decode (jbC y) pc = .ok (.l2i, 1)) (hv : Nat.beq v.1 1 = true) (he : aiv env fc v.2.1 = some a) (h1 : (-2147483648 : Int) ≤ a.1) (h2 : a.2 ≤ (2147483647 : Int)) (hp : PT TT g EI W bk0 h0 ev y vs bk al st h (env, fc, loc, v :: stk, ov, pr)) (k : Go TT g EI W bk0 h0 ev y l d Q (pc + 1) (env ++ [eNew a.1 a.2 (some (lin env v.2.1))], fc, loc, (0, env.length, 0) :: stk, ov, pr) kc ks) : J l g y d pc al st h kc ks Q := by
  obtain ⟨w1, s1, rfl, q1, hp9⟩ := hp.pop
  clear hp
  have hp := hp9
  clear hp9
  obtain ⟨x, rfl, hx⟩ := q1.long hv
  have b := aiv_ok hp.ee.1 hp.ee.2.1 hp.ee.2.2 he hx
  refine j_l2i hd (k _ _ _ _ _ (hp.push32 ?_))
  rw [l2i_ok (by omega) (by omega)]
  exact eVal.fm b.1 b.2 (lin_ok hp.ee.2.1 hx)
theorem st_l2i0 {v : aV} (hd : decode (jbC y) pc = .ok (.l2i, 1)) (hv : Nat.beq v.1 1 = true) (hp : PT TT g EI W bk0 h0 ev y vs bk al st h (env, fc, loc, v :: stk, ov, pr)) (k : Go TT g EI W bk0 h0 ev y l d Q (pc + 1) (env ++ [eNew (-2147483648 : Int) (2147483647 : Int) none], fc, loc, (0, env.length, 0) :: stk, ov, pr) kc ks) : J l g y d pc al st h kc ks Q := by
  obtain ⟨w1, s1, rfl, q1, hp9⟩ := hp.pop
  clear hp
  have hp := hp9
  clear hp9
  obtain ⟨x, rfl, hx⟩ := q1.long hv
  exact j_l2i hd (k _ _ _ _ _ (hp.push32 (eVal.any32 _)))
theorem st_lcmp {v w : aV} (hd : decode (jbC y) pc = .ok (.lcmp, 1)) (hv : Nat.beq v.1 1 = true) (hw : Nat.beq w.1 1 = true) (hp : PT TT g EI W bk0 h0 ev y vs bk al st h (env, fc, loc, v :: w :: stk, ov, pr)) (k : Go TT g EI W bk0 h0 ev y l d Q (pc + 1) (env ++ [(-1, 1, none, 3, 0, 0, [fadd (-1) (lin env w.2.1) (lin env v.2.1)])], fc, loc, (0, env.length, 0) :: stk, ov, pr) kc ks) : J l g y d pc al st h kc ks Q := by
  obtain ⟨w1, s1, rfl, q1, hp9⟩ := hp.pop
  clear hp
  have hp := hp9
  clear hp9
  obtain ⟨w2, s2, rfl, q2, hp9⟩ := hp.pop
  clear hp
  have hp := hp9
  clear hp9
  obtain ⟨b, rfl, hb⟩ := q1.long hv
  obtain ⟨a, rfl, ha⟩ := q2.long hw
  have hc := cmp_ok a b
  refine j_lcmp hd (k _ _ _ _ _ (hp.push32 ⟨?_, (fun F q => by cases q), (fun q => absurd (show (_ : Nat) = _ from q) (by simp)), (fun q => absurd (show (_ : Nat) = _ from q) (by simp)), fun _ F hF => ?_⟩))
  · show -1 ≤ (lg_cmp a b).toInt ∧ (lg_cmp a b).toInt ≤ 1
    omega
  · have hF : F = fadd (-1) (lin env w.2.1) (lin env v.2.1) := by simpa using hF
    subst hF
    refine ⟨_, fadd_ok (lin_ok hp.ee.2.1 ha) (lin_ok hp.ee.2.1 hb), ?_⟩
    rw [show a.toInt + -1 * b.toInt = a.toInt - b.toInt by omega]
    exact hc
theorem st_dup {v : aV} (hd : decode (jbC y) pc = .ok (.dup, 1)) (hv : Nat.beq v.1 1 = false) (hp : PT TT g EI W bk0 h0 ev y vs bk al st h (env, fc, loc, v :: stk, ov, pr)) (k : Go TT g EI W bk0 h0 ev y l d Q (pc + 1) (env, fc, loc, v :: v :: stk, ov, pr) kc ks) : J l g y d pc al st h kc ks Q := by
  obtain ⟨w1, s1, rfl, q1, hp9⟩ := hp.pop
  clear hp
  have hp := hp9
  clear hp9
  exact j_dup hd (by rw [q1.cat, hv]; rfl) (k _ _ _ _ _ ((hp.put q1).put q1))
theorem st_pop {v : aV} (hd : decode (jbC y) pc = .ok (.pop, 1)) (hv : Nat.beq v.1 1 = false) (hp : PT TT g EI W bk0 h0 ev y vs bk al st h (env, fc, loc, v :: stk, ov, pr)) (k : Go TT g EI W bk0 h0 ev y l d Q (pc + 1) (env, fc, loc, stk, ov, pr) kc ks) : J l g y d pc al st h kc ks Q := by
  obtain ⟨w1, s1, rfl, q1, hp9⟩ := hp.pop
  clear hp
  have hp := hp9
  clear hp9
  exact j_pop hd (by rw [q1.cat, hv]; rfl) (k _ _ _ _ _ hp)
theorem st_dup2 {v w : aV} (hd : decode (jbC y) pc = .ok (.dup2, 1)) (hv : Nat.beq v.1 1 = false) (hw : Nat.beq w.1 1 = false) (hp : PT TT g EI W bk0 h0 ev y vs bk al st h (env, fc, loc, v :: w :: stk, ov, pr)) (k : Go TT g EI W bk0 h0 ev y l d Q (pc + 1) (env, fc, loc, v :: w :: v :: w :: stk, ov, pr) kc ks) : J l g y d pc al st h kc ks Q := by
  obtain ⟨w1, s1, rfl, q1, hp9⟩ := hp.pop
  clear hp
  have hp := hp9
  clear hp9
  obtain ⟨w2, s2, rfl, q2, hp9⟩ := hp.pop
  clear hp
  have hp := hp9
  clear hp9
  exact j_dup2 hd (by rw [q1.cat, hv]; rfl) (by rw [q2.cat, hw]; rfl) (k _ _ _ _ _ ((((hp.put q2).put q1).put q2).put q1))
theorem st_null (hd : decode (jbC y) pc = .ok (.aconst_null, 1)) (hp : PT TT g EI W bk0 h0 ev y vs bk al st h (env, fc, loc, stk, ov, pr)) (k : Go TT g EI W bk0 h0 ev y l d Q (pc + 1) (env, fc, loc, (3, 0, 0) :: stk, ov, pr) kc ks) : J l g y d pc al st h kc ks Q := j_null hd (k _ _ _ _ _ (hp.put (v := (3, 0, 0)) rfl))
theorem PT.getL {i : Nat} {v : aV} (hp : PT TT g EI W bk0 h0 ev y vs bk al st h (env, fc, loc, stk, ov, pr)) (hi : loc[i]? = some (some v)) : ∃ w, al[i]? = some (some w) ∧ vOK g vs bk v w := hp.1.2.2.2.1 i v hi
theorem st_iload_n {k4 : Fin 4} {v : aV} (hd : decode (jbC y) pc = .ok (.iload_n k4, 1)) (hi : loc[(k4 : Nat)]? = some (some v)) (hv : Nat.beq v.1 0 = true) (hp : PT TT g EI W bk0 h0 ev y vs bk al st h (env, fc, loc, stk, ov, pr)) (k : Go TT g EI W bk0 h0 ev y l d Q (pc + 1) (env, fc, loc, v :: stk, ov, pr) kc ks) : J l g y d pc al st h kc ks Q := by
  obtain ⟨w, h1, h2⟩ := hp.getL hi
  obtain ⟨x, rfl, hx⟩ := h2.int hv
  exact j_iload_n hd h1 (k _ _ _ _ _ (hp.put h2))
theorem st_iload {i : Nat} {v : aV} (hd : decode (jbC y) pc = .ok (.iload i, 2)) (hi : loc[i]? = some (some v)) (hv : Nat.beq v.1 0 = true) (hp : PT TT g EI W bk0 h0 ev y vs bk al st h (env, fc, loc, stk, ov, pr)) (k : Go TT g EI W bk0 h0 ev y l d Q (pc + 2) (env, fc, loc, v :: stk, ov, pr) kc ks) : J l g y d pc al st h kc ks Q := by
  obtain ⟨w, h1, h2⟩ := hp.getL hi
  obtain ⟨x, rfl, hx⟩ := h2.int hv
  exact j_iload hd h1 (k _ _ _ _ _ (hp.put h2))
theorem st_lload_n {k4 : Fin 4} {v : aV} (hd : decode (jbC y) pc = .ok (.lload_n k4, 1)) (hi : loc[(k4 : Nat)]? = some (some v)) (hv : Nat.beq v.1 1 = true) (hp : PT TT g EI W bk0 h0 ev y vs bk al st h (env, fc, loc, stk, ov, pr)) (k : Go TT g EI W bk0 h0 ev y l d Q (pc + 1) (env, fc, loc, v :: stk, ov, pr) kc ks) : J l g y d pc al st h kc ks Q := by
  obtain ⟨w, h1, h2⟩ := hp.getL hi
  obtain ⟨x, rfl, hx⟩ := h2.long hv
  exact j_lload_n hd h1 (k _ _ _ _ _ (hp.put h2))
theorem st_lload {i : Nat} {v : aV} (hd : decode (jbC y) pc = .ok (.lload i, 2)) (hi : loc[i]? = some (some v)) (hv : Nat.beq v.1 1 = true) (hp : PT TT g EI W bk0 h0 ev y vs bk al st h (env, fc, loc, stk, ov, pr)) (k : Go TT g EI W bk0 h0 ev y l d Q (pc + 2) (env, fc, loc, v :: stk, ov, pr) kc ks) : J l g y d pc al st h kc ks Q := by
  obtain ⟨w, h1, h2⟩ := hp.getL hi
  obtain ⟨x, rfl, hx⟩ := h2.long hv
  exact j_lload hd h1 (k _ _ _ _ _ (hp.put h2))
theorem st_aload_n {k4 : Fin 4} {v : aV} (hd : decode (jbC y) pc = .ok (.aload_n k4, 1)) (hi : loc[(k4 : Nat)]? = some (some v)) (hv : Nat.ble 2 v.1 = true) (hp : PT TT g EI W bk0 h0 ev y vs bk al st h (env, fc, loc, stk, ov, pr)) (k : Go TT g EI W bk0 h0 ev y l d Q (pc + 1) (env, fc, loc, v :: stk, ov, pr) kc ks) : J l g y d pc al st h kc ks Q := by
  obtain ⟨w, h1, h2⟩ := hp.getL hi
  rcases h2.ge2 hv with rfl | ⟨a, rfl⟩
  · exact j_aload_nN hd h1 (k _ _ _ _ _ (hp.put h2))
  · exact j_aload_n hd h1 (k _ _ _ _ _ (hp.put h2))
theorem st_aload {i : Nat} {v : aV} (hd : decode (jbC y) pc = .ok (.aload i, 2)) (hi : loc[i]? = some (some v)) (hv : Nat.ble 2 v.1 = true) (hp : PT TT g EI W bk0 h0 ev y vs bk al st h (env, fc, loc, stk, ov, pr)) (k : Go TT g EI W bk0 h0 ev y l d Q (pc + 2) (env, fc, loc, v :: stk, ov, pr) kc ks) : J l g y d pc al st h kc ks Q := by
  obtain ⟨w, h1, h2⟩ := hp.getL hi
  rcases h2.ge2 hv with rfl | ⟨a, rfl⟩
  · exact j_aloadN hd h1 (k _ _ _ _ _ (hp.put h2))
  · exact j_aload hd h1 (k _ _ _ _ _ (hp.put h2))
end ST
end
section
/-! stores of locals, branches -/
def jpre (al : List (Option Value)) (i : Nat) : List (Option Value) := match i with | 0 => al | k + 1 => match al[k]? with | some (some w) => if w.category = 2 then al.set k none else al | _ => al
def apre (loc : List (Option aV)) (i : Nat) : List (Option aV) := match i with | 0 => loc | k + 1 => match loc[k]? with | some (some w) => bif Nat.beq w.1 1 then loc.set k none else loc | _ => loc
theorem jst1_eq {al : List (Option Value)} {i : Nat} {v : Value} : jst1 al i v = (jpre al i).set i (some v) := rfl
theorem jst2_eq {al : List (Option Value)} {i : Nat} {v : Value} : jst2 al i v = ((jpre al i).set (i + 1) none).set i (some v) := rfl
theorem aSt1_eq {loc : List (Option aV)} {i : Nat} {v : aV} : aSt1 loc i v = (apre loc i).set i (some v) := rfl
theorem aSt2_eq {loc : List (Option aV)} {i : Nat} {v : aV} : aSt2 loc i v = ((apre loc i).set (i + 1) none).set i (some v) := rfl
theorem jpre_len {al : List (Option Value)} {i : Nat} : (jpre al i).length = al.length := by
  unfold jpre
  split
  · rfl
  · split
    · split
      · rw [List.length_set]
      · rfl
    · rfl
theorem jpre_keep {al : List (Option Value)} {i j : Nat} {w : Value} (h : al[j]? = some (some w)) (hn : ¬ (j + 1 = i ∧ w.category = 2)) : (jpre al i)[j]? = some (some w) := by
  unfold jpre
  split
  · exact h
  · next k =>
    split
    · next u hu =>
      split
      · next hc =>
        by_cases hj : k = j
        · subst hj
          rw [hu] at h
          cases h
          exact absurd ⟨rfl, hc⟩ hn
        · rw [List.getElem?_set_ne hj]; exact h
      · exact h
    · exact h
theorem apre_get {loc : List (Option aV)} {i j : Nat} {u : aV} (h : (apre loc i)[j]? = some (some u)) : loc[j]? = some (some u) ∧ ¬ (j + 1 = i ∧ Nat.beq u.1 1 = true) := by
  unfold apre at h
  split at h
  · exact ⟨h, by omega⟩
  · next k =>
    split at h
    · next w hw =>
      cases hc : Nat.beq w.1 1 with
      | true =>
        rw [hc] at h
        simp only [cond_true] at h
        by_cases hj : k = j
        · subst hj
          rw [List.getElem?_set_self', hw] at h
          cases h
        · rw [List.getElem?_set_ne hj] at h
          exact ⟨h, by omega⟩
      | false =>
        rw [hc] at h
        simp only [cond_false] at h
        refine ⟨h, fun q => ?_⟩
        have : j = k := by omega
        subst this
        rw [hw] at h
        cases h
        rw [hc] at q
        exact absurd q.2 (by decide)
    · next hw =>
      refine ⟨h, fun q => ?_⟩
      have : j = k := by omega
      subst this
      exact hw u h
theorem vOK.cat2 {g : jG} {vs : List Int} {bk : aB} {v : aV} {w : Value} (h : vOK g vs bk v w) (hc : w.category = 2) : Nat.beq v.1 1 = true := by
  have h1 := h.cat
  rw [hc] at h1
  cases hb : Nat.beq v.1 1 with
  | true => rfl
  | false => rw [hb] at h1; cases h1
theorem lo_st1 {g : jG} {vs : List Int} {bk : aB} {loc : List (Option aV)} {al : List (Option Value)} {i : Nat} {v : aV} {w : Value} (h : loOK g vs bk loc al) (hv : vOK g vs bk v w) (hi : i < al.length) : loOK g vs bk (aSt1 loc i v) (jst1 al i w) := by
  intro j u hu
  rw [aSt1_eq] at hu
  rw [jst1_eq]
  by_cases hj : i = j
  · subst hj
    rw [List.getElem?_set_self'] at hu
    have huv : u = v := by
      revert hu
      generalize (apre loc i)[i]? = o
      intro hu
      cases o with
      | none => cases hu
      | some o => simpa using hu.symm
    subst huv
    exact ⟨w, List.getElem?_set_self (by rw [jpre_len]; exact hi), hv⟩
  · rw [List.getElem?_set_ne hj] at hu
    obtain ⟨h1, h2⟩ := apre_get hu
    obtain ⟨w', h3, h4⟩ := h j u h1
    exact ⟨w', by rw [List.getElem?_set_ne hj]; exact jpre_keep h3 (fun q => h2 ⟨q.1, h4.cat2 q.2⟩), h4⟩
theorem lo_st2 {g : jG} {vs : List Int} {bk : aB} {loc : List (Option aV)} {al : List (Option Value)} {i : Nat} {v : aV} {w : Value} (h : loOK g vs bk loc al) (hv : vOK g vs bk v w) (hi : i < al.length) : loOK g vs bk (aSt2 loc i v) (jst2 al i w) := by
  intro j u hu
  rw [aSt2_eq] at hu
  rw [jst2_eq]
  by_cases hj : i = j
  · subst hj
    rw [List.getElem?_set_self'] at hu
    have huv : u = v := by
      revert hu
      generalize ((apre loc i).set (i + 1) none)[i]? = o
      intro hu
      cases o with
      | none => cases hu
      | some o => simpa using hu.symm
    subst huv
    exact ⟨w, List.getElem?_set_self (by rw [List.length_set, jpre_len]; exact hi), hv⟩
  · rw [List.getElem?_set_ne hj] at hu
    by_cases hj1 : i + 1 = j
    · subst hj1
      rw [List.getElem?_set_self'] at hu
      exfalso
      revert hu
      generalize (apre loc i)[i + 1]? = o
      intro hu
      cases o with
      | none => cases hu
      | some o => simp at hu
    · rw [List.getElem?_set_ne hj1] at hu
      obtain ⟨h1, h2⟩ := apre_get hu
      obtain ⟨w', h3, h4⟩ := h j u h1
      exact ⟨w', by rw [List.getElem?_set_ne hj, List.getElem?_set_ne hj1]; exact jpre_keep h3 (fun q => h2 ⟨q.1, h4.cat2 q.2⟩), h4⟩
section ST2
variable {TT : List (List aCT)} {g : jG} {EI : aB → jH → Prop} {W : List aR} {bk0 : aB} {h0 : jH} {ev : List Int} {y : Nat} {vs : List Int} {bk : aB} {al : List (Option Value)} {st : List Value} {h : jH} {env : List aE} {fc : List aF} {loc : List (Option aV)} {stk : List aV} {ov : List aO} {pr : List Nat}
variable {l : Launch} {d pc kc ks : Nat} {Q : Option Value → jH → Prop}
theorem PT.st1 {i : Nat} {v : aV} {w : Value} (hp : PT TT g EI W bk0 h0 ev y vs bk al st h (env, fc, loc, stk, ov, pr)) (hv : vOK g vs bk v w) (hi : i < jmx y) : PT TT g EI W bk0 h0 ev y vs bk (jst1 al i w) st h (env, fc, aSt1 loc i v, stk, ov, pr) :=
  ⟨⟨hp.1.1, hp.1.2.1, hp.1.2.2.1, lo_st1 hp.1.2.2.2.1 hv (by rw [hp.2.2.1]; exact hi), hp.1.2.2.2.2⟩, hp.2.1, by rw [jst1_eq, List.length_set, jpre_len]; exact hp.2.2.1, hp.2.2.2⟩
theorem PT.st2 {i : Nat} {v : aV} {w : Value} (hp : PT TT g EI W bk0 h0 ev y vs bk al st h (env, fc, loc, stk, ov, pr)) (hv : vOK g vs bk v w) (hi : i < jmx y) : PT TT g EI W bk0 h0 ev y vs bk (jst2 al i w) st h (env, fc, aSt2 loc i v, stk, ov, pr) :=
  ⟨⟨hp.1.1, hp.1.2.1, hp.1.2.2.1, lo_st2 hp.1.2.2.2.1 hv (by rw [hp.2.2.1]; exact hi), hp.1.2.2.2.2⟩, hp.2.1, by rw [jst2_eq, List.length_set, List.length_set, jpre_len]; exact hp.2.2.1, hp.2.2.2⟩
theorem st_istore_n {k4 : Fin 4} {v : aV} (hd : decode (jbC y) pc = .ok (.istore_n k4, 1)) (hv : Nat.beq v.1 0 = true) (hi : (k4 : Nat) < jmx y) (hp : PT TT g EI W bk0 h0 ev y vs bk al st h (env, fc, loc, v :: stk, ov, pr)) (k : Go TT g EI W bk0 h0 ev y l d Q (pc + 1) (env, fc, aSt1 loc k4 v, stk, ov, pr) kc ks) : J l g y d pc al st h kc ks Q := by
  obtain ⟨w, s1, rfl, q1, hp1⟩ := hp.pop
  obtain ⟨x, rfl, hx⟩ := q1.int hv
  exact j_istore_n hd hi (k _ _ _ _ _ (hp1.st1 q1 hi))
theorem st_istore {i : Nat} {v : aV} (hd : decode (jbC y) pc = .ok (.istore i, 2)) (hv : Nat.beq v.1 0 = true) (hi : i < jmx y) (hp : PT TT g EI W bk0 h0 ev y vs bk al st h (env, fc, loc, v :: stk, ov, pr)) (k : Go TT g EI W bk0 h0 ev y l d Q (pc + 2) (env, fc, aSt1 loc i v, stk, ov, pr) kc ks) : J l g y d pc al st h kc ks Q := by
  obtain ⟨w, s1, rfl, q1, hp1⟩ := hp.pop
  obtain ⟨x, rfl, hx⟩ := q1.int hv
  exact j_istore hd hi (k _ _ _ _ _ (hp1.st1 q1 hi))
theorem st_astore_n {k4 : Fin 4} {v : aV} (hd : decode (jbC y) pc = .ok (.astore_n k4, 1)) (hv : Nat.ble 2 v.1 = true) (hi : (k4 : Nat) < jmx y) (hp : PT TT g EI W bk0 h0 ev y vs bk al st h (env, fc, loc, v :: stk, ov, pr)) (k : Go TT g EI W bk0 h0 ev y l d Q (pc + 1) (env, fc, aSt1 loc k4 v, stk, ov, pr) kc ks) : J l g y d pc al st h kc ks Q := by
  obtain ⟨w, s1, rfl, q1, hp1⟩ := hp.pop
  rcases q1.ge2 hv with rfl | ⟨a, rfl⟩
  · exact j_astore_nN hd hi (k _ _ _ _ _ (hp1.st1 q1 hi))
  · exact j_astore_n hd hi (k _ _ _ _ _ (hp1.st1 q1 hi))
theorem st_astore {i : Nat} {v : aV} (hd : decode (jbC y) pc = .ok (.astore i, 2)) (hv : Nat.ble 2 v.1 = true) (hi : i < jmx y) (hp : PT TT g EI W bk0 h0 ev y vs bk al st h (env, fc, loc, v :: stk, ov, pr)) (k : Go TT g EI W bk0 h0 ev y l d Q (pc + 2) (env, fc, aSt1 loc i v, stk, ov, pr) kc ks) : J l g y d pc al st h kc ks Q := by
  obtain ⟨w, s1, rfl, q1, hp1⟩ := hp.pop
  rcases q1.ge2 hv with rfl | ⟨a, rfl⟩
  · exact j_astoreN hd hi (k _ _ _ _ _ (hp1.st1 q1 hi))
  · exact j_astore hd hi (k _ _ _ _ _ (hp1.st1 q1 hi))
theorem st_lstore_n {k4 : Fin 4} {v : aV} (hd : decode (jbC y) pc = .ok (.lstore_n k4, 1)) (hv : Nat.beq v.1 1 = true) (hi : (k4 : Nat) + 1 < jmx y) (hp : PT TT g EI W bk0 h0 ev y vs bk al st h (env, fc, loc, v :: stk, ov, pr)) (k : Go TT g EI W bk0 h0 ev y l d Q (pc + 1) (env, fc, aSt2 loc k4 v, stk, ov, pr) kc ks) : J l g y d pc al st h kc ks Q := by
  obtain ⟨w, s1, rfl, q1, hp1⟩ := hp.pop
  obtain ⟨x, rfl, hx⟩ := q1.long hv
  exact j_lstore_n hd hi (k _ _ _ _ _ (hp1.st2 q1 (by omega)))
theorem st_lstore {i : Nat} {v : aV} (hd : decode (jbC y) pc = .ok (.lstore i, 2)) (hv : Nat.beq v.1 1 = true) (hi : i + 1 < jmx y) (hp : PT TT g EI W bk0 h0 ev y vs bk al st h (env, fc, loc, v :: stk, ov, pr)) (k : Go TT g EI W bk0 h0 ev y l d Q (pc + 2) (env, fc, aSt2 loc i v, stk, ov, pr) kc ks) : J l g y d pc al st h kc ks Q := by
  obtain ⟨w, s1, rfl, q1, hp1⟩ := hp.pop
  obtain ⟨x, rfl, hx⟩ := q1.long hv
  exact j_lstore hd hi (k _ _ _ _ _ (hp1.st2 q1 (by omega)))
/-- a new id that stands nowhere yet -/
theorem PT.fresh {e : aE} {z : Int} (hp : PT TT g EI W bk0 h0 ev y vs bk al st h (env, fc, loc, stk, ov, pr)) (he : eVal vs e z) : PT TT g EI W bk0 h0 ev y (vs ++ [z]) bk al st h (env ++ [e], fc, loc, stk, ov, pr) ∧ (vs ++ [z])[env.length]? = some z := by
  obtain ⟨⟨a1, a2, a3, a4, a5, a6, a7⟩, hh, hl, hq⟩ := hp
  exact ⟨⟨⟨a1.push he.1, a2.push a1.1 (fun F q => fev_app (he.2.1 F q)) he.2.2.app, a3.app, a4.app, a5.app, a6.app, a7⟩, hh, hl, fun i z q => getE_app (hq i z q)⟩, by rw [a1.1]; simp⟩
theorem st_iinc {i : Nat} {n : Int} {v : aV} {e : aE} (hd : decode (jbC y) pc = .ok (.iinc i n, 3)) (hi : i < jmx y) (hn1 : -32768 ≤ n) (hn2 : n ≤ 32767) (hl : loc[i]? = some (some v)) (hv : Nat.beq v.1 0 = true) (he : ∀ x : Int32, vs[v.2.1]? = some x.toInt → eVal vs e (x + Int32.ofInt n).toInt) (hp : PT TT g EI W bk0 h0 ev y vs bk al st h (env, fc, loc, stk, ov, pr)) (k : Go TT g EI W bk0 h0 ev y l d Q (pc + 3) (env ++ [e], fc, aSt1 loc i (0, env.length, 0), stk, ov, pr) kc ks) : J l g y d pc al st h kc ks Q := by
  obtain ⟨w, h1, h2⟩ := hp.getL hl
  obtain ⟨x, rfl, hx⟩ := h2.int hv
  obtain ⟨hp2, hz⟩ := hp.fresh (he x hx)
  exact j_iinc hd hi h1 (k _ _ _ _ _ (hp2.st1 (v := (0, env.length, 0)) (w := .int (x + Int32.ofInt n)) ⟨_, rfl, hz⟩ hi))
theorem iinc_v {i : Nat} {n : Int} {a : Int × Int} (h : envOK vs env fc) (hn1 : -32768 ≤ n) (hn2 : n ≤ 32767) (he : aiv env fc i = some a) (h1 : (-2147483648 : Int) ≤ a.1 + n) (h2 : a.2 + n ≤ (2147483647 : Int)) : ∀ x : Int32, vs[i]? = some x.toInt → eVal vs (eNew (a.1 + n) (a.2 + n) (some (fadd 1 (lin env i) (fcon n)))) (x + Int32.ofInt n).toInt := by
  intro x hx
  have b := aiv_ok h.1 h.2.1 h.2.2 he hx
  have hn : (Int32.ofInt n).toInt = n := i32_ofInt (by omega) (by omega)
  rw [i32_add (by rw [hn]; omega) (by rw [hn]; omega), hn]
  exact eVal.fm (by omega) (by omega) (fadd1 (lin_ok h.2.1 hx))
theorem j_icmp {c : ClassFile.Cond} {a b : Int32} {off : Int} {tgt : Nat} (hd : decode (jbC y) pc = .ok (.if_icmp c off, 3)) (ht : (pc : Int) + off = (tgt : Int)) (kt : cHolds c (a.toInt - b.toInt) → J l g y d tgt al st h kc ks Q) (kf : ¬ cHolds c (a.toInt - b.toInt) → J l g y d (pc + 3) al st h kc ks Q) : J l g y d pc al (.int b :: .int a :: st) h kc ks Q := by
  cases c with
  | eq => exact j_icmp_eq hd ht (fun q => kt (by rw [q]; show _ = _; omega)) (fun q => kf (fun z => q (Int32.toInt_inj.mp (by have : _ - _ = _ := z; omega))))
  | ne => exact j_icmp_ne hd ht (fun q => kt (fun z => q (Int32.toInt_inj.mp (by omega)))) (fun q => kf (fun z => q (fun e => z (by rw [e]; omega))))
  | lt => exact j_icmp_lt hd ht (fun q => kt (by have := Int32.lt_iff_toInt_lt.mp q; show _ < _; omega)) (fun q => kf (fun z => q (Int32.lt_iff_toInt_lt.mpr (by have : _ < _ := z; omega))))
  | ge => exact j_icmp_ge hd ht (fun q => kt (by have := Int32.le_iff_toInt_le.mp q; show _ ≤ _; omega)) (fun q => kf (fun z => q (Int32.le_iff_toInt_le.mpr (by have : _ ≤ _ := z; omega))))
  | gt => exact j_icmp_gt hd ht (fun q => kt (by have := Int32.lt_iff_toInt_lt.mp q; show _ < _; omega)) (fun q => kf (fun z => q (Int32.lt_iff_toInt_lt.mpr (by have : _ < _ := z; omega))))
  | le => exact j_icmp_le hd ht (fun q => kt (by have := Int32.le_iff_toInt_le.mp q; show _ ≤ _; omega)) (fun q => kf (fun z => q (Int32.le_iff_toInt_le.mpr (by have : _ ≤ _ := z; omega))))
theorem i32z : (0 : Int32).toInt = 0 := rfl
theorem j_ifc {c : ClassFile.Cond} {a : Int32} {off : Int} {tgt : Nat} (hd : decode (jbC y) pc = .ok (.ifCond c off, 3)) (ht : (pc : Int) + off = (tgt : Int)) (kt : cHolds c a.toInt → J l g y d tgt al st h kc ks Q) (kf : ¬ cHolds c a.toInt → J l g y d (pc + 3) al st h kc ks Q) : J l g y d pc al (.int a :: st) h kc ks Q := by
  cases c with
  | eq => exact j_if_eq hd ht (fun q => kt (by rw [q]; rfl)) (fun q => kf (fun z => q (Int32.toInt_inj.mp z)))
  | ne => exact j_if_ne hd ht (fun q => kt (fun z => q (Int32.toInt_inj.mp z))) (fun q => kf (fun z => q (fun e => z (by rw [e]; rfl))))
  | lt => exact j_if_lt hd ht (fun q => kt (by have := Int32.lt_iff_toInt_lt.mp q; rw [i32z] at this; exact this)) (fun q => kf (fun z => q (Int32.lt_iff_toInt_lt.mpr (by rw [i32z]; exact z))))
  | ge => exact j_if_ge hd ht (fun q => kt (by have := Int32.le_iff_toInt_le.mp q; rw [i32z] at this; exact this)) (fun q => kf (fun z => q (Int32.le_iff_toInt_le.mpr (by rw [i32z]; exact z))))
  | gt => exact j_if_gt hd ht (fun q => kt (by have := Int32.lt_iff_toInt_lt.mp q; rw [i32z] at this; exact this)) (fun q => kf (fun z => q (Int32.lt_iff_toInt_lt.mpr (by rw [i32z]; exact z))))
  | le => exact j_if_le hd ht (fun q => kt (by have := Int32.le_iff_toInt_le.mp q; rw [i32z] at this; exact this)) (fun q => kf (fun z => q (Int32.le_iff_toInt_le.mpr (by rw [i32z]; exact z))))
/-- all of these ways go on -/
def GoA (TT : List (List aCT)) (g : jG) (EI : aB → jH → Prop) (W : List aR) (bk0 : aB) (h0 : jH) (ev : List Int) (y : Nat) (l : Launch) (d : Nat) (Q : Option Value → jH → Prop) (L : List (Nat × aS × Nat × Nat)) : Prop := ∀ r ∈ L, Go TT g EI W bk0 h0 ev y l d Q r.1 r.2.1 r.2.2.1 r.2.2.2
theorem tgtN_ok {off : Int} (h : 0 ≤ (pc : Int) + off) : (pc : Int) + off = (tgtN pc off : Int) := by unfold tgtN; omega
theorem st_icmp {c : ClassFile.Cond} {off : Int} {v w : aV} (hd : decode (jbC y) pc = .ok (.if_icmp c off, 3)) (ht : 0 ≤ (pc : Int) + off) (hv : Nat.beq v.1 0 = true) (hw : Nat.beq w.1 0 = true) (hp : PT TT g EI W bk0 h0 ev y vs bk al st h (env, fc, loc, v :: w :: stk, ov, pr))
    (k : GoA TT g EI W bk0 h0 ev y l d Q (aBr (cAsm env fc c (fadd (-1) (lin env w.2.1) (lin env v.2.1))) (tgtN pc off) loc stk ov pr kc ks ++ aBr (cAsm env fc (cNeg c) (fadd (-1) (lin env w.2.1) (lin env v.2.1))) (pc + 3) loc stk ov pr kc ks)) : J l g y d pc al st h kc ks Q := by
  obtain ⟨w1, s1, rfl, q1, hp1⟩ := hp.pop
  obtain ⟨w2, s2, rfl, q2, hp2⟩ := hp1.pop
  obtain ⟨b, rfl, hb⟩ := q1.int hv
  obtain ⟨a, rfl, ha⟩ := q2.int hw
  have hF : fev vs (fadd (-1) (lin env w.2.1) (lin env v.2.1)) = some (a.toInt - b.toInt) := by rw [fadd_ok (lin_ok hp2.ee.2.1 ha) (lin_ok hp2.ee.2.1 hb)]; congr 1; omega
  refine j_icmp hd (tgtN_ok ht) (fun q => ?_) (fun q => ?_)
  · obtain ⟨r, g1, g2⟩ := cAsm_ok hp2.ee hF q
    exact k (tgtN pc off, (r.1, r.2, loc, stk, ov, pr), kc, ks) (List.mem_append_left _ (by rw [g1]; exact List.mem_cons_self)) _ _ _ _ _ (hp2.setE g2)
  · obtain ⟨r, g1, g2⟩ := cAsm_ok hp2.ee hF (cNeg_ok q)
    exact k (pc + 3, (r.1, r.2, loc, stk, ov, pr), kc, ks) (List.mem_append_right _ (by rw [g1]; exact List.mem_cons_self)) _ _ _ _ _ (hp2.setE g2)
theorem st_ifc {c : ClassFile.Cond} {off : Int} {v : aV} (hd : decode (jbC y) pc = .ok (.ifCond c off, 3)) (ht : 0 ≤ (pc : Int) + off) (hv : Nat.beq v.1 0 = true) (hp : PT TT g EI W bk0 h0 ev y vs bk al st h (env, fc, loc, v :: stk, ov, pr))
    (k : GoA TT g EI W bk0 h0 ev y l d Q (aBr (tAsm env fc c v.2.1) (tgtN pc off) loc stk ov pr kc ks ++ aBr (tAsm env fc (cNeg c) v.2.1) (pc + 3) loc stk ov pr kc ks)) : J l g y d pc al st h kc ks Q := by
  obtain ⟨w1, s1, rfl, q1, hp1⟩ := hp.pop
  obtain ⟨a, rfl, ha⟩ := q1.int hv
  refine j_ifc hd (tgtN_ok ht) (fun q => ?_) (fun q => ?_)
  · obtain ⟨r, g1, g2⟩ := tAsm_ok hp1.ee ha q
    exact k (tgtN pc off, (r.1, r.2, loc, stk, ov, pr), kc, ks) (List.mem_append_left _ (by rw [g1]; exact List.mem_cons_self)) _ _ _ _ _ (hp1.setE g2)
  · obtain ⟨r, g1, g2⟩ := tAsm_ok hp1.ee ha (cNeg_ok q)
    exact k (pc + 3, (r.1, r.2, loc, stk, ov, pr), kc, ks) (List.mem_append_right _ (by rw [g1]; exact List.mem_cons_self)) _ _ _ _ _ (hp1.setE g2)
end ST2
end
section
/-! reading and writing places -/
theorem ovFind_mem {B o i : Nat} {F : aF} : ∀ {ov : List aO}, ovFind B o F ov = some i → (B, o, F, i) ∈ ov := by
  intro ov
  induction ov with
  | nil => intro hh; cases hh
  | cons q t ih =>
    intro hh
    rw [ovFind] at hh
    cases hc : (Nat.beq q.1 B && Nat.beq q.2.1 o && fEq q.2.2.1 F) with
    | true =>
      rw [hc] at hh
      simp only [Bool.and_eq_true] at hc
      obtain ⟨⟨c1, c2⟩, c3⟩ := hc
      have e1 := Nat.eq_of_beq_eq_true c1
      have e2 := Nat.eq_of_beq_eq_true c2
      have e3 : q.2.2.1 = F := by simpa [fEq] using c3
      have e4 : q.2.2.2 = i := Option.some.inj hh
      have e5 : q = (B, o, F, i) := by rw [← e1, ← e2, ← e3, ← e4]
      rw [e5]
      exact List.mem_cons_self
    | false =>
      rw [hc] at hh
      exact List.mem_cons_of_mem _ (ih hh)
section HP
variable {TT : List (List aCT)} {g : jG} {EI : aB → jH → Prop} {W : List aR} {bk0 : aB} {h0 : jH} {ev : List Int} {y : Nat} {vs : List Int} {bk : aB} {al : List (Option Value)} {st : List Value} {h : jH} {env : List aE} {fc : List aF} {loc : List (Option aV)} {stk : List aV} {ov : List aO} {pr : List Nat}
/-- an int is read at a place: what is known of it, or a new id -/
theorem PT.read {B o b : Nat} {F : aF} {lo hi z : Int} {c : jC} {x : Int32} (hp : PT TT g EI W bk0 h0 ev y vs bk al st h (env, fc, loc, stk, ov, pr)) (hb : bk B = some b) (hc : h[b + o]? = some c) (hF : fev vs F = some z) (hx : plAt c z x.toInt) (hlo : lo ≤ x.toInt) (hhi : x.toInt ≤ hi) : ∃ vs', PT TT g EI W bk0 h0 ev y vs' bk al (.int x :: st) h (aRead env fc loc stk ov pr B o F lo hi) := by
  rw [aRead]
  cases hf : ovFind B o F ov with
  | some i =>
    obtain ⟨z2, b2, c2, x2, g1, g2, g3, g4, g5⟩ := hp.1.2.2.2.2.2.1 _ (ovFind_mem hf)
    cases hF.symm.trans g1
    cases hb.symm.trans g2
    cases hc.symm.trans g3
    have hxx : x.toInt = x2 := by
      cases c with
      | inl a => exact hx.2.symm.trans g4.2
      | inr a =>
        obtain ⟨-, w1, k1, k2⟩ := hx
        obtain ⟨-, w2, k3, k4⟩ := g4
        cases k1.symm.trans k3
        omega
    refine ⟨vs, hp.put (v := (0, i, 0)) ⟨x, rfl, ?_⟩⟩
    show vs[i]? = some x.toInt
    rw [hxx]
    exact g5
  | none =>
    have hP := hp.push32 (e := eNew lo hi none) (x := x) (eVal.bd hlo hhi)
    refine ⟨vs ++ [x.toInt], ⟨hP.1.1, hP.1.2.1, hP.1.2.2.1, hP.1.2.2.2.1, hP.1.2.2.2.2.1, fun q hq => ?_, hP.1.2.2.2.2.2.2⟩, hP.2⟩
    rcases List.mem_cons.mp hq with rfl | hq
    · exact ⟨z, b, c, x.toInt, fev_app hF, hb, hc, hx, by show (vs ++ [x.toInt])[env.length]? = _; rw [hp.1.1.1]; simp⟩
    · exact hP.1.2.2.2.2.2.1 q hq
variable {l : Launch} {d pc kc ks : Nat} {Q : Option Value → jH → Prop}
theorem jfind_mem {L : List (Nat × Nat × Nat × Nat)} {own i : Nat} {q : Nat × Nat} (hf : jfind L own i = some q) : (own, i, q.1, q.2) ∈ L := by
  rw [jfind] at hf
  cases hc : L.find? (fun q => Nat.beq q.2.1 i && Nat.beq q.1 own) with
  | none => rw [hc] at hf; cases hf
  | some r =>
    rw [hc] at hf
    have hr := List.find?_some hc
    have hm := List.mem_of_find?_eq_some hc
    simp only [Bool.and_eq_true] at hr
    have e1 := Nat.eq_of_beq_eq_true hr.1
    have e2 := Nat.eq_of_beq_eq_true hr.2
    have e3 : r.2.2 = q := Option.some.inj hf
    have e4 : r = (own, i, q.1, q.2) := by rw [← e1, ← e2, ← e3]
    rw [← e4]
    exact hm
theorem jfind3_mem {L : List (Nat × Nat × Nat)} {own i y2 : Nat} (hf : jfind3 L own i = some y2) : (own, i, y2) ∈ L := by
  rw [jfind3] at hf
  cases hc : L.find? (fun q => Nat.beq q.2.1 i && Nat.beq q.1 own) with
  | none => rw [hc] at hf; cases hf
  | some r =>
    rw [hc] at hf
    have hr := List.find?_some hc
    have hm := List.mem_of_find?_eq_some hc
    simp only [Bool.and_eq_true] at hr
    have e1 := Nat.eq_of_beq_eq_true hr.1
    have e2 := Nat.eq_of_beq_eq_true hr.2
    have e3 : r.2.2 = y2 := Option.some.inj hf
    have e4 : r = (own, i, y2) := by rw [← e1, ← e2, ← e3]
    rw [← e4]
    exact hm
/-- the objects' types have as many fields as their classes -/
def tyCl (TT : List (List aCT)) : Bool := TT.all (fun l => l.all (fun t => match t with
  | .inl _ => true
  | .inr q => (match jcl[q.1]? with | some r => Nat.beq q.2.length r.2.2 | none => false)))
theorem tyCl_ok (hT : tyCl TT = true) {B o : Nat} {q : Nat × List aT} (ht : tyAt TT B o = some (.inr q)) : ∀ r, jcl[q.1]? = some r → q.2.length = r.2.2 := by
  intro r hr
  rw [tyAt] at ht
  cases hB : TT[B]? with
  | none => rw [hB] at ht; cases ht
  | some L =>
    rw [hB] at ht
    have h1 := List.all_eq_true.mp hT L (List.mem_of_getElem? hB)
    have h2 := List.all_eq_true.mp h1 _ (List.mem_of_getElem? ht)
    simp only [hr] at h2
    exact Nat.eq_of_beq_eq_true h2
theorem st_get {own j : Nat} {v : aV} {q : Nat × Nat} {S : aS} (hT : tyCl TT = true) (ho : jcN own = (jyN y).cls) (hd : decode (jbC y) pc = .ok (.getfield j, 3)) (hv : Nat.beq v.1 2 = true) (hf : jfind jeF own j = some q) (hS : aGet TT env fc loc stk ov pr v.2.1 v.2.2 q.1 q.2 = some S) (hp : PT TT g EI W bk0 h0 ev y vs bk al st h (env, fc, loc, v :: stk, ov, pr)) (k : Go TT g EI W bk0 h0 ev y l d Q (pc + 3) S kc ks) : J l g y d pc al st h kc ks Q := by
  obtain ⟨w1, s1, rfl, q1, hp1⟩ := hp.pop
  obtain ⟨b, hb, rfl⟩ := q1.rf hv
  rw [aGet] at hS
  cases ht : tyAt TT v.2.1 v.2.2 with
  | none => rw [ht] at hS; cases hS
  | some ct =>
    rw [ht] at hS
    cases ct with
    | inl a => cases hS
    | inr r =>
      dsimp only at hS
      obtain ⟨c, hc, fs, rfl, hlen, hfs⟩ := hp1.2.1.1 _ b v.2.2 _ hb ht
      cases hci : Nat.beq r.1 q.1 with
      | false => rw [hci] at hS; cases hS
      | true =>
        rw [hci] at hS
        simp only [cond_true] at hS
        have hci : r.1 = q.1 := Nat.eq_of_beq_eq_true hci
        cases hq : r.2[q.2]? with
        | none => rw [hq] at hS; cases hS
        | some t =>
          rw [hq] at hS
          dsimp only at hS
          obtain ⟨w, hw, hft⟩ := hfs q.2 t hq
          have hn : ∀ z, jcl[r.1]? = some z → q.2 < z.2.2 := fun z hz => by
            rw [← tyCl_ok hT ht z hz]
            exact (List.getElem?_eq_some_iff.mp hq).1
          have hm : (own, j, r.1, q.2) ∈ jeF := by rw [hci]; exact jfind_mem hf
          refine j_get hd ho hm hc hn hw ?_
          obtain ⟨tk, tlo, thi, tB, to⟩ := t
          match tk, hft, hS with
          | 0, ⟨x, hx, x1, x2⟩, hS =>
            subst hx
            have hS := Option.some.inj hS
            subst hS
            obtain ⟨vs', hP⟩ := hp1.read (F := fcon q.2) (z := (q.2 : Nat)) (lo := tlo) (hi := thi) hb hc fcon_ok ⟨by omega, x, by simpa using hw, rfl⟩ x1 x2
            exact k _ _ _ _ _ hP
          | 1, ⟨x, hx, x1, x2⟩, hS =>
            subst hx
            have hS := Option.some.inj hS
            subst hS
            exact k _ _ _ _ _ (hp1.push64 (eVal.bd x1 x2))
          | 2, ⟨b2, hb2, hx⟩, hS =>
            subst hx
            have hS := Option.some.inj hS
            subst hS
            exact k _ _ _ _ _ (hp1.put (v := (2, tB, to)) ⟨b2, hb2, rfl⟩)
          | 3, hx, hS =>
            have hS := Option.some.inj hS
            subst hS
            dsimp only at k
            cases hpr : pr.contains tB with
            | true =>
              rw [hpr] at k
              obtain ⟨b2, hb2⟩ := hp1.1.2.2.2.2.2.2 tB (by simpa using hpr)
              rcases hx with ⟨b3, hb3, hx⟩ | ⟨hx, -⟩
              · subst hx
                exact k _ _ _ _ _ (hp1.put (v := (2, tB, to)) ⟨b3, hb3, rfl⟩)
              · exact absurd (hx.symm.trans hb2) (by simp)
            | false =>
              rw [hpr] at k
              exact k _ _ _ _ _ (hp1.put (v := (4, tB, to)) hx)
          | n + 4, hx, hS => cases hS

theorem ovKill_mem {Wk : List aR} {q : aO} (hq : q ∈ ovKill TT env Wk ov) : q ∈ ov ∧ q.2.1 < tyLen TT q.1 ∧ ∀ w ∈ Wk, q.1 = w.1 → q.2.1 = w.2.1 → ∃ a b, flb env q.2.2.1 = some a ∧ flb env (fmul (-1) q.2.2.1) = some b ∧ (-b < w.2.2.1 ∨ w.2.2.2 < a) := by
  obtain ⟨h1, h2⟩ := List.mem_filter.mp hq
  simp only [Bool.and_eq_true] at h2
  refine ⟨h1, by have h9 := h2.1; simp [Nat.blt] at h9; omega, fun w hw e1 e2 => ?_⟩
  have h3 := List.all_eq_true.mp h2.2 w hw
  simp only [Bool.or_eq_true] at h3
  rcases h3 with h3 | h3
  · rw [e1, e2] at h3
    simp at h3
  · cases c1 : flb env q.2.2.1 with
    | none => rw [c1] at h3; simp at h3
    | some a =>
      cases c2 : flb env (fmul (-1) q.2.2.1) with
      | none => rw [c1, c2] at h3; simp at h3
      | some b =>
        rw [c1, c2] at h3
        simp only [Bool.or_eq_true, decide_eq_true_eq] at h3
        exact ⟨a, b, rfl, rfl, h3⟩
/-- a place that isn't written keeps what it holds -/
theorem plAt_off {Wk : List aR} {B o : Nat} {c c' : jC} {z x : Int} (hoff : offW Wk B o c c') (hn : ¬ inW Wk B o z.toNat) (hx : plAt c z x) : plAt c' z x := by
  cases c with
  | inl a => cases c' with
    | inl a' => exact ⟨hx.1, by rw [hoff.2.2 _ hn]; exact hx.2⟩
    | inr a' => exact absurd hoff id
  | inr a => cases c' with
    | inl a' => exact absurd hoff id
    | inr a' =>
      obtain ⟨h1, w, h2, h3⟩ := hx
      exact ⟨h1, w, by rw [hoff.2.2 _ hn]; exact h2, h3⟩
theorem ov_un {Wk : List aR} {bk' : aB} {h' : jH} (hE : eIv vs env) (hu : UN TT Wk bk h h') (hb : ∀ B b, bk B = some b → bk' B = some b) (ho : ovOK vs bk h ov) : ovOK vs bk' h' (ovKill TT env Wk ov) := by
  intro q hq
  obtain ⟨h1, h2, h3⟩ := ovKill_mem hq
  obtain ⟨z, b, c, x, g1, g2, g3, g4, g5⟩ := ho q h1
  obtain ⟨c', k1, k2⟩ := hu.2 q.1 b q.2.1 c g2 h2 g3
  refine ⟨z, b, c', x, g1, hb _ _ g2, k1, plAt_off k2 (fun hi => ?_) g4, g5⟩
  obtain ⟨w, hw, e1, e2, e3, e4⟩ := hi
  obtain ⟨a, b2, f1, f2, f3⟩ := h3 w hw e1.symm e2.symm
  obtain ⟨z1, y1, y2⟩ := flb_ok hE f1
  obtain ⟨z2, y3, y4⟩ := flb_ok hE f2
  rw [g1] at y1
  cases y1
  rw [fneg1 g1] at y3
  cases y3
  have hz0 : 0 ≤ z := by
    cases c with
    | inl a => exact g4.1
    | inr a => exact g4.1
  have hz : ((z.toNat : Nat) : Int) = z := by omega
  rw [hz] at e3 e4
  omega
/-- what the walk leans on: the extra word EI holds wherever P's places are as they were -/
def eiOK (TT : List (List aCT)) (g : jG) (EI : aB → jH → Prop) (P : List aR) : Prop := ∀ (bk : aB) (h h' : jH) (Wk : List aR), apW Wk P = true → UN TT Wk bk h h' → h'.length = h.length → HT TT g bk h → HT TT g bk h' → EI bk h → EI bk h'
theorem PT.write {P : List aR} {B o b : Nat} {lo hi : Int} {t : aCT} {c c' : jC} (hE : eiOK TT g EI P) (hp : PT TT g EI W bk0 h0 ev y vs bk al st h (env, fc, loc, stk, ov, pr)) (hb : bk B = some b) (ht : tyAt TT B o = some t) (hc : h[b + o]? = some c) (hc' : ctOK g bk t c') (hoff : offW [(B, o, lo, hi)] B o c c') (hW : subW [(B, o, lo, hi)] W = true) (hP : apW [(B, o, lo, hi)] P = true) : PT TT g EI W bk0 h0 ev y vs bk al st (h.set (b + o) c') (env, fc, loc, stk, ovKill TT env [(B, o, lo, hi)] ov, pr) := by
  obtain ⟨⟨a1, a2, a3, a4, a5, a6, a7⟩, ⟨b1, b2, b3, b4, b5, b6⟩, hl, hq⟩ := hp
  have hu : UN TT [(B, o, lo, hi)] bk h (h.set (b + o) c') := UN.set b2 hb (tyAt_lt ht) hc hoff
  have hT := b1.set b2 hb ht hc'
  exact ⟨⟨a1, a2, a3, a4, a5, ov_un a1 hu (fun _ _ q => q) a6, a7⟩, ⟨hT, b2, hE bk h _ _ hP hu (by rw [List.length_set]) b1 hT b3, b4.tr b5 (hu.mono hW), b5, b6⟩, hl, hq⟩
theorem aWithin_ok {x : Nat} {lo hi z : Int} (he : envOK vs env fc) (hw : aWithin env fc x lo hi = true) (hx : vs[x]? = some z) : lo ≤ z ∧ z ≤ hi := by
  rw [aWithin] at hw
  cases ha : aiv env fc x with
  | none => rw [ha] at hw; cases hw
  | some a =>
    rw [ha] at hw
    simp only [Bool.and_eq_true, Bool.or_eq_true, decide_eq_true_eq] at hw
    have b := aiv_ok he.1 he.2.1 he.2.2 ha hx
    refine ⟨?_, ?_⟩
    · rcases hw.1 with q | q
      · omega
      · obtain ⟨w, w1, w2⟩ := ent_ok he.1 he.2.2 q
        rw [fadd1 (lin_ok he.2.1 hx)] at w1
        cases w1
        omega
    · rcases hw.2 with q | q
      · omega
      · obtain ⟨w, w1, w2⟩ := ent_ok he.1 he.2.2 q
        rw [fadd_ok fcon_ok (lin_ok he.2.1 hx)] at w1
        cases w1
        omega
theorem offW_fs {B o f ci : Nat} {fs : List Value} {v : Value} : offW [(B, o, (f : Int), (f : Int))] B o (.inr (ci, fs)) (.inr (ci, fs.set f v)) := by
  refine ⟨rfl, List.length_set .., fun i hi => ?_⟩
  show (fs.set f v)[i]? = fs[i]?
  by_cases e : f = i
  · subst e
    exact absurd ⟨_, List.mem_cons_self, rfl, rfl, Int.le_refl _, Int.le_refl _⟩ hi
  · exact List.getElem?_set_ne e
theorem offW_arr {B o n ty : Nat} {lo hi : Int} {f : Nat → Int32} {i : Nat} {v : Int32} (h1 : lo ≤ i) (h2 : (i : Int) ≤ hi) : offW [(B, o, lo, hi)] B o (.inl (ty, n, f)) (.inl (ty, n, upd f i v)) := by
  refine ⟨rfl, rfl, fun j hj => ?_⟩
  show upd f i v j = f j
  by_cases e : j = i
  · subst e
    exact absurd ⟨_, List.mem_cons_self, rfl, rfl, h1, h2⟩ hj
  · simp [upd, e]
end HP
end
section
section HQ
variable {TT : List (List aCT)} {g : jG} {EI : aB → jH → Prop} {W P : List aR} {bk0 : aB} {h0 : jH} {ev : List Int} {y : Nat} {vs : List Int} {bk : aB} {al : List (Option Value)} {st : List Value} {h : jH} {env : List aE} {fc : List aF} {loc : List (Option aV)} {stk : List aV} {ov : List aO} {pr : List Nat}
variable {l : Launch} {d pc kc ks : Nat} {Q : Option Value → jH → Prop}
theorem PT.know {B o b : Nat} {F : aF} {i : Nat} {z x : Int} {c : jC} (hp : PT TT g EI W bk0 h0 ev y vs bk al st h (env, fc, loc, stk, ov, pr)) (hb : bk B = some b) (hc : h[b + o]? = some c) (hF : fev vs F = some z) (hx : plAt c z x) (hi : vs[i]? = some x) : PT TT g EI W bk0 h0 ev y vs bk al st h (env, fc, loc, stk, (B, o, F, i) :: ov, pr) := by
  refine ⟨⟨hp.1.1, hp.1.2.1, hp.1.2.2.1, hp.1.2.2.2.1, hp.1.2.2.2.2.1, fun q hq => ?_, hp.1.2.2.2.2.2.2⟩, hp.2⟩
  rcases List.mem_cons.mp hq with rfl | hq
  · exact ⟨z, b, c, x, hF, hb, hc, hx, hi⟩
  · exact hp.1.2.2.2.2.2.1 q hq
theorem narz {x : Int32} (h1 : 0 ≤ x.toInt) (h2 : x.toInt ≤ 1) : narrow .boolean (.int x) = .int x ∧ fits .boolean (.int x) = true := by
  have : x.toInt = 0 ∨ x.toInt = 1 := by omega
  rcases this with e | e
  · have : x = 0 := Int32.toInt_inj.mp e
    subst this
    exact ⟨by decide, by decide⟩
  · have : x = 1 := Int32.toInt_inj.mp e
    subst this
    exact ⟨by decide, by decide⟩
theorem ct_fs {ci f : Nat} {ts : List aT} {fs : List Value} {t : aT} {v : Value} (hlen : fs.length = ts.length) (hfs : ∀ (k : Nat) (t : aT), ts[k]? = some t → ∃ v, fs[k]? = some v ∧ ftOK g bk t v) (ht : ts[f]? = some t) (hv : ftOK g bk t v) : ctOK g bk (.inr (ci, ts)) (.inr (ci, fs.set f v)) := by
  refine ⟨_, rfl, by rw [List.length_set]; exact hlen, fun k t2 hk => ?_⟩
  by_cases e : f = k
  · subst e
    cases ht.symm.trans hk
    exact ⟨v, List.getElem?_set_self (by rw [hlen]; exact (List.getElem?_eq_some_iff.mp ht).1), hv⟩
  · obtain ⟨v2, g1, g2⟩ := hfs k t2 hk
    exact ⟨v2, by rw [List.getElem?_set_ne e]; exact g1, g2⟩
theorem st_put {own j : Nat} {v w : aV} {q : Nat × Nat} {S : aS} (hE : eiOK TT g EI P) (ho : jcN own = (jyN y).cls) (hd : decode (jbC y) pc = .ok (.putfield j, 3)) (hw : Nat.beq w.1 2 = true) (hf : jfind jeF own j = some q) (hS : aPut TT W P env fc loc stk ov pr w.2.1 w.2.2 q.1 q.2 v = some S) (hp : PT TT g EI W bk0 h0 ev y vs bk al st h (env, fc, loc, v :: w :: stk, ov, pr)) (k : Go TT g EI W bk0 h0 ev y l d Q (pc + 3) S kc ks) : J l g y d pc al st h kc ks Q := by
  obtain ⟨w1, s1, rfl, q1, hp1⟩ := hp.pop
  obtain ⟨w2, s2, rfl, q2, hp2⟩ := hp1.pop
  obtain ⟨b, hb, rfl⟩ := q2.rf hw
  rw [aPut] at hS
  cases ht : tyAt TT w.2.1 w.2.2 with
  | none => rw [ht] at hS; cases hS
  | some ct =>
    rw [ht] at hS
    cases ct with
    | inl a => cases hS
    | inr r =>
      dsimp only at hS
      obtain ⟨c, hc, fs, rfl, hlen, hfs⟩ := hp2.2.1.1 _ b w.2.2 _ hb ht
      cases hcc : (Nat.beq r.1 q.1 && subW [(w.2.1, w.2.2, ((q.2 : Nat) : Int), ((q.2 : Nat) : Int))] W && apW [(w.2.1, w.2.2, ((q.2 : Nat) : Int), ((q.2 : Nat) : Int))] P) with
      | false => rw [hcc] at hS; cases hS
      | true =>
        rw [hcc] at hS
        simp only [Bool.and_eq_true] at hcc
        obtain ⟨⟨hci, hsub⟩, hap⟩ := hcc
        simp only [cond_true] at hS
        have hci : r.1 = q.1 := Nat.eq_of_beq_eq_true hci
        cases hq : r.2[q.2]? with
        | none => rw [hq] at hS; cases hS
        | some t =>
          rw [hq] at hS
          dsimp only at hS
          have hm : (own, j, r.1, q.2) ∈ jeF := by rw [hci]; exact jfind_mem hf
          have hfl : q.2 < fs.length := by rw [hlen]; exact (List.getElem?_eq_some_iff.mp hq).1
          obtain ⟨rr, hrr, -⟩ : ∃ rr : vw_C, jcl[r.1]? = some rr ∧ True := by
            cases hz : jcl[r.1]? with
            | some rr => exact ⟨rr, rfl, trivial⟩
            | none =>
              exfalso
              have h13 : 13 ≤ r.1 := by
                rcases Nat.lt_or_ge r.1 13 with hh | hh
                · rw [List.getElem?_eq_getElem (show r.1 < jcl.length from hh)] at hz
                  cases hz
                · exact hh
              have hk : jfkAt q.1 q.2 = none := by
                rw [jfkAt, List.getElem?_eq_none (show jfk.length ≤ q.1 by rw [← hci]; exact h13)]
              obtain ⟨tk, tlo, thi, tB, to⟩ := t
              obtain ⟨vk, va, vb⟩ := v
              simp only [hk, fkI, fkJ, fkR, Bool.and_false, cond_false] at hS
              split at hS <;> cases hS
          obtain ⟨tk, tlo, thi, tB, to⟩ := t
          obtain ⟨vk, va, vb⟩ := v
          match tk, vk, hS, q1 with
          | 0, 0, hS, q1 =>
            obtain ⟨x, rfl, hx⟩ := q1
            cases hcc2 : (aWithin env fc va tlo thi && fkI (jfkAt q.1 q.2) tlo thi) with
            | false => simp only [hcc2] at hS; cases hS
            | true =>
              simp only [hcc2, cond_true] at hS
              simp only [Bool.and_eq_true] at hcc2
              have hbd := aWithin_ok hp2.ee hcc2.1 hx
              have hS := Option.some.inj hS
              subst hS
              have hct : ctOK g bk (.inr (r.1, r.2)) (.inr (r.1, fs.set q.2 (.int x))) := ct_fs hlen hfs hq ⟨x, rfl, hbd.1, hbd.2⟩
              have hP2 := hp2.write hE hb ht hc hct offW_fs hsub hap
              have hlt : b + w.2.2 < h.length := (List.getElem?_eq_some_iff.mp hc).1
              have hP3 := hP2.know (F := fcon q.2) (i := va) (z := (q.2 : Nat)) (x := x.toInt) hb (List.getElem?_set_self hlt) fcon_ok ⟨by omega, x, by simpa using List.getElem?_set_self hfl, rfl⟩ hx
              cases hjk : jfkAt q.1 q.2 with
              | none => rw [hjk] at hcc2; exact absurd hcc2.2 (by simp [fkI, fkJ, fkR])
              | some kk =>
                obtain ⟨n1, n2, n3, n4, n5⟩ := jfk_at (by rw [← hci]; exact hrr) hjk
                match kk, hjk with
                | 0, hjk => exact j_put hd ho hm hc hrr n1 hfl (n2 rfl).1 (n2 rfl).2 rfl rfl (k _ _ _ _ _ hP3)
                | 1, hjk =>
                  rw [hjk] at hcc2
                  simp only [fkI, Bool.and_eq_true, decide_eq_true_eq] at hcc2
                  obtain ⟨z1, z2⟩ := narz (x := x) (by omega) (by omega)
                  exact j_put hd ho hm hc hrr n1 hfl (n3 rfl).1 (n3 rfl).2 z1 z2 (k _ _ _ _ _ hP3)
                | n + 2, hjk => rw [hjk] at hcc2; exact absurd hcc2.2 (by simp [fkI, fkJ, fkR])
          | 1, 1, hS, q1 =>
            obtain ⟨x, rfl, hx⟩ := q1
            cases hcc2 : (aWithin env fc va tlo thi && fkJ (jfkAt q.1 q.2)) with
            | false => simp only [hcc2] at hS; cases hS
            | true =>
              simp only [hcc2, cond_true] at hS
              simp only [Bool.and_eq_true] at hcc2
              have hbd := aWithin_ok hp2.ee hcc2.1 hx
              have hS := Option.some.inj hS
              subst hS
              have hct : ctOK g bk (.inr (r.1, r.2)) (.inr (r.1, fs.set q.2 (.long x))) := ct_fs hlen hfs hq ⟨x, rfl, hbd.1, hbd.2⟩
              have hP2 := hp2.write hE hb ht hc hct offW_fs hsub hap
              cases hjk : jfkAt q.1 q.2 with
              | none => rw [hjk] at hcc2; exact absurd hcc2.2 (by simp [fkI, fkJ, fkR])
              | some kk =>
                obtain ⟨n1, n2, n3, n4, n5⟩ := jfk_at (by rw [← hci]; exact hrr) hjk
                match kk, hjk with
                | 2, hjk => exact j_put hd ho hm hc hrr n1 hfl (n4 rfl).1 (n4 rfl).2 rfl rfl (k _ _ _ _ _ hP2)
                | 0, hjk => rw [hjk] at hcc2; exact absurd hcc2.2 (by simp [fkI, fkJ, fkR])
                | 1, hjk => rw [hjk] at hcc2; exact absurd hcc2.2 (by simp [fkI, fkJ, fkR])
                | n + 3, hjk => rw [hjk] at hcc2; exact absurd hcc2.2 (by simp [fkI, fkJ, fkR])
          | 2, 2, hS, q1 =>
            obtain ⟨b2, hb2, rfl⟩ := q1
            cases hcc2 : (Nat.beq va tB && Nat.beq vb to && fkR (jfkAt q.1 q.2)) with
            | false => simp only [hcc2] at hS; cases hS
            | true =>
              simp only [hcc2, cond_true] at hS
              simp only [Bool.and_eq_true] at hcc2
              have e1 := Nat.eq_of_beq_eq_true hcc2.1.1
              have e2 := Nat.eq_of_beq_eq_true hcc2.1.2
              have hS2 := Option.some.inj hS
              clear hS
              subst e1
              subst e2
              subst hS2
              have hct : ctOK g bk (.inr (r.1, r.2)) (.inr (r.1, fs.set q.2 (jad g b2 vb))) := ct_fs hlen hfs hq ⟨b2, hb2, rfl⟩
              have hP2 := hp2.write hE hb ht hc hct offW_fs hsub hap
              cases hjk : jfkAt q.1 q.2 with
              | none => rw [hjk] at hcc2; exact absurd hcc2.2 (by simp [fkI, fkJ, fkR])
              | some kk =>
                obtain ⟨n1, n2, n3, n4, n5⟩ := jfk_at (by rw [← hci]; exact hrr) hjk
                match kk, hjk with
                | 3, hjk =>
                  obtain ⟨m1, nm, m2⟩ := n5 rfl
                  exact j_put hd ho hm hc hrr n1 hfl m1 m2 rfl rfl (k _ _ _ _ _ hP2)
                | 0, hjk => rw [hjk] at hcc2; exact absurd hcc2.2 (by simp [fkI, fkJ, fkR])
                | 1, hjk => rw [hjk] at hcc2; exact absurd hcc2.2 (by simp [fkI, fkJ, fkR])
                | 2, hjk => rw [hjk] at hcc2; exact absurd hcc2.2 (by simp [fkI, fkJ, fkR])
                | n + 4, hjk => rw [hjk] at hcc2; exact absurd hcc2.2 (by simp [fkI, fkJ, fkR])
          | 0, n + 1, hS, q1 => cases hS
          | 1, 0, hS, q1 => cases hS
          | 1, n + 2, hS, q1 => cases hS
          | 2, 0, hS, q1 => cases hS
          | 2, 1, hS, q1 => cases hS
          | 2, n + 3, hS, q1 => cases hS
          | m + 3, n, hS, q1 => cases n <;> cases hS

theorem aIdx_ok {x n : Nat} {a : Int × Int} {i : Int32} (he : envOK vs env fc) (ha : aIdx env fc x n = some a) (hx : vs[x]? = some i.toInt) : (a.1 ≤ i.toInt ∧ i.toInt ≤ a.2) ∧ 0 ≤ a.1 ∧ a.2 < n := by
  rw [aIdx] at ha
  cases hq : aiv env fc x with
  | none => rw [hq] at ha; cases ha
  | some p =>
    rw [hq] at ha
    have b := aiv_ok he.1 he.2.1 he.2.2 hq hx
    dsimp only at ha
    have key : ∀ (lo hi : Int), lo = (bif decide (p.1 < 0) && ent env fc (lin env x) then 0 else p.1) → hi = (bif decide ((n : Int) ≤ p.2) && ent env fc (fadd (-1) (fcon ((n : Int) - 1)) (lin env x)) then (n : Int) - 1 else p.2) → lo ≤ i.toInt ∧ i.toInt ≤ hi := by
      intro lo hi h1 h2
      constructor
      · rw [h1]
        cases hc : (decide (p.1 < 0) && ent env fc (lin env x)) with
        | false => exact b.1
        | true =>
          simp only [Bool.and_eq_true] at hc
          obtain ⟨w, w1, w2⟩ := ent_ok he.1 he.2.2 hc.2
          rw [lin_ok he.2.1 hx] at w1
          cases w1
          exact w2
      · rw [h2]
        cases hc : (decide ((n : Int) ≤ p.2) && ent env fc (fadd (-1) (fcon ((n : Int) - 1)) (lin env x))) with
        | false => exact b.2
        | true =>
          simp only [Bool.and_eq_true] at hc
          obtain ⟨w, w1, w2⟩ := ent_ok he.1 he.2.2 hc.2
          rw [fadd_ok fcon_ok (lin_ok he.2.1 hx)] at w1
          cases w1
          simp only [cond_true]
          omega
    have hk := key _ _ rfl rfl
    revert ha hk
    generalize (bif decide (p.1 < 0) && ent env fc (lin env x) then 0 else p.1) = lo
    generalize (bif decide ((n : Int) ≤ p.2) && ent env fc (fadd (-1) (fcon ((n : Int) - 1)) (lin env x)) then (n : Int) - 1 else p.2) = hi
    intro ha hk
    cases hc : (decide (0 ≤ lo) && decide (hi < (n : Int))) with
    | false => rw [hc] at ha; cases ha
    | true =>
      rw [hc] at ha
      cases ha
      simp only [Bool.and_eq_true, decide_eq_true_eq] at hc
      exact ⟨hk, hc⟩
/-- the bounds of one residue class, of all -/
theorem sgHull_ok : ∀ (t : List (Int × Int)) (a q : Int × Int), (q = a ∨ q ∈ t) → (sgHull t a).1 ≤ q.1 ∧ q.2 ≤ (sgHull t a).2 := by
  intro t
  induction t with
  | nil =>
    intro a q hq
    rcases hq with rfl | hq
    · exact ⟨Int.le_refl _, Int.le_refl _⟩
    · exact absurd hq List.not_mem_nil
  | cons r t ih =>
    intro a q hq
    rw [sgHull]
    have mono : ∀ (t : List (Int × Int)) (a b : Int × Int), a.1 ≤ b.1 → b.2 ≤ a.2 → (sgHull t a).1 ≤ (sgHull t b).1 ∧ (sgHull t b).2 ≤ (sgHull t a).2 := by
      intro t
      induction t with
      | nil => intro a b h1 h2; exact ⟨h1, h2⟩
      | cons r t ih =>
        intro a b h1 h2
        rw [sgHull, sgHull]
        apply ih
        · show (bif decide (r.1 < a.1) then r.1 else a.1) ≤ (bif decide (r.1 < b.1) then r.1 else b.1)
          cases c1 : decide (r.1 < a.1) <;> cases c2 : decide (r.1 < b.1) <;> simp at c1 c2 ⊢ <;> omega
        · show (bif decide (b.2 < r.2) then r.2 else b.2) ≤ (bif decide (a.2 < r.2) then r.2 else a.2)
          cases c1 : decide (a.2 < r.2) <;> cases c2 : decide (b.2 < r.2) <;> simp at c1 c2 ⊢ <;> omega
    have hin : ∀ q : Int × Int, (q = a ∨ q = r) → (bif decide (r.1 < a.1) then r.1 else a.1) ≤ q.1 ∧ q.2 ≤ (bif decide (a.2 < r.2) then r.2 else a.2) := by
      intro q hq
      cases c1 : decide (r.1 < a.1) <;> cases c2 : decide (a.2 < r.2) <;> simp at c1 c2 ⊢ <;> rcases hq with rfl | rfl <;> constructor <;> omega
    rcases hq with hq | hq
    · obtain ⟨h1, h2⟩ := hin q (Or.inl hq)
      obtain ⟨h3, h4⟩ := ih q q (Or.inl rfl)
      obtain ⟨h5, h6⟩ := mono t (bif decide (r.1 < a.1) then r.1 else a.1, bif decide (a.2 < r.2) then r.2 else a.2) q h1 h2
      exact ⟨Int.le_trans h5 h3, Int.le_trans h4 h6⟩
    · rcases List.mem_cons.mp hq with hq | hq
      · obtain ⟨h1, h2⟩ := hin q (Or.inr hq)
        obtain ⟨h3, h4⟩ := ih q q (Or.inl rfl)
        obtain ⟨h5, h6⟩ := mono t (bif decide (r.1 < a.1) then r.1 else a.1, bif decide (a.2 < r.2) then r.2 else a.2) q h1 h2
        exact ⟨Int.le_trans h5 h3, Int.le_trans h4 h6⟩
      · exact ih _ q (Or.inr hq)
theorem sgMeet_ok : ∀ (t : List (Int × Int)) (a q : Int × Int), (q = a ∨ q ∈ t) → q.1 ≤ (sgMeet t a).1 ∧ (sgMeet t a).2 ≤ q.2 := by
  intro t
  induction t with
  | nil =>
    intro a q hq
    rcases hq with rfl | hq
    · exact ⟨Int.le_refl _, Int.le_refl _⟩
    · exact absurd hq List.not_mem_nil
  | cons r t ih =>
    intro a q hq
    rw [sgMeet]
    have mono : ∀ (t : List (Int × Int)) (a : Int × Int), a.1 ≤ (sgMeet t a).1 ∧ (sgMeet t a).2 ≤ a.2 := fun t a => by
      induction t generalizing a with
      | nil => exact ⟨Int.le_refl _, Int.le_refl _⟩
      | cons r t ih =>
        rw [sgMeet]
        obtain ⟨h1, h2⟩ := ih (bif decide (a.1 < r.1) then r.1 else a.1, bif decide (r.2 < a.2) then r.2 else a.2)
        constructor
        · refine Int.le_trans ?_ h1
          show a.1 ≤ (bif decide (a.1 < r.1) then r.1 else a.1)
          cases c1 : decide (a.1 < r.1) <;> simp at c1 ⊢ <;> omega
        · refine Int.le_trans h2 ?_
          show (bif decide (r.2 < a.2) then r.2 else a.2) ≤ a.2
          cases c1 : decide (r.2 < a.2) <;> simp at c1 ⊢ <;> omega
    obtain ⟨h1, h2⟩ := mono t (bif decide (a.1 < r.1) then r.1 else a.1, bif decide (r.2 < a.2) then r.2 else a.2)
    have hin : ∀ q : Int × Int, (q = a ∨ q = r) → q.1 ≤ (bif decide (a.1 < r.1) then r.1 else a.1) ∧ (bif decide (r.2 < a.2) then r.2 else a.2) ≤ q.2 := by
      intro q hq
      cases c1 : decide (a.1 < r.1) <;> cases c2 : decide (r.2 < a.2) <;> simp at c1 c2 ⊢ <;> rcases hq with rfl | rfl <;> constructor <;> omega
    rcases hq with hq | hq
    · obtain ⟨h3, h4⟩ := hin q (Or.inl hq)
      exact ⟨Int.le_trans h3 h1, Int.le_trans h2 h4⟩
    · rcases List.mem_cons.mp hq with hq | hq
      · obtain ⟨h3, h4⟩ := hin q (Or.inr hq)
        exact ⟨Int.le_trans h3 h1, Int.le_trans h2 h4⟩
      · exact ih _ q (Or.inr hq)
end HQ
end
section
/-! arrays: segments, loads, stores -/
def sgWF : List aSeg → Bool
  | [] => true
  | s :: t => t.all (fun r => Nat.ble (s.1 + s.2.1) r.1) && sgWF t
theorem sgWF_one : ∀ {sg : List aSeg}, sgWF sg = true → ∀ {s r : aSeg} {i : Nat}, s ∈ sg → r ∈ sg → s.1 ≤ i → i < s.1 + s.2.1 → r.1 ≤ i → i < r.1 + r.2.1 → s = r := by
  intro sg
  induction sg with
  | nil => intro _ s r i hs; exact absurd hs List.not_mem_nil
  | cons a t ih =>
    intro hw s r i hs hr h1 h2 h3 h4
    rw [sgWF] at hw
    simp only [Bool.and_eq_true] at hw
    have key : ∀ z ∈ t, a.1 + a.2.1 ≤ z.1 := fun z hz => Nat.le_of_ble_eq_true (List.all_eq_true.mp hw.1 z hz)
    rcases List.mem_cons.mp hs with e1 | e1
    · rcases List.mem_cons.mp hr with e2 | e2
      · rw [e1, e2]
      · have := key r e2
        rw [e1] at h2
        omega
    · rcases List.mem_cons.mp hr with e2 | e2
      · have := key s e1
        rw [e2] at h4
        omega
      · exact ih hw.2 e1 e2 h1 h2 h3 h4
theorem fevl_mod {vs : List Int} {p : Int} : ∀ (L : List (Nat × Int)) (r : Int), L.all (fun q => decide (q.2 % p = 0)) = true → fevl vs L = some r → r % p = 0 := by
  intro L
  induction L with
  | nil => intro r _ hr; rw [fevl] at hr; cases hr; simp
  | cons q t ih =>
    intro r ha hr
    simp only [List.all_cons, Bool.and_eq_true, decide_eq_true_eq] at ha
    obtain ⟨x, r2, g1, g2, rfl⟩ := fevl_some hr
    have h1 := ih r2 (by simpa using ha.2) g2
    have h2 : (q.2 * x) % p = 0 := by rw [Int.mul_emod, ha.1]; simp
    rw [Int.add_emod, h1, h2]
    simp
theorem sgFind_ok {sg : List aSeg} {lo hi : Int} {s : aSeg} (hf : sgFind sg lo hi = some s) : s ∈ sg ∧ (s.1 : Int) ≤ lo ∧ hi < (s.1 : Int) + (s.2.1 : Int) ∧ 0 < s.2.2.1 ∧ s.2.2.2.length = s.2.2.1 := by
  have h1 := List.find?_some hf
  have h2 := List.mem_of_find?_eq_some hf
  simp only [Bool.and_eq_true, decide_eq_true_eq] at h1
  refine ⟨h2, h1.1.1.1, h1.1.1.2, ?_, Nat.eq_of_beq_eq_true h1.2⟩
  have h3 := h1.1.2
  simp [Nat.blt] at h3
  omega
/-- the residue of a place, by its form -/
theorem sgRes_at {vs : List Int} {s : aSeg} {F : aF} {q : Int × Int} {i : Nat} (hp : 0 < s.2.2.1) (hr : sgRes s F = some q) (hF : fev vs F = some (i : Int)) (hi : s.1 ≤ i) : s.2.2.2[(i - s.1) % s.2.2.1]? = some q := by
  rw [sgRes] at hr
  cases ha : F.1.all (fun q => decide (q.2 % (s.2.2.1 : Int) = 0)) with
  | false => rw [ha] at hr; cases hr
  | true =>
    rw [ha] at hr
    simp only [cond_true] at hr
    obtain ⟨r, h1, h2⟩ := fev_some hF
    have h3 := fevl_mod _ _ ha h1
    have h4 : ((F.2 - (s.1 : Int)) % (s.2.2.1 : Int)).toNat = (i - s.1) % s.2.2.1 := by
      have e1 : (F.2 - (s.1 : Int)) % (s.2.2.1 : Int) = ((i : Int) - (s.1 : Int)) % (s.2.2.1 : Int) := by
        rw [h2, show r + F.2 - (s.1 : Int) = r + (F.2 - (s.1 : Int)) by omega, Int.add_emod, h3]
        simp
      rw [e1, show ((i : Int) - (s.1 : Int)) = ((i - s.1 : Nat) : Int) by omega, ← Int.natCast_emod]
      omega
    rw [← h4]
    exact hr
theorem sgL_ok {vs : List Int} {sg : List aSeg} {F : aF} {lo hi : Int} {i : Nat} {x : Int32} (hs : sgOK sg i x.toInt) (hF : fev vs F = some (i : Int)) (h1 : lo ≤ i) (h2 : (i : Int) ≤ hi) : (sgL sg F lo hi).1 ≤ x.toInt ∧ x.toInt ≤ (sgL sg F lo hi).2 := by
  rw [sgL]
  cases hf : sgFind sg lo hi with
  | none => exact ⟨i32_lo x, i32_hi x⟩
  | some s =>
    obtain ⟨m1, m2, m3, m4, m5⟩ := sgFind_ok hf
    have i1 : s.1 ≤ i := by omega
    have i2 : i < s.1 + s.2.1 := by omega
    have hq := hs s m1 i1 i2
    dsimp only
    cases hr : sgRes s F with
    | some q => exact hq q (sgRes_at m4 hr hF i1)
    | none =>
      dsimp only
      have hlt : (i - s.1) % s.2.2.1 < s.2.2.2.length := by rw [m5]; exact Nat.mod_lt _ m4
      have hg : s.2.2.2[(i - s.1) % s.2.2.1]? = some s.2.2.2[(i - s.1) % s.2.2.1] := List.getElem?_eq_getElem hlt
      have hb := hq _ hg
      have hm := List.mem_of_getElem? hg
      revert hb hm
      generalize s.2.2.2[(i - s.1) % s.2.2.1] = q
      intro hb hm
      cases hl : s.2.2.2 with
      | nil => rw [hl] at hm; exact absurd hm List.not_mem_nil
      | cons a t =>
        rw [hl] at hm
        have := sgHull_ok t a q (List.mem_cons.mp hm)
        dsimp only
        omega
theorem sgS_ok {vs : List Int} {sg : List aSeg} {F : aF} {lo hi : Int} {i : Nat} {x : Int} {b : Int × Int} (hw : sgWF sg = true) (hb : sgS sg F lo hi = some b) (hF : fev vs F = some (i : Int)) (h1 : lo ≤ i) (h2 : (i : Int) ≤ hi) (hx : b.1 ≤ x ∧ x ≤ b.2) : sgOK sg i x := by
  rw [sgS] at hb
  cases hf : sgFind sg lo hi with
  | none => rw [hf] at hb; cases hb
  | some s =>
    rw [hf] at hb
    dsimp only at hb
    obtain ⟨m1, m2, m3, m4, m5⟩ := sgFind_ok hf
    have i1 : s.1 ≤ i := by omega
    have i2 : i < s.1 + s.2.1 := by omega
    intro s2 hs2 j1 j2 q hq
    have e := sgWF_one hw m1 hs2 i1 i2 j1 j2
    subst e
    cases hr : sgRes s F with
    | some q2 =>
      rw [hr] at hb
      cases hb
      cases (sgRes_at m4 hr hF i1).symm.trans hq
      exact hx
    | none =>
      rw [hr] at hb
      dsimp only at hb
      have hm := List.mem_of_getElem? hq
      cases hl : s.2.2.2 with
      | nil => rw [hl] at hm; exact absurd hm List.not_mem_nil
      | cons a t =>
        rw [hl] at hm hb
        cases hb
        have := sgMeet_ok t a q (List.mem_cons.mp hm)
        omega
/-- all arrays' segments are apart, their lengths small -/
def tySg (TT : List (List aCT)) : Bool := TT.all (fun l => l.all (fun t => match t with
  | .inl q => sgWF q.2.2 && Nat.blt q.2.1 2147483648
  | .inr _ => true))
theorem tySg_ok {TT : List (List aCT)} (hT : tySg TT = true) {B o : Nat} {q : Nat × Nat × List aSeg} (ht : tyAt TT B o = some (.inl q)) : sgWF q.2.2 = true ∧ q.2.1 < 2147483648 := by
  rw [tyAt] at ht
  cases hB : TT[B]? with
  | none => rw [hB] at ht; cases ht
  | some L =>
    rw [hB] at ht
    have h1 := List.all_eq_true.mp hT L (List.mem_of_getElem? hB)
    have h2 := List.all_eq_true.mp h1 _ (List.mem_of_getElem? ht)
    simp only [Bool.and_eq_true] at h2
    refine ⟨h2.1, ?_⟩
    have h3 := h2.2
    simp [Nat.blt] at h3
    omega
section AR2
variable {TT : List (List aCT)} {g : jG} {EI : aB → jH → Prop} {W P : List aR} {bk0 : aB} {h0 : jH} {ev : List Int} {y : Nat} {vs : List Int} {bk : aB} {al : List (Option Value)} {st : List Value} {h : jH} {env : List aE} {fc : List aF} {loc : List (Option aV)} {stk : List aV} {ov : List aO} {pr : List Nat}
variable {l : Launch} {d pc kc ks : Nat} {Q : Option Value → jH → Prop}
theorem pForm_ok {x : Nat} {lo hi z : Int} (he : envOK vs env fc) (hx : vs[x]? = some z) (h1 : lo ≤ z) (h2 : z ≤ hi) : fev vs (pForm env x lo hi) = some z := by
  rw [pForm]
  cases hc : decide (lo = hi) with
  | true =>
    simp only [decide_eq_true_eq] at hc
    simp only [cond_true]
    rw [fcon_ok]
    congr 1
    omega
  | false => exact lin_ok he.2.1 hx
theorem st_ald {ty : Nat} {v w : aV} {S : aS} (hty : (ty = 0 ∧ decode (jbC y) pc = .ok (.iaload, 1)) ∨ (ty = 1 ∧ decode (jbC y) pc = .ok (.baload, 1))) (hv : Nat.beq v.1 0 = true) (hw : Nat.beq w.1 2 = true) (hS : aAld TT ty env fc loc stk ov pr w.2.1 w.2.2 v.2.1 = some S) (hp : PT TT g EI W bk0 h0 ev y vs bk al st h (env, fc, loc, v :: w :: stk, ov, pr)) (k : Go TT g EI W bk0 h0 ev y l d Q (pc + 1) S kc ks) : J l g y d pc al st h kc ks Q := by
  obtain ⟨w1, s1, rfl, q1, hp1⟩ := hp.pop
  obtain ⟨w2, s2, rfl, q2, hp2⟩ := hp1.pop
  obtain ⟨i, rfl, hi⟩ := q1.int hv
  obtain ⟨b, hb, rfl⟩ := q2.rf hw
  rw [aAld] at hS
  cases ht : tyAt TT w.2.1 w.2.2 with
  | none => rw [ht] at hS; cases hS
  | some ct =>
    rw [ht] at hS
    cases ct with
    | inr r => cases hS
    | inl r =>
      dsimp only at hS
      obtain ⟨c, hc, f, rfl, hsg⟩ := hp2.2.1.1 _ b w.2.2 _ hb ht
      cases hty2 : Nat.beq r.1 ty with
      | false => rw [hty2] at hS; cases hS
      | true =>
        rw [hty2] at hS
        simp only [cond_true] at hS
        have hrt : r.1 = ty := Nat.eq_of_beq_eq_true hty2
        cases ha : aIdx env fc v.2.1 r.2.1 with
        | none => rw [ha] at hS; cases hS
        | some a =>
          rw [ha] at hS
          have hS2 := Option.some.inj hS
          clear hS
          subst hS2
          obtain ⟨⟨a1, a2⟩, a3, a4⟩ := aIdx_ok hp2.ee ha hi
          have hcl := i32_clamp (i := i) (by omega)
          have hin : vp_in i r.2.1 := i32_in (by omega) (by omega)
          have hlt : i.toNatClampNeg < r.2.1 := by omega
          have hbd := sgL_ok (F := pForm env v.2.1 a.1 a.2) (lo := a.1) (hi := a.2) (hsg _ hlt) (by rw [pForm_ok hp2.ee hi a1 a2]; congr 1; omega) (by omega) (by omega)
          have hpl : plAt (.inl (r.1, r.2.1, f)) i.toInt (f i.toNatClampNeg).toInt := ⟨by omega, by show (f i.toInt.toNat).toInt = _; rfl⟩
          obtain ⟨vs', hP⟩ := hp2.read (lo := (sgL r.2.2 (pForm env v.2.1 a.1 a.2) a.1 a.2).1) (hi := (sgL r.2.2 (pForm env v.2.1 a.1 a.2) a.1 a.2).2) hb hc (pForm_ok hp2.ee hi a1 a2) hpl hbd.1 hbd.2
          rcases hty with ⟨e, hd⟩ | ⟨e, hd⟩
          · subst e
            exact j_iald hd (by rw [← hrt]; exact hc) hin (k _ _ _ _ _ hP)
          · subst e
            exact j_zald hd (by rw [← hrt]; exact hc) hin (k _ _ _ _ _ hP)
theorem st_ast {ty : Nat} {v x w : aV} {S : aS} (hE : eiOK TT g EI P) (hT : tySg TT = true) (hty : (ty = 0 ∧ decode (jbC y) pc = .ok (.iastore, 1)) ∨ (ty = 1 ∧ decode (jbC y) pc = .ok (.bastore, 1))) (hv : Nat.beq v.1 0 = true) (hx : Nat.beq x.1 0 = true) (hw : Nat.beq w.1 2 = true) (hS : aAst TT W P ty env fc loc stk ov pr w.2.1 w.2.2 x.2.1 v.2.1 = some S) (hp : PT TT g EI W bk0 h0 ev y vs bk al st h (env, fc, loc, v :: x :: w :: stk, ov, pr)) (k : Go TT g EI W bk0 h0 ev y l d Q (pc + 1) S kc ks) : J l g y d pc al st h kc ks Q := by
  obtain ⟨w1, s1, rfl, q1, hp1⟩ := hp.pop
  obtain ⟨w2, s2, rfl, q2, hp2⟩ := hp1.pop
  obtain ⟨w3, s3, rfl, q3, hp3⟩ := hp2.pop
  obtain ⟨n, rfl, hn⟩ := q1.int hv
  obtain ⟨i, rfl, hi⟩ := q2.int hx
  obtain ⟨b, hb, rfl⟩ := q3.rf hw
  rw [aAst] at hS
  cases ht : tyAt TT w.2.1 w.2.2 with
  | none => rw [ht] at hS; cases hS
  | some ct =>
    rw [ht] at hS
    cases ct with
    | inr r => cases hS
    | inl r =>
      dsimp only at hS
      obtain ⟨c, hc, f, rfl, hsg⟩ := hp3.2.1.1 _ b w.2.2 _ hb ht
      cases hty2 : Nat.beq r.1 ty with
      | false => rw [hty2] at hS; cases hS
      | true =>
        rw [hty2] at hS
        simp only [cond_true] at hS
        have hrt : r.1 = ty := Nat.eq_of_beq_eq_true hty2
        cases ha : aIdx env fc x.2.1 r.2.1 with
        | none => rw [ha] at hS; cases hS
        | some a =>
          rw [ha] at hS
          dsimp only at hS
          cases hs : sgS r.2.2 (pForm env x.2.1 a.1 a.2) a.1 a.2 with
          | none => rw [hs] at hS; cases hS
          | some bb =>
            rw [hs] at hS
            dsimp only at hS
            cases hcc : (aWithin env fc v.2.1 bb.1 bb.2 && (Nat.beq ty 0 || aWithin env fc v.2.1 0 1) && subW [(w.2.1, w.2.2, a.1, a.2)] W && apW [(w.2.1, w.2.2, a.1, a.2)] P) with
            | false => rw [hcc] at hS; cases hS
            | true =>
              rw [hcc] at hS
              simp only [Bool.and_eq_true] at hcc
              obtain ⟨⟨⟨c1, c2⟩, hsub⟩, hap⟩ := hcc
              have hS2 := Option.some.inj hS
              clear hS
              subst hS2
              obtain ⟨⟨a1, a2⟩, a3, a4⟩ := aIdx_ok hp3.ee ha hi
              obtain ⟨hwf, -⟩ := tySg_ok hT ht
              have hcl := i32_clamp (i := i) (by omega)
              have hin : vp_in i r.2.1 := i32_in (by omega) (by omega)
              have hlt : i.toNatClampNeg < r.2.1 := by omega
              have hbd := aWithin_ok hp3.ee c1 hn
              have hso : sgOK r.2.2 i.toNatClampNeg n.toInt := sgS_ok hwf hs (by rw [pForm_ok hp3.ee hi a1 a2]; congr 1; omega) (by omega) (by omega) hbd
              have hct : ctOK g bk (.inl r) (.inl (r.1, r.2.1, upd f i.toNatClampNeg n)) := ⟨_, rfl, fun j hj => by
                by_cases e : j = i.toNatClampNeg
                · subst e
                  simp only [upd, if_true]
                  exact hso
                · simp only [upd, if_neg e]
                  exact hsg j hj⟩
              have hP2 := hp3.write hE hb ht hc hct (offW_arr (by omega) (by omega)) hsub hap
              have hlen : b + w.2.2 < h.length := (List.getElem?_eq_some_iff.mp hc).1
              have hP3 := hP2.know (F := pForm env x.2.1 a.1 a.2) (i := v.2.1) (z := i.toInt) (x := n.toInt) hb (List.getElem?_set_self hlen) (pForm_ok hp3.ee hi a1 a2) ⟨by omega, by show (upd f i.toNatClampNeg n i.toInt.toNat).toInt = _; rw [show i.toInt.toNat = i.toNatClampNeg from rfl]; simp [upd]⟩ hn
              rcases hty with ⟨e, hd⟩ | ⟨e, hd⟩
              · subst e
                rw [hrt] at hP3
                exact j_iast hd (by rw [← hrt]; exact hc) hin (k _ _ _ _ _ hP3)
              · subst e
                have hz : vp_nar .boolean n = n := by
                  simp only [show Nat.beq 1 0 = false from rfl, Bool.false_or] at c2
                  have := aWithin_ok hp3.ee c2 hn
                  have hz := (narz (x := n) this.1 this.2).1
                  simp only [vp_nar, hz]
                rw [hrt] at hP3
                refine j_zast hd (by rw [← hrt]; exact hc) hin ?_
                rw [hz]
                exact k _ _ _ _ _ hP3
theorem st_alen {w : aV} {q : Nat × Nat × List aSeg} (hT : tySg TT = true) (hd : decode (jbC y) pc = .ok (.arraylength, 1)) (hw : Nat.beq w.1 2 = true) (ht : tyAt TT w.2.1 w.2.2 = some (.inl q)) (h1 : Nat.ble q.1 1 = true) (hp : PT TT g EI W bk0 h0 ev y vs bk al st h (env, fc, loc, w :: stk, ov, pr)) (k : Go TT g EI W bk0 h0 ev y l d Q (pc + 1) (env ++ [eNew (q.2.1 : Nat) (q.2.1 : Nat) (some (fcon (q.2.1 : Nat)))], fc, loc, (0, env.length, 0) :: stk, ov, pr) kc ks) : J l g y d pc al st h kc ks Q := by
  obtain ⟨w1, s1, rfl, q1, hp1⟩ := hp.pop
  obtain ⟨b, hb, rfl⟩ := q1.rf hw
  obtain ⟨c, hc, f, rfl, hsg⟩ := hp1.2.1.1 _ b w.2.2 _ hb ht
  obtain ⟨-, hlt⟩ := tySg_ok hT ht
  have hv : (Int32.ofNat q.2.1).toInt = (q.2.1 : Int) := nI_toInt (by omega)
  have h1 : q.1 ≤ 1 := Nat.le_of_ble_eq_true h1
  refine j_alen hd (by omega) hc (k _ _ _ _ _ (hp1.push32 ?_))
  rw [hv]
  exact eVal.fm (Int.le_refl _) (Int.le_refl _) fcon_ok
end AR2
end
section
/-! null tests, switches, constants of the pool -/
section SW
variable {TT : List (List aCT)} {g : jG} {EI : aB → jH → Prop} {W P : List aR} {bk0 : aB} {h0 : jH} {ev : List Int} {y : Nat} {vs : List Int} {bk : aB} {al : List (Option Value)} {st : List Value} {h : jH} {env : List aE} {fc : List aF} {loc : List (Option aV)} {stk : List aV} {ov : List aO} {pr : List Nat}
variable {l : Launch} {d pc kc ks : Nat} {Q : Option Value → jH → Prop}
/-- block B is there: its cell or null is its cell -/
theorem PT.pres {B o b : Nat} (hp : PT TT g EI W bk0 h0 ev y vs bk al st h (env, fc, loc, stk, ov, pr)) (hb : bk B = some b) : PT TT g EI W bk0 h0 ev y vs bk al st h (env, fc, loc.map (fun z => bif decide (z = some (4, B, o)) then some (2, B, o) else z), stk, ov, B :: pr) := by
  refine ⟨⟨hp.1.1, hp.1.2.1, hp.1.2.2.1, fun i v hv => ?_, hp.1.2.2.2.2.1, hp.1.2.2.2.2.2.1, fun z hz => ?_⟩, hp.2⟩
  · rw [List.getElem?_map] at hv
    cases hl : loc[i]? with
    | none => rw [hl] at hv; cases hv
    | some z =>
      rw [hl] at hv
      have hv : (bif decide (z = some (4, B, o)) then some (2, B, o) else z) = some v := Option.some.inj hv
      cases hc : decide (z = some (4, B, o)) with
      | false =>
        rw [hc] at hv
        simp only [cond_false] at hv
        subst hv
        exact hp.1.2.2.2.1 i v hl
      | true =>
        rw [hc] at hv
        have hv2 : (2, B, o) = v := Option.some.inj hv
        subst hv2
        simp only [decide_eq_true_eq] at hc
        subst hc
        obtain ⟨w, g1, g2⟩ := hp.1.2.2.2.1 i (4, B, o) hl
        rcases g2 with g2 | ⟨g2, -⟩
        · exact ⟨w, g1, g2⟩
        · exact absurd (g2.symm.trans hb) (by simp)
  · rcases List.mem_cons.mp hz with rfl | hz
    · exact ⟨b, hb⟩
    · exact hp.1.2.2.2.2.2.2 z hz
theorem st_ifnull2 {off : Int} {v : aV} (hd : decode (jbC y) pc = .ok (.ifnull off, 3)) (hv : Nat.beq v.1 2 = true) (hp : PT TT g EI W bk0 h0 ev y vs bk al st h (env, fc, loc, v :: stk, ov, pr)) (k : Go TT g EI W bk0 h0 ev y l d Q (pc + 3) (env, fc, loc, stk, ov, pr) kc ks) : J l g y d pc al st h kc ks Q := by
  obtain ⟨w1, s1, rfl, q1, hp1⟩ := hp.pop
  obtain ⟨b, hb, rfl⟩ := q1.rf hv
  exact j_ifnull hd (k _ _ _ _ _ hp1)
theorem st_ifnonnull2 {off : Int} {v : aV} (hd : decode (jbC y) pc = .ok (.ifnonnull off, 3)) (ht : 0 ≤ (pc : Int) + off) (hv : Nat.beq v.1 2 = true) (hp : PT TT g EI W bk0 h0 ev y vs bk al st h (env, fc, loc, v :: stk, ov, pr)) (k : Go TT g EI W bk0 h0 ev y l d Q (tgtN pc off) (env, fc, loc, stk, ov, pr) kc ks) : J l g y d pc al st h kc ks Q := by
  obtain ⟨w1, s1, rfl, q1, hp1⟩ := hp.pop
  obtain ⟨b, hb, rfl⟩ := q1.rf hv
  exact j_ifnonnull hd (tgtN_ok ht) (k _ _ _ _ _ hp1)
theorem st_ifnull3 {off : Int} {a o : Nat} (hd : decode (jbC y) pc = .ok (.ifnull off, 3)) (ht : 0 ≤ (pc : Int) + off) (hp : PT TT g EI W bk0 h0 ev y vs bk al st h (env, fc, loc, (3, a, o) :: stk, ov, pr)) (k : Go TT g EI W bk0 h0 ev y l d Q (tgtN pc off) (env, fc, loc, stk, ov, pr) kc ks) : J l g y d pc al st h kc ks Q := by
  obtain ⟨w1, s1, rfl, q1, hp1⟩ := hp.pop
  have q1 : w1 = .null := q1
  subst q1
  exact j_ifnullN hd (tgtN_ok ht) (k _ _ _ _ _ hp1)
theorem st_ifnonnull3 {off : Int} {a o : Nat} (hd : decode (jbC y) pc = .ok (.ifnonnull off, 3)) (hp : PT TT g EI W bk0 h0 ev y vs bk al st h (env, fc, loc, (3, a, o) :: stk, ov, pr)) (k : Go TT g EI W bk0 h0 ev y l d Q (pc + 3) (env, fc, loc, stk, ov, pr) kc ks) : J l g y d pc al st h kc ks Q := by
  obtain ⟨w1, s1, rfl, q1, hp1⟩ := hp.pop
  have q1 : w1 = .null := q1
  subst q1
  exact j_ifnonnullN hd (k _ _ _ _ _ hp1)
theorem st_ifnull4 {off : Int} {B o : Nat} (hd : decode (jbC y) pc = .ok (.ifnull off, 3)) (ht : 0 ≤ (pc : Int) + off) (hp : PT TT g EI W bk0 h0 ev y vs bk al st h (env, fc, loc, (4, B, o) :: stk, ov, pr)) (k1 : Go TT g EI W bk0 h0 ev y l d Q (tgtN pc off) (env, fc, loc, stk, ov, pr) kc ks) (k2 : Go TT g EI W bk0 h0 ev y l d Q (pc + 3) (env, fc, loc.map (fun z => bif decide (z = some (4, B, o)) then some (2, B, o) else z), stk, ov, B :: pr) kc ks) : J l g y d pc al st h kc ks Q := by
  obtain ⟨w1, s1, rfl, q1, hp1⟩ := hp.pop
  rcases q1 with ⟨b, hb, rfl⟩ | ⟨hb, rfl⟩
  · exact j_ifnull hd (k2 _ _ _ _ _ (hp1.pres hb))
  · exact j_ifnullN hd (tgtN_ok ht) (k1 _ _ _ _ _ hp1)
theorem st_ifnonnull4 {off : Int} {B o : Nat} (hd : decode (jbC y) pc = .ok (.ifnonnull off, 3)) (ht : 0 ≤ (pc : Int) + off) (hp : PT TT g EI W bk0 h0 ev y vs bk al st h (env, fc, loc, (4, B, o) :: stk, ov, pr)) (k1 : Go TT g EI W bk0 h0 ev y l d Q (pc + 3) (env, fc, loc, stk, ov, pr) kc ks) (k2 : Go TT g EI W bk0 h0 ev y l d Q (tgtN pc off) (env, fc, loc.map (fun z => bif decide (z = some (4, B, o)) then some (2, B, o) else z), stk, ov, B :: pr) kc ks) : J l g y d pc al st h kc ks Q := by
  obtain ⟨w1, s1, rfl, q1, hp1⟩ := hp.pop
  rcases q1 with ⟨b, hb, rfl⟩ | ⟨hb, rfl⟩
  · exact j_ifnonnull hd (tgtN_ok ht) (k2 _ _ _ _ _ (hp1.pres hb))
  · exact j_ifnonnullN hd (k1 _ _ _ _ _ hp1)
theorem aSw_mem {i : Nat} : ∀ (L : List Int) (lo : Int) (n : Nat) (o : Int), L[n]? = some o → ∀ r ∈ aBr (cAsm env fc .eq (fadd 1 (lin env i) (fcon (-(lo + n))))) (tgtN pc o) loc stk ov pr kc ks, r ∈ aSw env fc pc loc stk ov pr kc ks i lo L := by
  intro L
  induction L with
  | nil => intro lo n o hn; simp at hn
  | cons a t ih =>
    intro lo n o hn r hr
    rw [aSw]
    cases n with
    | zero =>
      have e : a = o := by simpa using hn
      subst e
      refine List.mem_append_left _ ?_
      rw [show lo + ((0 : Nat) : Int) = lo by omega] at hr
      exact hr
    | succ n =>
      refine List.mem_append_right _ (ih (lo + 1) n o (by simpa using hn) r ?_)
      rw [show lo + ((n + 1 : Nat) : Int) = lo + 1 + (n : Int) by omega] at hr
      exact hr
theorem st_table {dflt lo hi : Int} {offs : Array Int} {len : Nat} {v : aV} (hd : decode (jbC y) pc = .ok (.tableswitch dflt lo hi offs, len)) (hv : Nat.beq v.1 0 = true) (hn : (offs.toList.length : Int) = hi - lo + 1) (ht : 0 ≤ (pc : Int) + dflt) (hts : ∀ o ∈ offs.toList, 0 ≤ (pc : Int) + o) (hp : PT TT g EI W bk0 h0 ev y vs bk al st h (env, fc, loc, v :: stk, ov, pr))
    (k : GoA TT g EI W bk0 h0 ev y l d Q (aSw env fc pc loc stk ov pr kc ks v.2.1 lo offs.toList ++ (aBr (cAsm env fc .lt (fadd 1 (lin env v.2.1) (fcon (-lo)))) (tgtN pc dflt) loc stk ov pr kc ks ++ aBr (cAsm env fc .gt (fadd 1 (lin env v.2.1) (fcon (-hi)))) (tgtN pc dflt) loc stk ov pr kc ks))) : J l g y d pc al st h kc ks Q := by
  obtain ⟨w1, s1, rfl, q1, hp1⟩ := hp.pop
  obtain ⟨a, rfl, ha⟩ := q1.int hv
  have hl := lin_ok hp1.ee.2.1 ha
  by_cases h1 : a.toInt < lo
  · obtain ⟨r, g1, g2⟩ := cAsm_ok (c := .lt) hp1.ee (fadd1 (c := -lo) hl) (show a.toInt + -lo < 0 by omega)
    exact j_tableOut hd (Or.inl h1) (tgtN_ok ht) (k (tgtN pc dflt, (r.1, r.2, loc, stk, ov, pr), kc, ks) (List.mem_append_right _ (List.mem_append_left _ (by rw [g1]; exact List.mem_cons_self))) _ _ _ _ _ (hp1.setE g2))
  · by_cases h2 : hi < a.toInt
    · obtain ⟨r, g1, g2⟩ := cAsm_ok (c := .gt) hp1.ee (fadd1 (c := -hi) hl) (show 0 < a.toInt + -hi by omega)
      exact j_tableOut hd (Or.inr h2) (tgtN_ok ht) (k (tgtN pc dflt, (r.1, r.2, loc, stk, ov, pr), kc, ks) (List.mem_append_right _ (List.mem_append_right _ (by rw [g1]; exact List.mem_cons_self))) _ _ _ _ _ (hp1.setE g2))
    · have hlt : (a.toInt - lo).toNat < offs.toList.length := by omega
      have ho : offs.toList[(a.toInt - lo).toNat]? = some offs.toList[(a.toInt - lo).toNat] := List.getElem?_eq_getElem hlt
      revert ho
      generalize offs.toList[(a.toInt - lo).toNat] = o
      intro ho
      have ho2 : offs[(a.toInt - lo).toNat]? = some o := by rw [← Array.getElem?_toList]; exact ho
      obtain ⟨r, g1, g2⟩ := cAsm_ok (c := .eq) hp1.ee (fadd1 (c := -(lo + ((a.toInt - lo).toNat : Int))) hl) (show a.toInt + -(lo + ((a.toInt - lo).toNat : Int)) = 0 by omega)
      exact j_tableIn hd h1 h2 ho2 (tgtN_ok (hts o (List.mem_of_getElem? ho))) (k (tgtN pc o, (r.1, r.2, loc, stk, ov, pr), kc, ks) (List.mem_append_left _ (aSw_mem _ lo _ o ho _ (by rw [g1]; exact List.mem_cons_self))) _ _ _ _ _ (hp1.setE g2))
theorem st_lookup {dflt : Int} {ps : Array (Int × Int)} {len : Nat} {v : aV} (hd : decode (jbC y) pc = .ok (.lookupswitch dflt ps, len)) (hv : Nat.beq v.1 0 = true) (hs : (ps.toList.zip (ps.toList.drop 1)).all (fun (a, next) => a.1 < next.1) = true) (ht : 0 ≤ (pc : Int) + dflt) (hts : ∀ o ∈ ps.toList, 0 ≤ (pc : Int) + o.2) (hp : PT TT g EI W bk0 h0 ev y vs bk al st h (env, fc, loc, v :: stk, ov, pr))
    (k : GoA TT g EI W bk0 h0 ev y l d Q (aSwL env fc pc loc stk ov pr kc ks v.2.1 ps.toList ++ [(tgtN pc dflt, (env, fc, loc, stk, ov, pr), kc, ks)])) : J l g y d pc al st h kc ks Q := by
  obtain ⟨w1, s1, rfl, q1, hp1⟩ := hp.pop
  obtain ⟨a, rfl, ha⟩ := q1.int hv
  have hl := lin_ok hp1.ee.2.1 ha
  have key : ∀ (L : List (Int × Int)), (∀ o ∈ L, 0 ≤ (pc : Int) + o.2) → (∀ r ∈ aSwL env fc pc loc stk ov pr kc ks v.2.1 L, Go TT g EI W bk0 h0 ev y l d Q r.1 r.2.1 r.2.2.1 r.2.2.2) → ∃ tgt : Nat, (pc : Int) + Op.lookupswitch.offset L dflt a.toInt = (tgt : Int) ∧ J l g y d tgt al s1 h kc ks Q := by
    intro L
    induction L with
    | nil => intro _ _; exact ⟨tgtN pc dflt, tgtN_ok ht, k (tgtN pc dflt, (env, fc, loc, stk, ov, pr), kc, ks) (List.mem_append_right _ List.mem_cons_self) _ _ _ _ _ hp1⟩
    | cons q t ih =>
      intro h1 h2
      rw [Op.lookupswitch.offset_cons]
      by_cases e : q.1 = a.toInt
      · rw [if_pos e]
        obtain ⟨r, g1, g2⟩ := cAsm_ok (c := .eq) hp1.ee (fadd1 (c := -q.1) hl) (show a.toInt + -q.1 = 0 by omega)
        exact ⟨tgtN pc q.2, tgtN_ok (h1 q List.mem_cons_self), h2 (tgtN pc q.2, (r.1, r.2, loc, stk, ov, pr), kc, ks) (by rw [aSwL]; exact List.mem_append_left _ (by rw [g1]; exact List.mem_cons_self)) _ _ _ _ _ (hp1.setE g2)⟩
      · rw [if_neg e]
        exact ih (fun o ho => h1 o (List.mem_cons_of_mem _ ho)) (fun r hr => h2 r (by rw [aSwL]; exact List.mem_append_right _ hr))
  obtain ⟨tgt, t1, t2⟩ := key ps.toList hts (fun r hr => k r (List.mem_append_left _ hr))
  exact j_lookup hd hs rfl t1 t2
theorem st_ldc {own i : Nat} {q : Nat × Nat × Int32} (ho : jcN own = (jyN y).cls) (hf : jeV.find? (fun q => Nat.beq q.2.1 i && Nat.beq q.1 own) = some q) (hd : decode (jbC y) pc = .ok (.ldc i, 2)) (hp : PT TT g EI W bk0 h0 ev y vs bk al st h (env, fc, loc, stk, ov, pr)) (k : Go TT g EI W bk0 h0 ev y l d Q (pc + 2) (env ++ [eNew q.2.2.toInt q.2.2.toInt (some (fcon q.2.2.toInt))], fc, loc, (0, env.length, 0) :: stk, ov, pr) kc ks) : J l g y d pc al st h kc ks Q := by
  have h1 := List.find?_some hf
  have h2 := List.mem_of_find?_eq_some hf
  simp only [Bool.and_eq_true] at h1
  have e1 := Nat.eq_of_beq_eq_true h1.1
  have e2 := Nat.eq_of_beq_eq_true h1.2
  have e3 : q = (own, i, q.2.2) := by rw [← e1, ← e2]
  rw [e3] at h2
  exact j_ldc ho h2 hd (k _ _ _ _ _ (hp.push32 (eVal.fm (Int.le_refl _) (Int.le_refl _) fcon_ok)))
theorem st_ldcw {own i : Nat} {q : Nat × Nat × Int32} (ho : jcN own = (jyN y).cls) (hf : jeV.find? (fun q => Nat.beq q.2.1 i && Nat.beq q.1 own) = some q) (hd : decode (jbC y) pc = .ok (.ldc_w i, 3)) (hp : PT TT g EI W bk0 h0 ev y vs bk al st h (env, fc, loc, stk, ov, pr)) (k : Go TT g EI W bk0 h0 ev y l d Q (pc + 3) (env ++ [eNew q.2.2.toInt q.2.2.toInt (some (fcon q.2.2.toInt))], fc, loc, (0, env.length, 0) :: stk, ov, pr) kc ks) : J l g y d pc al st h kc ks Q := by
  have h1 := List.find?_some hf
  have h2 := List.mem_of_find?_eq_some hf
  simp only [Bool.and_eq_true] at h1
  have e1 := Nat.eq_of_beq_eq_true h1.1
  have e2 := Nat.eq_of_beq_eq_true h1.2
  have e3 : q = (own, i, q.2.2) := by rw [← e1, ← e2]
  rw [e3] at h2
  exact j_ldcw ho h2 hd (k _ _ _ _ _ (hp.push32 (eVal.fm (Int.le_refl _) (Int.le_refl _) fcon_ok)))
theorem st_ldc2 {own i : Nat} {q : Nat × Nat × Int64} (ho : jcN own = (jyN y).cls) (hf : jeW.find? (fun q => Nat.beq q.2.1 i && Nat.beq q.1 own) = some q) (hd : decode (jbC y) pc = .ok (.ldc2_w i, 3)) (hp : PT TT g EI W bk0 h0 ev y vs bk al st h (env, fc, loc, stk, ov, pr)) (k : Go TT g EI W bk0 h0 ev y l d Q (pc + 3) (env ++ [eNew q.2.2.toInt q.2.2.toInt (some (fcon q.2.2.toInt))], fc, loc, (1, env.length, 0) :: stk, ov, pr) kc ks) : J l g y d pc al st h kc ks Q := by
  have h1 := List.find?_some hf
  have h2 := List.mem_of_find?_eq_some hf
  simp only [Bool.and_eq_true] at h1
  have e1 := Nat.eq_of_beq_eq_true h1.1
  have e2 := Nat.eq_of_beq_eq_true h1.2
  have e3 : q = (own, i, q.2.2) := by rw [← e1, ← e2]
  rw [e3] at h2
  exact j_ldc2 ho h2 hd (k _ _ _ _ _ (hp.push64 (eVal.fm (Int.le_refl _) (Int.le_refl _) fcon_ok)))
end SW
end
section
/-! specs: arguments and cells of a contract, in the caller's ids -/
/-- the ids' values -/
def idv (vs : List Int) (ids : List Nat) (zs : List Int) : Prop := ids.map (fun i => vs[i]?) = zs.map some
theorem idv.len {vs : List Int} {ids : List Nat} {zs : List Int} (hi : idv vs ids zs) : ids.length = zs.length := by
  have := congrArg List.length hi
  simpa using this
theorem idv.at {vs : List Int} {ids : List Nat} {zs : List Int} (hi : idv vs ids zs) {j i : Nat} (hj : ids[j]? = some i) : ∃ z, zs[j]? = some z ∧ vs[i]? = some z := by
  have h1 : (ids.map (fun i => vs[i]?))[j]? = some (vs[i]?) := by rw [List.getElem?_map, hj]; rfl
  rw [hi, List.getElem?_map] at h1
  cases hz : zs[j]? with
  | none => rw [hz] at h1; cases h1
  | some z => rw [hz] at h1; exact ⟨z, rfl, (Option.some.inj h1).symm⟩
theorem idv.app {vs ws : List Int} {ids : List Nat} {zs : List Int} (hi : idv vs ids zs) : idv (vs ++ ws) ids zs := by
  rw [idv, ← hi]
  apply List.map_congr_left
  intro i hm
  obtain ⟨j, hj⟩ := List.getElem?_of_mem hm
  obtain ⟨z, -, hz⟩ := hi.at hj
  rw [hz]
  exact getE_app hz
theorem idv.cat {vs : List Int} {a b : List Nat} {x z : List Int} (h1 : idv vs a x) (h2 : idv vs b z) : idv vs (a ++ b) (x ++ z) := by
  rw [idv, List.map_append, List.map_append, h1, h2]
theorem fsubl_ok {vs zs : List Int} {env : List aE} {m : List Nat} (hM : eFm vs env) (hi : idv vs m zs) : ∀ (L : List (Nat × Int)) (G : aF), fsubl env m L = some G → ∃ r, fevl zs L = some r ∧ fev vs G = some r := by
  intro L
  induction L with
  | nil => intro G hG; rw [fsubl] at hG; cases hG; exact ⟨0, rfl, by simp [fev, fevl]⟩
  | cons q t ih =>
    intro G hG
    rw [fsubl] at hG
    cases h1 : m[q.1]? with
    | none => rw [h1] at hG; cases hG
    | some i =>
      cases h2 : fsubl env m t with
      | none => rw [h1, h2] at hG; cases hG
      | some F =>
        rw [h1, h2] at hG
        cases hG
        obtain ⟨r, g1, g2⟩ := ih F h2
        obtain ⟨z, g3, g4⟩ := hi.at h1
        refine ⟨q.2 * z + r, fevl_cons g3 g1, ?_⟩
        rw [fadd_ok g2 (lin_ok hM g4)]
        congr 1
        omega
theorem fsub_ok {vs zs : List Int} {env : List aE} {m : List Nat} {F G : aF} (hM : eFm vs env) (hi : idv vs m zs) (hs : fsub env m F = some G) : ∃ z, fev zs F = some z ∧ fev vs G = some z := by
  rw [fsub] at hs
  cases h1 : fsubl env m F.1 with
  | none => rw [h1] at hs; cases hs
  | some H =>
    rw [h1] at hs
    cases hs
    obtain ⟨r, g1, g2⟩ := fsubl_ok hM hi _ _ h1
    exact ⟨r + F.2, fev_of g1, fadd1 g2⟩
theorem entA_ok {vs zs : List Int} {env : List aE} {fc : List aF} {m : List Nat} {L : List aF} (he : envOK vs env fc) (hi : idv vs m zs) (ha : entA env fc m L = true) : postOK zs L := by
  intro F hF
  have h1 := List.all_eq_true.mp ha F hF
  cases hs : fsub env m F with
  | none => rw [hs] at h1; cases h1
  | some G =>
    rw [hs] at h1
    obtain ⟨z, g1, g2⟩ := fsub_ok he.2.1 hi hs
    exact ⟨z, g1, ent2_ok he.1 he.2.2 g2 h1⟩
theorem fsubA_ok {vs zs : List Int} {env : List aE} {m : List Nat} (hM : eFm vs env) (hi : idv vs m zs) : ∀ {L G : List aF}, fsubA env m L = some G → (∀ F ∈ L, ∃ z, fev zs F = some z) ∧ (∀ F ∈ L, ∃ H ∈ G, ∀ z, fev zs F = some z → fev vs H = some z) ∧ ∀ H ∈ G, ∃ F ∈ L, ∀ z, fev zs F = some z → fev vs H = some z := by
  intro L
  induction L with
  | nil => intro G hG; rw [fsubA] at hG; cases hG; exact ⟨fun F hF => absurd hF List.not_mem_nil, fun F hF => absurd hF List.not_mem_nil, fun F hF => absurd hF List.not_mem_nil⟩
  | cons F t ih =>
    intro G hG
    rw [fsubA] at hG
    cases h1 : fsub env m F with
    | none => rw [h1] at hG; cases hG
    | some H =>
      cases h2 : fsubA env m t with
      | none => rw [h1, h2] at hG; cases hG
      | some K =>
        rw [h1, h2] at hG
        cases hG
        obtain ⟨z, g1, g2⟩ := fsub_ok hM hi h1
        obtain ⟨i1, i2, i3⟩ := ih h2
        have hz : ∀ w, fev zs F = some w → fev vs H = some w := fun w hw => by
          rw [g1] at hw
          cases hw
          exact g2
        refine ⟨fun F2 hF2 => ?_, fun F2 hF2 => ?_, fun H2 hH2 => ?_⟩
        · rcases List.mem_cons.mp hF2 with rfl | hF2
          · exact ⟨z, g1⟩
          · exact i1 F2 hF2
        · rcases List.mem_cons.mp hF2 with rfl | hF2
          · exact ⟨H, List.mem_cons_self, hz⟩
          · obtain ⟨K2, k1, k2⟩ := i2 F2 hF2
            exact ⟨K2, List.mem_cons_of_mem _ k1, k2⟩
        · rcases List.mem_cons.mp hH2 with rfl | hH2
          · exact ⟨F, List.mem_cons_self, hz⟩
          · obtain ⟨F2, k1, k2⟩ := i3 H2 hH2
            exact ⟨F2, List.mem_cons_of_mem _ k1, k2⟩
section SP
variable {TT : List (List aCT)} {g : jG} {EI : aB → jH → Prop} {W P : List aR} {bk0 : aB} {h0 : jH} {ev : List Int} {y : Nat} {vs : List Int} {bk : aB} {al : List (Option Value)} {st : List Value} {h : jH} {env : List aE} {fc : List aF} {loc : List (Option aV)} {stk : List aV} {ov : List aO} {pr : List Nat}
/-- the bounds of a spec's ids -/
def spBd (sp : List aE) (zs : List Int) : Prop := sp.length = zs.length ∧ ∀ (j : Nat) (e : aE) (z : Int), sp[j]? = some e → zs[j]? = some z → e.1 ≤ z ∧ z ≤ e.2.1
/-- locals by a spec -/
theorem spIds_ok (he : envOK vs env fc) : ∀ (sp : List (Option aT)) (vl : List (Option aV)) (wl : List (Option Value)) (ids : List Nat), spIds env fc vl sp = some ids → (∀ (i : Nat) (v : aV), vl[i]? = some (some v) → ∃ w, wl[i]? = some (some w) ∧ vOK g vs bk v w) →
    ∃ zs, idv vs ids zs ∧ spBd (spEnv sp) zs ∧ ∀ (pre rest : List Int) (i : Nat) (v : aV), (spLoc pre.length sp)[i]? = some (some v) → ∃ w, wl[i]? = some (some w) ∧ vOK g (pre ++ zs ++ rest) bk v w := by
  intro sp
  induction sp with
  | nil =>
    intro vl wl ids hs _
    rw [spIds] at hs
    cases hs
    exact ⟨[], rfl, ⟨rfl, fun j e z hj => by simp [spEnv] at hj⟩, fun pre rest i v hv => by simp [spLoc] at hv⟩
  | cons a t ih =>
    intro vl wl ids hs hv
    cases a with
    | none =>
      have hs2 : spIds env fc vl.tail t = some ids := by
        cases vl with
        | nil => rw [spIds] at hs; exact hs
        | cons b u => rw [spIds] at hs; exact hs
      obtain ⟨zs, i1, i2, i3⟩ := ih vl.tail wl.tail ids hs2 (fun i v hi => by
        cases vl with
        | nil => simp at hi
        | cons b u =>
          obtain ⟨w, g1, g2⟩ := hv (i + 1) v (by simpa using hi)
          exact ⟨w, by cases wl with
            | nil => simp at g1
            | cons c x => simpa using g1, g2⟩)
      refine ⟨zs, i1, i2, fun pre rest i v hi => ?_⟩
      rw [spLoc] at hi
      cases i with
      | zero => simp at hi
      | succ i =>
        obtain ⟨w, g1, g2⟩ := i3 pre rest i v (by simpa using hi)
        exact ⟨w, by cases wl with
          | nil => simp at g1
          | cons c x => simpa using g1, g2⟩
    | some q =>
      cases vl with
      | nil => rw [spIds] at hs; cases hs
      | cons b u =>
        cases b with
        | none => rw [spIds] at hs; cases hs
        | some v0 =>
          rw [spIds] at hs
          obtain ⟨w0, e1, e2⟩ := hv 0 v0 rfl
          cases wl with
          | nil => simp at e1
          | cons c x =>
            have e1 : c = some w0 := by simpa using e1
            subst e1
            cases hr : spIds env fc u t with
            | none => rw [hr] at hs; cases hs
            | some r =>
              rw [hr] at hs
              dsimp only at hs
              obtain ⟨zs, i1, i2, i3⟩ := ih u x r hr (fun i v hi => by
                obtain ⟨w, g1, g2⟩ := hv (i + 1) v (by simpa using hi)
                exact ⟨w, by simpa using g1, g2⟩)
              obtain ⟨qk, qlo, qhi, qB, qo⟩ := q
              obtain ⟨vk, va, vb⟩ := v0
              have num : ∀ (z : Int), qk ≤ 1 → vs[va]? = some z → qlo ≤ z ∧ z ≤ qhi → (∀ (zz : List Int) (n : Nat), zz[n]? = some z → vOK g zz bk (qk, n, 0) w0) → ids = va :: r → ∃ zs, idv vs ids zs ∧ spBd (spEnv (some (qk, qlo, qhi, qB, qo) :: t)) zs ∧ ∀ (pre rest : List Int) (i : Nat) (v : aV), (spLoc pre.length (some (qk, qlo, qhi, qB, qo) :: t))[i]? = some (some v) → ∃ w, (some w0 :: x)[i]? = some (some w) ∧ vOK g (pre ++ zs ++ rest) bk v w := by
                intro z hk hz hb hvk hids
                have hkb : Nat.ble qk 1 = true := Nat.ble_eq_true_of_le hk
                refine ⟨z :: zs, ?_, ?_, fun pre rest i v hi => ?_⟩
                · rw [hids, idv, List.map_cons, List.map_cons, hz, i1]
                · rw [spEnv, hkb]
                  refine ⟨by simp [i2.1], fun j e zz hj hzz => ?_⟩
                  cases j with
                  | zero =>
                    simp only [List.getElem?_cons_zero, Option.some.injEq, cond_true] at hj hzz
                    subst hj
                    subst hzz
                    exact hb
                  | succ j => exact i2.2 j e zz (by simpa using hj) (by simpa using hzz)
                · rw [spLoc, hkb] at hi
                  simp only [cond_true] at hi
                  cases i with
                  | zero =>
                    simp only [List.getElem?_cons_zero, Option.some.injEq] at hi
                    subst hi
                    refine ⟨w0, rfl, hvk _ _ ?_⟩
                    rw [List.append_assoc, List.getElem?_append_right (Nat.le_refl _)]
                    simp
                  | succ i =>
                    have hi2 : (spLoc (pre ++ [z]).length t)[i]? = some (some v) := by simpa using hi
                    obtain ⟨w, g1, g2⟩ := i3 (pre ++ [z]) rest i v hi2
                    exact ⟨w, by simpa using g1, by simpa using g2⟩
              have oth : ∀ (hk : ¬ qk ≤ 1), vOK g vs bk (qk, qB, qo) w0 → (∀ zz, vOK g zz bk (qk, qB, qo) w0) → ids = r → ∃ zs, idv vs ids zs ∧ spBd (spEnv (some (qk, qlo, qhi, qB, qo) :: t)) zs ∧ ∀ (pre rest : List Int) (i : Nat) (v : aV), (spLoc pre.length (some (qk, qlo, qhi, qB, qo) :: t))[i]? = some (some v) → ∃ w, (some w0 :: x)[i]? = some (some w) ∧ vOK g (pre ++ zs ++ rest) bk v w := by
                intro hk _ hvk hids
                have hkb : Nat.ble qk 1 = false := by
                  cases hq : Nat.ble qk 1 with
                  | false => rfl
                  | true => exact absurd (Nat.le_of_ble_eq_true hq) hk
                refine ⟨zs, by rw [hids]; exact i1, by rw [spEnv, hkb]; exact i2, fun pre rest i v hi => ?_⟩
                rw [spLoc, hkb] at hi
                simp only [cond_false] at hi
                cases i with
                | zero =>
                  simp only [List.getElem?_cons_zero, Option.some.injEq] at hi
                  subst hi
                  exact ⟨w0, rfl, hvk _⟩
                | succ i =>
                  obtain ⟨w, g1, g2⟩ := i3 pre rest i v (by simpa using hi)
                  exact ⟨w, by simpa using g1, g2⟩
              match qk, hs with
              | 0, hs =>
                dsimp only at hs
                cases hc : (Nat.beq vk 0 && aWithin env fc va qlo qhi) with
                | false => rw [hc] at hs; cases hs
                | true =>
                  rw [hc] at hs
                  simp only [Bool.and_eq_true] at hc
                  obtain ⟨n, hn, hz⟩ := e2.int hc.1
                  exact num n.toInt (by omega) hz (aWithin_ok he hc.2 hz) (fun zz m hm => ⟨n, hn, hm⟩) (Option.some.inj hs).symm
              | 1, hs =>
                dsimp only at hs
                cases hc : (Nat.beq vk 1 && aWithin env fc va qlo qhi) with
                | false => rw [hc] at hs; cases hs
                | true =>
                  rw [hc] at hs
                  simp only [Bool.and_eq_true] at hc
                  obtain ⟨n, hn, hz⟩ := e2.long hc.1
                  exact num n.toInt (by omega) hz (aWithin_ok he hc.2 hz) (fun zz m hm => ⟨n, hn, hm⟩) (Option.some.inj hs).symm
              | 2, hs =>
                dsimp only at hs
                cases hc : (Nat.beq vk 2 && Nat.beq va qB && Nat.beq vb qo) with
                | false => rw [hc] at hs; cases hs
                | true =>
                  rw [hc] at hs
                  simp only [Bool.and_eq_true] at hc
                  have f1 := Nat.eq_of_beq_eq_true hc.1.1
                  have f2 := Nat.eq_of_beq_eq_true hc.1.2
                  have f3 := Nat.eq_of_beq_eq_true hc.2
                  have hids := (Option.some.inj hs).symm
                  clear hs
                  subst f1
                  subst f2
                  subst f3
                  exact oth (by omega) e2 (fun _ => e2) hids
              | 3, hs =>
                dsimp only at hs
                cases hc : Nat.beq vk 3 with
                | false => rw [hc] at hs; cases hs
                | true =>
                  rw [hc] at hs
                  have f1 := Nat.eq_of_beq_eq_true hc
                  subst f1
                  exact oth (by omega) e2 (fun _ => e2) (Option.some.inj hs).symm
              | n + 4, hs => cases hs
end SP
end
