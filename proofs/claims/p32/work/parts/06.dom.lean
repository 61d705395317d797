/-! THE CHECKER'S DOMAIN: values have numbers (ids); an id has bounds, maybe a linear form over other ids; facts are linear forms that aren't negative. -/
abbrev aF : Type := List (Nat × Int) × Int
def fevl (vs : List Int) : List (Nat × Int) → Option Int
  | [] => some 0
  | q :: t => match vs[q.1]?, fevl vs t with
    | some z, some r => some (q.2 * z + r)
    | _, _ => none
def fev (vs : List Int) (F : aF) : Option Int := (fevl vs F.1).map (fun r => r + F.2)
def fins (i : Nat) (c : Int) : List (Nat × Int) → List (Nat × Int)
  | [] => [(i, c)]
  | q :: t => bif Nat.beq i q.1 then (bif decide (c + q.2 = 0) then t else (i, c + q.2) :: t) else bif Nat.blt i q.1 then (i, c) :: q :: t else q :: fins i c t
def faddl (m : Int) (F : List (Nat × Int)) : List (Nat × Int) → List (Nat × Int)
  | [] => F
  | q :: t => fins q.1 (m * q.2) (faddl m F t)
/-- F + m G -/
def fadd (m : Int) (F G : aF) : aF := (faddl m F.1 G.1, F.2 + m * G.2)
def fmul (m : Int) (F : aF) : aF := (F.1.map (fun q => (q.1, m * q.2)), m * F.2)
def fcon (c : Int) : aF := ([], c)
/-- bounds, form, tag (0 none; 1 a test: 1 if all forms hold, else 0; 2 the quotient of id by c; 3 a comparison's form) -/
abbrev aE : Type := Int × Int × Option aF × Nat × Nat × Int × List aF
def flbl (env : List aE) : List (Nat × Int) → Option Int
  | [] => some 0
  | q :: t => match env[q.1]?, flbl env t with
    | some e, some r => some ((bif decide (0 ≤ q.2) then q.2 * e.1 else q.2 * e.2.1) + r)
    | _, _ => none
def flb (env : List aE) (F : aF) : Option Int := (flbl env F.1).map (fun r => r + F.2)
theorem fevl_some {vs : List Int} {q : Nat × Int} {t : List (Nat × Int)} {z : Int} (h : fevl vs (q :: t) = some z) : ∃ x r, vs[q.1]? = some x ∧ fevl vs t = some r ∧ z = q.2 * x + r := by
  rw [fevl] at h
  cases h1 : vs[q.1]? with
  | none => rw [h1] at h; simp at h
  | some x =>
    cases h2 : fevl vs t with
    | none => rw [h1, h2] at h; simp at h
    | some r => rw [h1, h2] at h; exact ⟨x, r, rfl, rfl, (Option.some.inj h).symm⟩
theorem fevl_cons {vs : List Int} {q : Nat × Int} {t : List (Nat × Int)} {x r : Int} (h1 : vs[q.1]? = some x) (h2 : fevl vs t = some r) : fevl vs (q :: t) = some (q.2 * x + r) := by
  rw [fevl, h1, h2]
theorem fins_ok {vs : List Int} {i : Nat} {c x : Int} (hx : vs[i]? = some x) : ∀ (l : List (Nat × Int)) (r : Int), fevl vs l = some r → fevl vs (fins i c l) = some (c * x + r) := by
  intro l
  induction l with
  | nil => intro r h; rw [fins]; exact fevl_cons hx h
  | cons q t ih =>
    intro r h
    obtain ⟨x2, r2, h1, h2, rfl⟩ := fevl_some h
    rw [fins]
    cases hb : Nat.beq i q.1 with
    | true =>
      have hi : i = q.1 := Nat.eq_of_beq_eq_true hb
      rw [← hi] at h1
      cases hx.symm.trans h1
      simp only [cond_true]
      by_cases hz : c + q.2 = 0
      · simp only [hz, decide_true, cond_true]
        rw [h2]
        congr 1
        have : c * x + (q.2 * x + r2) = (c + q.2) * x + r2 := by rw [Int.add_mul]; omega
        rw [this, hz]; omega
      · simp only [hz, decide_false, cond_false]
        rw [fevl_cons (q := (i, c + q.2)) hx h2]
        congr 1
        show (c + q.2) * x + r2 = _
        rw [Int.add_mul]; omega
    | false =>
      simp only [cond_false]
      cases hl : Nat.blt i q.1 with
      | true =>
        simp only [cond_true]
        exact fevl_cons (q := (i, c)) hx h
      | false =>
        simp only [cond_false]
        rw [fevl_cons h1 (ih r2 h2)]
        congr 1
        omega
theorem faddl_ok {vs : List Int} {m : Int} {F : List (Nat × Int)} {a : Int} (hF : fevl vs F = some a) : ∀ (G : List (Nat × Int)) (b : Int), fevl vs G = some b → fevl vs (faddl m F G) = some (a + m * b) := by
  intro G
  induction G with
  | nil => intro b h; rw [fevl] at h; cases h; rw [faddl, hF]; simp
  | cons q t ih =>
    intro b h
    obtain ⟨x, r, h1, h2, rfl⟩ := fevl_some h
    rw [faddl, fins_ok h1 _ _ (ih r h2)]
    congr 1
    rw [Int.mul_add, Int.mul_assoc]; omega
theorem fev_some {vs : List Int} {F : aF} {z : Int} (h : fev vs F = some z) : ∃ r, fevl vs F.1 = some r ∧ z = r + F.2 := by
  rw [fev] at h
  cases h1 : fevl vs F.1 with
  | none => rw [h1] at h; simp at h
  | some r => rw [h1] at h; exact ⟨r, rfl, by simpa using h.symm⟩
theorem fev_of {vs : List Int} {F : aF} {r : Int} (h : fevl vs F.1 = some r) : fev vs F = some (r + F.2) := by rw [fev, h]; rfl
theorem fadd_ok {vs : List Int} {m : Int} {F G : aF} {a b : Int} (hF : fev vs F = some a) (hG : fev vs G = some b) : fev vs (fadd m F G) = some (a + m * b) := by
  obtain ⟨r, h1, rfl⟩ := fev_some hF
  obtain ⟨r2, h2, rfl⟩ := fev_some hG
  rw [fadd, fev_of (faddl_ok h1 _ _ h2)]
  congr 1
  show r + m * r2 + (F.2 + m * G.2) = _
  rw [Int.mul_add]; omega
theorem fmul_ok {vs : List Int} {m : Int} {F : aF} {a : Int} (hF : fev vs F = some a) : fev vs (fmul m F) = some (m * a) := by
  obtain ⟨r, h1, rfl⟩ := fev_some hF
  have key : ∀ (l : List (Nat × Int)) (r : Int), fevl vs l = some r → fevl vs (l.map (fun q => (q.1, m * q.2))) = some (m * r) := by
    intro l
    induction l with
    | nil => intro r h; rw [fevl] at h; cases h; simp [fevl]
    | cons q t ih =>
      intro r h
      obtain ⟨x, r2, h1, h2, rfl⟩ := fevl_some h
      rw [List.map_cons, fevl_cons (q := (q.1, m * q.2)) h1 (ih r2 h2)]
      congr 1
      show m * q.2 * x + m * r2 = _
      rw [Int.mul_add, Int.mul_assoc]
  rw [fmul, fev_of (key _ _ h1)]
  congr 1
  show m * r + m * F.2 = _
  rw [Int.mul_add]
theorem fcon_ok {vs : List Int} {c : Int} : fev vs (fcon c) = some c := by simp [fcon, fev, fevl]
/-- more values: what had a value keeps it -/
theorem fev_app {vs ws : List Int} {F : aF} {z : Int} (h : fev vs F = some z) : fev (vs ++ ws) F = some z := by
  obtain ⟨r, h1, rfl⟩ := fev_some h
  have key : ∀ (l : List (Nat × Int)) (r : Int), fevl vs l = some r → fevl (vs ++ ws) l = some r := by
    intro l
    induction l with
    | nil => intro r h; exact h
    | cons q t ih =>
      intro r h
      obtain ⟨x, r2, h1, h2, rfl⟩ := fevl_some h
      refine fevl_cons ?_ (ih r2 h2)
      rw [List.getElem?_append_left ((List.getElem?_eq_some_iff.mp h1).1)]
      exact h1
  exact fev_of (key _ _ h1)
/-- an entry and its value -/
def eIv (vs : List Int) (env : List aE) : Prop := env.length = vs.length ∧ ∀ (i : Nat) (e : aE) (z : Int), env[i]? = some e → vs[i]? = some z → e.1 ≤ z ∧ z ≤ e.2.1
theorem flbl_ok {vs : List Int} {env : List aE} (hE : eIv vs env) : ∀ (l : List (Nat × Int)) (b : Int), flbl env l = some b → ∃ z, fevl vs l = some z ∧ b ≤ z := by
  intro l
  induction l with
  | nil => intro b h; rw [flbl] at h; cases h; exact ⟨0, rfl, Int.le_refl _⟩
  | cons q t ih =>
    intro b h
    rw [flbl] at h
    cases h1 : env[q.1]? with
    | none => rw [h1] at h; simp at h
    | some e =>
      cases h2 : flbl env t with
      | none => rw [h1, h2] at h; simp at h
      | some r =>
        rw [h1, h2] at h
        have h := (Option.some.inj h).symm
        obtain ⟨z, hz, hzr⟩ := ih r h2
        have hlt : q.1 < vs.length := by rw [← hE.1]; exact (List.getElem?_eq_some_iff.mp h1).1
        have hx : vs[q.1]? = some vs[q.1] := List.getElem?_eq_getElem hlt
        obtain ⟨g1, g2⟩ := hE.2 q.1 e _ h1 hx
        refine ⟨_, fevl_cons hx hz, ?_⟩
        rw [h]
        by_cases hq : 0 ≤ q.2
        · simp only [hq, decide_true, cond_true]
          have := Int.mul_le_mul_of_nonneg_left g1 hq
          omega
        · simp only [hq, decide_false, cond_false]
          have := Int.mul_le_mul_of_nonpos_left (a := q.2) (by omega) g2
          omega
theorem flb_ok {vs : List Int} {env : List aE} (hE : eIv vs env) {F : aF} {b : Int} (h : flb env F = some b) : ∃ z, fev vs F = some z ∧ b ≤ z := by
  rw [flb] at h
  cases h1 : flbl env F.1 with
  | none => rw [h1] at h; simp at h
  | some r =>
    rw [h1] at h
    have h : b = r + F.2 := by simpa using h.symm
    obtain ⟨z, hz, hr⟩ := flbl_ok hE _ _ h1
    exact ⟨_, fev_of hz, by omega⟩
/-- facts hold -/
def fcOK (vs : List Int) (fc : List aF) : Prop := ∀ F ∈ fc, ∃ z, fev vs F = some z ∧ 0 ≤ z
def fco (l : List (Nat × Int)) (i : Nat) : Int := match l with
  | [] => 0
  | q :: t => bif Nat.beq q.1 i then q.2 else fco t i
def entm (env : List aE) (F G : aF) (m : Int) : Bool := match flb env (fadd (-1) (fmul m F) G) with
  | some b => decide (-m < b)
  | none => false
def entr (env : List aE) (F G : aF) : Bool := match G.1 with
  | [] => false
  | q :: _ => bif decide (q.2 = 0) then false else
    bif decide (fco F.1 q.1 % q.2 = 0) && decide (1 < fco F.1 q.1 / q.2) then
      (match flb env (fadd (-(fco F.1 q.1 / q.2)) F G) with
      | some b => decide (0 ≤ b)
      | none => false)
    else false
/-- F isn't negative -/
def ent (env : List aE) (fc : List aF) (F : aF) : Bool := match flb env F with
  | some b => decide (0 ≤ b) || fc.any (fun G => entm env F G 1 || entm env F G 2 || entm env F G 3 || entr env F G)
  | none => false
theorem ent_ok {vs : List Int} {env : List aE} {fc : List aF} (hE : eIv vs env) (hC : fcOK vs fc) {F : aF} (h : ent env fc F = true) : ∃ z, fev vs F = some z ∧ 0 ≤ z := by
  rw [ent] at h
  cases h1 : flb env F with
  | none => rw [h1] at h; simp at h
  | some b =>
    rw [h1] at h
    obtain ⟨z, hz, hb⟩ := flb_ok hE h1
    refine ⟨z, hz, ?_⟩
    simp only [Bool.or_eq_true, decide_eq_true_eq, List.any_eq_true] at h
    rcases h with h | ⟨G, hG, h⟩
    · omega
    · obtain ⟨y, hy, hy0⟩ := hC G hG
      have em : ∀ m : Int, 0 < m → entm env F G m = true → 0 ≤ z := by
        intro m hm he
        rw [entm] at he
        cases h2 : flb env (fadd (-1) (fmul m F) G) with
        | none => rw [h2] at he; simp at he
        | some b2 =>
          rw [h2] at he
          have he : -m < b2 := by simpa using he
          obtain ⟨w, hw, hbw⟩ := flb_ok hE h2
          rw [fadd_ok (fmul_ok hz) hy] at hw
          have hw : w = m * z + -1 * y := (Option.some.inj hw).symm
          by_cases hz0 : 0 ≤ z
          · exact hz0
          · exfalso
            have h3 : m * z ≤ m * (-1) := Int.mul_le_mul_of_nonneg_left (by omega) (by omega)
            omega
      rcases h with ((h | h) | h) | h
      · exact em 1 (by decide) h
      · exact em 2 (by decide) h
      · exact em 3 (by decide) h
      · rw [entr] at h
        cases hG1 : G.1 with
        | nil => rw [hG1] at h; simp at h
        | cons q t =>
          rw [hG1] at h
          dsimp only at h
          cases hq : decide (q.2 = 0) with
          | true => rw [hq] at h; simp at h
          | false =>
            rw [hq] at h
            simp only [cond_false] at h
            cases hr : (decide (fco F.1 q.1 % q.2 = 0) && decide (1 < fco F.1 q.1 / q.2)) with
            | false => rw [hr] at h; simp at h
            | true =>
              rw [hr] at h
              simp only [cond_true] at h
              cases h2 : flb env (fadd (-(fco F.1 q.1 / q.2)) F G) with
              | none => rw [h2] at h; simp at h
              | some b2 =>
                rw [h2] at h
                have h : 0 ≤ b2 := by simpa using h
                obtain ⟨w, hw, hbw⟩ := flb_ok hE h2
                rw [fadd_ok hz hy] at hw
                have hw : w = z + -(fco F.1 q.1 / q.2) * y := (Option.some.inj hw).symm
                simp only [Bool.and_eq_true, decide_eq_true_eq] at hr
                have h4 : 0 ≤ (fco F.1 q.1 / q.2) * y := Int.mul_nonneg (by omega) hy0
                rw [Int.neg_mul] at hw
                omega
/-- F isn't negative, by two facts at once -/
def ent2 (env : List aE) (fc : List aF) (F : aF) : Bool := ent env fc F || fc.any (fun G => fc.any (fun G2 => match flb env (fadd (-1) (fadd (-1) F G) G2) with
  | some b => decide (0 ≤ b)
  | none => false))
theorem ent2_ok {vs : List Int} {env : List aE} {fc : List aF} (hE : eIv vs env) (hC : fcOK vs fc) {F : aF} {z : Int} (hz : fev vs F = some z) (h : ent2 env fc F = true) : 0 ≤ z := by
  rw [ent2, Bool.or_eq_true] at h
  rcases h with h | h
  · obtain ⟨w, h1, h2⟩ := ent_ok hE hC h
    cases hz.symm.trans h1
    exact h2
  · obtain ⟨G, hG, h⟩ := List.any_eq_true.mp h
    obtain ⟨G2, hG2, h⟩ := List.any_eq_true.mp h
    obtain ⟨y, hy, hy0⟩ := hC G hG
    obtain ⟨x, hx, hx0⟩ := hC G2 hG2
    cases h2 : flb env (fadd (-1) (fadd (-1) F G) G2) with
    | none => rw [h2] at h; cases h
    | some b =>
      rw [h2] at h
      have h3 : 0 ≤ b := by simpa using h
      obtain ⟨w, hw, hbw⟩ := flb_ok hE h2
      rw [fadd_ok (fadd_ok hz hy) hx] at hw
      have hw2 := Option.some.inj hw
      omega
