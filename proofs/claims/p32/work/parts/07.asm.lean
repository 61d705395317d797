/-! what an entry's form and tag say -/
def tgOK (vs : List Int) (e : aE) (z : Int) : Prop :=
  (e.2.2.2.1 = 1 → (z = 1 ∧ ∀ F ∈ e.2.2.2.2.2.2, ∃ w, fev vs F = some w ∧ 0 ≤ w) ∨ (z = 0 ∧ (∀ F ∈ e.2.2.2.2.2.2, ∃ w, fev vs F = some w) ∧ ∃ F ∈ e.2.2.2.2.2.2, ∃ w, fev vs F = some w ∧ w < 0)) ∧
  (e.2.2.2.1 = 2 → ∃ x, vs[e.2.2.2.2.1]? = some x ∧ 0 ≤ x ∧ 0 < e.2.2.2.2.2.1 ∧ z = x / e.2.2.2.2.2.1) ∧
  (e.2.2.2.1 = 3 → ∀ F ∈ e.2.2.2.2.2.2, ∃ w, fev vs F = some w ∧ ((0 < w ∧ z = 1) ∨ (w = 0 ∧ z = 0) ∨ (w < 0 ∧ z = -1)))
def eFm (vs : List Int) (env : List aE) : Prop := ∀ (i : Nat) (e : aE) (z : Int), env[i]? = some e → vs[i]? = some z → (∀ F, e.2.2.1 = some F → fev vs F = some z) ∧ tgOK vs e z
def lin (env : List aE) (i : Nat) : aF := match env[i]? with
  | some e => (match e.2.2.1 with | some F => F | none => ([(i, 1)], 0))
  | none => ([(i, 1)], 0)
theorem fone_ok {vs : List Int} {i : Nat} {z : Int} (h : vs[i]? = some z) : fev vs ([(i, 1)], 0) = some z := by
  rw [fev_of (fevl_cons (q := (i, 1)) h (show fevl vs [] = some 0 from rfl))]
  congr 1
  show 1 * z + 0 + 0 = z
  omega
theorem lin_ok {vs : List Int} {env : List aE} (hF : eFm vs env) {i : Nat} {z : Int} (h : vs[i]? = some z) : fev vs (lin env i) = some z := by
  rw [lin]
  cases h1 : env[i]? with
  | none => exact fone_ok h
  | some e =>
    dsimp only
    cases h2 : e.2.2.1 with
    | none => exact fone_ok h
    | some F => exact (hF i e z h1 h).1 F h2
/-- one id's bounds, F not negative; none: it can't be -/
def tgt1 (env : List aE) (F : aF) (q : Nat × Int) : Option (List aE) := match env[q.1]?, flb env (fmul (-1) (fadd (-1) F ([q], 0))) with
  | some e, some nb =>
    bif decide (0 < q.2) then
      (bif decide (e.2.1 < -((-nb) / q.2)) then none else bif decide (e.1 < -((-nb) / q.2)) then some (env.set q.1 (-((-nb) / q.2), e.2)) else some env)
    else bif decide (q.2 < 0) then
      (bif decide ((-nb) / (-q.2) < e.1) then none else bif decide ((-nb) / (-q.2) < e.2.1) then some (env.set q.1 (e.1, (-nb) / (-q.2), e.2.2)) else some env)
    else some env
  | _, _ => some env
def eSame (env env' : List aE) : Prop := env'.length = env.length ∧ ∀ (i : Nat) (e' : aE), env'[i]? = some e' → ∃ e, env[i]? = some e ∧ e'.2.2 = e.2.2
theorem eSame.rf {env : List aE} : eSame env env := ⟨rfl, fun _ e h => ⟨e, h, rfl⟩⟩
theorem eSame.tr {a b c : List aE} (h1 : eSame a b) (h2 : eSame b c) : eSame a c := ⟨h2.1.trans h1.1, fun i e h => by
  obtain ⟨e1, g1, g2⟩ := h2.2 i e h
  obtain ⟨e0, g3, g4⟩ := h1.2 i e1 g1
  exact ⟨e0, g3, g2.trans g4⟩⟩
theorem eSame.set {env : List aE} {i : Nat} {e e' : aE} (h : env[i]? = some e) (h2 : e'.2.2 = e.2.2) : eSame env (env.set i e') := by
  refine ⟨List.length_set .., fun j x hx => ?_⟩
  by_cases hj : i = j
  · subst hj
    rw [List.getElem?_set_self (List.getElem?_eq_some_iff.mp h).1] at hx
    cases hx
    exact ⟨e, h, h2⟩
  · rw [List.getElem?_set_ne hj] at hx
    exact ⟨x, hx, rfl⟩
theorem eFm.same {vs : List Int} {env env' : List aE} (h : eFm vs env) (hs : eSame env env') : eFm vs env' := fun i e z he hz => by
  obtain ⟨e0, h0, h1⟩ := hs.2 i e he
  obtain ⟨g1, g2, g3, g4⟩ := h i e0 z h0 hz
  refine ⟨fun F hF => g1 F (by rw [← h1]; exact hF), ?_, ?_, ?_⟩
  · rw [h1]; exact g2
  · rw [h1]; exact g3
  · rw [h1]; exact g4
theorem eIv.set {vs : List Int} {env : List aE} {i : Nat} {e' : aE} (h : eIv vs env) (hz : ∀ z, vs[i]? = some z → e'.1 ≤ z ∧ z ≤ e'.2.1) : eIv vs (env.set i e') := by
  refine ⟨by rw [List.length_set]; exact h.1, fun j x z hx hv => ?_⟩
  by_cases hj : i = j
  · subst hj
    have hi : i < env.length := by
      have := (List.getElem?_eq_some_iff.mp hx).1
      rw [List.length_set] at this
      exact this
    rw [List.getElem?_set_self hi] at hx
    cases hx
    exact hz z hv
  · rw [List.getElem?_set_ne hj] at hx
    exact h.2 j x z hx hv
theorem tgt1_ok {vs : List Int} {env : List aE} {F : aF} {q : Nat × Int} {z : Int} (hE : eIv vs env) (hF : fev vs F = some z) (hz : 0 ≤ z) : ∃ env', tgt1 env F q = some env' ∧ eIv vs env' ∧ eSame env env' := by
  rw [tgt1]
  cases h1 : env[q.1]? with
  | none => exact ⟨env, rfl, hE, eSame.rf⟩
  | some e =>
    cases h2 : flb env (fmul (-1) (fadd (-1) F ([q], 0))) with
    | none => exact ⟨env, rfl, hE, eSame.rf⟩
    | some nb =>
      dsimp only
      have hlt : q.1 < vs.length := by rw [← hE.1]; exact (List.getElem?_eq_some_iff.mp h1).1
      have hx : vs[q.1]? = some vs[q.1] := List.getElem?_eq_getElem hlt
      generalize vs[q.1] = x at hx
      obtain ⟨b1, b2⟩ := hE.2 q.1 e x h1 hx
      obtain ⟨w, hw, hb⟩ := flb_ok hE h2
      have hq : fev vs ([q], 0) = some (q.2 * x + 0 + 0) := fev_of (fevl_cons hx rfl)
      rw [fmul_ok (fadd_ok hF hq)] at hw
      have hw : w = -1 * (z + -1 * (q.2 * x + 0 + 0)) := (Option.some.inj hw).symm
      have key : -(q.2 * x) ≤ -nb := by omega
      by_cases hp : 0 < q.2
      · simp only [hp, decide_true, cond_true]
        have h3 : -x ≤ -nb / q.2 := by
          apply (Int.le_ediv_iff_mul_le hp).mpr
          rw [Int.neg_mul, Int.mul_comm]
          exact key
        have h4 : ¬ e.2.1 < -(-nb / q.2) := by omega
        simp only [h4, decide_false, cond_false]
        by_cases h5 : e.1 < -(-nb / q.2)
        · simp only [h5, decide_true, cond_true]
          refine ⟨_, rfl, hE.set (fun y hy => ?_), eSame.set h1 rfl⟩
          cases hx.symm.trans hy
          exact ⟨by show -(-nb / q.2) ≤ x; omega, b2⟩
        · simp only [h5, decide_false, cond_false]
          exact ⟨env, rfl, hE, eSame.rf⟩
      · simp only [hp, decide_false, cond_false]
        by_cases hn : q.2 < 0
        · simp only [hn, decide_true, cond_true]
          have h3 : x ≤ -nb / -q.2 := by
            apply (Int.le_ediv_iff_mul_le (by omega)).mpr
            rw [Int.mul_neg, Int.mul_comm]
            exact key
          have h4 : ¬ -nb / -q.2 < e.1 := by omega
          simp only [h4, decide_false, cond_false]
          by_cases h5 : -nb / -q.2 < e.2.1
          · simp only [h5, decide_true, cond_true]
            refine ⟨_, rfl, hE.set (fun y hy => ?_), eSame.set h1 rfl⟩
            cases hx.symm.trans hy
            exact ⟨b1, h3⟩
          · simp only [h5, decide_false, cond_false]
            exact ⟨env, rfl, hE, eSame.rf⟩
        · simp only [hn, decide_false, cond_false]
          exact ⟨env, rfl, hE, eSame.rf⟩
def asml (F : aF) : List (Nat × Int) → List aE → Option (List aE)
  | [], env => some env
  | q :: t, env => match tgt1 env F q with
    | none => none
    | some env' => asml F t env'
theorem asml_ok {vs : List Int} {F : aF} {z : Int} (hF : fev vs F = some z) (hz : 0 ≤ z) : ∀ (l : List (Nat × Int)) (env : List aE), eIv vs env → ∃ env', asml F l env = some env' ∧ eIv vs env' ∧ eSame env env' := by
  intro l
  induction l with
  | nil => intro env hE; exact ⟨env, rfl, hE, eSame.rf⟩
  | cons q t ih =>
    intro env hE
    obtain ⟨e1, h1, h2, h3⟩ := tgt1_ok (q := q) hE hF hz
    obtain ⟨e2, h4, h5, h6⟩ := ih e1 h2
    exact ⟨e2, by rw [asml, h1]; exact h4, h5, h3.tr h6⟩
/-- a fact speaks against F -/
def asmX (env : List aE) (fc : List aF) (F : aF) : Bool := match F.1 with
  | _ :: _ :: _ => fc.any (fun G => match flb env (fmul (-1) (fadd 1 F G)) with
    | some c => decide (0 < c)
    | none => false)
  | _ => false
theorem asmX_ok {vs : List Int} {env : List aE} {fc : List aF} {F : aF} {z : Int} (hE : eIv vs env) (hC : fcOK vs fc) (hF : fev vs F = some z) (hz : 0 ≤ z) : asmX env fc F = false := by
  rw [asmX]
  split
  · cases h : fc.any (fun G => match flb env (fmul (-1) (fadd 1 F G)) with
      | some c => decide (0 < c)
      | none => false) with
    | false => rfl
    | true =>
      exfalso
      obtain ⟨G, hG, h⟩ := List.any_eq_true.mp h
      obtain ⟨y, hy, hy0⟩ := hC G hG
      cases h2 : flb env (fmul (-1) (fadd 1 F G)) with
      | none => rw [h2] at h; cases h
      | some c =>
        rw [h2] at h
        have h : 0 < c := by simpa using h
        obtain ⟨w, hw, hcw⟩ := flb_ok hE h2
        rw [fmul_ok (fadd_ok hF hy)] at hw
        have := Option.some.inj hw
        omega
  · rfl
/-- F isn't negative, from here on; none: it can't be -/
def asm (env : List aE) (fc : List aF) (F : aF) : Option (List aE × List aF) := match asml F F.1 env with
  | none => none
  | some env' => match flb env' (fmul (-1) F) with
    | none => some (env', fc)
    | some b => bif decide (0 < b) then none else bif asmX env' fc F then none else some (env', match F.1 with | _ :: _ :: _ => F :: fc | _ => fc)
theorem asm_ok {vs : List Int} {env : List aE} {fc : List aF} {F : aF} {z : Int} (hE : eIv vs env) (hM : eFm vs env) (hC : fcOK vs fc) (hF : fev vs F = some z) (hz : 0 ≤ z) : ∃ env' fc', asm env fc F = some (env', fc') ∧ eIv vs env' ∧ eFm vs env' ∧ fcOK vs fc' ∧ eSame env env' := by
  obtain ⟨env', h1, h2, h3⟩ := asml_ok hF hz F.1 env hE
  rw [asm, h1]
  dsimp only
  cases h4 : flb env' (fmul (-1) F) with
  | none => exact ⟨env', fc, rfl, h2, hM.same h3, hC, h3⟩
  | some b =>
    dsimp only
    obtain ⟨w, hw, hb⟩ := flb_ok h2 h4
    rw [fmul_ok hF] at hw
    have hw : w = -1 * z := (Option.some.inj hw).symm
    have hb0 : ¬ 0 < b := by omega
    simp only [hb0, decide_false, cond_false, asmX_ok h2 hC hF hz]
    refine ⟨env', _, rfl, h2, hM.same h3, ?_, h3⟩
    have hc2 : fcOK vs (F :: fc) := fun G hG => by
      rcases List.mem_cons.mp hG with rfl | h
      · exact ⟨z, hF, hz⟩
      · exact hC G h
    split
    · exact hc2
    · exact hC
/-- bounds of an id, by its form and the facts too -/
def bmx (a : Int) (b : Option Int) : Int := match b with | some c => bif decide (a < c) then c else a | none => a
def bmn (a : Int) (b : Option Int) : Int := match b with | some c => bif decide (-c < a) then -c else a | none => a
def aivf (env : List aE) (F N : aF) : List aF → Int → Int → Int × Int
  | [], lo, hi => (lo, hi)
  | G :: t, lo, hi => aivf env F N t (bmx lo (flb env (fadd (-1) F G))) (bmn hi (flb env (fadd (-1) N G)))
def aiv (env : List aE) (fc : List aF) (i : Nat) : Option (Int × Int) := match env[i]? with
  | none => none
  | some e => match e.2.2.1 with
    | none => some (e.1, e.2.1)
    | some F => match F.1 with
      | _ :: _ :: _ => some (aivf env F (fmul (-1) F) fc (bmx e.1 (flb env F)) (bmn e.2.1 (flb env (fmul (-1) F))))
      | _ => some (bmx e.1 (flb env F), bmn e.2.1 (flb env (fmul (-1) F)))
theorem bmx_ok {a z : Int} {b : Option Int} (h1 : a ≤ z) (h2 : ∀ c, b = some c → c ≤ z) : bmx a b ≤ z := by
  cases b with
  | none => exact h1
  | some c =>
    have := h2 c rfl
    simp only [bmx]
    cases h : decide (a < c) <;> simp <;> assumption
theorem bmn_ok {a z : Int} {b : Option Int} (h1 : z ≤ a) (h2 : ∀ c, b = some c → c ≤ -z) : z ≤ bmn a b := by
  cases b with
  | none => exact h1
  | some c =>
    have := h2 c rfl
    simp only [bmn]
    cases h : decide (-c < a) <;> simp <;> omega
theorem aivf_ok {vs : List Int} {env : List aE} {F N : aF} {z : Int} (hE : eIv vs env) (hF : fev vs F = some z) (hN : fev vs N = some (-z)) : ∀ (fc : List aF), fcOK vs fc → ∀ lo hi : Int, lo ≤ z → z ≤ hi → (aivf env F N fc lo hi).1 ≤ z ∧ z ≤ (aivf env F N fc lo hi).2 := by
  intro fc
  induction fc with
  | nil => intro _ lo hi h1 h2; exact ⟨h1, h2⟩
  | cons G t ih =>
    intro hC lo hi h1 h2
    obtain ⟨y, hy, hy0⟩ := hC G List.mem_cons_self
    rw [aivf]
    apply ih (fun F hF => hC F (List.mem_cons_of_mem _ hF))
    · refine bmx_ok h1 (fun c hc => ?_)
      obtain ⟨w, hw, hb⟩ := flb_ok hE hc
      rw [fadd_ok hF hy] at hw
      have := (Option.some.inj hw).symm
      omega
    · refine bmn_ok h2 (fun c hc => ?_)
      obtain ⟨w, hw, hb⟩ := flb_ok hE hc
      rw [fadd_ok hN hy] at hw
      have := (Option.some.inj hw).symm
      omega
theorem aiv_ok {vs : List Int} {env : List aE} {fc : List aF} {i : Nat} {lo hi z : Int} (hE : eIv vs env) (hM : eFm vs env) (hC : fcOK vs fc) (h : aiv env fc i = some (lo, hi)) (hz : vs[i]? = some z) : lo ≤ z ∧ z ≤ hi := by
  rw [aiv] at h
  cases h1 : env[i]? with
  | none => rw [h1] at h; simp at h
  | some e =>
    rw [h1] at h
    dsimp only at h
    obtain ⟨b1, b2⟩ := hE.2 i e z h1 hz
    cases h2 : e.2.2.1 with
    | none =>
      rw [h2] at h
      cases h
      exact ⟨b1, b2⟩
    | some F =>
      rw [h2] at h
      dsimp only at h
      have hF := (hM i e z h1 hz).1 F h2
      have hN : fev vs (fmul (-1) F) = some (-z) := by rw [fmul_ok hF]; congr 1; omega
      have g1 : bmx e.1 (flb env F) ≤ z := bmx_ok b1 (fun c hc => by
        obtain ⟨w, hw, hb⟩ := flb_ok hE hc
        rw [hF] at hw
        cases hw
        exact hb)
      have g2 : z ≤ bmn e.2.1 (flb env (fmul (-1) F)) := bmn_ok b2 (fun c hc => by
        obtain ⟨w, hw, hb⟩ := flb_ok hE hc
        rw [hN] at hw
        cases hw
        exact hb)
      split at h
      · have h := Option.some.inj h
        have g3 := aivf_ok hE hF hN fc hC _ _ g1 g2
        rw [h] at g3
        exact g3
      · cases h
        exact ⟨g1, g2⟩
