/-- what a new entry says of its value -/
def eVal (vs : List Int) (e : aE) (z : Int) : Prop := (e.1 ≤ z ∧ z ≤ e.2.1) ∧ (∀ F, e.2.2.1 = some F → fev vs F = some z) ∧ tgOK vs e z
theorem eVal.any32 {vs : List Int} (x : Int32) : eVal vs (eNew (-2147483648 : Int) (2147483647 : Int) none) x.toInt := ⟨⟨i32_lo x, i32_hi x⟩, (fun F q => by cases q), tg0⟩
theorem eVal.any64 {vs : List Int} (x : Int64) : eVal vs (eNew (-9223372036854775808 : Int) (9223372036854775807 : Int) none) x.toInt := ⟨⟨i64_lo x, i64_hi x⟩, (fun F q => by cases q), tg0⟩
theorem eVal.bd {vs : List Int} {lo hi z : Int} (h1 : lo ≤ z) (h2 : z ≤ hi) : eVal vs (eNew lo hi none) z := ⟨⟨h1, h2⟩, (fun F q => by cases q), tg0⟩
theorem eVal.fm {vs : List Int} {lo hi z : Int} {F : aF} (h1 : lo ≤ z) (h2 : z ≤ hi) (h3 : fev vs F = some z) : eVal vs (eNew lo hi (some F)) z := ⟨⟨h1, h2⟩, (fun G q => by cases q; exact h3), tg0⟩
theorem eVal.fo {vs : List Int} {lo hi z : Int} {F : Option aF} (h1 : lo ≤ z) (h2 : z ≤ hi) (h3 : ∀ G, F = some G → fev vs G = some z) : eVal vs (eNew lo hi F) z := ⟨⟨h1, h2⟩, (fun G q => h3 G q), tg0⟩
theorem aiv2 {env : List aE} {fc : List aF} {x y : Nat} {β : Type} {f : Int × Int → Int × Int → Option β} {e : β} (h : (match aiv env fc x, aiv env fc y with | some a, some b => f a b | _, _ => none) = some e) : ∃ a b, aiv env fc x = some a ∧ aiv env fc y = some b ∧ f a b = some e := by
  cases q1 : aiv env fc x with
  | none => rw [q1] at h; simp at h
  | some a =>
    cases q2 : aiv env fc y with
    | none => rw [q1, q2] at h; simp at h
    | some b => rw [q1, q2] at h; exact ⟨a, b, rfl, rfl, h⟩
section AR
variable {vs : List Int} {env : List aE} {fc : List aF} {x y : Nat} {e : aE}
theorem aDif_ok32 {a b : Int32} (h1 : eIv vs env) (h2 : eFm vs env) (h3 : fcOK vs fc) (hx : vs[x]? = some a.toInt) (hy : vs[y]? = some b.toInt) (h : aDif (-2147483648 : Int) (2147483647 : Int) env fc x y = some e) : eVal vs e (a - b).toInt := by
  obtain ⟨p, r, q1, q2, h⟩ := aiv2 h
  have b1 := aiv_ok h1 h2 h3 q1 hx
  have b2 := aiv_ok h1 h2 h3 q2 hy
  cases hc : (decide ((-2147483648 : Int) ≤ p.1 - r.2) && decide (p.2 - r.1 ≤ (2147483647 : Int))) with
  | false => rw [hc] at h; cases h; exact eVal.any32 _
  | true =>
    rw [hc] at h
    cases h
    simp only [Bool.and_eq_true, decide_eq_true_eq] at hc
    have e1 := i32_sub (x := a) (y := b) (by omega) (by omega)
    have hF : fev vs (fadd (-1) (lin env x) (lin env y)) = some (a.toInt - b.toInt) := by
      rw [fadd_ok (lin_ok h2 hx) (lin_ok h2 hy)]; congr 1; omega
    rw [e1]
    refine eVal.fm ?_ ?_ hF
    · cases hq : (decide (p.1 - r.2 < 0) && ent env fc (fadd (-1) (lin env x) (lin env y))) with
      | false => simp only [cond_false]; omega
      | true =>
        simp only [cond_true]
        simp only [Bool.and_eq_true] at hq
        obtain ⟨z, hz, hz0⟩ := ent_ok h1 h3 hq.2
        rw [hF] at hz
        cases hz
        exact hz0
    · cases hq : (decide (0 < p.2 - r.1) && ent env fc (fmul (-1) (fadd (-1) (lin env x) (lin env y)))) with
      | false => simp only [cond_false]; omega
      | true =>
        simp only [cond_true]
        simp only [Bool.and_eq_true] at hq
        obtain ⟨z, hz, hz0⟩ := ent_ok h1 h3 hq.2
        rw [fmul_ok hF] at hz
        cases hz
        omega
theorem aDif_ok64 {a b : Int64} (h1 : eIv vs env) (h2 : eFm vs env) (h3 : fcOK vs fc) (hx : vs[x]? = some a.toInt) (hy : vs[y]? = some b.toInt) (h : aDif (-9223372036854775808 : Int) (9223372036854775807 : Int) env fc x y = some e) : eVal vs e (a - b).toInt := by
  obtain ⟨p, r, q1, q2, h⟩ := aiv2 h
  have b1 := aiv_ok h1 h2 h3 q1 hx
  have b2 := aiv_ok h1 h2 h3 q2 hy
  cases hc : (decide ((-9223372036854775808 : Int) ≤ p.1 - r.2) && decide (p.2 - r.1 ≤ (9223372036854775807 : Int))) with
  | false => rw [hc] at h; cases h; exact eVal.any64 _
  | true =>
    rw [hc] at h
    cases h
    simp only [Bool.and_eq_true, decide_eq_true_eq] at hc
    have e1 := i64_sub (x := a) (y := b) (by omega) (by omega)
    have hF : fev vs (fadd (-1) (lin env x) (lin env y)) = some (a.toInt - b.toInt) := by
      rw [fadd_ok (lin_ok h2 hx) (lin_ok h2 hy)]; congr 1; omega
    rw [e1]
    refine eVal.fm ?_ ?_ hF
    · cases hq : (decide (p.1 - r.2 < 0) && ent env fc (fadd (-1) (lin env x) (lin env y))) with
      | false => simp only [cond_false]; omega
      | true =>
        simp only [cond_true]
        simp only [Bool.and_eq_true] at hq
        obtain ⟨z, hz, hz0⟩ := ent_ok h1 h3 hq.2
        rw [hF] at hz
        cases hz
        exact hz0
    · cases hq : (decide (0 < p.2 - r.1) && ent env fc (fmul (-1) (fadd (-1) (lin env x) (lin env y)))) with
      | false => simp only [cond_false]; omega
      | true =>
        simp only [cond_true]
        simp only [Bool.and_eq_true] at hq
        obtain ⟨z, hz, hz0⟩ := ent_ok h1 h3 hq.2
        rw [fmul_ok hF] at hz
        cases hz
        omega
theorem aMulC_ok {a b : Int32} {p : Int × Int} {c : Int} (h2 : eFm vs env) (hx : vs[x]? = some a.toInt) (b1 : p.1 ≤ a.toInt ∧ a.toInt ≤ p.2) (hc : b.toInt = c) : eVal vs (aMulC env x p c) (a * b).toInt := by
  rw [aMulC]
  by_cases h0 : 0 ≤ c
  · simp only [h0, decide_true, cond_true]
    have g1 := Int.mul_le_mul_of_nonneg_right b1.1 h0
    have g2 := Int.mul_le_mul_of_nonneg_right b1.2 h0
    cases hq : (decide ((-2147483648 : Int) ≤ p.1 * c) && decide (p.2 * c ≤ (2147483647 : Int))) with
    | false => exact eVal.any32 _
    | true =>
      simp only [Bool.and_eq_true, decide_eq_true_eq] at hq
      have e1 := i32_mul (x := a) (y := b) (by rw [hc]; omega) (by rw [hc]; omega)
      rw [e1, hc]
      exact eVal.fm g1 g2 (by rw [fmul_ok (lin_ok h2 hx), Int.mul_comm])
  · simp only [h0, decide_false, cond_false]
    have g1 := Int.mul_le_mul_of_nonpos_right b1.1 (show c ≤ 0 by omega)
    have g2 := Int.mul_le_mul_of_nonpos_right b1.2 (show c ≤ 0 by omega)
    cases hq : (decide ((-2147483648 : Int) ≤ p.2 * c) && decide (p.1 * c ≤ (2147483647 : Int))) with
    | false => exact eVal.any32 _
    | true =>
      simp only [Bool.and_eq_true, decide_eq_true_eq] at hq
      have e1 := i32_mul (x := a) (y := b) (by rw [hc]; omega) (by rw [hc]; omega)
      rw [e1, hc]
      exact eVal.fm g2 g1 (by rw [fmul_ok (lin_ok h2 hx), Int.mul_comm])
theorem aMul_ok {a b : Int32} (h1 : eIv vs env) (h2 : eFm vs env) (h3 : fcOK vs fc) (hx : vs[x]? = some a.toInt) (hy : vs[y]? = some b.toInt) (h : aMul env fc x y = some e) : eVal vs e (a * b).toInt := by
  obtain ⟨p, r, q1, q2, h⟩ := aiv2 h
  have b1 := aiv_ok h1 h2 h3 q1 hx
  have b2 := aiv_ok h1 h2 h3 q2 hy
  by_cases hc : r.1 = r.2
  · simp only [hc, decide_true, cond_true] at h
    cases h
    exact aMulC_ok h2 hx b1 (by omega)
  · simp only [hc, decide_false, cond_false] at h
    by_cases hd : p.1 = p.2
    · simp only [hd, decide_true, cond_true] at h
      cases h
      rw [show a * b = b * a from Int32.mul_comm ..]
      exact aMulC_ok h2 hy b2 (by omega)
    · simp only [hd, decide_false, cond_false] at h
      cases h
      exact eVal.any32 _
theorem aRem_ok {a b : Int32} (h1 : eIv vs env) (h2 : eFm vs env) (h3 : fcOK vs fc) (hx : vs[x]? = some a.toInt) (hy : vs[y]? = some b.toInt) (h : aRem env fc x y = some e) : ¬ b = 0 ∧ eVal vs e (a - a / b * b).toInt := by
  obtain ⟨p, r, q1, q2, h⟩ := aiv2 h
  have b1 := aiv_ok h1 h2 h3 q1 hx
  have b2 := aiv_ok h1 h2 h3 q2 hy
  by_cases h0 : 0 < r.1
  · simp only [h0, decide_true, cond_true] at h
    refine ⟨fun q => by rw [q] at b2; simp at b2; omega, ?_⟩
    cases hc : (decide (0 ≤ p.1) && decide (r.1 = r.2)) with
    | true =>
      rw [hc] at h
      simp only [Bool.and_eq_true, decide_eq_true_eq] at hc
      simp only [cond_true] at h
      cases h
      have hb : b.toInt = r.1 := by omega
      have e1 := i32_rem (x := a) (y := b) (by omega) (by omega)
      rw [e1, hb]
      have m1 := Int.emod_nonneg a.toInt (show r.1 ≠ 0 by omega)
      have m2 := Int.emod_lt_of_pos a.toInt h0
      by_cases hl : p.2 < r.1
      · simp only [hl, decide_true, cond_true]
        have e2 : a.toInt % r.1 = a.toInt := Int.emod_eq_of_lt (by omega) (by omega)
        rw [e2]
        exact eVal.fm (by omega) (by omega) (lin_ok h2 hx)
      · simp only [hl, decide_false, cond_false]
        refine eVal.fo m1 (by omega) (fun G hG => ?_)
        cases hq : aQuo x r.1 0 env with
        | none => rw [hq] at hG; cases hG
        | some k =>
          rw [hq] at hG
          cases hG
          have key : ∀ (l : List aE) (n k : Nat), aQuo x r.1 n l = some k → n ≤ k ∧ ∃ e, l[k - n]? = some e ∧ e.2.2.2.1 = 2 ∧ e.2.2.2.2.1 = x ∧ e.2.2.2.2.2.1 = r.1 := by
            intro l
            induction l with
            | nil => intro n k h; cases h
            | cons e t ih =>
              intro n k h
              rw [aQuo] at h
              cases hb : (Nat.beq e.2.2.2.1 2 && Nat.beq e.2.2.2.2.1 x && decide (e.2.2.2.2.2.1 = r.1)) with
              | true =>
                rw [hb] at h
                cases h
                simp only [Bool.and_eq_true, decide_eq_true_eq] at hb
                exact ⟨Nat.le_refl _, e, by simp, Nat.eq_of_beq_eq_true hb.1.1, Nat.eq_of_beq_eq_true hb.1.2, hb.2⟩
              | false =>
                rw [hb] at h
                obtain ⟨g1, e', g2, g3⟩ := ih (n + 1) k h
                exact ⟨by omega, e', by rw [show k - n = (k - (n + 1)) + 1 by omega, List.getElem?_cons_succ]; exact g2, g3⟩
          obtain ⟨-, e', g1, g2, g3, g4⟩ := key env 0 k hq
          rw [Nat.sub_zero] at g1
          have hk : k < vs.length := by rw [← h1.1]; exact (List.getElem?_eq_some_iff.mp g1).1
          have hv : vs[k]? = some vs[k] := List.getElem?_eq_getElem hk
          obtain ⟨-, -, ht, -⟩ := h2 k e' _ g1 hv
          obtain ⟨w, w1, w2, w3, w4⟩ := ht g2
          rw [g3, hx] at w1
          cases w1
          rw [fadd_ok (lin_ok h2 hx) (fone_ok hv), w4, g4]
          congr 1
          have := Int.emod_add_mul_ediv a.toInt r.1
          rw [Int.neg_mul]
          omega
    | false =>
      rw [hc] at h
      simp only [cond_false] at h
      by_cases he : r.1 = r.2
      · simp only [he, decide_true, cond_true] at h
        cases h
        have hb : b.toInt = r.1 := by omega
        have hrem : (a - a / b * b).toInt = a.toInt.tmod b.toInt := by
          have hm := tmod_bounds (a := a.toInt) (M := b.toInt) (by omega)
          have hb2 := i32_hi b
          rw [Int32.toInt_sub, Int32.toInt_mul, Int32.toInt_div, Int.bmod_mul_bmod, Int.sub_bmod_bmod, Int.mul_comm, ← Int.tmod_def]
          exact bmod32 (by omega) (by omega)
        rw [hrem, hb]
        have := tmod_bounds (a := a.toInt) h0
        exact eVal.bd (by omega) (by omega)
      · simp only [he, decide_false, cond_false] at h
        cases h
        exact eVal.any32 _
  · simp only [h0, decide_false, cond_false] at h
    cases h
theorem aAnd_ok {a b : Int32} (h1 : eIv vs env) (h2 : eFm vs env) (h3 : fcOK vs fc) (hx : vs[x]? = some a.toInt) (hy : vs[y]? = some b.toInt) (h : aAnd env fc x y = some e) : eVal vs e (a &&& b).toInt := by
  obtain ⟨p, r, q1, q2, h⟩ := aiv2 h
  have b1 := aiv_ok h1 h2 h3 q1 hx
  have b2 := aiv_ok h1 h2 h3 q2 hy
  by_cases h0 : 0 ≤ r.1
  · simp only [h0, decide_true, cond_true] at h
    cases h
    have g1 := i32_and (x := a) (y := b) (by omega)
    refine eVal.bd g1.1 ?_
    cases hc : (decide (0 ≤ p.1) && decide (p.2 < r.2)) with
    | false => simp only [cond_false]; omega
    | true =>
      simp only [Bool.and_eq_true, decide_eq_true_eq] at hc
      simp only [cond_true]
      have g2 := i32_and' (x := a) (y := b) (by omega)
      omega
  · simp only [h0, decide_false, cond_false] at h
    by_cases h4 : 0 ≤ p.1
    · simp only [h4, decide_true, cond_true] at h
      cases h
      have g2 := i32_and' (x := a) (y := b) (by omega)
      exact eVal.bd g2.1 (by omega)
    · simp only [h4, decide_false, cond_false] at h
      cases h
      exact eVal.any32 _
theorem aCap_ok {z c : Int} (h : aCap z = some c) : ∃ k : Nat, k ≤ 30 ∧ c + 1 = 2 ^ k ∧ z ≤ c := by
  have h1 := List.find?_some h
  have h2 := List.mem_of_find?_eq_some h
  simp only [decide_eq_true_eq] at h1
  simp only [List.mem_cons, List.not_mem_nil, or_false] at h2
  rcases h2 with rfl | rfl | rfl | rfl | rfl | rfl | rfl | rfl | rfl | rfl | rfl | rfl | rfl | rfl | rfl | rfl | rfl
  · exact ⟨0, by decide, by decide, h1⟩
  · exact ⟨1, by decide, by decide, h1⟩
  · exact ⟨2, by decide, by decide, h1⟩
  · exact ⟨3, by decide, by decide, h1⟩
  · exact ⟨4, by decide, by decide, h1⟩
  · exact ⟨5, by decide, by decide, h1⟩
  · exact ⟨6, by decide, by decide, h1⟩
  · exact ⟨7, by decide, by decide, h1⟩
  · exact ⟨8, by decide, by decide, h1⟩
  · exact ⟨9, by decide, by decide, h1⟩
  · exact ⟨10, by decide, by decide, h1⟩
  · exact ⟨11, by decide, by decide, h1⟩
  · exact ⟨12, by decide, by decide, h1⟩
  · exact ⟨13, by decide, by decide, h1⟩
  · exact ⟨14, by decide, by decide, h1⟩
  · exact ⟨15, by decide, by decide, h1⟩
  · exact ⟨16, by decide, by decide, h1⟩
theorem aOr_ok {a b o : Int32} (ho : o = a ||| b ∨ o = a ^^^ b) (h1 : eIv vs env) (h2 : eFm vs env) (h3 : fcOK vs fc) (hx : vs[x]? = some a.toInt) (hy : vs[y]? = some b.toInt) (h : aOr env fc x y = some e) : eVal vs e o.toInt := by
  obtain ⟨p, r, q1, q2, h⟩ := aiv2 h
  have b1 := aiv_ok h1 h2 h3 q1 hx
  have b2 := aiv_ok h1 h2 h3 q2 hy
  cases hc : (decide (0 ≤ p.1) && decide (0 ≤ r.1)) with
  | false => rw [hc] at h; cases h; exact eVal.any32 _
  | true =>
    rw [hc] at h
    simp only [Bool.and_eq_true, decide_eq_true_eq] at hc
    simp only [cond_true] at h
    cases c1 : aCap p.2 with
    | none => rw [c1] at h; cases h; exact eVal.any32 _
    | some c =>
      cases c2 : aCap r.2 with
      | none => rw [c1, c2] at h; cases h; exact eVal.any32 _
      | some d =>
        rw [c1, c2] at h
        cases h
        have key : ∀ (m : Int) (k : Nat), k ≤ 30 → m + 1 = 2 ^ k → a.toInt ≤ m → b.toInt ≤ m → 0 ≤ o.toInt ∧ o.toInt ≤ m := by
          intro m k hk hm ha hb
          have hlt : ((2 : Int) ^ k) = m + 1 := hm.symm
          rcases ho with rfl | rfl
          · have := i32_or (x := a) (y := b) hk (by omega) (by omega) (by omega) (by omega)
            omega
          · have := i32_xor (x := a) (y := b) hk (by omega) (by omega) (by omega) (by omega)
            omega
        obtain ⟨k1, g1, g2, g3⟩ := aCap_ok c1
        obtain ⟨k2, g4, g5, g6⟩ := aCap_ok c2
        by_cases hl : c < d
        · simp only [hl, decide_true, cond_true]
          have := key d k2 g4 g5 (by omega) (by omega)
          exact eVal.bd this.1 this.2
        · simp only [hl, decide_false, cond_false]
          have := key c k1 g1 g2 (by omega) (by omega)
          exact eVal.bd this.1 this.2
theorem nI_ofInt {b : Int32} (h : 0 ≤ b.toInt) : b = nI b.toInt.toNat := by
  apply Int32.toInt_inj.mp
  have := i32_hi b
  rw [nI_toInt (by omega)]
  omega
theorem aShl_ok {a b : Int32} (h1 : eIv vs env) (h2 : eFm vs env) (h3 : fcOK vs fc) (hx : vs[x]? = some a.toInt) (hy : vs[y]? = some b.toInt) (h : aShl env fc x y = some e) : eVal vs e (a <<< (b &&& 31)).toInt := by
  obtain ⟨p, r, q1, q2, h⟩ := aiv2 h
  have b1 := aiv_ok h1 h2 h3 q1 hx
  have b2 := aiv_ok h1 h2 h3 q2 hy
  cases hc : (decide (0 ≤ p.1) && decide (r.1 = r.2) && decide (0 ≤ r.1) && decide (r.1 ≤ 30)) with
  | false => rw [hc] at h; cases h; exact eVal.any32 _
  | true =>
    rw [hc] at h
    simp only [Bool.and_eq_true, decide_eq_true_eq] at hc
    simp only [cond_true] at h
    have hb : b.toInt = r.1 := by omega
    have hp : (0 : Int) < 2 ^ r.1.toNat := Int.pow_pos (by decide)
    have g1 := Int.mul_le_mul_of_nonneg_right b1.1 (Int.le_of_lt hp)
    have g2 := Int.mul_le_mul_of_nonneg_right b1.2 (Int.le_of_lt hp)
    by_cases hm : p.2 * 2 ^ r.1.toNat ≤ (2147483647 : Int)
    · simp only [hm, decide_true, cond_true] at h
      cases h
      have e1 := i32_shl (x := a) (k := r.1.toNat) (by omega) (by omega) (by omega)
      rw [nI_ofInt (b := b) (by omega), hb, e1]
      exact eVal.bd g1 g2
    · simp only [hm, decide_false, cond_false] at h
      cases h
      exact eVal.any32 _
theorem aShr_ok {a b : Int32} (h1 : eIv vs env) (h2 : eFm vs env) (h3 : fcOK vs fc) (hx : vs[x]? = some a.toInt) (hy : vs[y]? = some b.toInt) (h : aShr env fc x y = some e) : eVal vs e (a >>> (b &&& 31)).toInt := by
  obtain ⟨p, r, q1, q2, h⟩ := aiv2 h
  have b1 := aiv_ok h1 h2 h3 q1 hx
  have b2 := aiv_ok h1 h2 h3 q2 hy
  cases hc : (decide (0 ≤ p.1) && decide (r.1 = r.2) && decide (0 ≤ r.1) && decide (r.1 ≤ 30)) with
  | false => rw [hc] at h; cases h; exact eVal.any32 _
  | true =>
    rw [hc] at h
    simp only [Bool.and_eq_true, decide_eq_true_eq] at hc
    simp only [cond_true] at h
    cases h
    have hb : b.toInt = r.1 := by omega
    have hp : (0 : Int) < 2 ^ r.1.toNat := Int.pow_pos (by decide)
    have e1 := i32_shr (x := a) (k := r.1.toNat) (by omega) (by omega)
    rw [nI_ofInt (b := b) (by omega), hb, e1]
    exact eVal.bd (Int.ediv_le_ediv hp b1.1) (Int.ediv_le_ediv hp b1.2)
theorem aNeg_ok {a : Int32} (h1 : eIv vs env) (h2 : eFm vs env) (h3 : fcOK vs fc) (hx : vs[x]? = some a.toInt) (h : aNeg env fc x = some e) : eVal vs e (-a).toInt := by
  rw [aNeg] at h
  cases q1 : aiv env fc x with
  | none => rw [q1] at h; cases h
  | some p =>
    rw [q1] at h
    dsimp only at h
    have b1 := aiv_ok h1 h2 h3 q1 hx
    by_cases h0 : (-2147483647 : Int) ≤ p.1
    · simp only [h0, decide_true, cond_true] at h
      cases h
      rw [i32_neg (x := a) (by omega)]
      exact eVal.fm (by omega) (by omega) (by rw [fmul_ok (lin_ok h2 hx)]; congr 1; omega)
    · simp only [h0, decide_false, cond_false] at h
      cases h
      exact eVal.any32 _
end AR
