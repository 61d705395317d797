/-! conditions -/
def envOK (vs : List Int) (env : List aE) (fc : List aF) : Prop := eIv vs env ∧ eFm vs env ∧ fcOK vs fc
theorem asm_ok' {vs : List Int} {env : List aE} {fc : List aF} {F : aF} {z : Int} (h : envOK vs env fc) (hF : fev vs F = some z) (hz : 0 ≤ z) : ∃ q, asm env fc F = some q ∧ envOK vs q.1 q.2 := by
  obtain ⟨e, f, g1, g2, g3, g4, -⟩ := asm_ok h.1 h.2.1 h.2.2 hF hz
  exact ⟨(e, f), g1, g2, g3, g4⟩
theorem fneg1 {vs : List Int} {F : aF} {z : Int} (h : fev vs F = some z) : fev vs (fmul (-1) F) = some (-z) := by rw [fmul_ok h]; congr 1; omega
theorem fadd1 {vs : List Int} {F : aF} {z c : Int} (h : fev vs F = some z) : fev vs (fadd 1 F (fcon c)) = some (z + c) := by rw [fadd_ok h fcon_ok]; congr 1; omega
theorem cAsm_ok {vs : List Int} {env : List aE} {fc : List aF} {F : aF} {z : Int} {c : ClassFile.Cond} (h : envOK vs env fc) (hF : fev vs F = some z) (hc : cHolds c z) : ∃ q, cAsm env fc c F = some q ∧ envOK vs q.1 q.2 := by
  cases c with
  | ge => exact asm_ok' h hF hc
  | gt => exact asm_ok' h (fadd1 hF) (by have : 0 < z := hc; omega)
  | le => exact asm_ok' h (fneg1 hF) (by have : z ≤ 0 := hc; omega)
  | lt => exact asm_ok' h (fadd1 (fneg1 hF)) (by have : z < 0 := hc; omega)
  | eq =>
    have hc : z = 0 := hc
    obtain ⟨q, g1, g2⟩ := asm_ok' h hF (by omega)
    obtain ⟨q2, g3, g4⟩ := asm_ok' g2 (fneg1 hF) (by omega)
    exact ⟨q2, by rw [cAsm, g1]; exact g3, g4⟩
  | ne =>
    have hc : z ≠ 0 := hc
    rw [cAsm]
    cases h1 : ent env fc F with
    | true =>
      simp only [cond_true]
      obtain ⟨w, g1, g2⟩ := ent_ok h.1 h.2.2 h1
      rw [hF] at g1
      cases g1
      exact asm_ok' h (fadd1 hF) (by omega)
    | false =>
      simp only [cond_false]
      cases h2 : ent env fc (fmul (-1) F) with
      | true =>
        simp only [cond_true]
        obtain ⟨w, g1, g2⟩ := ent_ok h.1 h.2.2 h2
        rw [fneg1 hF] at g1
        cases g1
        exact asm_ok' h (fadd1 (fneg1 hF)) (by omega)
      | false => exact ⟨(env, fc), rfl, h⟩
theorem asmA_ok {vs : List Int} : ∀ (l : List aF) (env : List aE) (fc : List aF), envOK vs env fc → (∀ F ∈ l, ∃ w, fev vs F = some w ∧ 0 ≤ w) → ∃ q, asmA l env fc = some q ∧ envOK vs q.1 q.2 := by
  intro l
  induction l with
  | nil => intro env fc h _; exact ⟨(env, fc), rfl, h⟩
  | cons F t ih =>
    intro env fc h hl
    obtain ⟨w, g1, g2⟩ := hl F List.mem_cons_self
    obtain ⟨q, g3, g4⟩ := asm_ok' h g1 g2
    obtain ⟨q2, g5, g6⟩ := ih q.1 q.2 g4 (fun G hG => hl G (List.mem_cons_of_mem _ hG))
    exact ⟨q2, by rw [asmA, g3]; exact g5, g6⟩
theorem tAsm_ok {vs : List Int} {env : List aE} {fc : List aF} {i : Nat} {z : Int} {c : ClassFile.Cond} (h : envOK vs env fc) (hz : vs[i]? = some z) (hc : cHolds c z) : ∃ q, tAsm env fc c i = some q ∧ envOK vs q.1 q.2 := by
  have hi : i < env.length := by rw [h.1.1]; exact (List.getElem?_eq_some_iff.mp hz).1
  have he : env[i]? = some env[i] := List.getElem?_eq_getElem hi
  generalize env[i] = e at he
  obtain ⟨-, t1, t2, t3⟩ := h.2.1 i e z he hz
  rw [tAsm, he]
  dsimp only
  cases h3 : Nat.beq e.2.2.2.1 3 with
  | true =>
    simp only [cond_true]
    have t3 := t3 (Nat.eq_of_beq_eq_true h3)
    split
    · next F hF =>
      obtain ⟨w, g1, g2⟩ := t3 F (by rw [hF]; exact List.mem_cons_self)
      refine cAsm_ok h g1 ?_
      rcases g2 with ⟨a, b⟩ | ⟨a, b⟩ | ⟨a, b⟩ <;> subst b <;> cases c <;> simp only [cHolds] at hc ⊢ <;> omega
    · exact cAsm_ok h (lin_ok h.2.1 hz) hc
  | false =>
    simp only [cond_false]
    obtain ⟨q, g1, g2⟩ := cAsm_ok h (lin_ok h.2.1 hz) hc
    rw [g1]
    dsimp only
    cases h1 : Nat.beq e.2.2.2.1 1 with
    | false => exact ⟨q, rfl, g2⟩
    | true =>
      simp only [cond_true]
      have t1 := t1 (Nat.eq_of_beq_eq_true h1)
      cases c with
      | ne =>
        have hc : z ≠ 0 := hc
        rcases t1 with ⟨a, b⟩ | ⟨a, b⟩
        · exact asmA_ok _ _ _ g2 b
        · exact absurd a hc
      | eq =>
        have hc : z = 0 := hc
        rcases t1 with ⟨a, b⟩ | ⟨a, b, F, hF, w, w1, w2⟩
        · omega
        · dsimp only
          have hm : F ∈ e.2.2.2.2.2.2.filter (fun F => !ent q.1 q.2 F) := by
            refine List.mem_filter.mpr ⟨hF, ?_⟩
            cases hq : ent q.1 q.2 F with
            | false => rfl
            | true =>
              obtain ⟨v, v1, v2⟩ := ent_ok g2.1 g2.2.2 hq
              rw [w1] at v1
              cases v1
              omega
          split
          · next hn => rw [hn] at hm; exact absurd hm List.not_mem_nil
          · next G hG =>
            rw [hG] at hm
            have : F = G := by simpa using hm
            subst this
            exact asm_ok' g2 (fadd1 (fneg1 w1)) (by omega)
          · exact ⟨q, rfl, g2⟩
      | ge => exact ⟨q, rfl, g2⟩
      | gt => exact ⟨q, rfl, g2⟩
      | le => exact ⟨q, rfl, g2⟩
      | lt => exact ⟨q, rfl, g2⟩
theorem cNeg_ok {c : ClassFile.Cond} {z : Int} (h : ¬ cHolds c z) : cHolds (cNeg c) z := by
  cases c <;> simp only [cHolds, cNeg] at h ⊢ <;> omega
