/-! specs: arguments and cells of a contract, in the caller's ids -/
/-- the ids' values -/
def idv (vs : List Int) (ids : List Nat) (zs : List Int) : Prop := ids.map (fun i => vs[i]?) = zs.map some
theorem idv.len {vs : List Int} {ids : List Nat} {zs : List Int} (hi : idv vs ids zs) : ids.length = zs.length := by
  have := congrArg List.length hi
  simpa using this
theorem idv.at {vs : List Int} {ids : List Nat} {zs : List Int} (hi : idv vs ids zs) {j i : Nat} (hj : ids[j]? = some i) : ∃ z, zs[j]? = some z ∧ vs[i]? = some z := by
  have h1 : (ids.map (fun i => vs[i]?))[j]? = some (vs[i]?) := by rw [List.getElem?_map, hj]; rfl
  rw [hi, List.getElem?_map] at h1
  cases hz : zs[j]? with
  | none => rw [hz] at h1; cases h1
  | some z => rw [hz] at h1; exact ⟨z, rfl, (Option.some.inj h1).symm⟩
theorem idv.app {vs ws : List Int} {ids : List Nat} {zs : List Int} (hi : idv vs ids zs) : idv (vs ++ ws) ids zs := by
  rw [idv, ← hi]
  apply List.map_congr_left
  intro i hm
  obtain ⟨j, hj⟩ := List.getElem?_of_mem hm
  obtain ⟨z, -, hz⟩ := hi.at hj
  rw [hz]
  exact getE_app hz
theorem idv.cat {vs : List Int} {a b : List Nat} {x z : List Int} (h1 : idv vs a x) (h2 : idv vs b z) : idv vs (a ++ b) (x ++ z) := by
  rw [idv, List.map_append, List.map_append, h1, h2]
theorem fsubl_ok {vs zs : List Int} {env : List aE} {m : List Nat} (hM : eFm vs env) (hi : idv vs m zs) : ∀ (L : List (Nat × Int)) (G : aF), fsubl env m L = some G → ∃ r, fevl zs L = some r ∧ fev vs G = some r := by
  intro L
  induction L with
  | nil => intro G hG; rw [fsubl] at hG; cases hG; exact ⟨0, rfl, by simp [fev, fevl]⟩
  | cons q t ih =>
    intro G hG
    rw [fsubl] at hG
    cases h1 : m[q.1]? with
    | none => rw [h1] at hG; cases hG
    | some i =>
      cases h2 : fsubl env m t with
      | none => rw [h1, h2] at hG; cases hG
      | some F =>
        rw [h1, h2] at hG
        cases hG
        obtain ⟨r, g1, g2⟩ := ih F h2
        obtain ⟨z, g3, g4⟩ := hi.at h1
        refine ⟨q.2 * z + r, fevl_cons g3 g1, ?_⟩
        rw [fadd_ok g2 (lin_ok hM g4)]
        congr 1
        omega
theorem fsub_ok {vs zs : List Int} {env : List aE} {m : List Nat} {F G : aF} (hM : eFm vs env) (hi : idv vs m zs) (hs : fsub env m F = some G) : ∃ z, fev zs F = some z ∧ fev vs G = some z := by
  rw [fsub] at hs
  cases h1 : fsubl env m F.1 with
  | none => rw [h1] at hs; cases hs
  | some H =>
    rw [h1] at hs
    cases hs
    obtain ⟨r, g1, g2⟩ := fsubl_ok hM hi _ _ h1
    exact ⟨r + F.2, fev_of g1, fadd1 g2⟩
theorem entA_ok {vs zs : List Int} {env : List aE} {fc : List aF} {m : List Nat} {L : List aF} (he : envOK vs env fc) (hi : idv vs m zs) (ha : entA env fc m L = true) : postOK zs L := by
  intro F hF
  have h1 := List.all_eq_true.mp ha F hF
  cases hs : fsub env m F with
  | none => rw [hs] at h1; cases h1
  | some G =>
    rw [hs] at h1
    obtain ⟨z, g1, g2⟩ := fsub_ok he.2.1 hi hs
    exact ⟨z, g1, ent2_ok he.1 he.2.2 g2 h1⟩
theorem fsubA_ok {vs zs : List Int} {env : List aE} {m : List Nat} (hM : eFm vs env) (hi : idv vs m zs) : ∀ {L G : List aF}, fsubA env m L = some G → (∀ F ∈ L, ∃ z, fev zs F = some z) ∧ (∀ F ∈ L, ∃ H ∈ G, ∀ z, fev zs F = some z → fev vs H = some z) ∧ ∀ H ∈ G, ∃ F ∈ L, ∀ z, fev zs F = some z → fev vs H = some z := by
  intro L
  induction L with
  | nil => intro G hG; rw [fsubA] at hG; cases hG; exact ⟨fun F hF => absurd hF List.not_mem_nil, fun F hF => absurd hF List.not_mem_nil, fun F hF => absurd hF List.not_mem_nil⟩
  | cons F t ih =>
    intro G hG
    rw [fsubA] at hG
    cases h1 : fsub env m F with
    | none => rw [h1] at hG; cases hG
    | some H =>
      cases h2 : fsubA env m t with
      | none => rw [h1, h2] at hG; cases hG
      | some K =>
        rw [h1, h2] at hG
        cases hG
        obtain ⟨z, g1, g2⟩ := fsub_ok hM hi h1
        obtain ⟨i1, i2, i3⟩ := ih h2
        have hz : ∀ w, fev zs F = some w → fev vs H = some w := fun w hw => by
          rw [g1] at hw
          cases hw
          exact g2
        refine ⟨fun F2 hF2 => ?_, fun F2 hF2 => ?_, fun H2 hH2 => ?_⟩
        · rcases List.mem_cons.mp hF2 with rfl | hF2
          · exact ⟨z, g1⟩
          · exact i1 F2 hF2
        · rcases List.mem_cons.mp hF2 with rfl | hF2
          · exact ⟨H, List.mem_cons_self, hz⟩
          · obtain ⟨K2, k1, k2⟩ := i2 F2 hF2
            exact ⟨K2, List.mem_cons_of_mem _ k1, k2⟩
        · rcases List.mem_cons.mp hH2 with rfl | hH2
          · exact ⟨F, List.mem_cons_self, hz⟩
          · obtain ⟨F2, k1, k2⟩ := i3 H2 hH2
            exact ⟨F2, List.mem_cons_of_mem _ k1, k2⟩
section SP
variable {TT : List (List aCT)} {g : jG} {EI : aB → jH → Prop} {W P : List aR} {bk0 : aB} {h0 : jH} {ev : List Int} {y : Nat} {vs : List Int} {bk : aB} {al : List (Option Value)} {st : List Value} {h : jH} {env : List aE} {fc : List aF} {loc : List (Option aV)} {stk : List aV} {ov : List aO} {pr : List Nat}
/-- the bounds of a spec's ids -/
def spBd (sp : List aE) (zs : List Int) : Prop := sp.length = zs.length ∧ ∀ (j : Nat) (e : aE) (z : Int), sp[j]? = some e → zs[j]? = some z → e.1 ≤ z ∧ z ≤ e.2.1
/-- locals by a spec -/
theorem spIds_ok (he : envOK vs env fc) : ∀ (sp : List (Option aT)) (vl : List (Option aV)) (wl : List (Option Value)) (ids : List Nat), spIds env fc vl sp = some ids → (∀ (i : Nat) (v : aV), vl[i]? = some (some v) → ∃ w, wl[i]? = some (some w) ∧ vOK g vs bk v w) →
    ∃ zs, idv vs ids zs ∧ spBd (spEnv sp) zs ∧ ∀ (pre rest : List Int) (i : Nat) (v : aV), (spLoc pre.length sp)[i]? = some (some v) → ∃ w, wl[i]? = some (some w) ∧ vOK g (pre ++ zs ++ rest) bk v w := by
  intro sp
  induction sp with
  | nil =>
    intro vl wl ids hs _
    rw [spIds] at hs
    cases hs
    exact ⟨[], rfl, ⟨rfl, fun j e z hj => by simp [spEnv] at hj⟩, fun pre rest i v hv => by simp [spLoc] at hv⟩
  | cons a t ih =>
    intro vl wl ids hs hv
    cases a with
    | none =>
      have hs2 : spIds env fc vl.tail t = some ids := by
        cases vl with
        | nil => rw [spIds] at hs; exact hs
        | cons b u => rw [spIds] at hs; exact hs
      obtain ⟨zs, i1, i2, i3⟩ := ih vl.tail wl.tail ids hs2 (fun i v hi => by
        cases vl with
        | nil => simp at hi
        | cons b u =>
          obtain ⟨w, g1, g2⟩ := hv (i + 1) v (by simpa using hi)
          exact ⟨w, by cases wl with
            | nil => simp at g1
            | cons c x => simpa using g1, g2⟩)
      refine ⟨zs, i1, i2, fun pre rest i v hi => ?_⟩
      rw [spLoc] at hi
      cases i with
      | zero => simp at hi
      | succ i =>
        obtain ⟨w, g1, g2⟩ := i3 pre rest i v (by simpa using hi)
        exact ⟨w, by cases wl with
          | nil => simp at g1
          | cons c x => simpa using g1, g2⟩
    | some q =>
      cases vl with
      | nil => rw [spIds] at hs; cases hs
      | cons b u =>
        cases b with
        | none => rw [spIds] at hs; cases hs
        | some v0 =>
          rw [spIds] at hs
          obtain ⟨w0, e1, e2⟩ := hv 0 v0 rfl
          cases wl with
          | nil => simp at e1
          | cons c x =>
            have e1 : c = some w0 := by simpa using e1
            subst e1
            cases hr : spIds env fc u t with
            | none => rw [hr] at hs; cases hs
            | some r =>
              rw [hr] at hs
              dsimp only at hs
              obtain ⟨zs, i1, i2, i3⟩ := ih u x r hr (fun i v hi => by
                obtain ⟨w, g1, g2⟩ := hv (i + 1) v (by simpa using hi)
                exact ⟨w, by simpa using g1, g2⟩)
              obtain ⟨qk, qlo, qhi, qB, qo⟩ := q
              obtain ⟨vk, va, vb⟩ := v0
              have num : ∀ (z : Int), qk ≤ 1 → vs[va]? = some z → qlo ≤ z ∧ z ≤ qhi → (∀ (zz : List Int) (n : Nat), zz[n]? = some z → vOK g zz bk (qk, n, 0) w0) → ids = va :: r → ∃ zs, idv vs ids zs ∧ spBd (spEnv (some (qk, qlo, qhi, qB, qo) :: t)) zs ∧ ∀ (pre rest : List Int) (i : Nat) (v : aV), (spLoc pre.length (some (qk, qlo, qhi, qB, qo) :: t))[i]? = some (some v) → ∃ w, (some w0 :: x)[i]? = some (some w) ∧ vOK g (pre ++ zs ++ rest) bk v w := by
                intro z hk hz hb hvk hids
                have hkb : Nat.ble qk 1 = true := Nat.ble_eq_true_of_le hk
                refine ⟨z :: zs, ?_, ?_, fun pre rest i v hi => ?_⟩
                · rw [hids, idv, List.map_cons, List.map_cons, hz, i1]
                · rw [spEnv, hkb]
                  refine ⟨by simp [i2.1], fun j e zz hj hzz => ?_⟩
                  cases j with
                  | zero =>
                    simp only [List.getElem?_cons_zero, Option.some.injEq, cond_true] at hj hzz
                    subst hj
                    subst hzz
                    exact hb
                  | succ j => exact i2.2 j e zz (by simpa using hj) (by simpa using hzz)
                · rw [spLoc, hkb] at hi
                  simp only [cond_true] at hi
                  cases i with
                  | zero =>
                    simp only [List.getElem?_cons_zero, Option.some.injEq] at hi
                    subst hi
                    refine ⟨w0, rfl, hvk _ _ ?_⟩
                    rw [List.append_assoc, List.getElem?_append_right (Nat.le_refl _)]
                    simp
                  | succ i =>
                    have hi2 : (spLoc (pre ++ [z]).length t)[i]? = some (some v) := by simpa using hi
                    obtain ⟨w, g1, g2⟩ := i3 (pre ++ [z]) rest i v hi2
                    exact ⟨w, by simpa using g1, by simpa using g2⟩
              have oth : ∀ (hk : ¬ qk ≤ 1), vOK g vs bk (qk, qB, qo) w0 → (∀ zz, vOK g zz bk (qk, qB, qo) w0) → ids = r → ∃ zs, idv vs ids zs ∧ spBd (spEnv (some (qk, qlo, qhi, qB, qo) :: t)) zs ∧ ∀ (pre rest : List Int) (i : Nat) (v : aV), (spLoc pre.length (some (qk, qlo, qhi, qB, qo) :: t))[i]? = some (some v) → ∃ w, (some w0 :: x)[i]? = some (some w) ∧ vOK g (pre ++ zs ++ rest) bk v w := by
                intro hk _ hvk hids
                have hkb : Nat.ble qk 1 = false := by
                  cases hq : Nat.ble qk 1 with
                  | false => rfl
                  | true => exact absurd (Nat.le_of_ble_eq_true hq) hk
                refine ⟨zs, by rw [hids]; exact i1, by rw [spEnv, hkb]; exact i2, fun pre rest i v hi => ?_⟩
                rw [spLoc, hkb] at hi
                simp only [cond_false] at hi
                cases i with
                | zero =>
                  simp only [List.getElem?_cons_zero, Option.some.injEq] at hi
                  subst hi
                  exact ⟨w0, rfl, hvk _⟩
                | succ i =>
                  obtain ⟨w, g1, g2⟩ := i3 pre rest i v (by simpa using hi)
                  exact ⟨w, by simpa using g1, g2⟩
              match qk, hs with
              | 0, hs =>
                dsimp only at hs
                cases hc : (Nat.beq vk 0 && aWithin env fc va qlo qhi) with
                | false => rw [hc] at hs; cases hs
                | true =>
                  rw [hc] at hs
                  simp only [Bool.and_eq_true] at hc
                  obtain ⟨n, hn, hz⟩ := e2.int hc.1
                  exact num n.toInt (by omega) hz (aWithin_ok he hc.2 hz) (fun zz m hm => ⟨n, hn, hm⟩) (Option.some.inj hs).symm
              | 1, hs =>
                dsimp only at hs
                cases hc : (Nat.beq vk 1 && aWithin env fc va qlo qhi) with
                | false => rw [hc] at hs; cases hs
                | true =>
                  rw [hc] at hs
                  simp only [Bool.and_eq_true] at hc
                  obtain ⟨n, hn, hz⟩ := e2.long hc.1
                  exact num n.toInt (by omega) hz (aWithin_ok he hc.2 hz) (fun zz m hm => ⟨n, hn, hm⟩) (Option.some.inj hs).symm
              | 2, hs =>
                dsimp only at hs
                cases hc : (Nat.beq vk 2 && Nat.beq va qB && Nat.beq vb qo) with
                | false => rw [hc] at hs; cases hs
                | true =>
                  rw [hc] at hs
                  simp only [Bool.and_eq_true] at hc
                  have f1 := Nat.eq_of_beq_eq_true hc.1.1
                  have f2 := Nat.eq_of_beq_eq_true hc.1.2
                  have f3 := Nat.eq_of_beq_eq_true hc.2
                  have hids := (Option.some.inj hs).symm
                  clear hs
                  subst f1
                  subst f2
                  subst f3
                  exact oth (by omega) e2 (fun _ => e2) hids
              | 3, hs =>
                dsimp only at hs
                cases hc : Nat.beq vk 3 with
                | false => rw [hc] at hs; cases hs
                | true =>
                  rw [hc] at hs
                  have f1 := Nat.eq_of_beq_eq_true hc
                  subst f1
                  exact oth (by omega) e2 (fun _ => e2) (Option.some.inj hs).symm
              | n + 4, hs => cases hs
end SP
