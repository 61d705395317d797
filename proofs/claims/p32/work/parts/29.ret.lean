/-! returns -/
theorem fevl_mono {vs ws : List Int} (hm : ∀ (i : Nat) (z : Int), vs[i]? = some z → ws[i]? = some z) : ∀ (L : List (Nat × Int)) (r : Int), fevl vs L = some r → fevl ws L = some r := by
  intro L
  induction L with
  | nil => intro r hr; exact hr
  | cons q t ih =>
    intro r hr
    rw [fevl] at hr ⊢
    cases hx : vs[q.1]? with
    | none => rw [hx] at hr; simp at hr
    | some x =>
      cases ht : fevl vs t with
      | none => rw [hx, ht] at hr; simp at hr
      | some u =>
        rw [hx, ht] at hr
        rw [hm _ _ hx, ih u ht]
        exact hr
theorem fev_mono {vs ws : List Int} {F : aF} {z : Int} (hm : ∀ (i : Nat) (z : Int), vs[i]? = some z → ws[i]? = some z) (h : fev vs F = some z) : fev ws F = some z := by
  rw [fev] at h ⊢
  cases hL : fevl vs F.1 with
  | none => rw [hL] at h; simp at h
  | some r => rw [hL] at h; rw [fevl_mono hm _ _ hL]; exact h
theorem idv_ev {vs ev : List Int} (hm : ∀ (i : Nat) (z : Int), ev[i]? = some z → vs[i]? = some z) : idv vs (List.range ev.length) ev := by
  rw [idv]
  apply List.ext_getElem?
  intro j
  rw [List.getElem?_map, List.getElem?_map]
  rcases Nat.lt_or_ge j ev.length with hj | hj
  · rw [List.getElem?_range hj, List.getElem?_eq_getElem hj]
    show some (vs[j]?) = _
    rw [hm j _ (List.getElem?_eq_getElem hj)]
    rfl
  · rw [List.getElem?_eq_none (by simpa using hj), List.getElem?_eq_none hj]
    rfl
section RT
variable {TT : List (List aCT)} {g : jG} {EI : aB → jH → Prop} {bk0 : aB} {h0 : jH} {ev : List Int} {vs : List Int} {bk : aB} {al : List (Option Value)} {st : List Value} {h : jH} {env : List aE} {fc : List aF} {loc : List (Option aV)} {stk : List aV} {ov : List aO} {pr : List Nat} {l : Launch} {d pc kc ks : Nat} {len : Nat}
theorem i32_eq {x : Int32} {n : Int32} (h : x.toInt = n.toInt) : x = n := Int32.toInt_inj.mp h
theorem aRetV_int {zs os : List Int} {m : List Nat} {v : aV} {bl : Bool} {q : aQ} {x : Int32} {post : List aF} (he : envOK vs env fc) (hi : idv vs m ev) (hv0 : Nat.beq v.1 0 = true) (hx : vs[v.2.1]? = some x.toInt) (hr : aRetV env fc m v bl q = true) (hpo : postOK (ev ++ os ++ [x.toInt]) post) : ansOK g bk ev os post (some (.int x)) q ∧ (bl = true → x = 0 ∨ x = 1) := by
  obtain ⟨qk, qlo, qhi, qa, qb, qt⟩ := q
  have hv := Nat.eq_of_beq_eq_true hv0
  match qk, hr with
  | 0, hr =>
    rw [aRetV] at hr
    simp only [Bool.and_eq_true] at hr
    obtain ⟨⟨⟨-, r1⟩, r2⟩, r3⟩ := hr
    refine ⟨⟨x, rfl, aWithin_ok he r1 hx, ?_, hpo⟩, fun hb => ?_⟩
    · cases qt with
      | nil => exact Or.inl rfl
      | cons F t =>
        simp only [Bool.or_eq_true, Bool.and_eq_true] at r3
        rcases r3 with ⟨a1, a2⟩ | ⟨⟨a1, a2⟩, a3⟩
        · have := aWithin_ok he a1 hx
          exact Or.inr (Or.inl ⟨by omega, entA_ok he hi a2⟩)
        · have := aWithin_ok he a1 hx
          cases hs : fsubA env m (F :: t) with
          | none => rw [hs] at a3; cases a3
          | some G =>
            obtain ⟨s1, -, -⟩ := fsubA_ok he.2.1 hi hs
            refine Or.inr (Or.inr ⟨by omega, s1, ?_⟩)
            obtain ⟨F2, f1, f2⟩ := List.any_eq_true.mp a2
            obtain ⟨w, w1⟩ := s1 F2 f1
            obtain ⟨z, z1, z2⟩ := entA_ok he hi f2 _ List.mem_cons_self
            rw [fadd1 (fneg1 w1)] at z1
            have z3 := Option.some.inj z1
            exact ⟨F2, f1, w, w1, by omega⟩
    · subst hb
      simp only [Bool.not_true, Bool.false_or] at r2
      have b := aWithin_ok he (by simpa using r2) hx
      rcases (show x.toInt = 0 ∨ x.toInt = 1 by omega) with e | e
      · exact Or.inl (i32_eq (by rw [e]; rfl))
      · exact Or.inr (i32_eq (by rw [e]; rfl))
  | 1, hr => exact absurd (show false = true from hr) (by decide)
  | 2, hr =>
    rw [aRetV] at hr
    simp only [Bool.and_eq_true] at hr
    rw [hv] at hr
    exact absurd hr.1.1 (by decide)
  | 3, hr => exact absurd (show false = true from hr) (by decide)
  | 4, hr => exact absurd (show false = true from hr) (by decide)
  | 5, hr =>
    rw [aRetV] at hr
    simp only [Bool.and_eq_true, decide_eq_true_eq] at hr
    obtain ⟨⟨⟨⟨⟨-, r1⟩, r2⟩, r3⟩, r4⟩, r5⟩ := hr
    have r2 := blt_lt r2
    have hb := aWithin_ok he r3 hx
    have hl := lin_ok he.2.1 hx
    refine ⟨?_, fun hb => by rw [hb] at r1; cases r1⟩
    cases hL : fevl vs (lin env v.2.1).1 with
    | none => rw [fev, hL] at hl; simp at hl
    | some r =>
      rw [fev_of hL] at hl
      have hl := Option.some.inj hl
      have hm := fevl_mod _ _ r4 hL
      have hd : (x.toInt - qlo) % (qa : Int) = 0 := by
        rw [← hl, show r + (lin env v.2.1).2 - qlo = r + ((lin env v.2.1).2 - qlo) by omega, Int.add_emod, hm, r5]
        simp
      have hq : (qa : Int) * ((x.toInt - qlo) / (qa : Int)) = x.toInt - qlo := Int.mul_ediv_cancel' (Int.dvd_of_emod_eq_zero hd)
      have hpos : (0 : Int) < (qa : Int) := by omega
      refine ⟨x, (x.toInt - qlo) / (qa : Int), rfl, Int.ediv_nonneg (by omega) (by omega), ?_, by show x.toInt = qlo + (qa : Int) * _; omega, hpo⟩
      show (x.toInt - qlo) / (qa : Int) ≤ qhi
      apply Int.ediv_le_of_le_mul hpos
      rw [Int.mul_comm]
      omega
  | n + 6, hr => exact absurd (show false = true from hr) (by decide)
theorem aRet_ok {K : aK} {i : Instr} {W : List aR} (hW : W = K.2.2.2.2.2.2.2.1) (hn : ev.length = kN K) (hd : decode (jbC K.1) pc = .ok (i, len)) (hr : aRet TT K i len env fc stk ov = true) (hp : PT TT g EI W bk0 h0 ev K.1 vs bk al st h (env, fc, loc, stk, ov, pr)) : J l g K.1 d pc al st h kc ks (kPost TT g EI K bk0 h0 ev) := by
  subst hW
  rw [aRet] at hr
  cases hc : clIds TT K.2.2.2.2.2.1 env ov fc with
  | none => rw [hc] at hr; cases hr
  | some r =>
    rw [hc] at hr
    dsimp only at hr
    obtain ⟨ws, zs, hP, j1, j2⟩ := clIds_ok _ vs env ov r hc hp
    have hev : idv (vs ++ ws) (List.range (kN K)) ev := by rw [← hn]; exact idv_ev hP.2.2.2
    split at hr
    · simp only [Bool.and_eq_true, decide_eq_true_eq] at hr
      obtain ⟨⟨⟨r1, r2⟩, r3⟩, r4⟩ := hr
      have hlen := Nat.eq_of_beq_eq_true r1
      subst hlen
      obtain ⟨q, q1, q2⟩ := List.any_eq_true.mp r3
      have hst : st = [] := by
        have := hp.1.2.2.2.2.1
        cases st with
        | nil => rfl
        | cons => exact absurd this id
      refine j_ret (v := none) ⟨hd, r2⟩ ⟨bk, zs, hP.2.1, j2, q, q1, ?_⟩ hst
      obtain ⟨qk, qlo, qhi, qa, qb, qt⟩ := q
      have q2 := Nat.eq_of_beq_eq_true q2
      dsimp only at q2
      subst q2
      exact ⟨rfl, entA_ok hP.ee (hev.cat j1) r4⟩
    · rename_i v
      simp only [Bool.and_eq_true, Bool.or_eq_true, decide_eq_true_eq] at hr
      obtain ⟨⟨⟨⟨r1, r0⟩, r2⟩, r3⟩, r4⟩ := hr
      have hlen := Nat.eq_of_beq_eq_true r1
      subst hlen
      obtain ⟨q, q1, q2⟩ := List.any_eq_true.mp r3
      obtain ⟨w1, s1, e1, e2, -⟩ := hP.pop
      obtain ⟨x, rfl, hx⟩ := e2.int r0
      have hst : s1 = [] := by
        have := hp.1.2.2.2.2.1
        rw [e1] at this
        cases s1 with
        | nil => rfl
        | cons => exact absurd this.2 id
      subst hst
      have hpo := entA_ok hP.ee ((hev.cat j1).cat (show idv (vs ++ ws) [v.2.1] [x.toInt] by rw [idv, List.map_cons, hx]; rfl)) r4
      obtain ⟨a1, a2⟩ := aRetV_int (g := g) (bk := bk) (zs := zs) (os := zs) hP.ee hev r0 hx q2 hpo
      refine j_ret (v := some (.int x)) ⟨hd, ?_⟩ ⟨bk, zs, hP.2.1, j2, q, q1, a1⟩ e1
      rcases r2 with r2 | r2
      · exact Or.inl r2
      · exact Or.inr (Or.inl ⟨of_decide_eq_true r2, a2 r2⟩)
    · rename_i v
      simp only [Bool.and_eq_true] at hr
      obtain ⟨⟨⟨r1, r2⟩, r3⟩, r4⟩ := hr
      have hlen := Nat.eq_of_beq_eq_true r1
      subst hlen
      obtain ⟨q, q1, q2⟩ := List.any_eq_true.mp r3
      simp only [Bool.and_eq_true] at q2
      obtain ⟨qk, qlo, qhi, qa, qb, qt⟩ := q
      obtain ⟨q2, q3⟩ := q2
      have q2 := Nat.eq_of_beq_eq_true q2
      dsimp only at q2
      subst q2
      rw [aRetV] at q3
      simp only [Bool.and_eq_true] at q3
      obtain ⟨⟨q3, q4⟩, q5⟩ := q3
      have q4 := Nat.eq_of_beq_eq_true q4
      have q5 := Nat.eq_of_beq_eq_true q5
      obtain ⟨w1, s1, e1, e2, -⟩ := hP.pop
      obtain ⟨b, hb, rfl⟩ := e2.rf q3
      have hst : s1 = [] := by
        have := hp.1.2.2.2.2.1
        rw [e1] at this
        cases s1 with
        | nil => rfl
        | cons => exact absurd this.2 id
      subst hst
      refine j_ret (v := some (jad g b v.2.2)) ⟨hd, ?_⟩ ⟨bk, zs, hP.2.1, j2, _, q1, ⟨b, by rw [← q4]; exact hb, by rw [← q5]⟩, entA_ok hP.ee (hev.cat j1) r4⟩ e1
      split at r2
      · rename_i n hn2
        exact ⟨n, hn2⟩
      · cases r2
    · cases hr
end RT
