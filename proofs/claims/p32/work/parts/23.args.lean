/-! a call's arguments, its cells -/
theorem spEnv_filter : ∀ (sp : List (Option aT)), spEnv (sp.filter (fun q => q.isSome)) = spEnv sp := by
  intro sp
  induction sp with
  | nil => rfl
  | cons a t ih =>
    cases a with
    | none => simp only [List.filter_cons, Option.isSome_none, Bool.false_eq_true, if_false, spEnv]; exact ih
    | some q => simp only [List.filter_cons, Option.isSome_some, if_true, spEnv, ih]
section AG
variable {TT : List (List aCT)} {g : jG} {EI : aB → jH → Prop} {W P : List aR} {bk0 : aB} {h0 : jH} {ev : List Int} {y : Nat} {vs : List Int} {bk : aB} {al : List (Option Value)} {st : List Value} {h : jH} {env : List aE} {fc : List aF} {loc : List (Option aV)} {stk : List aV} {ov : List aO} {pr : List Nat}
/-- values that are as a spec's locals say: by their places among the arguments, then among the locals -/
theorem lg_jargs : ∀ (av : List Value), (lg_sl av).length = (jargs av).length := by
  intro av
  induction av with
  | nil => rfl
  | cons v t ih =>
    rw [show lg_sl (v :: t) = (if v.category = 2 then [Slot.val v, Slot.second] else [Slot.val v]) ++ lg_sl t from rfl, jargs]
    by_cases hc : v.category = 2
    · rw [if_pos hc, if_pos hc]; simp [ih]
    · rw [if_neg hc, if_neg hc]; simp [ih]
theorem mk_args {zz : List Int} : ∀ (fs : List (Option aT)) (av : List Value) (n : Nat), (∀ q ∈ fs, q.isSome = true) → av.length = fs.length → (∀ (i : Nat) (v : aV), (spLoc n fs)[i]? = some (some v) → ∃ w, av[i]? = some w ∧ vOK g zz bk v w) →
    (jargs av).length = (spMk fs).length ∧ ∀ (i : Nat) (v : aV), (spLoc n (spMk fs))[i]? = some (some v) → ∃ w, (jargs av)[i]? = some (some w) ∧ vOK g zz bk v w := by
  intro fs
  induction fs with
  | nil =>
    intro av n _ hl _
    cases av with
    | nil => exact ⟨rfl, fun i v hv => by simp [spMk, spLoc] at hv⟩
    | cons => simp at hl
  | cons a t ih =>
    intro av n hs hl hv
    cases a with
    | none => exact absurd (hs none List.mem_cons_self) (by simp)
    | some q =>
      cases av with
      | nil => simp at hl
      | cons w0 av =>
        have hs2 : ∀ z ∈ t, z.isSome = true := fun z hz => hs z (List.mem_cons_of_mem _ hz)
        have hl2 : av.length = t.length := by simpa using hl
        cases hk : Nat.ble q.1 1 with
        | true =>
          have e0 : ∃ w, (w0 :: av)[0]? = some w ∧ vOK g zz bk (q.1, n, 0) w := hv 0 (q.1, n, 0) (by rw [spLoc, hk]; rfl)
          obtain ⟨w, e1, e2⟩ := e0
          have e1 : w0 = w := by simpa using e1
          subst e1
          obtain ⟨i1, i2⟩ := ih av (n + 1) hs2 hl2 (fun i v hi => by
            obtain ⟨w, g1, g2⟩ := hv (i + 1) v (by rw [spLoc, hk]; simpa using hi)
            exact ⟨w, by simpa using g1, g2⟩)
          have hcat := e2.cat
          cases hb : Nat.beq q.1 1 with
          | true =>
            have hc : w0.category = 2 := by rw [hcat]; show (bif Nat.beq q.1 1 then 2 else 1) = 2; rw [hb]; rfl
            rw [jargs, if_pos hc, spMk, hb]
            simp only [cond_true]
            refine ⟨by simp [i1], fun i v hi => ?_⟩
            rw [spLoc, hk] at hi
            simp only [cond_true] at hi
            match i, hi with
            | 0, hi =>
              simp only [List.getElem?_cons_zero, Option.some.injEq] at hi
              subst hi
              exact ⟨w0, rfl, e2⟩
            | 1, hi => simp [spLoc] at hi
            | j + 2, hi =>
              obtain ⟨w, g1, g2⟩ := i2 j v (by simpa [spLoc] using hi)
              exact ⟨w, by simpa using g1, g2⟩
          | false =>
            have hc : ¬ w0.category = 2 := by rw [hcat]; show ¬ (bif Nat.beq q.1 1 then 2 else 1) = 2; rw [hb]; decide
            rw [jargs, if_neg hc, spMk, hb]
            simp only [cond_false]
            refine ⟨by simp [i1], fun i v hi => ?_⟩
            rw [spLoc, hk] at hi
            simp only [cond_true] at hi
            match i, hi with
            | 0, hi =>
              simp only [List.getElem?_cons_zero, Option.some.injEq] at hi
              subst hi
              exact ⟨w0, rfl, e2⟩
            | j + 1, hi =>
              obtain ⟨w, g1, g2⟩ := i2 j v (by simpa using hi)
              exact ⟨w, by simpa using g1, g2⟩
        | false =>
          have e0 : ∃ w, (w0 :: av)[0]? = some w ∧ vOK g zz bk (q.1, q.2.2.2.1, q.2.2.2.2) w := hv 0 (q.1, q.2.2.2.1, q.2.2.2.2) (by rw [spLoc, hk]; rfl)
          obtain ⟨w, e1, e2⟩ := e0
          have e1 : w0 = w := by simpa using e1
          subst e1
          obtain ⟨i1, i2⟩ := ih av n hs2 hl2 (fun i v hi => by
            obtain ⟨w, g1, g2⟩ := hv (i + 1) v (by rw [spLoc, hk]; simpa using hi)
            exact ⟨w, by simpa using g1, g2⟩)
          have hcat := e2.cat
          have hb : Nat.beq q.1 1 = false := by
            cases hb : Nat.beq q.1 1 with
            | false => rfl
            | true =>
              rw [Nat.eq_of_beq_eq_true hb] at hk
              cases hk
          have hc : ¬ w0.category = 2 := by rw [hcat]; show ¬ (bif Nat.beq q.1 1 then 2 else 1) = 2; rw [hb]; decide
          rw [jargs, if_neg hc, spMk, hb]
          simp only [cond_false]
          refine ⟨by simp [i1], fun i v hi => ?_⟩
          rw [spLoc, hk] at hi
          simp only [cond_false] at hi
          match i, hi with
          | 0, hi =>
            simp only [List.getElem?_cons_zero, Option.some.injEq] at hi
            subst hi
            exact ⟨w0, rfl, e2⟩
          | j + 1, hi =>
            obtain ⟨w, g1, g2⟩ := i2 j v (by simpa using hi)
            exact ⟨w, by simpa using g1, g2⟩
theorem spLoc_app : ∀ (a b : List (Option aT)) (n : Nat), spLoc n (a ++ b) = spLoc n a ++ spLoc (n + (spEnv a).length) b := by
  intro a
  induction a with
  | nil => intro b n; rfl
  | cons q t ih =>
    intro b n
    cases q with
    | none => rw [List.cons_append, spLoc, spLoc, spEnv, ih]; rfl
    | some q =>
      rw [List.cons_append, spLoc, spLoc, spEnv]
      cases hk : Nat.ble q.1 1 with
      | true => simp only [cond_true]; rw [ih, List.length_cons, List.cons_append, show n + 1 + (spEnv t).length = n + ((spEnv t).length + 1) by omega]
      | false => simp only [cond_false]; rw [ih]; rfl
theorem spLoc_none : ∀ (k n i : Nat) (v : aV), (spLoc n (List.replicate k none))[i]? ≠ some (some v) := by
  intro k
  induction k with
  | zero => intro n i v; simp [spLoc]
  | succ k ih =>
    intro n i v
    rw [List.replicate_succ, spLoc]
    cases i with
    | zero => simp
    | succ i => simpa using ih n i v
/-- the locals of the callee -/
theorem args_ok {zz : List Int} {sp : List (Option aT)} {av : List Value} {y2 : Nat} (hf : spFit sp (jmx y2) = true) (hl : av.length = (sp.filter (fun q => q.isSome)).length) (hv : ∀ (i : Nat) (v : aV), (spLoc 0 (sp.filter (fun q => q.isSome)))[i]? = some (some v) → ∃ w, av[i]? = some w ∧ vOK g zz bk v w) : (lg_sl av).length ≤ jmx y2 ∧ loOK g zz bk (spLoc 0 sp) (jal y2 av) := by
  rw [spFit] at hf
  simp only [Bool.and_eq_true, decide_eq_true_eq] at hf
  obtain ⟨h1, h2⟩ := mk_args _ av 0 (fun q hq => (List.mem_filter.mp hq).2) hl hv
  have h3 := Nat.le_of_ble_eq_true hf.2
  refine ⟨by rw [lg_jargs, h1]; exact h3, fun i v hi => ?_⟩
  rw [hf.1, spLoc_app] at hi
  rcases Nat.lt_or_ge i (spLoc 0 (spMk (sp.filter (fun q => q.isSome)))).length with hlt | hge
  · rw [List.getElem?_append_left hlt] at hi
    obtain ⟨w, g1, g2⟩ := h2 i v hi
    exact ⟨w, by rw [jal]; exact getE_app g1, g2⟩
  · rw [List.getElem?_append_right hge] at hi
    exact absurd hi (spLoc_none _ _ _ _)
/-- a spec's cells -/
theorem clIds_ok : ∀ (cl : List aC) (vs : List Int) (env : List aE) (ov : List aO) (r : List aE × List aO × List Nat), clIds TT cl env ov fc = some r → PT TT g EI W bk0 h0 ev y vs bk al st h (env, fc, loc, stk, ov, pr) →
    ∃ (ws zs : List Int), PT TT g EI W bk0 h0 ev y (vs ++ ws) bk al st h (r.1, fc, loc, stk, r.2.1, pr) ∧ idv (vs ++ ws) r.2.2 zs ∧ outOK bk h zs cl := by
  intro cl
  induction cl with
  | nil =>
    intro vs env ov r hr hp
    rw [clIds] at hr
    cases hr
    exact ⟨[], [], by simpa using hp, rfl, rfl, fun j q x hj => by simp at hj⟩
  | cons q t ih =>
    intro vs env ov r hr hp
    rw [clIds] at hr
    have step : ∀ (vs1 : List Int) (env1 : List aE) (ov1 : List aO) (i : Nat) (z : Int) (b : Nat) (c : jC), (∃ w1, vs1 = vs ++ w1) → PT TT g EI W bk0 h0 ev y vs1 bk al st h (env1, fc, loc, stk, ov1, pr) → vs1[i]? = some z → (q.2.2.2.1 ≤ z ∧ z ≤ q.2.2.2.2) → bk q.1 = some b → h[b + q.2.1]? = some c → plAt c (q.2.2.1 : Nat) z → (match clIds TT t env1 ov1 fc with | some r => some (r.1, r.2.1, i :: r.2.2) | none => none) = some r → ∃ (ws zs : List Int), PT TT g EI W bk0 h0 ev y (vs ++ ws) bk al st h (r.1, fc, loc, stk, r.2.1, pr) ∧ idv (vs ++ ws) r.2.2 zs ∧ outOK bk h zs (q :: t) := by
      intro vs1 env1 ov1 i z b c ⟨w1, e1⟩ hP hi hb h1 h2 h3 hm
      cases hc : clIds TT t env1 ov1 fc with
      | none => rw [hc] at hm; cases hm
      | some r2 =>
        rw [hc] at hm
        cases hm
        obtain ⟨ws, zs, g1, g2, g3⟩ := ih vs1 env1 ov1 r2 hc hP
        subst e1
        refine ⟨w1 ++ ws, z :: zs, by rw [← List.append_assoc]; exact g1, ?_, by simp [g3.1], fun j q2 x hj hx => ?_⟩
        · rw [← List.append_assoc]
          rw [idv, List.map_cons, List.map_cons, getE_app hi, g2]
        · cases j with
          | zero =>
            simp only [List.getElem?_cons_zero, Option.some.injEq] at hj hx
            subst hj
            subst hx
            exact ⟨hb, b, c, h1, h2, h3⟩
          | succ j => exact g3.2 j q2 x (by simpa using hj) (by simpa using hx)
    cases hf : ovFind q.1 q.2.1 (fcon q.2.2.1) ov with
    | some i =>
      rw [hf] at hr
      dsimp only at hr
      cases hw : aWithin env fc i q.2.2.2.1 q.2.2.2.2 with
      | false => rw [hw] at hr; cases hr
      | true =>
        rw [hw] at hr
        simp only [cond_true] at hr
        obtain ⟨z2, b2, c2, x2, g1, g2, g3, g4, g5⟩ := hp.1.2.2.2.2.2.1 _ (ovFind_mem hf)
        rw [fcon_ok] at g1
        cases g1
        exact step vs env ov i x2 b2 c2 ⟨[], by simp⟩ hp g5 (aWithin_ok hp.ee hw g5) g2 g3 g4 hr
    | none =>
      rw [hf] at hr
      dsimp only at hr
      cases ht : tyAt TT q.1 q.2.1 with
      | none => rw [ht] at hr; cases hr
      | some ct =>
        rw [ht] at hr
        have fresh : ∀ (lo hi : Int) (x : Int32) (b : Nat) (c : jC), bk q.1 = some b → h[b + q.2.1]? = some c → plAt c (q.2.2.1 : Nat) x.toInt → lo ≤ x.toInt → x.toInt ≤ hi → PT TT g EI W bk0 h0 ev y (vs ++ [x.toInt]) bk al st h (env ++ [eNew lo hi none], fc, loc, stk, (q.1, q.2.1, fcon q.2.2.1, env.length) :: ov, pr) ∧ (vs ++ [x.toInt])[env.length]? = some x.toInt := by
          intro lo hi x b c hb hc hx h1 h2
          obtain ⟨hP, hz⟩ := hp.fresh (e := eNew lo hi none) (z := x.toInt) (eVal.bd h1 h2)
          exact ⟨hP.know hb hc fcon_ok hx hz, hz⟩
        cases ct with
        | inr o =>
          dsimp only at hr
          cases hq : o.2[q.2.2.1]? with
          | none => rw [hq] at hr; cases hr
          | some ty =>
            rw [hq] at hr
            dsimp only at hr
            cases hc : (Nat.ble q.1 1 && Nat.beq ty.1 0 && decide (q.2.2.2.1 ≤ ty.2.1) && decide (ty.2.2.1 ≤ q.2.2.2.2)) with
            | false => rw [hc] at hr; cases hr
            | true =>
              rw [hc] at hr
              simp only [Bool.and_eq_true, decide_eq_true_eq] at hc
              simp only [cond_true] at hr
              obtain ⟨b, hb⟩ := hp.2.1.2.2.2.2.2 q.1 (Nat.le_of_ble_eq_true hc.1.1.1)
              obtain ⟨c, hcc, fs, rfl, hlen, hfs⟩ := hp.2.1.1 _ b q.2.1 _ hb ht
              obtain ⟨v, hv, hft⟩ := hfs _ ty hq
              have hk := Nat.eq_of_beq_eq_true hc.1.1.2
              simp only [ftOK, hk] at hft
              obtain ⟨x, rfl, x1, x2⟩ := hft
              have hpl : plAt (.inr (o.1, fs)) (q.2.2.1 : Nat) x.toInt := ⟨by omega, x, by simpa using hv, rfl⟩
              obtain ⟨f1, f2⟩ := fresh ty.2.1 ty.2.2.1 x b _ hb hcc hpl x1 x2
              exact step _ _ _ env.length x.toInt b _ ⟨[x.toInt], rfl⟩ f1 f2 ⟨by omega, by omega⟩ hb hcc hpl hr
        | inl a =>
          dsimp only at hr
          cases hc : (Nat.ble q.1 1 && Nat.blt q.2.2.1 a.2.1 && decide (q.2.2.2.1 ≤ (sgL a.2.2 (fcon q.2.2.1) q.2.2.1 q.2.2.1).1) && decide ((sgL a.2.2 (fcon q.2.2.1) q.2.2.1 q.2.2.1).2 ≤ q.2.2.2.2)) with
          | false => rw [hc] at hr; cases hr
          | true =>
            rw [hc] at hr
            simp only [Bool.and_eq_true, decide_eq_true_eq] at hc
            simp only [cond_true] at hr
            obtain ⟨b, hb⟩ := hp.2.1.2.2.2.2.2 q.1 (Nat.le_of_ble_eq_true hc.1.1.1)
            obtain ⟨c, hcc, f, rfl, hsg⟩ := hp.2.1.1 _ b q.2.1 _ hb ht
            have hlt : q.2.2.1 < a.2.1 := by have h9 := hc.1.1.2; simp [Nat.blt] at h9; omega
            have hbd := sgL_ok (vs := vs) (F := fcon q.2.2.1) (lo := q.2.2.1) (hi := q.2.2.1) (hsg _ hlt) fcon_ok (Int.le_refl _) (Int.le_refl _)
            have hpl : plAt (.inl (a.1, a.2.1, f)) (q.2.2.1 : Nat) (f q.2.2.1).toInt := ⟨by omega, by simp⟩
            obtain ⟨f1, f2⟩ := fresh _ _ (f q.2.2.1) b _ hb hcc hpl hbd.1 hbd.2
            exact step _ _ _ env.length _ b _ ⟨[(f q.2.2.1).toInt], rfl⟩ f1 f2 ⟨by omega, by omega⟩ hb hcc hpl hr
end AG
