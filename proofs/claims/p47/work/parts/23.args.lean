section
/-! a call's arguments, its cells -/
theorem spEnv_filter : ∀ (sp : List (Option aT)), spEnv (sp.filter (fun q => q.isSome)) = spEnv sp := by
  intro sp
  induction sp with
  | nil => rfl
  | cons a t ih =>
    cases a with
    | none => simp only [List.filter_cons, Option.isSome_none, Bool.false_eq_true, if_false, spEnv]; exact ih
    | some q => simp only [List.filter_cons, Option.isSome_some, if_true, spEnv, ih]
section AG
variable {TT : List (List aCT)} {g : jG} {EI : aB → jH → Prop} {W P : List aR} {bk0 : aB} {h0 : jH} {ev : List Int} {y : Nat} {vs : List Int} {bk : aB} {al : List (Option Value)} {st : List Value} {h : jH} {env : List aE} {fc : List aF} {loc : List (Option aV)} {stk : List aV} {ov : List aO} {pr : List Nat}
/-- values that are as a spec's locals say: by their places among the arguments, then among the locals -/
theorem lg_jargs : ∀ (av : List Value), (lg_sl av).length = (jargs av).length := by
  intro av
  induction av with
  | nil => rfl
  | cons v t ih =>
    rw [show lg_sl (v :: t) = (if v.category = 2 then [Slot.val v, Slot.second] else [Slot.val v]) ++ lg_sl t from rfl, jargs]
    by_cases hc : v.category = 2
    · rw [if_pos hc, if_pos hc]; simp [ih]
    · rw [if_neg hc, if_neg hc]; simp [ih]
theorem mk_args {zz : List Int} : ∀ (fs : List (Option aT)) (av : List Value) (n : Nat), (∀ q ∈ fs, q.isSome = true) → av.length = fs.length → (∀ (i : Nat) (v : aV), (spLoc n fs)[i]? = some (some v) → ∃ w, av[i]? = some w ∧ vOK g zz bk v w) →
    (jargs av).length = (spMk fs).length ∧ ∀ (i : Nat) (v : aV), (spLoc n (spMk fs))[i]? = some (some v) → ∃ w, (jargs av)[i]? = some (some w) ∧ vOK g zz bk v w := by
  intro fs
  induction fs with
  | nil =>
    intro av n _ hl _
    cases av with
    | nil => exact ⟨rfl, fun i v hv => by simp [spMk, spLoc] at hv⟩
    | cons => simp at hl
  | cons a t ih =>
    intro av n hs hl hv
    cases a with
    | none => exact absurd (hs none List.mem_cons_self) (by simp)
    | some q =>
      cases av with
      | nil => simp at hl
      | cons w0 av =>
        have hs2 : ∀ z ∈ t, z.isSome = true := fun z hz => hs z (List.mem_cons_of_mem _ hz)
        have hl2 : av.length = t.length := by simpa using hl
        cases hk : Nat.ble q.1 1 with
        | true =>
          have e0 : ∃ w, (w0 :: av)[0]? = some w ∧ vOK g zz bk (q.1, n, 0) w := hv 0 (q.1, n, 0) (by rw [spLoc, hk]; rfl)
          obtain ⟨w, e1, e2⟩ := e0
          have e1 : w0 = w := by simpa using e1
          subst e1
          obtain ⟨i1, i2⟩ := ih av (n + 1) hs2 hl2 (fun i v hi => by
            obtain ⟨w, g1, g2⟩ := hv (i + 1) v (by rw [spLoc, hk]; simpa using hi)
            exact ⟨w, by simpa using g1, g2⟩)
          have hcat := e2.cat
          cases hb : Nat.beq q.1 1 with
          | true =>
            have hc : w0.category = 2 := by rw [hcat]; show (bif Nat.beq q.1 1 then 2 else 1) = 2; rw [hb]; rfl
            rw [jargs, if_pos hc, spMk, hb]
            simp only [cond_true]
            refine ⟨by simp [i1], fun i v hi => ?_⟩
            rw [spLoc, hk] at hi
            simp only [cond_true] at hi
            match i, hi with
            | 0, hi =>
              simp only [List.getElem?_cons_zero, Option.some.injEq] at hi
              subst hi
              exact ⟨w0, rfl, e2⟩
            | 1, hi => simp [spLoc] at hi
            | j + 2, hi =>
              obtain ⟨w, g1, g2⟩ := i2 j v (by simpa [spLoc] using hi)
              exact ⟨w, by simpa using g1, g2⟩
          | false =>
            have hc : ¬ w0.category = 2 := by rw [hcat]; show ¬ (bif Nat.beq q.1 1 then 2 else 1) = 2; rw [hb]; decide
            rw [jargs, if_neg hc, spMk, hb]
            simp only [cond_false]
            refine ⟨by simp [i1], fun i v hi => ?_⟩
            rw [spLoc, hk] at hi
            simp only [cond_true] at hi
            match i, hi with
            | 0, hi =>
              simp only [List.getElem?_cons_zero, Option.some.injEq] at hi
              subst hi
              exact ⟨w0, rfl, e2⟩
            | j + 1, hi =>
              obtain ⟨w, g1, g2⟩ := i2 j v (by simpa using hi)
              exact ⟨w, by simpa using g1, g2⟩
        | false =>
          have e0 : ∃ w, (w0 :: av)[0]? = some w ∧ vOK g zz bk (q.1, q.2.2.2.1, q.2.2.2.2) w := hv 0 (q.1, q.2.2.2.1, q.2.2.2.2) (by rw [spLoc, hk]; rfl)
          obtain ⟨w, e1, e2⟩ := e0
          have e1 : w0 = w := by simpa using e1
          subst e1
          obtain ⟨i1, i2⟩ := ih av n hs2 hl2 (fun i v hi => by
            obtain ⟨w, g1, g2⟩ := hv (i + 1) v (by rw [spLoc, hk]; simpa using hi)
            exact ⟨w, by simpa using g1, g2⟩)
          have hcat := e2.cat
          have hb : Nat.beq q.1 1 = false := by
            cases hb : Nat.beq q.1 1 with
            | false => rfl
            | true =>
              rw [Nat.eq_of_beq_eq_true hb] at hk
              cases hk
          have hc : ¬ w0.category = 2 := by rw [hcat]; show ¬ (bif Nat.beq q.1 1 then 2 else 1) = 2; rw [hb]; decide
          rw [jargs, if_neg hc, spMk, hb]
          simp only [cond_false]
          refine ⟨by simp [i1], fun i v hi => ?_⟩
          rw [spLoc, hk] at hi
          simp only [cond_false] at hi
          match i, hi with
          | 0, hi =>
            simp only [List.getElem?_cons_zero, Option.some.injEq] at hi
            subst hi
            exact ⟨w0, rfl, e2⟩
          | j + 1, hi =>
            obtain ⟨w, g1, g2⟩ := i2 j v (by simpa using hi)
            exact ⟨w, by simpa using g1, g2⟩
theorem spLoc_app : ∀ (a b : List (Option aT)) (n : Nat), spLoc n (a ++ b) = spLoc n a ++ spLoc (n + (spEnv a).length) b := by
  intro a
  induction a with
  | nil => intro b n; rfl
  | cons q t ih =>
    intro b n
    cases q with
    | none => rw [List.cons_append, spLoc, spLoc, spEnv, ih]; rfl
    | some q =>
      rw [List.cons_append, spLoc, spLoc, spEnv]
      cases hk : Nat.ble q.1 1 with
      | true => simp only [cond_true]; rw [ih, List.length_cons, List.cons_append, show n + 1 + (spEnv t).length = n + ((spEnv t).length + 1) by omega]
      | false => simp only [cond_false]; rw [ih]; rfl
theorem spLoc_none : ∀ (k n i : Nat) (v : aV), (spLoc n (List.replicate k none))[i]? ≠ some (some v) := by
  intro k
  induction k with
  | zero => intro n i v; simp [spLoc]
  | succ k ih =>
    intro n i v
    rw [List.replicate_succ, spLoc]
    cases i with
    | zero => simp
    | succ i => simpa using ih n i v
/-- the locals of the callee -/
theorem args_ok {zz : List Int} {sp : List (Option aT)} {av : List Value} {y2 : Nat} (hf : spFit sp (jmx y2) = true) (hl : av.length = (sp.filter (fun q => q.isSome)).length) (hv : ∀ (i : Nat) (v : aV), (spLoc 0 (sp.filter (fun q => q.isSome)))[i]? = some (some v) → ∃ w, av[i]? = some w ∧ vOK g zz bk v w) : (lg_sl av).length ≤ jmx y2 ∧ loOK g zz bk (spLoc 0 sp) (jal y2 av) := by
  rw [spFit] at hf
  simp only [Bool.and_eq_true, decide_eq_true_eq] at hf
  obtain ⟨h1, h2⟩ := mk_args _ av 0 (fun q hq => (List.mem_filter.mp hq).2) hl hv
  have h3 := Nat.le_of_ble_eq_true hf.2
  refine ⟨by rw [lg_jargs, h1]; exact h3, fun i v hi => ?_⟩
  rw [hf.1, spLoc_app] at hi
  rcases Nat.lt_or_ge i (spLoc 0 (spMk (sp.filter (fun q => q.isSome)))).length with hlt | hge
  · rw [List.getElem?_append_left hlt] at hi
    obtain ⟨w, g1, g2⟩ := h2 i v hi
    exact ⟨w, by rw [jal]; exact getE_app g1, g2⟩
  · rw [List.getElem?_append_right hge] at hi
    exact absurd hi (spLoc_none _ _ _ _)
/-- a spec's cells -/
theorem clIds_ok : ∀ (cl : List aC) (vs : List Int) (env : List aE) (ov : List aO) (r : List aE × List aO × List Nat), clIds TT cl env ov fc = some r → PT TT g EI W bk0 h0 ev y vs bk al st h (env, fc, loc, stk, ov, pr) →
    ∃ (ws zs : List Int), PT TT g EI W bk0 h0 ev y (vs ++ ws) bk al st h (r.1, fc, loc, stk, r.2.1, pr) ∧ idv (vs ++ ws) r.2.2 zs ∧ outOK bk h zs cl := by
  intro cl
  induction cl with
  | nil =>
    intro vs env ov r hr hp
    rw [clIds] at hr
    cases hr
    exact ⟨[], [], by simpa using hp, rfl, rfl, fun j q x hj => by simp at hj⟩
  | cons q t ih =>
    intro vs env ov r hr hp
    rw [clIds] at hr
    have step : ∀ (vs1 : List Int) (env1 : List aE) (ov1 : List aO) (i : Nat) (z : Int) (b : Nat) (c : jC), (∃ w1, vs1 = vs ++ w1) → PT TT g EI W bk0 h0 ev y vs1 bk al st h (env1, fc, loc, stk, ov1, pr) → vs1[i]? = some z → (q.2.2.2.1 ≤ z ∧ z ≤ q.2.2.2.2) → bk q.1 = some b → h[b + q.2.1]? = some c → plAt c (q.2.2.1 : Nat) z → (match clIds TT t env1 ov1 fc with | some r => some (r.1, r.2.1, i :: r.2.2) | none => none) = some r → ∃ (ws zs : List Int), PT TT g EI W bk0 h0 ev y (vs ++ ws) bk al st h (r.1, fc, loc, stk, r.2.1, pr) ∧ idv (vs ++ ws) r.2.2 zs ∧ outOK bk h zs (q :: t) := by
      intro vs1 env1 ov1 i z b c ⟨w1, e1⟩ hP hi hb h1 h2 h3 hm
      cases hc : clIds TT t env1 ov1 fc with
      | none => rw [hc] at hm; cases hm
      | some r2 =>
        rw [hc] at hm
        cases hm
        obtain ⟨ws, zs, g1, g2, g3⟩ := ih vs1 env1 ov1 r2 hc hP
        subst e1
        refine ⟨w1 ++ ws, z :: zs, by rw [← List.append_assoc]; exact g1, ?_, by simp [g3.1], fun j q2 x hj hx => ?_⟩
        · rw [← List.append_assoc]
          rw [idv, List.map_cons, List.map_cons, getE_app hi, g2]
        · cases j with
          | zero =>
            simp only [List.getElem?_cons_zero, Option.some.injEq] at hj hx
            subst hj
            subst hx
            exact ⟨hb, b, c, h1, h2, h3⟩
          | succ j => exact g3.2 j q2 x (by simpa using hj) (by simpa using hx)
    cases hf : ovFind q.1 q.2.1 (fcon q.2.2.1) ov with
    | some i =>
      rw [hf] at hr
      dsimp only at hr
      cases hw : aWithin env fc i q.2.2.2.1 q.2.2.2.2 with
      | false => rw [hw] at hr; cases hr
      | true =>
        rw [hw] at hr
        simp only [cond_true] at hr
        obtain ⟨z2, b2, c2, x2, g1, g2, g3, g4, g5⟩ := hp.1.2.2.2.2.2.1 _ (ovFind_mem hf)
        rw [fcon_ok] at g1
        cases g1
        exact step vs env ov i x2 b2 c2 ⟨[], by simp⟩ hp g5 (aWithin_ok hp.ee hw g5) g2 g3 g4 hr
    | none =>
      rw [hf] at hr
      dsimp only at hr
      cases ht : tyAt TT q.1 q.2.1 with
      | none => rw [ht] at hr; cases hr
      | some ct =>
        rw [ht] at hr
        have fresh : ∀ (lo hi : Int) (x : Int32) (b : Nat) (c : jC), bk q.1 = some b → h[b + q.2.1]? = some c → plAt c (q.2.2.1 : Nat) x.toInt → lo ≤ x.toInt → x.toInt ≤ hi → PT TT g EI W bk0 h0 ev y (vs ++ [x.toInt]) bk al st h (env ++ [eNew lo hi none], fc, loc, stk, (q.1, q.2.1, fcon q.2.2.1, env.length) :: ov, pr) ∧ (vs ++ [x.toInt])[env.length]? = some x.toInt := by
          intro lo hi x b c hb hc hx h1 h2
          obtain ⟨hP, hz⟩ := hp.fresh (e := eNew lo hi none) (z := x.toInt) (eVal.bd h1 h2)
          exact ⟨hP.know hb hc fcon_ok hx hz, hz⟩
        cases ct with
        | inr o =>
          dsimp only at hr
          cases hq : o.2[q.2.2.1]? with
          | none => rw [hq] at hr; cases hr
          | some ty =>
            rw [hq] at hr
            dsimp only at hr
            cases hc : (Nat.ble q.1 1 && Nat.beq ty.1 0 && decide (q.2.2.2.1 ≤ ty.2.1) && decide (ty.2.2.1 ≤ q.2.2.2.2)) with
            | false => rw [hc] at hr; cases hr
            | true =>
              rw [hc] at hr
              simp only [Bool.and_eq_true, decide_eq_true_eq] at hc
              simp only [cond_true] at hr
              obtain ⟨b, hb⟩ := hp.2.1.2.2.2.2.2 q.1 (Nat.le_of_ble_eq_true hc.1.1.1)
              obtain ⟨c, hcc, fs, rfl, hlen, hfs⟩ := hp.2.1.1 _ b q.2.1 _ hb ht
              obtain ⟨v, hv, hft⟩ := hfs _ ty hq
              have hk := Nat.eq_of_beq_eq_true hc.1.1.2
              simp only [ftOK, hk] at hft
              obtain ⟨x, rfl, x1, x2⟩ := hft
              have hpl : plAt (.inr (o.1, fs)) (q.2.2.1 : Nat) x.toInt := ⟨by omega, x, by simpa using hv, rfl⟩
              obtain ⟨f1, f2⟩ := fresh ty.2.1 ty.2.2.1 x b _ hb hcc hpl x1 x2
              exact step _ _ _ env.length x.toInt b _ ⟨[x.toInt], rfl⟩ f1 f2 ⟨by omega, by omega⟩ hb hcc hpl hr
        | inl a =>
          dsimp only at hr
          cases hc : (Nat.ble q.1 1 && Nat.blt q.2.2.1 a.2.1 && decide (q.2.2.2.1 ≤ (sgL a.2.2 (fcon q.2.2.1) q.2.2.1 q.2.2.1).1) && decide ((sgL a.2.2 (fcon q.2.2.1) q.2.2.1 q.2.2.1).2 ≤ q.2.2.2.2)) with
          | false => rw [hc] at hr; cases hr
          | true =>
            rw [hc] at hr
            simp only [Bool.and_eq_true, decide_eq_true_eq] at hc
            simp only [cond_true] at hr
            obtain ⟨b, hb⟩ := hp.2.1.2.2.2.2.2 q.1 (Nat.le_of_ble_eq_true hc.1.1.1)
            obtain ⟨c, hcc, f, rfl, hsg⟩ := hp.2.1.1 _ b q.2.1 _ hb ht
            have hlt : q.2.2.1 < a.2.1 := by have h9 := hc.1.1.2; simp [Nat.blt] at h9; omega
            have hbd := sgL_ok (vs := vs) (F := fcon q.2.2.1) (lo := q.2.2.1) (hi := q.2.2.1) (hsg _ hlt) fcon_ok (Int.le_refl _) (Int.le_refl _)
            have hpl : plAt (.inl (a.1, a.2.1, f)) (q.2.2.1 : Nat) (f q.2.2.1).toInt := ⟨by omega, by simp⟩
            obtain ⟨f1, f2⟩ := fresh _ _ (f q.2.2.1) b _ hb hcc hpl hbd.1 hbd.2
            exact step _ _ _ env.length _ b _ ⟨[(f q.2.2.1).toInt], rfl⟩ f1 f2 ⟨by omega, by omega⟩ hb hcc hpl hr
end AG
end
section
/-! behind a call -/
theorem getE_right {α : Type} {a b : List α} {i : Nat} (h : a.length ≤ i) : (a ++ b)[i]? = b[i - a.length]? := List.getElem?_append_right h
def plain (L : List aE) : Prop := ∀ e ∈ L, ∃ lo hi, e = eNew lo hi none
theorem clEnv_plain {cl : List aC} : plain (clEnv cl) := fun e he => by
  obtain ⟨q, -, hq⟩ := List.mem_map.mp he
  exact ⟨_, _, hq.symm⟩
theorem spEnv_plain : ∀ (sp : List (Option aT)), plain (spEnv sp) := by
  intro sp
  induction sp with
  | nil => intro e he; exact absurd he List.not_mem_nil
  | cons a t ih =>
    cases a with
    | none => exact ih
    | some q =>
      intro e he
      rw [spEnv] at he
      cases hk : Nat.ble q.1 1 with
      | false => rw [hk] at he; exact ih e he
      | true =>
        rw [hk] at he
        rcases List.mem_cons.mp he with rfl | he
        · exact ⟨_, _, rfl⟩
        · exact ih e he
theorem eIv.appl {vs zs : List Int} {env L : List aE} (h1 : eIv vs env) (h2 : spBd L zs) : eIv (vs ++ zs) (env ++ L) := by
  refine ⟨by simp [h1.1, h2.1], fun i e z he hz => ?_⟩
  rcases Nat.lt_or_ge i env.length with hl | hl
  · rw [List.getElem?_append_left hl] at he
    rw [List.getElem?_append_left (by rw [← h1.1]; exact hl)] at hz
    exact h1.2 i e z he hz
  · rw [getE_right hl] at he
    rw [getE_right (by rw [← h1.1]; exact hl), ← h1.1] at hz
    exact h2.2 _ e z he hz
theorem eFm.appl {vs zs : List Int} {env L : List aE} (hl : env.length = vs.length) (h1 : eFm vs env) (hp : plain L) : eFm (vs ++ zs) (env ++ L) := by
  intro i e z he hz
  rcases Nat.lt_or_ge i env.length with hlt | hlt
  · rw [List.getElem?_append_left hlt] at he
    rw [List.getElem?_append_left (by rw [← hl]; exact hlt)] at hz
    obtain ⟨g1, g2⟩ := h1 i e z he hz
    exact ⟨fun F hF => fev_app (g1 F hF), g2.app⟩
  · rw [getE_right hlt] at he
    obtain ⟨lo, hi, rfl⟩ := hp e (List.mem_of_getElem? he)
    exact ⟨(fun F q => by cases q), tg0⟩
theorem clOv_mem : ∀ (cl : List aC) (n : Nat) (q : aO), q ∈ clOv n cl → ∃ j c, cl[j]? = some c ∧ q = (c.1, c.2.1, fcon c.2.2.1, n + j) := by
  intro cl
  induction cl with
  | nil => intro n q hq; exact absurd hq List.not_mem_nil
  | cons c t ih =>
    intro n q hq
    rw [clOv] at hq
    rcases List.mem_cons.mp hq with rfl | hq
    · exact ⟨0, c, rfl, rfl⟩
    · obtain ⟨j, c2, h1, h2⟩ := ih (n + 1) q hq
      exact ⟨j + 1, c2, by simpa using h1, by rw [h2, show n + 1 + j = n + (j + 1) by omega]⟩
theorem out_bd {bk : aB} {h : jH} {os : List Int} {outs : List aC} (ho : outOK bk h os outs) : spBd (clEnv outs) os := by
  refine ⟨by simp [clEnv, ho.1], fun j e z he hz => ?_⟩
  rw [clEnv, List.getElem?_map] at he
  cases hq : outs[j]? with
  | none => rw [hq] at he; cases he
  | some q =>
    rw [hq] at he
    cases he
    exact (ho.2 j q z hq hz).1
section AN
variable {TT : List (List aCT)} {g : jG} {EI : aB → jH → Prop} {W P : List aR} {bk0 : aB} {h0 : jH} {ev : List Int} {y : Nat} {vs : List Int} {bk bk' : aB} {al : List (Option Value)} {st : List Value} {h h' : jH} {env : List aE} {fc : List aF} {loc : List (Option aV)} {stk : List aV} {ov : List aO} {pr : List Nat}
theorem PT.after {Wk : List aR} (hp : PT TT g EI W bk0 h0 ev y vs bk al st h (env, fc, loc, stk, ov, pr)) (hh : hOK TT g EI Wk bk h bk' h') (hW : subW Wk W = true) (h4 : stk.all (fun v => Nat.ble v.1 3) = true) : PT TT g EI W bk0 h0 ev y vs bk' al st h' (env, fc, lo4 loc, stk, ovKill TT env Wk ov, pr) := by
  obtain ⟨⟨a1, a2, a3, a4, a5, a6, a7⟩, ⟨b1, b2, b3, b4, b5, b6⟩, hl, hq⟩ := hp
  obtain ⟨c1, c2, c3, c4, c5, c6⟩ := hh
  exact ⟨⟨a1, a2, a3, a4.ext c5, a5.ext c5 h4, ov_un a1 c4 c5 a6, fun B hB => by obtain ⟨b, hb⟩ := a7 B hB; exact ⟨b, c5 B b hb⟩⟩, ⟨c1, c2, c3, b4.tr b5 (c4.mono hW), fun B b hb => c5 B b (b5 B b hb), c6⟩, hl, hq⟩
theorem PT.outs {os : List Int} {outs : List aC} (hp : PT TT g EI W bk0 h0 ev y vs bk al st h (env, fc, loc, stk, ov, pr)) (ho : outOK bk h os outs) : PT TT g EI W bk0 h0 ev y (vs ++ os) bk al st h (env ++ clEnv outs, fc, loc, stk, clOv env.length outs ++ ov, pr) := by
  obtain ⟨⟨a1, a2, a3, a4, a5, a6, a7⟩, hh, hl, hq⟩ := hp
  refine ⟨⟨a1.appl (out_bd ho), a2.appl a1.1 clEnv_plain, a3.app, a4.app, a5.app, fun q hqm => ?_, a7⟩, hh, hl, fun i z hz => getE_app (hq i z hz)⟩
  rcases List.mem_append.mp hqm with hqm | hqm
  · obtain ⟨j, c, h1, rfl⟩ := clOv_mem _ _ _ hqm
    have hj : j < os.length := by rw [ho.1]; exact (List.getElem?_eq_some_iff.mp h1).1
    have hx : os[j]? = some os[j] := List.getElem?_eq_getElem hj
    obtain ⟨-, b, cc, k1, k2, k3⟩ := ho.2 j c _ h1 hx
    refine ⟨_, b, cc, os[j], fcon_ok, k1, k2, k3, ?_⟩
    show (vs ++ os)[env.length + j]? = _
    rw [getE_right (by rw [a1.1]; omega), a1.1, show vs.length + j - vs.length = j by omega]
    exact hx
  · exact a6.app q hqm
theorem PT.facts {ps : List aF} (hp : PT TT g EI W bk0 h0 ev y vs bk al st h (env, fc, loc, stk, ov, pr)) (hf : fcOK vs ps) : PT TT g EI W bk0 h0 ev y vs bk al st h (env, ps ++ fc, loc, stk, ov, pr) :=
  hp.setE ⟨hp.ee.1, hp.ee.2.1, fun F hF => by
    rcases List.mem_append.mp hF with z | z
    · exact hf F z
    · exact hp.ee.2.2 F z⟩
theorem post_fc {zs : List Int} {m : List Nat} {post ps : List aF} (hM : eFm vs env) (hi : idv vs m zs) (hs : fsubA env m post = some ps) (hp : postOK zs post) : fcOK vs ps := by
  obtain ⟨-, -, h3⟩ := fsubA_ok hM hi hs
  intro H hH
  obtain ⟨F, hF, hz⟩ := h3 H hH
  obtain ⟨z, z1, z2⟩ := hp F hF
  exact ⟨z, hz z z1, z2⟩
/-- an answer, in the caller's state -/
theorem aAns_ok {zs os : List Int} {m : List Nat} {post : List aF} {v : Option Value} {q : aQ} {S : aS} (hp : PT TT g EI W bk0 h0 ev y vs bk al st h (env, fc, loc, stk, ov, pr)) (hi : idv vs m (zs ++ os)) (ha : ansOK g bk zs os post v q) (hS : aAns env fc loc stk ov pr m post q = some S) : ∃ vs', PT TT g EI W bk0 h0 ev y vs' bk al (v.toList ++ st) h S := by
  obtain ⟨qk, qlo, qhi, qa, qb, qt⟩ := q
  have hlen : (vs.length : Nat) = env.length := hp.1.1.1.symm
  match qk, ha, hS with
  | 0, ⟨x, hv, hbd, hts, hpo⟩, hS =>
    subst hv
    rw [aAns] at hS
    dsimp only at hS
    cases h1 : fsubA env m qt with
    | none => rw [h1] at hS; cases hS
    | some ts =>
      rw [h1] at hS
      dsimp only at hS
      cases h2 : fsubA (env ++ [(qlo, qhi, none, tgN ts, 0, 0, ts)]) (m ++ [env.length]) post with
      | none => rw [h2] at hS; cases hS
      | some ps =>
        rw [h2] at hS
        have hS2 := Option.some.inj hS
        clear hS
        subst hS2
        obtain ⟨s1, s2, s3⟩ := fsubA_ok hp.ee.2.1 hi h1
        have app : ∀ F w, fev zs F = some w → fev (zs ++ os) F = some w := fun F w hw => fev_app hw
        have he : eVal vs (qlo, qhi, none, tgN ts, 0, 0, ts) x.toInt := by
          refine ⟨hbd, (fun F e => by cases e), fun e1 => ?_, fun e1 => ?_, fun e1 => ?_⟩
          · rcases hts with hts | ⟨t1, t2⟩ | ⟨t1, t2, F, t3, w, t4, t5⟩
            · subst hts
              rw [fsubA] at h1
              cases h1
              exact absurd (show (0 : Nat) = 1 from e1) (by decide)
            · refine Or.inl ⟨t1, fun H hH => ?_⟩
              obtain ⟨F, hF, hz⟩ := s3 H hH
              obtain ⟨w, w1, w2⟩ := t2 F hF
              exact ⟨w, hz w (app F w w1), w2⟩
            · refine Or.inr ⟨t1, fun H hH => ?_, ?_⟩
              · obtain ⟨F2, hF2, hz⟩ := s3 H hH
                obtain ⟨w2, w3⟩ := t2 F2 hF2
                exact ⟨w2, hz w2 (app F2 w2 w3)⟩
              · obtain ⟨H, hH, hz⟩ := s2 F t3
                exact ⟨H, hH, w, hz w (app F w t4), t5⟩
          · cases ts with
            | nil => exact absurd (show (0 : Nat) = 2 from e1) (by decide)
            | cons a t => exact absurd (show (1 : Nat) = 2 from e1) (by decide)
          · cases ts with
            | nil => exact absurd (show (0 : Nat) = 3 from e1) (by decide)
            | cons a t => exact absurd (show (1 : Nat) = 3 from e1) (by decide)
        have hP := hp.push32 (x := x) he
        have hi2 : idv (vs ++ [x.toInt]) (m ++ [env.length]) (zs ++ os ++ [x.toInt]) := idv.cat hi.app (by rw [idv, List.map_cons, List.map_nil, List.map_cons, List.map_nil, ← hlen]; simp)
        exact ⟨_, hP.facts (post_fc hP.ee.2.1 hi2 h2 hpo)⟩
  | 2, ⟨⟨b, hb, hv⟩, hpo⟩, hS =>
    subst hv
    rw [aAns] at hS
    dsimp only at hS
    cases h2 : fsubA env m post with
    | none => rw [h2] at hS; cases hS
    | some ps =>
      rw [h2] at hS
      have hS2 := Option.some.inj hS
      clear hS
      subst hS2
      exact ⟨_, (hp.put (v := (2, qa, qb)) ⟨b, hb, rfl⟩).facts (post_fc hp.ee.2.1 hi h2 hpo)⟩
  | 5, ⟨x, t, hv, t1, t2, t3, hpo⟩, hS =>
    subst hv
    rw [aAns] at hS
    dsimp only at hS
    cases h2 : fsubA (env ++ [eNew 0 qhi none, eNew qlo (qlo + qa * qhi) (some ([(env.length, (qa : Int))], qlo))]) (m ++ [env.length + 1]) post with
    | none => rw [h2] at hS; cases hS
    | some ps =>
      rw [h2] at hS
      have hS2 := Option.some.inj hS
      clear hS
      subst hS2
      dsimp only at t1 t2 t3
      obtain ⟨hP1, hz1⟩ := hp.fresh (e := eNew 0 qhi none) (z := t) (eVal.bd t1 t2)
      have hm : (qa : Int) * t ≤ qa * qhi := Int.mul_le_mul_of_nonneg_left t2 (by omega)
      have hm0 : 0 ≤ (qa : Int) * t := Int.mul_nonneg (by omega) t1
      have hP2 := hP1.push32 (e := eNew qlo (qlo + qa * qhi) (some ([(env.length, (qa : Int))], qlo))) (x := x) (by
        rw [t3]
        refine eVal.fm (by omega) (by omega) ?_
        rw [fev_of (fevl_cons (q := (env.length, (qa : Int))) hz1 (show fevl _ [] = some 0 from rfl))]
        congr 1
        show (qa : Int) * t + 0 + qlo = _
        omega)
      have e1 : env ++ [eNew 0 qhi none] ++ [eNew qlo (qlo + qa * qhi) (some ([(env.length, (qa : Int))], qlo))] = env ++ [eNew 0 qhi none, eNew qlo (qlo + qa * qhi) (some ([(env.length, (qa : Int))], qlo))] := by simp
      have e2 : (env ++ [eNew 0 qhi none]).length = env.length + 1 := by simp
      rw [e1, e2] at hP2
      have hi2 : idv (vs ++ [t] ++ [x.toInt]) (m ++ [env.length + 1]) (zs ++ os ++ [x.toInt]) := idv.cat hi.app.app (by rw [idv, List.map_cons, List.map_nil, List.map_cons, List.map_nil, ← hlen]; simp)
      exact ⟨_, hP2.facts (post_fc hP2.ee.2.1 hi2 h2 hpo)⟩
  | 9, ⟨hv, hpo⟩, hS =>
    subst hv
    rw [aAns] at hS
    dsimp only at hS
    cases h2 : fsubA env m post with
    | none => rw [h2] at hS; cases hS
    | some ps =>
      rw [h2] at hS
      have hS2 := Option.some.inj hS
      clear hS
      subst hS2
      exact ⟨_, hp.facts (post_fc hp.ee.2.1 hi h2 hpo)⟩
  | 1, ha, _ => exact absurd ha id
  | 3, ha, _ => exact absurd ha id
  | 4, ha, _ => exact absurd ha id
  | 6, ha, _ => exact absurd ha id
  | 7, ha, _ => exact absurd ha id
  | 8, ha, _ => exact absurd ha id
  | n + 10, ha, _ => exact absurd ha id
theorem aAnsA_mem {m : List Nat} {post : List aF} : ∀ {qs : List aQ} {L : List aS}, aAnsA env fc loc stk ov pr m post qs = some L → ∀ q ∈ qs, ∃ S ∈ L, aAns env fc loc stk ov pr m post q = some S := by
  intro qs
  induction qs with
  | nil => intro L _ q hq; exact absurd hq List.not_mem_nil
  | cons a t ih =>
    intro L hL q hq
    rw [aAnsA] at hL
    cases h1 : aAns env fc loc stk ov pr m post a with
    | none => rw [h1] at hL; cases hL
    | some S =>
      cases h2 : aAnsA env fc loc stk ov pr m post t with
      | none => rw [h1, h2] at hL; cases hL
      | some L2 =>
        rw [h1, h2] at hL
        cases hL
        rcases List.mem_cons.mp hq with rfl | hq
        · exact ⟨S, List.mem_cons_self, h1⟩
        · obtain ⟨S2, g1, g2⟩ := ih h2 q hq
          exact ⟨S2, List.mem_cons_of_mem _ g1, g2⟩
end AN
end
