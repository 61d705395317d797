/-! a state copied: what becomes of the relation's numbers -/
section CF
variable {l : Launch} {g : jG} {n : Int}
def shF (B ob : Nat) (t t' : aT) : Bool := Nat.beq t.1 t'.1 && (!(Nat.beq t.1 2) || (Nat.beq t'.2.2.2.1 B && Nat.beq t'.2.2.2.2 (ob + t.2.2.2.2)))
def shL (B ob : Nat) : List aT → List aT → Bool
  | [], [] => true
  | a :: l, b :: m => shF B ob a b && shL B ob l m
  | _, _ => false
def shE (B ob : Nat) (t t' : aCT) : Bool := match t, t' with
  | .inl a, .inl b => Nat.beq a.1 b.1 && Nat.beq a.2.1 b.2.1
  | .inr a, .inr b => Nat.beq a.1 b.1 && shL B ob a.2 b.2
  | _, _ => false
def shB (B ob : Nat) : Bool := (List.range 48).all (fun o => match TT_2[o]?, tyAt TTs B (ob + o) with
  | some t, some t' => shE B ob t t'
  | _, _ => false)
theorem shL_ok {B ob : Nat} : ∀ {a b : List aT}, shL B ob a b = true → a.length = b.length ∧ ∀ (k : Nat) (t : aT), a[k]? = some t → ∃ t', b[k]? = some t' ∧ shF B ob t t' = true := by
  intro a
  induction a with
  | nil =>
    intro b h
    cases b with
    | nil => exact ⟨rfl, fun k t h => by simp at h⟩
    | cons => cases h
  | cons x a ih =>
    intro b h
    cases b with
    | nil => cases h
    | cons y b =>
      rw [shL, Bool.and_eq_true] at h
      obtain ⟨h1, h2⟩ := ih h.2
      refine ⟨by rw [List.length_cons, List.length_cons, h1], fun k t hk => ?_⟩
      cases k with
      | zero => cases hk; exact ⟨y, rfl, h.1⟩
      | succ k => exact h2 k t hk
theorem shp_of {bk : aB} {h : jH} {B b ob : Nat} (hT : HT TTs g bk h) (hb : bk B = some b) (hs : shB B ob = true) (o : Nat) (t : aCT) (ht : TT_2[o]? = some t) : h[b + ob + o]? = some ((h[b + ob + o]?).getD (.inl (0, 0, fun _ => 0))) ∧ shp g (b + ob) t ((h[b + ob + o]?).getD (.inl (0, 0, fun _ => 0))) := by
  have h1 := List.all_eq_true.mp hs o (List.mem_range.mpr (t2_lt ht))
  rw [ht] at h1
  cases h2 : tyAt TTs B (ob + o) with
  | none => rw [h2] at h1; cases h1
  | some t' =>
    rw [h2] at h1
    have h1 : shE B ob t t' = true := h1
    obtain ⟨c, hc, hct⟩ := hT B b _ t' hb h2
    rw [← Nat.add_assoc] at hc
    rw [hc]
    refine ⟨rfl, ?_⟩
    show shp g (b + ob) t c
    cases t with
    | inl a =>
      cases t' with
      | inr => cases h1
      | inl a' =>
        obtain ⟨f, rfl, -⟩ := hct
        rw [shE, Bool.and_eq_true] at h1
        have e1 := Nat.eq_of_beq_eq_true h1.1
        have e2 := Nat.eq_of_beq_eq_true h1.2
        exact ⟨f, by rw [e1, e2]⟩
    | inr q =>
      cases t' with
      | inl => cases h1
      | inr q' =>
        obtain ⟨fs, rfl, hl, hf⟩ := hct
        rw [shE, Bool.and_eq_true] at h1
        have e1 := Nat.eq_of_beq_eq_true h1.1
        obtain ⟨e2, e3⟩ := shL_ok h1.2
        refine ⟨fs, by rw [e1], hl.trans e2.symm, fun k t hk => ?_⟩
        obtain ⟨t', k1, k2⟩ := e3 k t hk
        obtain ⟨v, v1, v2⟩ := hf k t' k1
        rw [shF, Bool.and_eq_true] at k2
        have k3 := Nat.eq_of_beq_eq_true k2.1
        refine ⟨fun e => ?_, fun e => ?_⟩
        · obtain ⟨t0, lo, hi, B2, o2⟩ := t'
          have e : t0 = 0 := k3.symm.trans e
          subst e
          obtain ⟨x, rfl, -⟩ := v2
          exact ⟨x, v1⟩
        · obtain ⟨t0, lo, hi, B2, o2⟩ := t'
          have k3 : t.1 = t0 := k3
          have e4 : t0 = 2 := k3.symm.trans e
          subst e4
          have k4 := k2.2
          rw [e] at k4
          have k4 : (Nat.beq B2 B && Nat.beq o2 (ob + t.2.2.2.2)) = true := k4
          rw [Bool.and_eq_true] at k4
          have e5 := Nat.eq_of_beq_eq_true k4.1
          have e6 := Nat.eq_of_beq_eq_true k4.2
          obtain ⟨b2, q1, q2⟩ := v2
          have q1 : bk B2 = some b2 := q1
          rw [e5] at q1
          cases hb.symm.trans q1
          rw [v1, q2]
          show some (Value.ref (g.2.2 + (b + o2))) = _
          rw [e6, Nat.add_assoc]
theorem fold_arr {S : Nat → jC} {o n : Nat} {t : Nat} {f : Nat → Int32} (hS : S o = .inl (t, n, f)) : ∀ (ops : List (Nat × Nat)) (D : Nat → jC) (f' : Nat → Int32), D o = .inl (t, n, f') → ((∀ z, z < n → f' z = f z) ∨ ∃ q ∈ ops, q.1 = o) → ∃ f'', ops.foldl (opA S) D o = .inl (t, n, f'') ∧ ∀ z, z < n → f'' z = f z := by
  intro ops
  induction ops with
  | nil =>
    intro D f' hD h
    rcases h with h | ⟨q, hq, -⟩
    · exact ⟨f', hD, h⟩
    · exact absurd hq List.not_mem_nil
  | cons q ops ih =>
    intro D f' hD h
    rw [List.foldl_cons]
    by_cases e : o = q.1
    · have e2 : opA S D q o = .inl (t, n, cpf n f f') := by
        unfold opA
        rw [if_pos e, hS, hD]
        rfl
      exact ih _ _ e2 (Or.inl (fun z hz => cpf_lt hz))
    · have e2 : opA S D q o = .inl (t, n, f') := by
        unfold opA
        rw [if_neg e, hD]
      refine ih _ _ e2 ?_
      rcases h with h | ⟨q', hq, hq2⟩
      · exact Or.inl h
      · rcases List.mem_cons.mp hq with rfl | hq
        · exact absurd hq2.symm e
        · exact Or.inr ⟨q', hq, hq2⟩
theorem fold_obj {S : Nat → jC} {o ci z : Nat} {fs : List Value} {v : Value} (hS : S o = .inr (ci, fs)) (hv : fs[z]? = some v) (hz : z < 1000) : ∀ (ops : List (Nat × Nat)) (D : Nat → jC) (fd : List Value), D o = .inr (ci, fd) → z < fd.length → (∀ q ∈ ops, q.1 = o → q.2 ≠ 1000 + z) → (fd[z]? = some v ∨ (o, z) ∈ ops) → ∃ fd', ops.foldl (opA S) D o = .inr (ci, fd') ∧ fd'[z]? = some v := by
  intro ops
  induction ops with
  | nil =>
    intro D fd hD hl hn h
    rcases h with h | hq
    · exact ⟨fd, hD, h⟩
    · exact absurd hq List.not_mem_nil
  | cons q ops ih =>
    intro D fd hD hl hn h
    rw [List.foldl_cons]
    have hn2 : ∀ q ∈ ops, q.1 = o → q.2 ≠ 1000 + z := fun q' hq' => hn q' (List.mem_cons_of_mem _ hq')
    by_cases e : o = q.1
    · have e2 : opA S D q o = .inr (ci, fd.set (if 1000 ≤ q.2 then q.2 - 1000 else q.2) (if 1000 ≤ q.2 then .int 0 else fs.getD q.2 .null)) := by
        unfold opA
        rw [if_pos e, hS, hD]
        rfl
      refine ih _ _ e2 (by rw [List.length_set]; exact hl) hn2 ?_
      have h0 := hn q List.mem_cons_self e.symm
      by_cases h1 : 1000 ≤ q.2
      · rw [if_pos h1, if_pos h1, List.getElem?_set_ne (by omega)]
        rcases h with h | hq
        · exact Or.inl h
        · rcases List.mem_cons.mp hq with hq | hq
          · rw [← hq] at h1
            have h1 : 1000 ≤ z := h1
            omega
          · exact Or.inr hq
      · rw [if_neg h1, if_neg h1]
        by_cases h2 : q.2 = z
        · left
          rw [h2, List.getElem?_set_self hl, List.getD_eq_getElem?_getD, hv]
          rfl
        · rw [List.getElem?_set_ne h2]
          rcases h with h | hq
          · exact Or.inl h
          · rcases List.mem_cons.mp hq with hq | hq
            · rw [← hq] at h2
              exact absurd rfl h2
            · exact Or.inr hq
    · have e2 : opA S D q o = .inr (ci, fd) := by
        unfold opA
        rw [if_neg e, hD]
      refine ih _ _ e2 hl hn2 ?_
      rcases h with h | hq
      · exact Or.inl h
      · rcases List.mem_cons.mp hq with hq | hq
        · rw [← hq] at e
          exact absurd rfl e
        · exact Or.inr hq
/-- what is copied -/
def cpE (ops : List (Nat × Nat)) (o z : Nat) : Bool := match TT_2[o]? with
  | some (.inl a) => Nat.blt z a.2.1 && ops.any (fun q => Nat.beq q.1 o)
  | some (.inr a) => Nat.blt z a.2.length && Nat.blt z 1000 && ops.any (fun q => Nat.beq q.1 o && Nat.beq q.2 z) && ops.all (fun q => !(Nat.beq q.1 o) || !(Nat.beq q.2 (1000 + z)))
  | none => false
theorem fold_cv {h h2 : jH} {bs bd : Nat} {S D : Nat → jC} {ops : List (Nat × Nat)} {o z : Nat} {x : Int} (hI : InC g h bs bd S D) (hI2 : InC g h2 bs bd S (ops.foldl (opA S) D)) (hc : cpE ops o z = true) (hv : cv h (bs + o) z x) : ∃ t c, TT_2[o]? = some t ∧ h2[bd + o]? = some c ∧ shp g bd t c ∧ cv h2 (bd + o) z x := by
  rw [cpE] at hc
  cases ht : TT_2[o]? with
  | none => rw [ht] at hc; cases hc
  | some t =>
    rw [ht] at hc
    obtain ⟨q1, q2⟩ := hI2.2.1 o t ht
    refine ⟨t, _, rfl, q1, q2, ?_⟩
    obtain ⟨s1, s2⟩ := hI.1 o t ht
    obtain ⟨d1, d2⟩ := hI.2.1 o t ht
    obtain ⟨c, hcc, hp⟩ := hv
    cases s1.symm.trans hcc
    cases t with
    | inl a =>
      have hc : (Nat.blt z a.2.1 && ops.any (fun q => Nat.beq q.1 o)) = true := hc
      rw [Bool.and_eq_true] at hc
      obtain ⟨q, hq, hq2⟩ := List.any_eq_true.mp hc.2
      obtain ⟨f, ef⟩ := s2
      obtain ⟨f', ef'⟩ := d2
      obtain ⟨f'', k1, k2⟩ := fold_arr ef ops D f' ef' (Or.inr ⟨q, hq, Nat.eq_of_beq_eq_true hq2⟩)
      refine ⟨_, q1, ?_⟩
      rw [k1]
      rw [ef] at hp
      have hp : 0 ≤ (z : Int) ∧ (f (z : Int).toNat).toInt = x := hp
      refine ⟨hp.1, ?_⟩
      show (f'' (z : Int).toNat).toInt = x
      have hz := blt_lt hc.1
      rw [k2 (z : Int).toNat (by omega)]
      exact hp.2
    | inr a =>
      have hc : (Nat.blt z a.2.length && Nat.blt z 1000 && ops.any (fun q => Nat.beq q.1 o && Nat.beq q.2 z) && ops.all (fun q => !(Nat.beq q.1 o) || !(Nat.beq q.2 (1000 + z)))) = true := hc
      simp only [Bool.and_eq_true] at hc
      obtain ⟨⟨⟨c1, c2⟩, c3⟩, c4⟩ := hc
      obtain ⟨q, hq, hq2⟩ := List.any_eq_true.mp c3
      rw [Bool.and_eq_true] at hq2
      have eq1 := Nat.eq_of_beq_eq_true hq2.1
      have eq2 := Nat.eq_of_beq_eq_true hq2.2
      obtain ⟨fs, ef, -⟩ := s2
      obtain ⟨fd, ef', l', -⟩ := d2
      rw [ef] at hp
      obtain ⟨p1, w, w1, w2⟩ := hp
      have w1 : fs[z]? = some (.int w) := w1
      obtain ⟨fd', k1, k2⟩ := fold_obj ef w1 (blt_lt c2) ops D fd ef' (by rw [l']; exact blt_lt c1) (fun q hq e1 e2 => by
        have := List.all_eq_true.mp c4 q hq
        rw [e1, e2] at this
        simp at this) (Or.inr (by rw [← eq1, ← eq2]; exact hq))
      refine ⟨_, q1, ?_⟩
      rw [k1]
      exact ⟨p1, w, k2, w2⟩
theorem ckd_shp {B ob b : Nat} {t t' : aCT} {c : jC} (hs : shE B ob t t' = true) (hp : shp g b t c) : ckd t' c := by
  cases t with
  | inl a =>
    cases t' with
    | inr => cases hs
    | inl a' =>
      obtain ⟨f, rfl⟩ := hp
      rw [shE, Bool.and_eq_true] at hs
      exact ⟨Nat.eq_of_beq_eq_true hs.1, Nat.eq_of_beq_eq_true hs.2⟩
  | inr q =>
    cases t' with
    | inl => cases hs
    | inr q' =>
      obtain ⟨fs, rfl, -⟩ := hp
      rw [shE, Bool.and_eq_true] at hs
      exact Nat.eq_of_beq_eq_true hs.1
def tyWB (t : aCT) (z : Nat) : Bool := match t with
  | .inl a => Nat.blt z a.2.1
  | .inr a => Nat.blt z a.2.length && (match jcl[a.1]? with | some r => Nat.blt z r.2.2 | none => false)
theorem tyWB_ok {t : aCT} {z : Nat} (h : tyWB t z = true) : tyW t z := by
  cases t with
  | inl a => exact blt_lt h
  | inr a =>
    rw [tyWB, Bool.and_eq_true] at h
    refine ⟨blt_lt h.1, ?_⟩
    have h2 := h.2
    cases e : jcl[a.1]? with
    | none => rw [e] at h2; cases h2
    | some r => rw [e] at h2; exact ⟨r, rfl, blt_lt h2⟩
/-- what the relation looks at is copied, in block B from cell ob on -/
def rlB (B ob : Nat) : Bool := rlE.all (fun e => (List.range (rln e)).all (fun i => cpE cx_State_0_ops (e.1 - 1) (rlz e i) && (match tyAt TTs B (ob + (e.1 - 1)) with | some t => tyWB t (rlz e i) | none => false)))
def rlXB (B ob : Nat) : Bool := rlE.all (fun e => (List.range (rln e)).all (fun i => match tyAt TTs B (ob + (e.1 - 1)) with
  | some (.inl a) => Nat.blt (rlz e i) a.2.1
  | some (.inr q) => (match q.2[rlz e i]? with | some t => Nat.beq t.1 0 | none => false)
  | none => false))
theorem rl_ex {bk : aB} {h : jH} {B b ob : Nat} (hT : HT TTs g bk h) (hb : bk B = some b) (hx : rlXB B ob = true) {e : rlT} (he : e ∈ rlE) {i : Nat} (hi : i < rln e) : ∃ x, cv h (b + ob + (e.1 - 1)) (rlz e i) x := by
  have h1 := List.all_eq_true.mp (List.all_eq_true.mp hx e he) i (List.mem_range.mpr hi)
  rw [Nat.add_assoc]
  cases ht : tyAt TTs B (ob + (e.1 - 1)) with
  | none => rw [ht] at h1; cases h1
  | some t =>
    rw [ht] at h1
    obtain ⟨c, hc, hct⟩ := hT B b _ t hb ht
    cases t with
    | inl a =>
      obtain ⟨f, rfl, -⟩ := hct
      exact ⟨_, cv_arr hc _⟩
    | inr q =>
      obtain ⟨fs, rfl, -, hf⟩ := hct
      have h1 : (match q.2[rlz e i]? with | some t => Nat.beq t.1 0 | none => false) = true := h1
      cases hk : q.2[rlz e i]? with
      | none => rw [hk] at h1; cases h1
      | some t =>
        rw [hk] at h1
        obtain ⟨v, v1, v2⟩ := hf _ t hk
        obtain ⟨t0, lo, hi', B2, o2⟩ := t
        have e0 : t0 = 0 := Nat.eq_of_beq_eq_true h1
        subst e0
        obtain ⟨x, rfl, -⟩ := v2
        exact ⟨_, cv_fld hc v1⟩
theorem cf_gen {K : aK} {d s od os bd bs : Nat} {bk : aB} {h : jH} {W0 : List aR} {bk0 : aB} {h0 : jH} (hO : hOK TTs g (EIm n) W0 bk0 h0 bk h) (hd : bk d = some bd) (hs : bk s = some bs) (hds : d ≠ s) (sd : shB d od = true) (ss : shB s os = true) (ld : 48 + od ≤ tyLen TTs d) (ls : 48 + os ≤ tyLen TTs s) (hB : rlB d od = true) (hX : rlXB s os = true) (hK : K.2.2.2.2.1 = [(9, 0, 0, 0, 0, [])]) (hW : rlE.all (fun e => apW K.2.2.2.2.2.2.2.1 [(s, os + (e.1 - 1), (rlz e 0 : Int), (rlz e (rln e - 1) : Int))]) = true) {ev : List Int}
    (hc : jCal l g 194 3 [.ref (g.2.2 + (bd + od)), .ref (g.2.2 + (bs + os))] h 0 0 (kPost TTs g (EIm n) K bk h ev)) :
    ∃ P : Option Value → jH → Prop, jCal l g 194 3 [.ref (g.2.2 + (bd + od)), .ref (g.2.2 + (bs + os))] h 0 0 P ∧ ∀ v h', P v h' → v = none ∧ ∃ bk', hOK TTs g (EIm n) K.2.2.2.2.2.2.2.1 bk h bk' h' ∧ ∀ e ∈ rlE, ∀ i, i < rln e → ∃ x, cv h (bs + os + (e.1 - 1)) (rlz e i) x ∧ cv h' (bs + os + (e.1 - 1)) (rlz e i) x ∧ cv h' (bd + od + (e.1 - 1)) (rlz e i) x := by
  have hI : InC g h (bs + os) (bd + od) (fun o => (h[bs + os + o]?).getD (.inl (0, 0, fun _ => 0))) (fun o => (h[bd + od + o]?).getD (.inl (0, 0, fun _ => 0))) := ⟨fun o t ht => shp_of hO.1 hs ss o t ht, fun o t ht => shp_of hO.1 hd sd o t ht, fun o o' h1 h2 e => by
    have := (hO.2.1 s d bs bd (os + o) (od + o') hs hd (by omega) (by omega) (by omega)).1
    exact hds this.symm⟩
  have hx := cx_State_0 (l := l) hI
  refine ⟨_, jCal.both hc hx, fun v h' hq => ?_⟩
  obtain ⟨⟨bk', os2, k1, -, q, hq1, hq2⟩, h2, ⟨rfl, hI2⟩, H, e1, e2⟩ := hq
  refine ⟨rfl, bk', k1, fun e he i hi => ?_⟩
  obtain ⟨x, hx⟩ := rl_ex hO.1 hs hX he hi
  have hB2 := List.all_eq_true.mp (List.all_eq_true.mp hB e he) i (List.mem_range.mpr hi)
  rw [Bool.and_eq_true] at hB2
  obtain ⟨t, c, t1, t2, t3, t4⟩ := fold_cv hI hI2 hB2.1 hx
  have h3 := List.all_eq_true.mp sd (e.1 - 1) (List.mem_range.mpr (t2_lt t1))
  rw [t1] at h3
  cases h4 : tyAt TTs d (od + (e.1 - 1)) with
  | none => rw [h4] at h3; cases h3
  | some t' =>
    rw [h4] at h3
    have h5 := hB2.2
    rw [h4] at h5
    have h6 := apW_iv (List.all_eq_true.mp hW e he) (z := rlz e i) (by have := (rlz_le hi).1; omega) (by have := (rlz_le hi).2; omega)
    refine ⟨x, hx, ?_, ?_⟩
    · rw [Nat.add_assoc] at hx ⊢
      exact cv_off k1 hs (by have := t2_lt t1; omega) h6 hx
    · rw [Nat.add_assoc] at t2 t4 ⊢
      exact both_cv k1 e1 e2 hd h4 t2 (ckd_shp h3 t3) (tyWB_ok h5) t4
theorem cu_437 (hk : kOK TTs g (EIm n) l Kx_437) {W0 : List aR} {bk0 bk : aB} {h0 h : jH} (hO : hOK TTs g (EIm n) W0 bk0 h0 bk h) {a0 : Nat} (ha0 : bk 0 = some a0) {a2 : Nat} (ha2 : bk 2 = some a2)  :
    jCal l g 194 3 [.ref (g.2.2 + (a0 + 1)), .ref (g.2.2 + (a2 + 0))] h 0 0 (kPost TTs g (EIm n) Kx_437 bk h []) := by
  refine hk bk h [.ref (g.2.2 + (a0 + 1)), .ref (g.2.2 + (a2 + 0))] [] hO.1 hO.2.1 hO.2.2.1 hO.2.2.2.2.2 (show 2 ≤ jmx 194 by decide +kernel) rfl (fun q hq => ?_) ⟨⟨rfl, fun i e z he hz => ?_⟩, eFm_plain (plain_app (spEnv_plain _) clEnv_plain), fun F hF => absurd hF List.not_mem_nil, fun i v hv => ?_, trivial, fun q hq => ?_, fun B hB => absurd hB List.not_mem_nil⟩
  · have hq : q ∈ ([] : List (Nat × Int × Nat)) := hq
    exact absurd hq List.not_mem_nil
  · match i, he, hz with
    | i + 0, he, _ => cases he
  · match i, hv with
    | 0, hv => cases hv; exact ⟨_, rfl, a0, ha0, rfl⟩
    | 1, hv => cases hv; exact ⟨_, rfl, a2, ha2, rfl⟩
    | i + 2, hv => cases hv
  · exact absurd hq List.not_mem_nil
set_option maxRecDepth 16384 in
theorem cf_02 (hlow : ∀ (k : Nat) (K : aK), KTx[k]? = some K → kOK TTs g (EIm n) l K) {W0 : List aR} {bk0 bk : aB} {h0 h : jH} (hO : hOK TTs g (EIm n) W0 bk0 h0 bk h) {bd bs : Nat} (hd : bk 0 = some bd) (hs : bk 2 = some bs) :
    ∃ P : Option Value → jH → Prop, jCal l g 194 3 [.ref (g.2.2 + (bd + 1)), .ref (g.2.2 + (bs + 0))] h 0 0 P ∧ ∀ v h', P v h' → v = none ∧ ∃ bk', hOK TTs g (EIm n) Kx_437.2.2.2.2.2.2.2.1 bk h bk' h' ∧ ∀ e ∈ rlE, ∀ i, i < rln e → ∃ x, cv h (bs + 0 + (e.1 - 1)) (rlz e i) x ∧ cv h' (bs + 0 + (e.1 - 1)) (rlz e i) x ∧ cv h' (bd + 1 + (e.1 - 1)) (rlz e i) x :=
  cf_gen hO hd hs (by decide) (by decide +kernel) (by decide +kernel) (by decide +kernel) (by decide +kernel) (by decide +kernel) (by decide +kernel) rfl (by decide +kernel) (cu_437 (hlow 437 _ rfl) hO hd hs)
theorem cu_438 (hk : kOK TTs g (EIm n) l Kx_438) {W0 : List aR} {bk0 bk : aB} {h0 h : jH} (hO : hOK TTs g (EIm n) W0 bk0 h0 bk h) {a0 : Nat} (ha0 : bk 0 = some a0) {a3 : Nat} (ha3 : bk 3 = some a3)  :
    jCal l g 194 3 [.ref (g.2.2 + (a0 + 1)), .ref (g.2.2 + (a3 + 0))] h 0 0 (kPost TTs g (EIm n) Kx_438 bk h []) := by
  refine hk bk h [.ref (g.2.2 + (a0 + 1)), .ref (g.2.2 + (a3 + 0))] [] hO.1 hO.2.1 hO.2.2.1 hO.2.2.2.2.2 (show 2 ≤ jmx 194 by decide +kernel) rfl (fun q hq => ?_) ⟨⟨rfl, fun i e z he hz => ?_⟩, eFm_plain (plain_app (spEnv_plain _) clEnv_plain), fun F hF => absurd hF List.not_mem_nil, fun i v hv => ?_, trivial, fun q hq => ?_, fun B hB => absurd hB List.not_mem_nil⟩
  · have hq : q ∈ ([] : List (Nat × Int × Nat)) := hq
    exact absurd hq List.not_mem_nil
  · match i, he, hz with
    | i + 0, he, _ => cases he
  · match i, hv with
    | 0, hv => cases hv; exact ⟨_, rfl, a0, ha0, rfl⟩
    | 1, hv => cases hv; exact ⟨_, rfl, a3, ha3, rfl⟩
    | i + 2, hv => cases hv
  · exact absurd hq List.not_mem_nil
set_option maxRecDepth 16384 in
theorem cf_03 (hlow : ∀ (k : Nat) (K : aK), KTx[k]? = some K → kOK TTs g (EIm n) l K) {W0 : List aR} {bk0 bk : aB} {h0 h : jH} (hO : hOK TTs g (EIm n) W0 bk0 h0 bk h) {bd bs : Nat} (hd : bk 0 = some bd) (hs : bk 3 = some bs) :
    ∃ P : Option Value → jH → Prop, jCal l g 194 3 [.ref (g.2.2 + (bd + 1)), .ref (g.2.2 + (bs + 0))] h 0 0 P ∧ ∀ v h', P v h' → v = none ∧ ∃ bk', hOK TTs g (EIm n) Kx_438.2.2.2.2.2.2.2.1 bk h bk' h' ∧ ∀ e ∈ rlE, ∀ i, i < rln e → ∃ x, cv h (bs + 0 + (e.1 - 1)) (rlz e i) x ∧ cv h' (bs + 0 + (e.1 - 1)) (rlz e i) x ∧ cv h' (bd + 1 + (e.1 - 1)) (rlz e i) x :=
  cf_gen hO hd hs (by decide) (by decide +kernel) (by decide +kernel) (by decide +kernel) (by decide +kernel) (by decide +kernel) (by decide +kernel) rfl (by decide +kernel) (cu_438 (hlow 438 _ rfl) hO hd hs)
theorem cu_734 (hk : kOK TTs g (EIm n) l Kx_734) {W0 : List aR} {bk0 bk : aB} {h0 h : jH} (hO : hOK TTs g (EIm n) W0 bk0 h0 bk h) {a2 : Nat} (ha2 : bk 2 = some a2) {a0 : Nat} (ha0 : bk 0 = some a0)  :
    jCal l g 194 3 [.ref (g.2.2 + (a2 + 0)), .ref (g.2.2 + (a0 + 1))] h 0 0 (kPost TTs g (EIm n) Kx_734 bk h []) := by
  refine hk bk h [.ref (g.2.2 + (a2 + 0)), .ref (g.2.2 + (a0 + 1))] [] hO.1 hO.2.1 hO.2.2.1 hO.2.2.2.2.2 (show 2 ≤ jmx 194 by decide +kernel) rfl (fun q hq => ?_) ⟨⟨rfl, fun i e z he hz => ?_⟩, eFm_plain (plain_app (spEnv_plain _) clEnv_plain), fun F hF => absurd hF List.not_mem_nil, fun i v hv => ?_, trivial, fun q hq => ?_, fun B hB => absurd hB List.not_mem_nil⟩
  · have hq : q ∈ ([] : List (Nat × Int × Nat)) := hq
    exact absurd hq List.not_mem_nil
  · match i, he, hz with
    | i + 0, he, _ => cases he
  · match i, hv with
    | 0, hv => cases hv; exact ⟨_, rfl, a2, ha2, rfl⟩
    | 1, hv => cases hv; exact ⟨_, rfl, a0, ha0, rfl⟩
    | i + 2, hv => cases hv
  · exact absurd hq List.not_mem_nil
set_option maxRecDepth 16384 in
theorem cf_20 (hlow : ∀ (k : Nat) (K : aK), KTx[k]? = some K → kOK TTs g (EIm n) l K) {W0 : List aR} {bk0 bk : aB} {h0 h : jH} (hO : hOK TTs g (EIm n) W0 bk0 h0 bk h) {bd bs : Nat} (hd : bk 2 = some bd) (hs : bk 0 = some bs) :
    ∃ P : Option Value → jH → Prop, jCal l g 194 3 [.ref (g.2.2 + (bd + 0)), .ref (g.2.2 + (bs + 1))] h 0 0 P ∧ ∀ v h', P v h' → v = none ∧ ∃ bk', hOK TTs g (EIm n) Kx_734.2.2.2.2.2.2.2.1 bk h bk' h' ∧ ∀ e ∈ rlE, ∀ i, i < rln e → ∃ x, cv h (bs + 1 + (e.1 - 1)) (rlz e i) x ∧ cv h' (bs + 1 + (e.1 - 1)) (rlz e i) x ∧ cv h' (bd + 0 + (e.1 - 1)) (rlz e i) x :=
  cf_gen hO hd hs (by decide) (by decide +kernel) (by decide +kernel) (by decide +kernel) (by decide +kernel) (by decide +kernel) (by decide +kernel) rfl (by decide +kernel) (cu_734 (hlow 734 _ rfl) hO hd hs)
theorem cu_735 (hk : kOK TTs g (EIm n) l Kx_735) {W0 : List aR} {bk0 bk : aB} {h0 h : jH} (hO : hOK TTs g (EIm n) W0 bk0 h0 bk h) {a3 : Nat} (ha3 : bk 3 = some a3) {a0 : Nat} (ha0 : bk 0 = some a0)  :
    jCal l g 194 3 [.ref (g.2.2 + (a3 + 0)), .ref (g.2.2 + (a0 + 1))] h 0 0 (kPost TTs g (EIm n) Kx_735 bk h []) := by
  refine hk bk h [.ref (g.2.2 + (a3 + 0)), .ref (g.2.2 + (a0 + 1))] [] hO.1 hO.2.1 hO.2.2.1 hO.2.2.2.2.2 (show 2 ≤ jmx 194 by decide +kernel) rfl (fun q hq => ?_) ⟨⟨rfl, fun i e z he hz => ?_⟩, eFm_plain (plain_app (spEnv_plain _) clEnv_plain), fun F hF => absurd hF List.not_mem_nil, fun i v hv => ?_, trivial, fun q hq => ?_, fun B hB => absurd hB List.not_mem_nil⟩
  · have hq : q ∈ ([] : List (Nat × Int × Nat)) := hq
    exact absurd hq List.not_mem_nil
  · match i, he, hz with
    | i + 0, he, _ => cases he
  · match i, hv with
    | 0, hv => cases hv; exact ⟨_, rfl, a3, ha3, rfl⟩
    | 1, hv => cases hv; exact ⟨_, rfl, a0, ha0, rfl⟩
    | i + 2, hv => cases hv
  · exact absurd hq List.not_mem_nil
set_option maxRecDepth 16384 in
theorem cf_30 (hlow : ∀ (k : Nat) (K : aK), KTx[k]? = some K → kOK TTs g (EIm n) l K) {W0 : List aR} {bk0 bk : aB} {h0 h : jH} (hO : hOK TTs g (EIm n) W0 bk0 h0 bk h) {bd bs : Nat} (hd : bk 3 = some bd) (hs : bk 0 = some bs) :
    ∃ P : Option Value → jH → Prop, jCal l g 194 3 [.ref (g.2.2 + (bd + 0)), .ref (g.2.2 + (bs + 1))] h 0 0 P ∧ ∀ v h', P v h' → v = none ∧ ∃ bk', hOK TTs g (EIm n) Kx_735.2.2.2.2.2.2.2.1 bk h bk' h' ∧ ∀ e ∈ rlE, ∀ i, i < rln e → ∃ x, cv h (bs + 1 + (e.1 - 1)) (rlz e i) x ∧ cv h' (bs + 1 + (e.1 - 1)) (rlz e i) x ∧ cv h' (bd + 0 + (e.1 - 1)) (rlz e i) x :=
  cf_gen hO hd hs (by decide) (by decide +kernel) (by decide +kernel) (by decide +kernel) (by decide +kernel) (by decide +kernel) (by decide +kernel) rfl (by decide +kernel) (cu_735 (hlow 735 _ rfl) hO hd hs)
theorem cu_736 (hk : kOK TTs g (EIm n) l Kx_736) {W0 : List aR} {bk0 bk : aB} {h0 h : jH} (hO : hOK TTs g (EIm n) W0 bk0 h0 bk h) {a7 : Nat} (ha7 : bk 7 = some a7) {a0 : Nat} (ha0 : bk 0 = some a0)  :
    jCal l g 194 3 [.ref (g.2.2 + (a7 + 0)), .ref (g.2.2 + (a0 + 1))] h 0 0 (kPost TTs g (EIm n) Kx_736 bk h []) := by
  refine hk bk h [.ref (g.2.2 + (a7 + 0)), .ref (g.2.2 + (a0 + 1))] [] hO.1 hO.2.1 hO.2.2.1 hO.2.2.2.2.2 (show 2 ≤ jmx 194 by decide +kernel) rfl (fun q hq => ?_) ⟨⟨rfl, fun i e z he hz => ?_⟩, eFm_plain (plain_app (spEnv_plain _) clEnv_plain), fun F hF => absurd hF List.not_mem_nil, fun i v hv => ?_, trivial, fun q hq => ?_, fun B hB => absurd hB List.not_mem_nil⟩
  · have hq : q ∈ ([] : List (Nat × Int × Nat)) := hq
    exact absurd hq List.not_mem_nil
  · match i, he, hz with
    | i + 0, he, _ => cases he
  · match i, hv with
    | 0, hv => cases hv; exact ⟨_, rfl, a7, ha7, rfl⟩
    | 1, hv => cases hv; exact ⟨_, rfl, a0, ha0, rfl⟩
    | i + 2, hv => cases hv
  · exact absurd hq List.not_mem_nil
set_option maxRecDepth 16384 in
theorem cf_70 (hlow : ∀ (k : Nat) (K : aK), KTx[k]? = some K → kOK TTs g (EIm n) l K) {W0 : List aR} {bk0 bk : aB} {h0 h : jH} (hO : hOK TTs g (EIm n) W0 bk0 h0 bk h) {bd bs : Nat} (hd : bk 7 = some bd) (hs : bk 0 = some bs) :
    ∃ P : Option Value → jH → Prop, jCal l g 194 3 [.ref (g.2.2 + (bd + 0)), .ref (g.2.2 + (bs + 1))] h 0 0 P ∧ ∀ v h', P v h' → v = none ∧ ∃ bk', hOK TTs g (EIm n) Kx_736.2.2.2.2.2.2.2.1 bk h bk' h' ∧ ∀ e ∈ rlE, ∀ i, i < rln e → ∃ x, cv h (bs + 1 + (e.1 - 1)) (rlz e i) x ∧ cv h' (bs + 1 + (e.1 - 1)) (rlz e i) x ∧ cv h' (bd + 0 + (e.1 - 1)) (rlz e i) x :=
  cf_gen hO hd hs (by decide) (by decide +kernel) (by decide +kernel) (by decide +kernel) (by decide +kernel) (by decide +kernel) (by decide +kernel) rfl (by decide +kernel) (cu_736 (hlow 736 _ rfl) hO hd hs)
end CF
