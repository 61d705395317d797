/-! numbers of two cells that go together: what the law's loop keeps of both objects -/
section RL
variable {g : jG} {n : Int}
def cv (h : jH) (a z : Nat) (x : Int) : Prop := ∃ c, h[a]? = some c ∧ plAt c (z : Int) x
theorem cv_fun {h : jH} {a z : Nat} {x y : Int} (h1 : cv h a z x) (h2 : cv h a z y) : x = y := by
  obtain ⟨c, c1, c2⟩ := h1
  obtain ⟨c', d1, d2⟩ := h2
  cases c1.symm.trans d1
  cases c with
  | inl a =>
    have c2 : 0 ≤ (z : Int) ∧ (a.2.2 (z : Int).toNat).toInt = x := c2
    have d2 : 0 ≤ (z : Int) ∧ (a.2.2 (z : Int).toNat).toInt = y := d2
    exact c2.2.symm.trans d2.2
  | inr a =>
    obtain ⟨-, w, w1, w2⟩ := c2
    obtain ⟨-, w', w3, w4⟩ := d2
    cases w1.symm.trans w3
    exact w2.symm.trans w4
theorem cv_off {EI : aB → jH → Prop} {W : List aR} {bk bk' : aB} {h h' : jH} (hO : hOK TTs g EI W bk h bk' h') {B b o z : Nat} {x : Int} (hb : bk B = some b) (ho : o < tyLen TTs B) (hz : apW W [(B, o, (z : Int), (z : Int))] = true) (hc : cv h (b + o) z x) : cv h' (b + o) z x := by
  obtain ⟨c, c1, c2⟩ := hc
  obtain ⟨c', d1, d2⟩ := hO.2.2.2.1.2 B b o c hb ho c1
  have hn : ¬ inW W B o z := ap_not (i := z) hz List.mem_cons_self (Int.le_refl _) (Int.le_refl _)
  refine ⟨c', d1, ?_⟩
  cases c with
  | inl a =>
    cases c' with
    | inr a' => exact absurd d2 id
    | inl a' =>
      have c2 : 0 ≤ (z : Int) ∧ (a.2.2 (z : Int).toNat).toInt = x := c2
      have e : a'.2.2 z = a.2.2 z := d2.2.2 z hn
      refine ⟨c2.1, ?_⟩
      show (a'.2.2 z).toInt = x
      rw [e]
      exact c2.2
  | inr a =>
    cases c' with
    | inl a' => exact absurd d2 id
    | inr a' =>
      obtain ⟨p1, w, w1, w2⟩ := c2
      have e : a'.2[z]? = a.2[z]? := d2.2.2 z hn
      exact ⟨p1, w, e.trans w1, w2⟩
theorem apW_mem {W P : List aR} (h : apW W P = true) {e : aR} (he : e ∈ P) : apW W [e] = true := by
  refine List.all_eq_true.mpr (fun w hw => ?_)
  have h1 := List.all_eq_true.mp (List.all_eq_true.mp h w hw) e he
  rw [List.all_cons, List.all_nil, Bool.and_true]
  exact h1
/-- an out cell of a contract -/
theorem out_cv {bk : aB} {h : jH} {os : List Int} {outs : List aC} (ho : outOK bk h os outs) {j B o p : Nat} {lo hi x : Int} (hj : outs[j]? = some (B, o, p, lo, hi)) (hx : os[j]? = some x) {b : Nat} (hb : bk B = some b) : cv h (b + o) p x ∧ lo ≤ x ∧ x ≤ hi := by
  obtain ⟨h1, b', c, h2, h3, h4⟩ := ho.2 j _ x hj hx
  have h2 : bk B = some b' := h2
  cases hb.symm.trans h2
  exact ⟨⟨c, h3, h4⟩, h1.1, h1.2⟩
theorem cv_arr {h : jH} {a : Nat} {t m : Nat} {f : Nat → Int32} (hc : h[a]? = some (.inl (t, m, f))) (z : Nat) : cv h a z (f z).toInt := ⟨_, hc, Int.natCast_nonneg z, rfl⟩
theorem cv_fld {h : jH} {a ci z : Nat} {fs : List Value} (hc : h[a]? = some (.inr (ci, fs))) {x : Int32} (hx : fs[z]? = some (.int x)) : cv h a z x.toInt := ⟨_, hc, Int.natCast_nonneg z, x, hx, rfl⟩
theorem cv_inl {h : jH} {a z t m : Nat} {f : Nat → Int32} {x : Int} (hc : h[a]? = some (.inl (t, m, f))) (hv : cv h a z x) : (f z).toInt = x := cv_fun (cv_arr hc z) hv
theorem cv_cell {h h' : jH} {a a' z : Nat} {x : Int} (e : h'[a']? = h[a]?) (hv : cv h a z x) : cv h' a' z x := by
  obtain ⟨c, c1, c2⟩ := hv
  exact ⟨c, e.trans c1, c2⟩
/-- of an interval, one place -/
theorem apW_iv {W : List aR} {B o : Nat} {lo hi : Int} (h : apW W [(B, o, lo, hi)] = true) {z : Nat} (h1 : lo ≤ z) (h2 : (z : Int) ≤ hi) : apW W [(B, o, (z : Int), (z : Int))] = true := by
  refine List.all_eq_true.mpr (fun w hw => ?_)
  have h3 := List.all_eq_true.mp h w hw
  rw [List.all_cons, List.all_nil, Bool.and_true] at h3 ⊢
  simp only [Bool.not_eq_true', Bool.and_eq_false_iff, decide_eq_false_iff_not] at h3 ⊢
  rcases h3 with ((h3 | h3) | h3) | h3
  · exact Or.inl (Or.inl (Or.inl h3))
  · exact Or.inl (Or.inl (Or.inr h3))
  · exact Or.inl (Or.inr (fun q => h3 (by omega)))
  · exact Or.inr (fun q => h3 (by omega))
/-- (the class's cell, its first place, how far apart, how many, the row's first place, how far apart, 0 the same number, 1 a bit of it) -/
abbrev rlT : Type := Nat × Nat × Nat × Nat × Nat × Nat × Nat
def rlE : List rlT := [(1, 3, 1, 1, 7, 1, 0), (30, 0, 1, 1, 8, 1, 0), (37, 0, 1, 1, 3, 1, 0), (44, 0, 1, 1, 5, 1, 0), (37, 4, 1, 1, 4, 1, 0), (23, 0, 1, 12, 52, 1, 0), (24, 0, 1, 12, 64, 1, 0), (25, 0, 1, 12, 5030, 1, 0), (28, 0, 1, 3, 76, 1, 0), (29, 0, 1, 300, 80, 1, 0), (41, 0, 1, 16, 456, 3, 0), (2, 2, 0, 8, 30, 1, 1)]
def sgB (x : Int) (i : Nat) : Int := ((Int32.ofInt x >>> (nI i &&& 31)) &&& Int32.ofInt 1).toInt
def rlV (k : Nat) (x : Int) (i : Nat) : Int := match k with
  | 0 => x
  | _ => sgB x i
def rlz (e : rlT) (i : Nat) : Nat := e.2.1 + e.2.2.1 * i
def rlr (e : rlT) (i : Nat) : Nat := e.2.2.2.2.1 + e.2.2.2.2.2.1 * i
def rln (e : rlT) : Nat := e.2.2.2.1
def rlk (e : rlT) : Nat := e.2.2.2.2.2.2
/-- the class's state stands at a (its cell 1), the row at c from place p on -/
def rlS (a c p : Nat) (h : jH) : Prop := ∀ e ∈ rlE, ∀ i, i < rln e → ∃ x, cv h (a + (e.1 - 1)) (rlz e i) x ∧ cv h c (p + rlr e i) (rlV (rlk e) x i)
/-- an interval of places, of the class and of the row -/
def rlX (B s : Nat) (e : rlT) : aR := (B, e.1 - s, (rlz e 0 : Int), (rlz e (rln e - 1) : Int))
def rlY (o p : Nat) (e : rlT) : aR := (1, o, ((p + rlr e 0 : Nat) : Int), ((p + rlr e (rln e - 1) : Nat) : Int))
theorem rlE_ok : rlE.all (fun e => Nat.blt e.1 (tyLen TTs 0) && Nat.blt (e.1 - 1) (tyLen TTs 2) && Nat.blt (e.1 - 1) (tyLen TTs 3) && Nat.ble 1 e.1 && Nat.blt (rlr e (rln e - 1)) 5270 && Nat.blt 0 (rln e)) = true := by decide +kernel
theorem rlE_at {e : rlT} (he : e ∈ rlE) : e.1 < tyLen TTs 0 ∧ e.1 - 1 < tyLen TTs 2 ∧ e.1 - 1 < tyLen TTs 3 ∧ 1 ≤ e.1 ∧ rlr e (rln e - 1) < 5270 ∧ 0 < rln e := by
  have h := List.all_eq_true.mp rlE_ok e he
  simp only [Bool.and_eq_true] at h
  obtain ⟨⟨⟨⟨⟨h1, h2⟩, h3⟩, h4⟩, h5⟩, h6⟩ := h
  exact ⟨blt_lt h1, blt_lt h2, blt_lt h3, Nat.le_of_ble_eq_true h4, blt_lt h5, blt_lt h6⟩
theorem rlz_le {e : rlT} {i : Nat} (hi : i < rln e) : rlz e 0 ≤ rlz e i ∧ rlz e i ≤ rlz e (rln e - 1) := by
  unfold rlz
  exact ⟨Nat.add_le_add_left (Nat.mul_le_mul_left _ (Nat.zero_le _)) _, Nat.add_le_add_left (Nat.mul_le_mul_left _ (by omega)) _⟩
theorem rlr_le {e : rlT} {i : Nat} (hi : i < rln e) : rlr e 0 ≤ rlr e i ∧ rlr e i ≤ rlr e (rln e - 1) := by
  unfold rlr
  exact ⟨Nat.add_le_add_left (Nat.mul_le_mul_left _ (Nat.zero_le _)) _, Nat.add_le_add_left (Nat.mul_le_mul_left _ (by omega)) _⟩
theorem rlX_off {W : List aR} {bk bk' : aB} {h h' : jH} {B b s : Nat} {e : rlT} (hO : hOK TTs g (EIm n) W bk h bk' h') (hb : bk B = some b) (ho : e.1 - s < tyLen TTs B) (hW : apW W [rlX B s e] = true) {i : Nat} (hi : i < rln e) {x : Int} (hx : cv h (b + (e.1 - s)) (rlz e i) x) : cv h' (b + (e.1 - s)) (rlz e i) x :=
  cv_off hO hb ho (apW_iv hW (by have := (rlz_le hi).1; omega) (by have := (rlz_le hi).2; omega)) hx
theorem rlY_off {W : List aR} {bk bk' : aB} {h h' : jH} {b o p : Nat} {e : rlT} (hO : hOK TTs g (EIm n) W bk h bk' h') (hb : bk 1 = some b) (ho : o < tyLen TTs 1) (hW : apW W [rlY o p e] = true) {i : Nat} (hi : i < rln e) {x : Int} (hx : cv h (b + o) (p + rlr e i) x) : cv h' (b + o) (p + rlr e i) x :=
  cv_off hO hb ho (apW_iv hW (by have := (rlr_le hi).1; omega) (by have := (rlr_le hi).2; omega)) hx
/-- what the relation looks at: the class's state and the row; image k's -/
def rlF0 : List aR := rlE.flatMap (fun e => [rlX 0 0 e, rlY 1 0 e])
def rlFk (k : Nat) : List aR := [(0, 0, ((1 + k : Nat) : Int), ((1 + k : Nat) : Int)), (1, 3, (k : Int), (k : Int))] ++ rlE.flatMap (fun e => [rlX (2 + k) 1 e, rlY 2 (5270 * k) e])
def rlFI : List aR := rlFk 0 ++ rlFk 1
def rlF : List aR := rlF0 ++ rlFI
def rlI (b1 k : Nat) (bk : aB) (h : jH) : Prop := (bk (2 + k) = none ∧ cv h (b1 + 3) k 0) ∨ ∃ a, bk (2 + k) = some a ∧ cv h (b1 + 3) k 1 ∧ rlS a (b1 + 2) (5270 * k) h
def lwR (bk : aB) (h : jH) : Prop := ∀ b0 b1, bk 0 = some b0 → bk 1 = some b1 → rlS (b0 + 1) (b1 + 1) 0 h ∧ rlI b1 0 bk h ∧ rlI b1 1 bk h
theorem rl_x0 {e : rlT} (he : e ∈ rlE) : rlX 0 0 e ∈ rlF0 := List.mem_flatMap.mpr ⟨e, he, List.mem_cons_self⟩
theorem rl_y0 {e : rlT} (he : e ∈ rlE) : rlY 1 0 e ∈ rlF0 := List.mem_flatMap.mpr ⟨e, he, List.mem_cons_of_mem _ List.mem_cons_self⟩
theorem rl_xk {k : Nat} {e : rlT} (he : e ∈ rlE) : rlX (2 + k) 1 e ∈ rlFk k := List.mem_append_right _ (List.mem_flatMap.mpr ⟨e, he, List.mem_cons_self⟩)
theorem rl_yk {k : Nat} {e : rlT} (he : e ∈ rlE) : rlY 2 (5270 * k) e ∈ rlFk k := List.mem_append_right _ (List.mem_flatMap.mpr ⟨e, he, List.mem_cons_of_mem _ List.mem_cons_self⟩)
theorem rl_k2 {k : Nat} (hk : k < 2) : k = 0 ∨ k = 1 := by omega
theorem rl_Fk {W : List aR} {k : Nat} (hk : k < 2) (h : apW W rlFI = true) : apW W (rlFk k) = true := List.all_eq_true.mpr (fun w hw => List.all_eq_true.mpr (fun v hv => List.all_eq_true.mp (List.all_eq_true.mp h w hw) v (by
  rcases rl_k2 hk with rfl | rfl
  · exact List.mem_append_left _ hv
  · exact List.mem_append_right _ hv)))
theorem rl_f0 {W : List aR} (h : apW W rlF = true) : apW W rlF0 = true := List.all_eq_true.mpr (fun w hw => List.all_eq_true.mpr (fun v hv => List.all_eq_true.mp (List.all_eq_true.mp h w hw) v (List.mem_append_left _ hv)))
theorem rl_fI {W : List aR} (h : apW W rlF = true) : apW W rlFI = true := List.all_eq_true.mpr (fun w hw => List.all_eq_true.mpr (fun v hv => List.all_eq_true.mp (List.all_eq_true.mp h w hw) v (List.mem_append_right _ hv)))
theorem rl_sh {b : Nat} {e : rlT} (he : e ∈ rlE) : b + 1 + (e.1 - 1) = b + (e.1 - 0) := by
  have := (rlE_at he).2.2.2.1
  omega
theorem rl0_keep {W : List aR} {bk bk' : aB} {h h' : jH} (hO : hOK TTs g (EIm n) W bk h bk' h') {b0 b1 : Nat} (hb0 : bk 0 = some b0) (hb1 : bk 1 = some b1) (hW : apW W rlF0 = true) (hR : rlS (b0 + 1) (b1 + 1) 0 h) : rlS (b0 + 1) (b1 + 1) 0 h' := fun e he i hi => by
  obtain ⟨x, x1, x2⟩ := hR e he i hi
  rw [rl_sh he] at x1 ⊢
  exact ⟨x, rlX_off hO hb0 (rlE_at he).1 (apW_mem hW (rl_x0 he)) hi x1, rlY_off hO hb1 (by decide +kernel) (apW_mem hW (rl_y0 he)) hi x2⟩
/-- an image that isn't there isn't there behind a call that doesn't write the class's field of it -/
theorem img_none {W : List aR} {bk bk' : aB} {h h' : jH} {k : Nat} (hk : k < 2) (hT : HT TTs g bk h) (hO : hOK TTs g (EIm n) W bk h bk' h') {b0 : Nat} (hb0 : bk 0 = some b0) (hz : apW W [(0, 0, ((1 + k : Nat) : Int), ((1 + k : Nat) : Int))] = true) (hn : bk (2 + k) = none) : bk' (2 + k) = none := by
  obtain ⟨c, hc, fs, rfl, -, hfs⟩ := hT 0 b0 0 _ hb0 ty_x0
  obtain ⟨fs', hc', e⟩ := hO.fld hb0 ty_x0 hc hz
  obtain ⟨c2, hc2, fs2, rfl, -, hfs2⟩ := hO.1 0 b0 0 _ (hO.2.2.2.2.1 0 b0 hb0) ty_x0
  have e3 := hc'.symm.trans hc2
  have e4 : fs' = fs2 := by
    have := Sum.inr.inj (Option.some.inj e3)
    exact congrArg Prod.snd this
  subst e4
  have h2 : k = 0 ∨ k = 1 := by omega
  rcases h2 with rfl | rfl
  · obtain ⟨v, hv, hvt⟩ := hfs 1 (3, 0, 0, 2, 0) rfl
    obtain ⟨v2, hv2, hvt2⟩ := hfs2 1 (3, 0, 0, 2, 0) rfl
    rcases hvt with ⟨a, ha, -⟩ | ⟨-, rfl⟩
    · have ha : bk 2 = some a := ha
      rw [show 2 + 0 = 2 from rfl, ha] at hn
      cases hn
    rw [e, hv] at hv2
    cases hv2
    rcases hvt2 with ⟨a, -, hh⟩ | ⟨hh, -⟩
    · cases hh
    · exact hh
  · obtain ⟨v, hv, hvt⟩ := hfs 2 (3, 0, 0, 3, 0) rfl
    obtain ⟨v2, hv2, hvt2⟩ := hfs2 2 (3, 0, 0, 3, 0) rfl
    rcases hvt with ⟨a, ha, -⟩ | ⟨-, rfl⟩
    · have ha : bk 3 = some a := ha
      rw [show 2 + 1 = 3 from rfl, ha] at hn
      cases hn
    rw [e, hv] at hv2
    cases hv2
    rcases hvt2 with ⟨a, -, hh⟩ | ⟨hh, -⟩
    · cases hh
    · exact hh
theorem rl_ty {k : Nat} (hk : k < 2) {e : rlT} (he : e ∈ rlE) : e.1 - 1 < tyLen TTs (2 + k) := by
  rcases rl_k2 hk with rfl | rfl
  · exact (rlE_at he).2.1
  · exact (rlE_at he).2.2.1
theorem rlI_keep {W : List aR} {bk bk' : aB} {h h' : jH} {k : Nat} (hk : k < 2) (hT : HT TTs g bk h) (hO : hOK TTs g (EIm n) W bk h bk' h') {b0 b1 : Nat} (hb0 : bk 0 = some b0) (hb1 : bk 1 = some b1) (hW : apW W (rlFk k) = true) (hR : rlI b1 k bk h) : rlI b1 k bk' h' := by
  have w1 := apW_mem hW (List.mem_append_left _ List.mem_cons_self)
  have w2 := apW_mem hW (List.mem_append_left _ (List.mem_cons_of_mem _ List.mem_cons_self))
  rcases hR with ⟨r1, r2⟩ | ⟨a, r1, r2, r3⟩
  · exact Or.inl ⟨img_none hk hT hO hb0 w1 r1, cv_off hO hb1 (by decide +kernel) w2 r2⟩
  · refine Or.inr ⟨a, hO.2.2.2.2.1 _ a r1, cv_off hO hb1 (by decide +kernel) w2 r2, fun e he i hi => ?_⟩
    obtain ⟨x, x1, x2⟩ := r3 e he i hi
    exact ⟨x, rlX_off hO r1 (rl_ty hk he) (apW_mem hW (rl_xk he)) hi x1, rlY_off hO hb1 (by decide +kernel) (apW_mem hW (rl_yk he)) hi x2⟩
theorem lwR_keep {W : List aR} {bk bk' : aB} {h h' : jH} (hT : HT TTs g bk h) (hO : hOK TTs g (EIm n) W bk h bk' h') (hB : ∀ B, B ≤ 1 → ∃ b, bk B = some b) (hW : apW W rlF = true) (hR : lwR bk h) : lwR bk' h' := by
  intro b0 b1 q0 q1
  obtain ⟨c0, e0⟩ := hB 0 (by decide)
  obtain ⟨c1, e1⟩ := hB 1 (by decide)
  cases (hO.2.2.2.2.1 0 c0 e0).symm.trans q0
  cases (hO.2.2.2.2.1 1 c1 e1).symm.trans q1
  obtain ⟨r0, r1, r2⟩ := hR _ _ e0 e1
  exact ⟨rl0_keep hO e0 e1 (rl_f0 hW) r0, rlI_keep (by decide) hT hO e0 e1 (rl_Fk (by decide) (rl_fI hW)) r1, rlI_keep (by decide) hT hO e0 e1 (rl_Fk (by decide) (rl_fI hW)) r2⟩
/-! one call, two contracts: a number of the exact heap is one of the other -/
def ckd (t : aCT) (c : jC) : Prop := match t, c with
  | .inl a, .inl q => q.1 = a.1 ∧ q.2.1 = a.2.1
  | .inr a, .inr q => q.1 = a.1
  | _, _ => False
def tyW (t : aCT) (z : Nat) : Prop := match t with
  | .inl a => z < a.2.1
  | .inr a => z < a.2.length ∧ ∃ r, jcl[a.1]? = some r ∧ z < r.2.2
theorem ckd_of {bk : aB} {h : jH} {B b o : Nat} {t : aCT} {c : jC} (hT : HT TTs g bk h) (hb : bk B = some b) (ht : tyAt TTs B o = some t) (hc : h[b + o]? = some c) : ckd t c := by
  obtain ⟨c', e, hct⟩ := hT B b o t hb ht
  cases hc.symm.trans e
  cases t with
  | inl a => obtain ⟨f, rfl, -⟩ := hct; exact ⟨rfl, rfl⟩
  | inr a => obtain ⟨f, rfl, -⟩ := hct; exact rfl
theorem both_cv {W : List aR} {bk bk1 : aB} {h h1 h1' : jH} {H : Heap} {B b o : Nat} {t : aCT} {c1 : jC} (hO : hOK TTs g (EIm n) W bk h bk1 h1) (e1 : jhr g h1 H) (e2 : jhr g h1' H) (hb : bk B = some b) (ht : tyAt TTs B o = some t) (hc : h1'[b + o]? = some c1) (hk : ckd t c1) {z : Nat} {x : Int} (hz : tyW t z) (hv : cv h1' (b + o) z x) : cv h1 (b + o) z x := by
  obtain ⟨c, hc', hct⟩ := hO.1 B b o t (hO.2.2.2.2.1 B b hb) ht
  obtain ⟨c2, hc2, hp⟩ := hv
  cases hc.symm.trans hc2
  refine ⟨c, hc', ?_⟩
  cases t with
  | inl a =>
    cases c1 with
    | inr q => exact absurd hk id
    | inl q =>
      obtain ⟨f, rfl, -⟩ := hct
      obtain ⟨q1, q2, f2⟩ := q
      obtain ⟨k1, k2⟩ := hk
      dsimp only at k1 k2
      subst k1 k2
      obtain ⟨-, hf⟩ := tr_arr e1 e2 hc' hc
      have hz : z < a.2.1 := hz
      have hp : 0 ≤ (z : Int) ∧ (f2 (z : Int).toNat).toInt = x := hp
      refine ⟨hp.1, ?_⟩
      show (f (z : Int).toNat).toInt = x
      have e : f (z : Int).toNat = f2 (z : Int).toNat := hf _ (by omega)
      rw [e]
      exact hp.2
  | inr a =>
    cases c1 with
    | inl q => exact absurd hk id
    | inr q =>
      obtain ⟨fs, rfl, hl, -⟩ := hct
      obtain ⟨q1, f2⟩ := q
      have k1 : q1 = a.1 := hk
      subst k1
      obtain ⟨z1, r, hr, z2⟩ := hz
      obtain ⟨p1, w, w1, w2⟩ := hp
      have w1 : f2[z]? = some (.int w) := w1
      have e : fs[z]? = some fs[z] := List.getElem?_eq_getElem (by omega)
      have e3 := tr_obj e1 e2 hc' hc hr z2 e w1
      exact ⟨p1, w, (show fs[z]? = _ by rw [e, e3]), w2⟩
end RL
