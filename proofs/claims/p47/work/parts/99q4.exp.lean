section
/-! call pairs by exact walks -/
section QE
variable {l : Launch} {g : jG} {n : Int}
def tyF (B o : Nat) : List aT := match tyAt TTs B o with
  | some (.inr q) => q.2
  | _ => []
/-- an object's cell, typed -/
theorem k_obj {bk : aB} {h : jH} {B b o ci : Nat} (hT : HT TTs g bk h) (hb : bk B = some b) (ht : tyAt TTs B o = some (.inr (ci, tyF B o))) : ∃ fs, h[b + o]? = some (.inr (ci, fs)) ∧ fs.length = (tyF B o).length ∧ (∀ k o2 : Nat, (tyF B o)[k]? = some (2, 0, 0, B, o2) → fs[k]? = some (.ref (g.2.2 + (b + o2)))) ∧ (∀ (k : Nat) (lo hi : Int), (tyF B o)[k]? = some (0, lo, hi, 0, 0) → ∃ x : Int32, fs[k]? = some (.int x) ∧ lo ≤ x.toInt ∧ x.toInt ≤ hi) := by
  obtain ⟨c, hc, fs, rfl, hl, hf⟩ := hT B b o _ hb ht
  refine ⟨fs, hc, hl, fun k o2 hk => ?_, fun k lo hi hk => ?_⟩
  · obtain ⟨v, hv, b', hb', rfl⟩ := hf k _ hk
    have hb' : bk B = some b' := hb'
    cases hb.symm.trans hb'
    exact hv
  · obtain ⟨v, hv, x, rfl, x1, x2⟩ := hf k _ hk
    exact ⟨x, hv, x1, x2⟩
theorem k_arr {bk : aB} {h : jH} {B b o t m : Nat} {sg : List aSeg} (hT : HT TTs g bk h) (hb : bk B = some b) (ht : tyAt TTs B o = some (.inl (t, m, sg))) : ∃ f, h[b + o]? = some (.inl (t, m, f)) ∧ ∀ i, i < m → sgOK sg i (f i).toInt := by
  obtain ⟨c, hc, f, rfl, hf⟩ := hT B b o _ hb ht
  exact ⟨f, hc, hf⟩
theorem rlW_ok : rlE.all (fun e => (List.range (rln e)).all (fun i => match tyAt TTs 0 e.1 with | some t => tyWB t (rlz e i) | none => false)) = true := by decide +kernel
theorem rlW_at {e : rlT} (he : e ∈ rlE) {i : Nat} (hi : i < rln e) : ∃ t, tyAt TTs 0 e.1 = some t ∧ tyW t (rlz e i) := by
  have h := List.all_eq_true.mp (List.all_eq_true.mp rlW_ok e he) i (List.mem_range.mpr hi)
  cases ht : tyAt TTs 0 e.1 with
  | none => rw [ht] at h; cases h
  | some t => rw [ht] at h; exact ⟨t, rfl, tyWB_ok h⟩
/-- the relation between an exact heap of the class's and a row -/
def exR (b0 : Nat) (h1' : jH) (F : Nat → Int32) : Prop := ∀ e ∈ rlE, (∀ t, tyAt TTs 0 e.1 = some t → ∃ c, h1'[b0 + e.1]? = some c ∧ ckd t c) ∧ ∀ i, i < rln e → ∃ x, cv h1' (b0 + e.1) (rlz e i) x ∧ (F (rlr e i)).toInt = rlV (rlk e) x i
theorem exR_0 {b0 b1 : Nat} {bk : aB} {h : jH} (hI : lwI g n b0 b1 bk h) {fr : Nat → Int32} (hr : h[b1 + 1]? = some (.inl (0, 5270, fr))) : exR b0 h fr := by
  intro e he
  refine ⟨fun t ht => ?_, fun i hi => ?_⟩
  · obtain ⟨c, hc, -⟩ := hI.1 0 b0 e.1 t hI.2.2.2.1 ht
    exact ⟨c, hc, ckd_of hI.1 hI.2.2.2.1 ht hc⟩
  · obtain ⟨r0, -⟩ := hI.2.2.2.2.2.2.2 b0 b1 hI.2.2.2.1 hI.2.2.2.2.1
    obtain ⟨x, x1, x2⟩ := r0 e he i hi
    rw [rl_sh he] at x1
    rw [Nat.zero_add] at x2
    exact ⟨x, x1, cv_inl hr x2⟩
/-- an entry that no call writes -/
theorem exR_un {b0 : Nat} {h h1' : jH} {fr F : Nat → Int32} (hR : exR b0 h fr) {e : rlT} (he : e ∈ rlE) (un : h1'[b0 + e.1]? = h[b0 + e.1]?) (hF : ∀ i, i < rln e → F (rlr e i) = fr (rlr e i)) : (∀ t, tyAt TTs 0 e.1 = some t → ∃ c, h1'[b0 + e.1]? = some c ∧ ckd t c) ∧ ∀ i, i < rln e → ∃ x, cv h1' (b0 + e.1) (rlz e i) x ∧ (F (rlr e i)).toInt = rlV (rlk e) x i := by
  obtain ⟨r1, r2⟩ := hR e he
  refine ⟨fun t ht => ?_, fun i hi => ?_⟩
  · obtain ⟨c, c1, c2⟩ := r1 t ht
    exact ⟨c, un.trans c1, c2⟩
  · obtain ⟨x, x1, x2⟩ := r2 i hi
    exact ⟨x, cv_cell un x1, by rw [hF i hi]; exact x2⟩
theorem wr_fin {b0 b1 : Nat} {bk bk1 bk2 : aB} {h h1 h2 : jH} {W1 W2 : List aR} (hI : lwI g n b0 b1 bk h) (k1 : hOK TTs g (EIm n) W1 bk h bk1 h1) (k2 : hOK TTs g (EIm n) W2 bk1 h1 bk2 h2) (a1 : apW W1 [(1, 1, 1, 1)] = true) (a2 : apW W1 [(1, 1, 5066, 5066)] = true) (a3 : apW W2 [(1, 1, 1, 1)] = true) (a4 : apW W2 [(1, 1, 5066, 5066)] = true) (i1 : apW W1 rlFI = true) (i2 : apW W2 rlFI = true) (w2 : rlE.all (fun e => apW W2 [rlX 0 0 e]) = true)
    (hX : ∀ e ∈ rlE, ∀ i, i < rln e → ∃ x, cv h1 (b0 + e.1) (rlz e i) x ∧ cv h2 (b1 + 1) (rlr e i) (rlV (rlk e) x i)) : ∃ bk', lwI g (n + 40) b0 b1 bk' h2 ∧ k6 bk bk' := by
  have q0 := hI.2.2.2.1
  have q1 := hI.2.2.2.2.1
  have p0 := k1.2.2.2.2.1 0 b0 q0
  have p1 := k1.2.2.2.2.1 1 b1 q1
  have r0 := k2.2.2.2.2.1 0 b0 p0
  have r1 := k2.2.2.2.2.1 1 b1 p1
  obtain ⟨f, er, ⟨-, f1⟩, -, f2⟩ := hI.row
  obtain ⟨t0, t1, t2⟩ := hI.2.2.2.2.2.2.2 b0 b1 q0 q1
  refine ⟨bkF bk2, ⟨HT_forget k2.1, BD_forget k2.2.1, EIm_forget (EIm_mono (show n ≤ n + 40 by omega) k2.2.2.1), (bkF_ne (by decide)).trans r0, (bkF_ne (by decide)).trans r1, by rw [bkF, if_pos rfl], fun f' hf' => ?_, lwR_F (fun c0 c1 e0 e1 => ?_)⟩, fun b hb => (bkF_ne (by decide)).trans (k2.2.2.2.2.1 6 b (k1.2.2.2.2.1 6 b hb))⟩
  · have c1 : (f' 1).toInt = (f 1).toInt := cv_inl hf' (cv_off k2 p1 (by decide +kernel) a3 (cv_off k1 q1 (by decide +kernel) a1 (cv_arr er 1)))
    have c2 : (f' 5066).toInt = (f 5066).toInt := cv_inl hf' (cv_off k2 p1 (by decide +kernel) a4 (cv_off k1 q1 (by decide +kernel) a2 (cv_arr er 5066)))
    omega
  · cases r0.symm.trans e0
    cases r1.symm.trans e1
    refine ⟨fun e he i hi => ?_, rlI_keep (by decide) k1.1 k2 p0 p1 (rl_Fk (by decide) i2) (rlI_keep (by decide) hI.1 k1 q0 q1 (rl_Fk (by decide) i1) t1), rlI_keep (by decide) k1.1 k2 p0 p1 (rl_Fk (by decide) i2) (rlI_keep (by decide) hI.1 k1 q0 q1 (rl_Fk (by decide) i1) t2)⟩
    obtain ⟨x, x1, x2⟩ := hX e he i hi
    refine ⟨x, ?_, by rw [Nat.zero_add]; exact x2⟩
    rw [rl_sh he]
    exact rlX_off (s := 0) k2 p0 (rlE_at he).1 (List.all_eq_true.mp w2 e he) hi x1
/-- what K's contract and an exact walk give at once -/
theorem ex_pair {K1 K2 : aK} {ev1 ev2 : List Int} {b0 b1 y1 y2 d1 d2 : Nat} {bk : aB} {h : jH} {As : List Value} {E1 : Option Value → jH → Prop} {E2 : jH → List Value → (Nat → Int32) → Option Value → jH → Prop} (hI : lwI g n b0 b1 bk h) (hd1 : d1 ≤ 40) (hd2 : d2 ≤ 40)
    (hx : jCal l g y1 d1 (.ref (g.2.2 + (b0 + 0)) :: As) h 0 0 (kPost TTs g (EIm n) K1 bk h ev1))
    (hm : ∀ bk1 h1, hOK TTs g (EIm n) K1.2.2.2.2.2.2.2.1 bk h bk1 h1 → bk1 1 = some b1 → jCal l g y2 d2 (.ref (g.2.2 + (b1 + 0)) :: As) h1 0 0 (kPost TTs g (EIm n) K2 bk1 h1 ev2))
    (ex : jCal l g y1 d1 (.ref (g.2.2 + (b0 + 0)) :: As) h 0 0 E1)
    (em : ∀ h1 fm fr1, h1[b1 + 0]? = some (.inr (12, fm)) → fm.length = 42 → fm[2]? = some (.ref (g.2.2 + (b1 + 1))) → h1[b1 + 1]? = some (.inl (0, 5270, fr1)) → (∀ fr, h[b1 + 1]? = some (.inl (0, 5270, fr)) → ∀ r, r < 5270 → fr1 r = fr r) → jCal l g y2 d2 (.ref (g.2.2 + (b1 + 0)) :: As) h1 0 0 (E2 h1 fm fr1))
    (a1 : apW K1.2.2.2.2.2.2.2.1 [(1, 1, 1, 1)] = true) (a2 : apW K1.2.2.2.2.2.2.2.1 [(1, 1, 5066, 5066)] = true) (a3 : apW K2.2.2.2.2.2.2.2.1 [(1, 1, 1, 1)] = true) (a4 : apW K2.2.2.2.2.2.2.2.1 [(1, 1, 5066, 5066)] = true) (i1 : apW K1.2.2.2.2.2.2.2.1 rlFI = true) (i2 : apW K2.2.2.2.2.2.2.2.1 rlFI = true) (w1 : apW K1.2.2.2.2.2.2.2.1 [(1, 1, 0, 5269)] = true) (w2 : rlE.all (fun e => apW K2.2.2.2.2.2.2.2.1 [rlX 0 0 e]) = true)
    (fin : ∀ v1 h1', E1 v1 h1' → ∃ x1 : Int32, v1 = some (.int x1) ∧ ∀ h1 fm fr1 v2 h2', h1[b1 + 0]? = some (.inr (12, fm)) → h1[b1 + 1]? = some (.inl (0, 5270, fr1)) → exR b0 h fr1 → (∀ fr, h[b1 + 1]? = some (.inl (0, 5270, fr)) → ∀ r, r < 5270 → fr1 r = fr r) → E2 h1 fm fr1 v2 h2' → v2 = some (.int x1) ∧ ∃ F, h2'[b1 + 1]? = some (.inl (0, 5270, F)) ∧ exR b0 h1' F) :
    cpS l g n b0 b1 h y1 y2 As 0 0 true (k6 bk) := by
  refine ⟨d1, 0, 0, _, hd1, Nat.le_refl _, Nat.le_refl _, jCal.both hx ex, fun v h1 hp => ?_⟩
  obtain ⟨⟨bk1, os1, k1, -⟩, h1', hE1, H1, e1, e2⟩ := hp
  obtain ⟨x1, rfl, hfin⟩ := fin v h1' hE1
  have p1 := k1.2.2.2.2.1 1 b1 hI.2.2.2.2.1
  have p0 := k1.2.2.2.2.1 0 b0 hI.2.2.2.1
  obtain ⟨fm, hfm, lfm, rfm, -⟩ := k_obj (o := 0) (ci := 12) k1.1 p1 rfl
  obtain ⟨fr1, hfr1, -⟩ := m_arr k1.1 p1 ty_m1
  obtain ⟨fr, hfr, -⟩ := m_arr hI.1 hI.2.2.2.2.1 ty_m1
  have hsame : ∀ fr', h[b1 + 1]? = some (.inl (0, 5270, fr')) → ∀ r, r < 5270 → fr1 r = fr' r := fun fr' hfr' r hr => i32_eq (cv_inl hfr1 (cv_off k1 hI.2.2.2.2.1 (by decide +kernel) (apW_iv w1 (by omega) (by omega)) (cv_arr hfr' r)))
  have hR : exR b0 h fr1 := by
    intro e he
    obtain ⟨r1, r2⟩ := exR_0 hI hfr e he
    refine ⟨r1, fun i hi => ?_⟩
    obtain ⟨x, x1, x2⟩ := r2 i hi
    refine ⟨x, x1, ?_⟩
    rw [hsame fr hfr _ (by have := (rlr_le hi).2; have := (rlE_at he).2.2.2.2.1; omega)]
    exact x2
  refine ⟨x1, d2, _, rfl, hd2, jCal.both (hm bk1 h1 k1 p1) (em h1 fm fr1 hfm (lfm.trans (by decide +kernel)) (rfm 2 1 (by decide +kernel)) hfr1 hsame), ⟨fm, hfm⟩, fun v2 h2 hp2 => ?_⟩
  obtain ⟨⟨bk2, os2, k2, -⟩, h2', hE2, H2, e3, e4⟩ := hp2
  obtain ⟨rfl, F, hF, hR2⟩ := hfin h1 fm fr1 v2 h2' hfm hfr1 hR hsame hE2
  refine ⟨x1, rfl, fun _ => rfl, wr_fin hI k1 k2 a1 a2 a3 a4 i1 i2 w2 (fun e he i hi => ?_)⟩
  obtain ⟨r1, r2⟩ := hR2 e he
  obtain ⟨x, x1, x2⟩ := r2 i hi
  obtain ⟨t, ht, hz⟩ := rlW_at he hi
  obtain ⟨c, hc, hk⟩ := r1 t ht
  refine ⟨x, both_cv k1 e1 e2 hI.2.2.2.1 ht hc hk hz x1, ?_⟩
  have hr : rlr e i < 5270 := by
    have := (rlr_le hi).2
    have := (rlE_at he).2.2.2.2.1
    omega
  obtain ⟨fr2, hfr2, -⟩ := m_arr k2.1 (k2.2.2.2.2.1 1 b1 p1) ty_m1
  obtain ⟨-, hFF⟩ := tr_arr e3 e4 hfr2 hF
  have := cv_arr hfr2 (rlr e i)
  rw [hFF _ hr, x2] at this
  exact this
/-- a call that both refuse -/
theorem bad_pair {K1 K2 : aK} {ev1 ev2 : List Int} {b0 b1 y1 y2 d1 d2 : Nat} {bk : aB} {h : jH} {As : List Value} {c : Int32} (hI : lwI g n b0 b1 bk h) (hd1 : d1 ≤ 40) (hd2 : d2 ≤ 40)
    (hx : jCal l g y1 d1 (.ref (g.2.2 + (b0 + 0)) :: As) h 0 0 (kPost TTs g (EIm n) K1 bk h ev1))
    (hm : ∀ bk1 h1, hOK TTs g (EIm n) K1.2.2.2.2.2.2.2.1 bk h bk1 h1 → bk1 1 = some b1 → jCal l g y2 d2 (.ref (g.2.2 + (b1 + 0)) :: As) h1 0 0 (kPost TTs g (EIm n) K2 bk1 h1 ev2))
    (ex : ∀ fx, h[b0 + 0]? = some (.inr (11, fx)) → fx.length = 12 → fx[0]? = some (.ref (g.2.2 + (b0 + 1))) → jCal l g y1 d1 (.ref (g.2.2 + (b0 + 0)) :: As) h 0 0 (fun v h' => v = some (.int c) ∧ h' = h.set (b0 + 0) (.inr (11, fx.set 7 (.int c)))))
    (em : ∀ h1 fm fr1, h1[b1 + 0]? = some (.inr (12, fm)) → fm.length = 42 → fm[2]? = some (.ref (g.2.2 + (b1 + 1))) → h1[b1 + 1]? = some (.inl (0, 5270, fr1)) → (∀ fr, h[b1 + 1]? = some (.inl (0, 5270, fr)) → ∀ r, r < 5270 → fr1 r = fr r) → jCal l g y2 d2 (.ref (g.2.2 + (b1 + 0)) :: As) h1 0 0 (fun v h' => v = some (.int c) ∧ h' = (h1.set (b1 + 0) (.inr (12, fm.set 0 (.int (Int32.ofInt 0))))).set (b1 + 0) (.inr (12, (fm.set 0 (.int (Int32.ofInt 0))).set 1 (.int c)))))
    (a1 : apW K1.2.2.2.2.2.2.2.1 [(1, 1, 1, 1)] = true) (a2 : apW K1.2.2.2.2.2.2.2.1 [(1, 1, 5066, 5066)] = true) (a3 : apW K2.2.2.2.2.2.2.2.1 [(1, 1, 1, 1)] = true) (a4 : apW K2.2.2.2.2.2.2.2.1 [(1, 1, 5066, 5066)] = true) (i1 : apW K1.2.2.2.2.2.2.2.1 rlFI = true) (i2 : apW K2.2.2.2.2.2.2.2.1 rlFI = true) (w1 : apW K1.2.2.2.2.2.2.2.1 [(1, 1, 0, 5269)] = true) (w2 : rlE.all (fun e => apW K2.2.2.2.2.2.2.2.1 [rlX 0 0 e]) = true) :
    cpS l g n b0 b1 h y1 y2 As 0 0 true (k6 bk) := by
  obtain ⟨fx, hfx, lfx, rfx, -⟩ := k_obj (o := 0) (ci := 11) hI.1 hI.2.2.2.1 rfl
  refine ex_pair hI hd1 hd2 hx hm (ex fx hfx (lfx.trans (by decide +kernel)) (rfx 0 1 (by decide +kernel))) (fun h1 fm fr1 e1 e2 e3 e4 e5 => em h1 fm fr1 e1 e2 e3 e4 e5) a1 a2 a3 a4 i1 i2 w1 w2 (fun v1 h1' hE => ?_)
  obtain ⟨rfl, rfl⟩ := hE
  refine ⟨c, rfl, fun h1 fm fr1 v2 h2' _ hr hR _ hE2 => ?_⟩
  obtain ⟨rfl, rfl⟩ := hE2
  refine ⟨rfl, fr1, by rw [List.getElem?_set_ne (by omega), List.getElem?_set_ne (by omega)]; exact hr, fun e he => exR_un hR he ?_ (fun _ _ => rfl)⟩
  have := (rlE_at he).2.2.2.1
  rw [List.getElem?_set_ne (by omega)]
/-- a number of the class's is one of the row -/
theorem rl_num {b0 b1 : Nat} {bk : aB} {h : jH} (hI : lwI g n b0 b1 bk h) {fr1 : Nat → Int32} (hs : ∀ fr, h[b1 + 1]? = some (.inl (0, 5270, fr)) → ∀ r, r < 5270 → fr1 r = fr r) {e : rlT} (he : e ∈ rlE) (hk : rlk e = 0) {i : Nat} (hi : i < rln e) {t : Int32} (hc : cv h (b0 + e.1) (rlz e i) t.toInt) : fr1 (rlr e i) = t := by
  obtain ⟨fr, hfr, -⟩ := m_arr hI.1 hI.2.2.2.2.1 ty_m1
  obtain ⟨x, x1, x2⟩ := (exR_0 hI hfr e he).2 i hi
  rw [hs fr hfr _ (by have := (rlr_le hi).2; have := (rlE_at he).2.2.2.2.1; omega)]
  rw [hk] at x2
  exact i32_eq (x2.trans (cv_fun x1 hc))
/-- the Mender, if there is one -/
theorem men_of {b0 : Nat} {bk : aB} {h : jH} (hT : HT TTs g bk h) (hD : BD TTs bk) (hb : bk 0 = some b0) {fx : List Value} (hx : h[b0 + 0]? = some (.inr (11, fx))) : ∃ a, (∀ o, o < 62 → a + 0 ≠ b0 + o) ∧ MEN g h a fx := by
  obtain ⟨c, hc, fs, rfl, hl, hf⟩ := hT 0 b0 0 _ hb ty_x0
  cases hx.symm.trans hc
  obtain ⟨v, hv, hvt⟩ := hf 11 (3, 0, 0, 6, 0) rfl
  rcases hvt with ⟨a, ha, rfl⟩ | ⟨-, rfl⟩
  · have ha : bk 6 = some a := ha
    obtain ⟨fm, hfm, lfm, -⟩ := k_obj (B := 6) (o := 0) (ci := 2) hT ha rfl
    refine ⟨a, fun o ho e => ?_, Or.inr ⟨hv, fm, hfm, lfm.trans (by decide +kernel)⟩⟩
    have := (hD 6 0 a b0 0 o ha hb (by decide +kernel) (Nat.lt_of_lt_of_le ho (by decide +kernel)) e).1
    cases this
  · exact ⟨b0 + 62, fun o ho => by omega, Or.inl hv⟩
theorem ck_arr {h1' : jH} {a o t m : Nat} {sg : List aSeg} {f : Nat → Int32} (h0 : tyAt TTs 0 o = some (.inl (t, m, sg))) (hc : h1'[a]? = some (.inl (t, m, f))) : ∀ T, tyAt TTs 0 o = some T → ∃ c, h1'[a]? = some c ∧ ckd T c := fun T hT => by
  cases h0.symm.trans hT
  exact ⟨_, hc, rfl, rfl⟩
theorem ck_obj {h1' : jH} {a o ci : Nat} {ts : List aT} {fs : List Value} (h0 : tyAt TTs 0 o = some (.inr (ci, ts))) (hc : h1'[a]? = some (.inr (ci, fs))) : ∀ T, tyAt TTs 0 o = some T → ∃ c, h1'[a]? = some c ∧ ckd T c := fun T hT => by
  cases h0.symm.trans hT
  exact ⟨_, hc, rfl⟩
end QE
end
section
/-! call pairs by exact walks (written by wip/groupB/gen_q2.py) -/
section QF
variable {l : Launch} {g : jG} {n : Int}
theorem eu_474 (hk : kOK TTs g (EIm n) l Kx_474) {W0 : List aR} {bk0 bk : aB} {h0 h : jH} (hO : hOK TTs g (EIm n) W0 bk0 h0 bk h) {a0 : Nat} (ha0 : bk 0 = some a0) {x1 : Int32} (hx1 : (-2147483648 : Int) ≤ x1.toInt ∧ x1.toInt ≤ 2147483647) {x2 : Int32} (hx2 : (-2147483648 : Int) ≤ x2.toInt ∧ x2.toInt ≤ 2147483647) :
    jCal l g 13 2 [.ref (g.2.2 + (a0 + 0)), .int x1, .int x2] h 0 0 (kPost TTs g (EIm n) Kx_474 bk h [x1.toInt, x2.toInt]) := by
  refine hk bk h [.ref (g.2.2 + (a0 + 0)), .int x1, .int x2] [x1.toInt, x2.toInt] hO.1 hO.2.1 hO.2.2.1 hO.2.2.2.2.2 (show 3 ≤ jmx 13 by decide +kernel) rfl (fun q hq => ?_) ⟨⟨rfl, fun i e z he hz => ?_⟩, eFm_plain (plain_app (spEnv_plain _) clEnv_plain), fun F hF => absurd hF List.not_mem_nil, fun i v hv => ?_, trivial, fun q hq => ?_, fun B hB => absurd hB List.not_mem_nil⟩
  · have hq : q ∈ ([] : List (Nat × Int × Nat)) := hq
    exact absurd hq List.not_mem_nil
  · match i, he, hz with
    | 0, he, hz => cases he; cases hz; exact hx1
    | 1, he, hz => cases he; cases hz; exact hx2
    | i + 2, he, _ => cases he
  · match i, hv with
    | 0, hv => cases hv; exact ⟨_, rfl, a0, ha0, rfl⟩
    | 1, hv => cases hv; exact ⟨_, rfl, x1, rfl, rfl⟩
    | 2, hv => cases hv; exact ⟨_, rfl, x2, rfl, rfl⟩
    | 3, hv => cases hv
    | i + 4, hv => cases hv
  · exact absurd hq List.not_mem_nil
theorem eu_632 (hk : kOK TTs g (EIm n) l Kx_632) {W0 : List aR} {bk0 bk : aB} {h0 h : jH} (hO : hOK TTs g (EIm n) W0 bk0 h0 bk h) {a1 : Nat} (ha1 : bk 1 = some a1) {x1 : Int32} (hx1 : (-2147483648 : Int) ≤ x1.toInt ∧ x1.toInt ≤ 2147483647) {x2 : Int32} (hx2 : (-2147483648 : Int) ≤ x2.toInt ∧ x2.toInt ≤ 2147483647) :
    jCal l g 234 3 [.ref (g.2.2 + (a1 + 0)), .int x1, .int x2] h 0 0 (kPost TTs g (EIm n) Kx_632 bk h [x1.toInt, x2.toInt]) := by
  refine hk bk h [.ref (g.2.2 + (a1 + 0)), .int x1, .int x2] [x1.toInt, x2.toInt] hO.1 hO.2.1 hO.2.2.1 hO.2.2.2.2.2 (show 3 ≤ jmx 234 by decide +kernel) rfl (fun q hq => ?_) ⟨⟨rfl, fun i e z he hz => ?_⟩, eFm_plain (plain_app (spEnv_plain _) clEnv_plain), fun F hF => absurd hF List.not_mem_nil, fun i v hv => ?_, trivial, fun q hq => ?_, fun B hB => absurd hB List.not_mem_nil⟩
  · have hq : q ∈ ([] : List (Nat × Int × Nat)) := hq
    exact absurd hq List.not_mem_nil
  · match i, he, hz with
    | 0, he, hz => cases he; cases hz; exact hx1
    | 1, he, hz => cases he; cases hz; exact hx2
    | i + 2, he, _ => cases he
  · match i, hv with
    | 0, hv => cases hv; exact ⟨_, rfl, a1, ha1, rfl⟩
    | 1, hv => cases hv; exact ⟨_, rfl, x1, rfl, rfl⟩
    | 2, hv => cases hv; exact ⟨_, rfl, x2, rfl, rfl⟩
    | 3, hv => cases hv
    | i + 4, hv => cases hv
  · exact absurd hq List.not_mem_nil
theorem cw_0 : (apW Kx_474.2.2.2.2.2.2.2.1 [(1, 1, 1, 1)] = true ∧ apW Kx_474.2.2.2.2.2.2.2.1 [(1, 1, 5066, 5066)] = true ∧ apW Kx_632.2.2.2.2.2.2.2.1 [(1, 1, 1, 1)] = true ∧ apW Kx_632.2.2.2.2.2.2.2.1 [(1, 1, 5066, 5066)] = true) ∧ (apW Kx_474.2.2.2.2.2.2.2.1 rlFI = true ∧ apW Kx_632.2.2.2.2.2.2.2.1 rlFI = true ∧ apW Kx_474.2.2.2.2.2.2.2.1 [(1, 1, 0, 5269)] = true ∧ rlE.all (fun e => apW Kx_632.2.2.2.2.2.2.2.1 [rlX 0 0 e]) = true) := by decide +kernel
set_option maxRecDepth 16384 in
set_option maxHeartbeats 4000000 in
theorem cp_0 (hlow : ∀ (k : Nat) (K : aK), KTx[k]? = some K → kOK TTs g (EIm n) l K) {b0 b1 : Nat} {bk : aB} {h : jH} (hI : lwI g n b0 b1 bk h) {x1 x2 : Int32} : cpS l g n b0 b1 h 13 234 [.int x1, .int x2] 0 0 true (k6 bk) := by
  obtain ⟨⟨v1, v2, v3, v4⟩, v5, v6, v7, v8⟩ := cw_0
  have hx := eu_474 (hlow 474 _ rfl) (hI.ok []) hI.2.2.2.1 (⟨i32_lo x1, i32_hi x1⟩) (⟨i32_lo x2, i32_hi x2⟩)
  have hm : ∀ bk1 h1, hOK TTs g (EIm n) Kx_474.2.2.2.2.2.2.2.1 bk h bk1 h1 → bk1 1 = some b1 → _ := fun bk1 h1 k1 p1 => eu_632 (hlow 632 _ rfl) k1 p1 (⟨i32_lo x1, i32_hi x1⟩) (⟨i32_lo x2, i32_hi x2⟩)
  by_cases g_0l : x1.toInt < 0
  · exact bad_pair hI (by decide) (by decide) hx hm (fun fsx q1 q2 q3 => xk_lies_0l q1 q2 (by omega)) (fun h1 fsm fr m1 m2 m3 m4 m5 => xr_lies_0l m1 m2 (by omega)) v1 v2 v3 v4 v5 v6 v7 v8
  by_cases g_0h : 11 < x1.toInt
  · exact bad_pair hI (by decide) (by decide) hx hm (fun fsx q1 q2 q3 => xk_lies_0h q1 q2 (by omega)) (fun h1 fsm fr m1 m2 m3 m4 m5 => xr_lies_0h m1 m2 (by omega)) v1 v2 v3 v4 v5 v6 v7 v8
  by_cases g_1l : x2.toInt < -1
  · exact bad_pair hI (by decide) (by decide) hx hm (fun fsx q1 q2 q3 => xk_lies_1l q1 q2 ⟨by omega, by omega⟩ (by omega)) (fun h1 fsm fr m1 m2 m3 m4 m5 => xr_lies_1l m1 m2 ⟨by omega, by omega⟩ (by omega)) v1 v2 v3 v4 v5 v6 v7 v8
  by_cases g_1h : 15 < x2.toInt
  · exact bad_pair hI (by decide) (by decide) hx hm (fun fsx q1 q2 q3 => xk_lies_1h q1 q2 ⟨by omega, by omega⟩ (by omega)) (fun h1 fsm fr m1 m2 m3 m4 m5 => xr_lies_1h m1 m2 ⟨by omega, by omega⟩ (by omega)) v1 v2 v3 v4 v5 v6 v7 v8
  obtain ⟨fx, hfx, lfx, rfx, -⟩ := k_obj (o := 0) (ci := 11) hI.1 hI.2.2.2.1 rfl
  obtain ⟨fs, hfs, lfs, rfs, -⟩ := k_obj (o := 1) (ci := 7) hI.1 hI.2.2.2.1 rfl
  obtain ⟨f, hfa, -⟩ := k_arr (o := 23) hI.1 hI.2.2.2.1 rfl
  obtain ⟨b, e1⟩ : ∃ b : Nat, x1.toInt = (b : Int) := ⟨x1.toInt.toNat, by omega⟩
  have ex : jCal l g 13 2 [.ref (g.2.2 + (b0 + 0)), .int x1, .int x2] h 0 0 (fun v h' => v = some (.int (f b)) ∧ h' = (h.set (b0 + 23) (.inl (0, 12, upd f b x2))).set (b0 + 0) (.inr (11, fx.set 7 (.int (Int32.ofInt 0))))) := by
    by_cases q : x2.toInt < 0
    · exact xk_liesn hfx (lfx.trans (by decide +kernel)) (rfx 0 1 (by decide +kernel)) hfs (rfs 9 23 (by decide +kernel)) hfa e1 (by omega) ⟨by omega, by omega⟩
    · exact xk_lies hfx (lfx.trans (by decide +kernel)) (rfx 0 1 (by decide +kernel)) hfs (rfs 9 23 (by decide +kernel)) hfa e1 (by omega) ⟨by omega, by omega⟩
  refine ex_pair hI (by decide) (by decide) hx hm ex (fun h1 fm fr m1 m2 m3 m4 _ => xr_lies m1 m2 m3 m4 e1 (by omega) ⟨by omega, by omega⟩) v1 v2 v3 v4 v5 v6 v7 v8 (fun v1 h1' hE => ?_)
  obtain ⟨rfl, rfl⟩ := hE
  refine ⟨f b, rfl, fun hq fm fr v2 h2' _ hr hR hs hE2 => ?_⟩
  obtain ⟨rfl, rfl⟩ := hE2
  have hix : fr (52 + b) = f b := by
    have := rl_num hI hs (e := (23, 0, 1, 12, 52, 1, 0)) (by decide +kernel) rfl (i := b) (show b < 12 by omega) (t := f b) (by rw [show rlz (23, 0, 1, 12, 52, 1, 0) b = b from by show 0 + 1 * _ = _; omega]; exact cv_arr hfa _)
    rw [show rlr (23, 0, 1, 12, 52, 1, 0) b = 52 + b from by show 52 + 1 * _ = _; omega] at this
    exact this
  refine ⟨by rw [hix], upd fr (52 + b) x2, ?_, fun e he => ?_⟩
  · rw [List.getElem?_set_ne (by omega)]
    exact List.getElem?_set_self (by rw [List.length_set]; exact (List.getElem?_eq_some_iff.mp hr).1)
  have u : ∀ o, o ≠ 0 → o ≠ 23 → ((h.set (b0 + 23) (.inl (0, 12, upd f b x2))).set (b0 + 0) (.inr (11, fx.set 7 (.int (Int32.ofInt 0)))))[b0 + o]? = h[b0 + o]? := fun o h1 h2 => by rw [List.getElem?_set_ne (by omega), List.getElem?_set_ne (by omega)]
  have ua : ((h.set (b0 + 23) (.inl (0, 12, upd f b x2))).set (b0 + 0) (.inr (11, fx.set 7 (.int (Int32.ofInt 0)))))[b0 + 23]? = some (.inl (0, 12, upd f b x2)) := by
    rw [List.getElem?_set_ne (by omega)]
    exact List.getElem?_set_self (List.getElem?_eq_some_iff.mp hfa).1
  have he' := he
  simp only [rlE, List.mem_cons, List.not_mem_nil, or_false] at he'
  rcases he' with rfl | rfl | rfl | rfl | rfl | rfl | rfl | rfl | rfl | rfl | rfl | rfl
  · exact exR_un hR he (u 1 (by decide) (by decide)) (fun i hi => by
      have hi : i < 1 := hi
      show upd fr _ _ (7 + 1 * i) = fr (7 + 1 * i)
      exact upd_ne (by omega))
  · exact exR_un hR he (u 30 (by decide) (by decide)) (fun i hi => by
      have hi : i < 1 := hi
      show upd fr _ _ (8 + 1 * i) = fr (8 + 1 * i)
      exact upd_ne (by omega))
  · exact exR_un hR he (u 37 (by decide) (by decide)) (fun i hi => by
      have hi : i < 1 := hi
      show upd fr _ _ (3 + 1 * i) = fr (3 + 1 * i)
      exact upd_ne (by omega))
  · exact exR_un hR he (u 44 (by decide) (by decide)) (fun i hi => by
      have hi : i < 1 := hi
      show upd fr _ _ (5 + 1 * i) = fr (5 + 1 * i)
      exact upd_ne (by omega))
  · exact exR_un hR he (u 37 (by decide) (by decide)) (fun i hi => by
      have hi : i < 1 := hi
      show upd fr _ _ (4 + 1 * i) = fr (4 + 1 * i)
      exact upd_ne (by omega))
  · refine ⟨ck_arr (o := 23) rfl ua, fun i hi => ?_⟩
    have hi : i < 12 := hi
    refine ⟨(upd f b x2 i).toInt, ?_, ?_⟩
    · rw [show rlz (23, 0, 1, 12, 52, 1, 0) i = i from by show 0 + 1 * i = i; omega]
      exact cv_arr ua i
    · show (upd fr (52 + b) x2 (52 + 1 * i)).toInt = (upd f b x2 i).toInt
      by_cases q : i = b
      · rw [q, Nat.one_mul, upd_eq, upd_eq]
      · rw [upd_ne (by omega), upd_ne q]
        have := rl_num hI hs he rfl (i := i) hi (t := f i) (by rw [show rlz (23, 0, 1, 12, 52, 1, 0) i = i from by show 0 + 1 * i = i; omega]; exact cv_arr hfa i)
        exact congrArg Int32.toInt this
  · exact exR_un hR he (u 24 (by decide) (by decide)) (fun i hi => by
      have hi : i < 12 := hi
      show upd fr _ _ (64 + 1 * i) = fr (64 + 1 * i)
      exact upd_ne (by omega))
  · exact exR_un hR he (u 25 (by decide) (by decide)) (fun i hi => by
      have hi : i < 12 := hi
      show upd fr _ _ (5030 + 1 * i) = fr (5030 + 1 * i)
      exact upd_ne (by omega))
  · exact exR_un hR he (u 28 (by decide) (by decide)) (fun i hi => by
      have hi : i < 3 := hi
      show upd fr _ _ (76 + 1 * i) = fr (76 + 1 * i)
      exact upd_ne (by omega))
  · exact exR_un hR he (u 29 (by decide) (by decide)) (fun i hi => by
      have hi : i < 300 := hi
      show upd fr _ _ (80 + 1 * i) = fr (80 + 1 * i)
      exact upd_ne (by omega))
  · exact exR_un hR he (u 41 (by decide) (by decide)) (fun i hi => by
      have hi : i < 16 := hi
      show upd fr _ _ (456 + 3 * i) = fr (456 + 3 * i)
      exact upd_ne (by omega))
  · exact exR_un hR he (u 2 (by decide) (by decide)) (fun i hi => by
      have hi : i < 8 := hi
      show upd fr _ _ (30 + 1 * i) = fr (30 + 1 * i)
      exact upd_ne (by omega))
theorem eu_493 (hk : kOK TTs g (EIm n) l Kx_493) {W0 : List aR} {bk0 bk : aB} {h0 h : jH} (hO : hOK TTs g (EIm n) W0 bk0 h0 bk h) {a0 : Nat} (ha0 : bk 0 = some a0) {x1 : Int32} (hx1 : (-2147483648 : Int) ≤ x1.toInt ∧ x1.toInt ≤ 2147483647) {x2 : Int32} (hx2 : (-2147483648 : Int) ≤ x2.toInt ∧ x2.toInt ≤ 2147483647) :
    jCal l g 162 2 [.ref (g.2.2 + (a0 + 0)), .int x1, .int x2] h 0 0 (kPost TTs g (EIm n) Kx_493 bk h [x1.toInt, x2.toInt]) := by
  refine hk bk h [.ref (g.2.2 + (a0 + 0)), .int x1, .int x2] [x1.toInt, x2.toInt] hO.1 hO.2.1 hO.2.2.1 hO.2.2.2.2.2 (show 3 ≤ jmx 162 by decide +kernel) rfl (fun q hq => ?_) ⟨⟨rfl, fun i e z he hz => ?_⟩, eFm_plain (plain_app (spEnv_plain _) clEnv_plain), fun F hF => absurd hF List.not_mem_nil, fun i v hv => ?_, trivial, fun q hq => ?_, fun B hB => absurd hB List.not_mem_nil⟩
  · have hq : q ∈ ([] : List (Nat × Int × Nat)) := hq
    exact absurd hq List.not_mem_nil
  · match i, he, hz with
    | 0, he, hz => cases he; cases hz; exact hx1
    | 1, he, hz => cases he; cases hz; exact hx2
    | i + 2, he, _ => cases he
  · match i, hv with
    | 0, hv => cases hv; exact ⟨_, rfl, a0, ha0, rfl⟩
    | 1, hv => cases hv; exact ⟨_, rfl, x1, rfl, rfl⟩
    | 2, hv => cases hv; exact ⟨_, rfl, x2, rfl, rfl⟩
    | 3, hv => cases hv
    | i + 4, hv => cases hv
  · exact absurd hq List.not_mem_nil
theorem eu_654 (hk : kOK TTs g (EIm n) l Kx_654) {W0 : List aR} {bk0 bk : aB} {h0 h : jH} (hO : hOK TTs g (EIm n) W0 bk0 h0 bk h) {a1 : Nat} (ha1 : bk 1 = some a1) {x1 : Int32} (hx1 : (-2147483648 : Int) ≤ x1.toInt ∧ x1.toInt ≤ 2147483647) {x2 : Int32} (hx2 : (-2147483648 : Int) ≤ x2.toInt ∧ x2.toInt ≤ 2147483647) :
    jCal l g 295 3 [.ref (g.2.2 + (a1 + 0)), .int x1, .int x2] h 0 0 (kPost TTs g (EIm n) Kx_654 bk h [x1.toInt, x2.toInt]) := by
  refine hk bk h [.ref (g.2.2 + (a1 + 0)), .int x1, .int x2] [x1.toInt, x2.toInt] hO.1 hO.2.1 hO.2.2.1 hO.2.2.2.2.2 (show 3 ≤ jmx 295 by decide +kernel) rfl (fun q hq => ?_) ⟨⟨rfl, fun i e z he hz => ?_⟩, eFm_plain (plain_app (spEnv_plain _) clEnv_plain), fun F hF => absurd hF List.not_mem_nil, fun i v hv => ?_, trivial, fun q hq => ?_, fun B hB => absurd hB List.not_mem_nil⟩
  · have hq : q ∈ ([] : List (Nat × Int × Nat)) := hq
    exact absurd hq List.not_mem_nil
  · match i, he, hz with
    | 0, he, hz => cases he; cases hz; exact hx1
    | 1, he, hz => cases he; cases hz; exact hx2
    | i + 2, he, _ => cases he
  · match i, hv with
    | 0, hv => cases hv; exact ⟨_, rfl, a1, ha1, rfl⟩
    | 1, hv => cases hv; exact ⟨_, rfl, x1, rfl, rfl⟩
    | 2, hv => cases hv; exact ⟨_, rfl, x2, rfl, rfl⟩
    | 3, hv => cases hv
    | i + 4, hv => cases hv
  · exact absurd hq List.not_mem_nil
theorem cw_38 : (apW Kx_493.2.2.2.2.2.2.2.1 [(1, 1, 1, 1)] = true ∧ apW Kx_493.2.2.2.2.2.2.2.1 [(1, 1, 5066, 5066)] = true ∧ apW Kx_654.2.2.2.2.2.2.2.1 [(1, 1, 1, 1)] = true ∧ apW Kx_654.2.2.2.2.2.2.2.1 [(1, 1, 5066, 5066)] = true) ∧ (apW Kx_493.2.2.2.2.2.2.2.1 rlFI = true ∧ apW Kx_654.2.2.2.2.2.2.2.1 rlFI = true ∧ apW Kx_493.2.2.2.2.2.2.2.1 [(1, 1, 0, 5269)] = true ∧ rlE.all (fun e => apW Kx_654.2.2.2.2.2.2.2.1 [rlX 0 0 e]) = true) := by decide +kernel
set_option maxRecDepth 16384 in
set_option maxHeartbeats 4000000 in
theorem cp_38 (hlow : ∀ (k : Nat) (K : aK), KTx[k]? = some K → kOK TTs g (EIm n) l K) {b0 b1 : Nat} {bk : aB} {h : jH} (hI : lwI g n b0 b1 bk h) {x1 x2 : Int32} : cpS l g n b0 b1 h 162 295 [.int x1, .int x2] 0 0 true (k6 bk) := by
  obtain ⟨⟨v1, v2, v3, v4⟩, v5, v6, v7, v8⟩ := cw_38
  have hx := eu_493 (hlow 493 _ rfl) (hI.ok []) hI.2.2.2.1 (⟨i32_lo x1, i32_hi x1⟩) (⟨i32_lo x2, i32_hi x2⟩)
  have hm : ∀ bk1 h1, hOK TTs g (EIm n) Kx_493.2.2.2.2.2.2.2.1 bk h bk1 h1 → bk1 1 = some b1 → _ := fun bk1 h1 k1 p1 => eu_654 (hlow 654 _ rfl) k1 p1 (⟨i32_lo x1, i32_hi x1⟩) (⟨i32_lo x2, i32_hi x2⟩)
  by_cases g_0l : x1.toInt < 0
  · exact bad_pair hI (by decide) (by decide) hx hm (fun fsx q1 q2 q3 => xk_station_0l q1 q2 (by omega)) (fun h1 fsm fr m1 m2 m3 m4 m5 => xr_station_0l m1 m2 (by omega)) v1 v2 v3 v4 v5 v6 v7 v8
  by_cases g_0h : 11 < x1.toInt
  · exact bad_pair hI (by decide) (by decide) hx hm (fun fsx q1 q2 q3 => xk_station_0h q1 q2 (by omega)) (fun h1 fsm fr m1 m2 m3 m4 m5 => xr_station_0h m1 m2 (by omega)) v1 v2 v3 v4 v5 v6 v7 v8
  by_cases g_1l : x2.toInt < -1
  · exact bad_pair hI (by decide) (by decide) hx hm (fun fsx q1 q2 q3 => xk_station_1l q1 q2 ⟨by omega, by omega⟩ (by omega)) (fun h1 fsm fr m1 m2 m3 m4 m5 => xr_station_1l m1 m2 ⟨by omega, by omega⟩ (by omega)) v1 v2 v3 v4 v5 v6 v7 v8
  by_cases g_1h : 5 < x2.toInt
  · exact bad_pair hI (by decide) (by decide) hx hm (fun fsx q1 q2 q3 => xk_station_1h q1 q2 ⟨by omega, by omega⟩ (by omega)) (fun h1 fsm fr m1 m2 m3 m4 m5 => xr_station_1h m1 m2 ⟨by omega, by omega⟩ (by omega)) v1 v2 v3 v4 v5 v6 v7 v8
  obtain ⟨fx, hfx, lfx, rfx, -⟩ := k_obj (o := 0) (ci := 11) hI.1 hI.2.2.2.1 rfl
  obtain ⟨fs, hfs, lfs, rfs, -⟩ := k_obj (o := 1) (ci := 7) hI.1 hI.2.2.2.1 rfl
  obtain ⟨f, hfa, -⟩ := k_arr (o := 25) hI.1 hI.2.2.2.1 rfl
  obtain ⟨b, e1⟩ : ∃ b : Nat, x1.toInt = (b : Int) := ⟨x1.toInt.toNat, by omega⟩
  refine ex_pair hI (by decide) (by decide) hx hm (xk_station hfx (lfx.trans (by decide +kernel)) (rfx 0 1 (by decide +kernel)) hfs (rfs 11 25 (by decide +kernel)) hfa e1 (by omega) ⟨by omega, by omega⟩) (fun h1 fm fr m1 m2 m3 m4 _ => xr_station m1 m2 m3 m4 e1 (by omega) ⟨by omega, by omega⟩) v1 v2 v3 v4 v5 v6 v7 v8 (fun v1 h1' hE => ?_)
  obtain ⟨rfl, rfl⟩ := hE
  refine ⟨f b, rfl, fun hq fm fr v2 h2' _ hr hR hs hE2 => ?_⟩
  obtain ⟨rfl, rfl⟩ := hE2
  have hix : fr (5030 + b) = f b := by
    have := rl_num hI hs (e := (25, 0, 1, 12, 5030, 1, 0)) (by decide +kernel) rfl (i := b) (show b < 12 by omega) (t := f b) (by rw [show rlz (25, 0, 1, 12, 5030, 1, 0) b = b from by show 0 + 1 * _ = _; omega]; exact cv_arr hfa _)
    rw [show rlr (25, 0, 1, 12, 5030, 1, 0) b = 5030 + b from by show 5030 + 1 * _ = _; omega] at this
    exact this
  refine ⟨by rw [hix], upd fr (5030 + b) x2, ?_, fun e he => ?_⟩
  · rw [List.getElem?_set_ne (by omega)]
    exact List.getElem?_set_self (by rw [List.length_set]; exact (List.getElem?_eq_some_iff.mp hr).1)
  have u : ∀ o, o ≠ 0 → o ≠ 25 → ((h.set (b0 + 25) (.inl (0, 12, upd f b x2))).set (b0 + 0) (.inr (11, fx.set 7 (.int (Int32.ofInt 0)))))[b0 + o]? = h[b0 + o]? := fun o h1 h2 => by rw [List.getElem?_set_ne (by omega), List.getElem?_set_ne (by omega)]
  have ua : ((h.set (b0 + 25) (.inl (0, 12, upd f b x2))).set (b0 + 0) (.inr (11, fx.set 7 (.int (Int32.ofInt 0)))))[b0 + 25]? = some (.inl (0, 12, upd f b x2)) := by
    rw [List.getElem?_set_ne (by omega)]
    exact List.getElem?_set_self (List.getElem?_eq_some_iff.mp hfa).1
  have he' := he
  simp only [rlE, List.mem_cons, List.not_mem_nil, or_false] at he'
  rcases he' with rfl | rfl | rfl | rfl | rfl | rfl | rfl | rfl | rfl | rfl | rfl | rfl
  · exact exR_un hR he (u 1 (by decide) (by decide)) (fun i hi => by
      have hi : i < 1 := hi
      show upd fr _ _ (7 + 1 * i) = fr (7 + 1 * i)
      exact upd_ne (by omega))
  · exact exR_un hR he (u 30 (by decide) (by decide)) (fun i hi => by
      have hi : i < 1 := hi
      show upd fr _ _ (8 + 1 * i) = fr (8 + 1 * i)
      exact upd_ne (by omega))
  · exact exR_un hR he (u 37 (by decide) (by decide)) (fun i hi => by
      have hi : i < 1 := hi
      show upd fr _ _ (3 + 1 * i) = fr (3 + 1 * i)
      exact upd_ne (by omega))
  · exact exR_un hR he (u 44 (by decide) (by decide)) (fun i hi => by
      have hi : i < 1 := hi
      show upd fr _ _ (5 + 1 * i) = fr (5 + 1 * i)
      exact upd_ne (by omega))
  · exact exR_un hR he (u 37 (by decide) (by decide)) (fun i hi => by
      have hi : i < 1 := hi
      show upd fr _ _ (4 + 1 * i) = fr (4 + 1 * i)
      exact upd_ne (by omega))
  · exact exR_un hR he (u 23 (by decide) (by decide)) (fun i hi => by
      have hi : i < 12 := hi
      show upd fr _ _ (52 + 1 * i) = fr (52 + 1 * i)
      exact upd_ne (by omega))
  · exact exR_un hR he (u 24 (by decide) (by decide)) (fun i hi => by
      have hi : i < 12 := hi
      show upd fr _ _ (64 + 1 * i) = fr (64 + 1 * i)
      exact upd_ne (by omega))
  · refine ⟨ck_arr (o := 25) rfl ua, fun i hi => ?_⟩
    have hi : i < 12 := hi
    refine ⟨(upd f b x2 i).toInt, ?_, ?_⟩
    · rw [show rlz (25, 0, 1, 12, 5030, 1, 0) i = i from by show 0 + 1 * i = i; omega]
      exact cv_arr ua i
    · show (upd fr (5030 + b) x2 (5030 + 1 * i)).toInt = (upd f b x2 i).toInt
      by_cases q : i = b
      · rw [q, Nat.one_mul, upd_eq, upd_eq]
      · rw [upd_ne (by omega), upd_ne q]
        have := rl_num hI hs he rfl (i := i) hi (t := f i) (by rw [show rlz (25, 0, 1, 12, 5030, 1, 0) i = i from by show 0 + 1 * i = i; omega]; exact cv_arr hfa i)
        exact congrArg Int32.toInt this
  · exact exR_un hR he (u 28 (by decide) (by decide)) (fun i hi => by
      have hi : i < 3 := hi
      show upd fr _ _ (76 + 1 * i) = fr (76 + 1 * i)
      exact upd_ne (by omega))
  · exact exR_un hR he (u 29 (by decide) (by decide)) (fun i hi => by
      have hi : i < 300 := hi
      show upd fr _ _ (80 + 1 * i) = fr (80 + 1 * i)
      exact upd_ne (by omega))
  · exact exR_un hR he (u 41 (by decide) (by decide)) (fun i hi => by
      have hi : i < 16 := hi
      show upd fr _ _ (456 + 3 * i) = fr (456 + 3 * i)
      exact upd_ne (by omega))
  · exact exR_un hR he (u 2 (by decide) (by decide)) (fun i hi => by
      have hi : i < 8 := hi
      show upd fr _ _ (30 + 1 * i) = fr (30 + 1 * i)
      exact upd_ne (by omega))
theorem eu_449 (hk : kOK TTs g (EIm n) l Kx_449) {W0 : List aR} {bk0 bk : aB} {h0 h : jH} (hO : hOK TTs g (EIm n) W0 bk0 h0 bk h) {a0 : Nat} (ha0 : bk 0 = some a0) {x1 : Int32} (hx1 : (-2147483648 : Int) ≤ x1.toInt ∧ x1.toInt ≤ 2147483647) {x2 : Int32} (hx2 : (-2147483648 : Int) ≤ x2.toInt ∧ x2.toInt ≤ 2147483647) :
    jCal l g 178 2 [.ref (g.2.2 + (a0 + 0)), .int x1, .int x2] h 0 0 (kPost TTs g (EIm n) Kx_449 bk h [x1.toInt, x2.toInt]) := by
  refine hk bk h [.ref (g.2.2 + (a0 + 0)), .int x1, .int x2] [x1.toInt, x2.toInt] hO.1 hO.2.1 hO.2.2.1 hO.2.2.2.2.2 (show 3 ≤ jmx 178 by decide +kernel) rfl (fun q hq => ?_) ⟨⟨rfl, fun i e z he hz => ?_⟩, eFm_plain (plain_app (spEnv_plain _) clEnv_plain), fun F hF => absurd hF List.not_mem_nil, fun i v hv => ?_, trivial, fun q hq => ?_, fun B hB => absurd hB List.not_mem_nil⟩
  · have hq : q ∈ ([] : List (Nat × Int × Nat)) := hq
    exact absurd hq List.not_mem_nil
  · match i, he, hz with
    | 0, he, hz => cases he; cases hz; exact hx1
    | 1, he, hz => cases he; cases hz; exact hx2
    | i + 2, he, _ => cases he
  · match i, hv with
    | 0, hv => cases hv; exact ⟨_, rfl, a0, ha0, rfl⟩
    | 1, hv => cases hv; exact ⟨_, rfl, x1, rfl, rfl⟩
    | 2, hv => cases hv; exact ⟨_, rfl, x2, rfl, rfl⟩
    | 3, hv => cases hv
    | i + 4, hv => cases hv
  · exact absurd hq List.not_mem_nil
theorem eu_521 (hk : kOK TTs g (EIm n) l Kx_521) {W0 : List aR} {bk0 bk : aB} {h0 h : jH} (hO : hOK TTs g (EIm n) W0 bk0 h0 bk h) {a1 : Nat} (ha1 : bk 1 = some a1) {x1 : Int32} (hx1 : (-2147483648 : Int) ≤ x1.toInt ∧ x1.toInt ≤ 2147483647) {x2 : Int32} (hx2 : (-2147483648 : Int) ≤ x2.toInt ∧ x2.toInt ≤ 2147483647) :
    jCal l g 306 2 [.ref (g.2.2 + (a1 + 0)), .int x1, .int x2] h 0 0 (kPost TTs g (EIm n) Kx_521 bk h [x1.toInt, x2.toInt]) := by
  refine hk bk h [.ref (g.2.2 + (a1 + 0)), .int x1, .int x2] [x1.toInt, x2.toInt] hO.1 hO.2.1 hO.2.2.1 hO.2.2.2.2.2 (show 3 ≤ jmx 306 by decide +kernel) rfl (fun q hq => ?_) ⟨⟨rfl, fun i e z he hz => ?_⟩, eFm_plain (plain_app (spEnv_plain _) clEnv_plain), fun F hF => absurd hF List.not_mem_nil, fun i v hv => ?_, trivial, fun q hq => ?_, fun B hB => absurd hB List.not_mem_nil⟩
  · have hq : q ∈ ([] : List (Nat × Int × Nat)) := hq
    exact absurd hq List.not_mem_nil
  · match i, he, hz with
    | 0, he, hz => cases he; cases hz; exact hx1
    | 1, he, hz => cases he; cases hz; exact hx2
    | i + 2, he, _ => cases he
  · match i, hv with
    | 0, hv => cases hv; exact ⟨_, rfl, a1, ha1, rfl⟩
    | 1, hv => cases hv; exact ⟨_, rfl, x1, rfl, rfl⟩
    | 2, hv => cases hv; exact ⟨_, rfl, x2, rfl, rfl⟩
    | 3, hv => cases hv
    | i + 4, hv => cases hv
  · exact absurd hq List.not_mem_nil
theorem cw_44 : (apW Kx_449.2.2.2.2.2.2.2.1 [(1, 1, 1, 1)] = true ∧ apW Kx_449.2.2.2.2.2.2.2.1 [(1, 1, 5066, 5066)] = true ∧ apW Kx_521.2.2.2.2.2.2.2.1 [(1, 1, 1, 1)] = true ∧ apW Kx_521.2.2.2.2.2.2.2.1 [(1, 1, 5066, 5066)] = true) ∧ (apW Kx_449.2.2.2.2.2.2.2.1 rlFI = true ∧ apW Kx_521.2.2.2.2.2.2.2.1 rlFI = true ∧ apW Kx_449.2.2.2.2.2.2.2.1 [(1, 1, 0, 5269)] = true ∧ rlE.all (fun e => apW Kx_521.2.2.2.2.2.2.2.1 [rlX 0 0 e]) = true) := by decide +kernel
set_option maxRecDepth 16384 in
set_option maxHeartbeats 4000000 in
theorem cp_44 (hlow : ∀ (k : Nat) (K : aK), KTx[k]? = some K → kOK TTs g (EIm n) l K) {b0 b1 : Nat} {bk : aB} {h : jH} (hI : lwI g n b0 b1 bk h) {x1 x2 : Int32} : cpS l g n b0 b1 h 178 306 [.int x1, .int x2] 0 0 true (k6 bk) := by
  obtain ⟨⟨v1, v2, v3, v4⟩, v5, v6, v7, v8⟩ := cw_44
  have hx := eu_449 (hlow 449 _ rfl) (hI.ok []) hI.2.2.2.1 (⟨i32_lo x1, i32_hi x1⟩) (⟨i32_lo x2, i32_hi x2⟩)
  have hm : ∀ bk1 h1, hOK TTs g (EIm n) Kx_449.2.2.2.2.2.2.2.1 bk h bk1 h1 → bk1 1 = some b1 → _ := fun bk1 h1 k1 p1 => eu_521 (hlow 521 _ rfl) k1 p1 (⟨i32_lo x1, i32_hi x1⟩) (⟨i32_lo x2, i32_hi x2⟩)
  by_cases g_1l : x2.toInt < -30
  · exact bad_pair hI (by decide) (by decide) hx hm (fun fsx q1 q2 q3 => xk_clock_1l q1 q2 (by omega)) (fun h1 fsm fr m1 m2 m3 m4 m5 => xr_clock_1l m1 m2 (by omega)) v1 v2 v3 v4 v5 v6 v7 v8
  by_cases g_1h : 30 < x2.toInt
  · exact bad_pair hI (by decide) (by decide) hx hm (fun fsx q1 q2 q3 => xk_clock_1h q1 q2 (by omega)) (fun h1 fsm fr m1 m2 m3 m4 m5 => xr_clock_1h m1 m2 (by omega)) v1 v2 v3 v4 v5 v6 v7 v8
  by_cases g_0l : x1.toInt < 0
  · exact bad_pair hI (by decide) (by decide) hx hm (fun fsx q1 q2 q3 => xk_clock_0l q1 q2 ⟨by omega, by omega⟩ (by omega)) (fun h1 fsm fr m1 m2 m3 m4 m5 => xr_clock_0l m1 m2 ⟨by omega, by omega⟩ (by omega)) v1 v2 v3 v4 v5 v6 v7 v8
  by_cases g_0h : 2 < x1.toInt
  · exact bad_pair hI (by decide) (by decide) hx hm (fun fsx q1 q2 q3 => xk_clock_0h q1 q2 ⟨by omega, by omega⟩ (by omega)) (fun h1 fsm fr m1 m2 m3 m4 m5 => xr_clock_0h m1 m2 ⟨by omega, by omega⟩ (by omega)) v1 v2 v3 v4 v5 v6 v7 v8
  obtain ⟨fx, hfx, lfx, rfx, -⟩ := k_obj (o := 0) (ci := 11) hI.1 hI.2.2.2.1 rfl
  obtain ⟨fs, hfs, lfs, rfs, -⟩ := k_obj (o := 1) (ci := 7) hI.1 hI.2.2.2.1 rfl
  obtain ⟨f, hfa, -⟩ := k_arr (o := 28) hI.1 hI.2.2.2.1 rfl
  obtain ⟨b, e1⟩ : ∃ b : Nat, x1.toInt = (b : Int) := ⟨x1.toInt.toNat, by omega⟩
  refine ex_pair hI (by decide) (by decide) hx hm (xk_clock hfx (lfx.trans (by decide +kernel)) (rfx 0 1 (by decide +kernel)) hfs (rfs 14 28 (by decide +kernel)) hfa e1 (by omega) ⟨by omega, by omega⟩) (fun h1 fm fr m1 m2 m3 m4 _ => xr_clock m1 m2 m3 m4 e1 (by omega) ⟨by omega, by omega⟩) v1 v2 v3 v4 v5 v6 v7 v8 (fun v1 h1' hE => ?_)
  obtain ⟨rfl, rfl⟩ := hE
  refine ⟨f b, rfl, fun hq fm fr v2 h2' _ hr hR hs hE2 => ?_⟩
  obtain ⟨rfl, rfl⟩ := hE2
  have hix : fr (76 + b) = f b := by
    have := rl_num hI hs (e := (28, 0, 1, 3, 76, 1, 0)) (by decide +kernel) rfl (i := b) (show b < 3 by omega) (t := f b) (by rw [show rlz (28, 0, 1, 3, 76, 1, 0) b = b from by show 0 + 1 * _ = _; omega]; exact cv_arr hfa _)
    rw [show rlr (28, 0, 1, 3, 76, 1, 0) b = 76 + b from by show 76 + 1 * _ = _; omega] at this
    exact this
  refine ⟨by rw [hix], upd fr (76 + b) x2, ?_, fun e he => ?_⟩
  · rw [List.getElem?_set_ne (by omega)]
    exact List.getElem?_set_self (by rw [List.length_set]; exact (List.getElem?_eq_some_iff.mp hr).1)
  have u : ∀ o, o ≠ 0 → o ≠ 28 → ((h.set (b0 + 28) (.inl (0, 3, upd f b x2))).set (b0 + 0) (.inr (11, fx.set 7 (.int (Int32.ofInt 0)))))[b0 + o]? = h[b0 + o]? := fun o h1 h2 => by rw [List.getElem?_set_ne (by omega), List.getElem?_set_ne (by omega)]
  have ua : ((h.set (b0 + 28) (.inl (0, 3, upd f b x2))).set (b0 + 0) (.inr (11, fx.set 7 (.int (Int32.ofInt 0)))))[b0 + 28]? = some (.inl (0, 3, upd f b x2)) := by
    rw [List.getElem?_set_ne (by omega)]
    exact List.getElem?_set_self (List.getElem?_eq_some_iff.mp hfa).1
  have he' := he
  simp only [rlE, List.mem_cons, List.not_mem_nil, or_false] at he'
  rcases he' with rfl | rfl | rfl | rfl | rfl | rfl | rfl | rfl | rfl | rfl | rfl | rfl
  · exact exR_un hR he (u 1 (by decide) (by decide)) (fun i hi => by
      have hi : i < 1 := hi
      show upd fr _ _ (7 + 1 * i) = fr (7 + 1 * i)
      exact upd_ne (by omega))
  · exact exR_un hR he (u 30 (by decide) (by decide)) (fun i hi => by
      have hi : i < 1 := hi
      show upd fr _ _ (8 + 1 * i) = fr (8 + 1 * i)
      exact upd_ne (by omega))
  · exact exR_un hR he (u 37 (by decide) (by decide)) (fun i hi => by
      have hi : i < 1 := hi
      show upd fr _ _ (3 + 1 * i) = fr (3 + 1 * i)
      exact upd_ne (by omega))
  · exact exR_un hR he (u 44 (by decide) (by decide)) (fun i hi => by
      have hi : i < 1 := hi
      show upd fr _ _ (5 + 1 * i) = fr (5 + 1 * i)
      exact upd_ne (by omega))
  · exact exR_un hR he (u 37 (by decide) (by decide)) (fun i hi => by
      have hi : i < 1 := hi
      show upd fr _ _ (4 + 1 * i) = fr (4 + 1 * i)
      exact upd_ne (by omega))
  · exact exR_un hR he (u 23 (by decide) (by decide)) (fun i hi => by
      have hi : i < 12 := hi
      show upd fr _ _ (52 + 1 * i) = fr (52 + 1 * i)
      exact upd_ne (by omega))
  · exact exR_un hR he (u 24 (by decide) (by decide)) (fun i hi => by
      have hi : i < 12 := hi
      show upd fr _ _ (64 + 1 * i) = fr (64 + 1 * i)
      exact upd_ne (by omega))
  · exact exR_un hR he (u 25 (by decide) (by decide)) (fun i hi => by
      have hi : i < 12 := hi
      show upd fr _ _ (5030 + 1 * i) = fr (5030 + 1 * i)
      exact upd_ne (by omega))
  · refine ⟨ck_arr (o := 28) rfl ua, fun i hi => ?_⟩
    have hi : i < 3 := hi
    refine ⟨(upd f b x2 i).toInt, ?_, ?_⟩
    · rw [show rlz (28, 0, 1, 3, 76, 1, 0) i = i from by show 0 + 1 * i = i; omega]
      exact cv_arr ua i
    · show (upd fr (76 + b) x2 (76 + 1 * i)).toInt = (upd f b x2 i).toInt
      by_cases q : i = b
      · rw [q, Nat.one_mul, upd_eq, upd_eq]
      · rw [upd_ne (by omega), upd_ne q]
        have := rl_num hI hs he rfl (i := i) hi (t := f i) (by rw [show rlz (28, 0, 1, 3, 76, 1, 0) i = i from by show 0 + 1 * i = i; omega]; exact cv_arr hfa i)
        exact congrArg Int32.toInt this
  · exact exR_un hR he (u 29 (by decide) (by decide)) (fun i hi => by
      have hi : i < 300 := hi
      show upd fr _ _ (80 + 1 * i) = fr (80 + 1 * i)
      exact upd_ne (by omega))
  · exact exR_un hR he (u 41 (by decide) (by decide)) (fun i hi => by
      have hi : i < 16 := hi
      show upd fr _ _ (456 + 3 * i) = fr (456 + 3 * i)
      exact upd_ne (by omega))
  · exact exR_un hR he (u 2 (by decide) (by decide)) (fun i hi => by
      have hi : i < 8 := hi
      show upd fr _ _ (30 + 1 * i) = fr (30 + 1 * i)
      exact upd_ne (by omega))
theorem eu_453 (hk : kOK TTs g (EIm n) l Kx_453) {W0 : List aR} {bk0 bk : aB} {h0 h : jH} (hO : hOK TTs g (EIm n) W0 bk0 h0 bk h) {a0 : Nat} (ha0 : bk 0 = some a0) {x1 : Int32} (hx1 : (-2147483648 : Int) ≤ x1.toInt ∧ x1.toInt ≤ 2147483647) {x2 : Int32} (hx2 : (-2147483648 : Int) ≤ x2.toInt ∧ x2.toInt ≤ 2147483647) {x3 : Int32} (hx3 : (-2147483648 : Int) ≤ x3.toInt ∧ x3.toInt ≤ 2147483647) :
    jCal l g 180 2 [.ref (g.2.2 + (a0 + 0)), .int x1, .int x2, .int x3] h 0 0 (kPost TTs g (EIm n) Kx_453 bk h [x1.toInt, x2.toInt, x3.toInt]) := by
  refine hk bk h [.ref (g.2.2 + (a0 + 0)), .int x1, .int x2, .int x3] [x1.toInt, x2.toInt, x3.toInt] hO.1 hO.2.1 hO.2.2.1 hO.2.2.2.2.2 (show 4 ≤ jmx 180 by decide +kernel) rfl (fun q hq => ?_) ⟨⟨rfl, fun i e z he hz => ?_⟩, eFm_plain (plain_app (spEnv_plain _) clEnv_plain), fun F hF => absurd hF List.not_mem_nil, fun i v hv => ?_, trivial, fun q hq => ?_, fun B hB => absurd hB List.not_mem_nil⟩
  · have hq : q ∈ ([] : List (Nat × Int × Nat)) := hq
    exact absurd hq List.not_mem_nil
  · match i, he, hz with
    | 0, he, hz => cases he; cases hz; exact hx1
    | 1, he, hz => cases he; cases hz; exact hx2
    | 2, he, hz => cases he; cases hz; exact hx3
    | i + 3, he, _ => cases he
  · match i, hv with
    | 0, hv => cases hv; exact ⟨_, rfl, a0, ha0, rfl⟩
    | 1, hv => cases hv; exact ⟨_, rfl, x1, rfl, rfl⟩
    | 2, hv => cases hv; exact ⟨_, rfl, x2, rfl, rfl⟩
    | 3, hv => cases hv; exact ⟨_, rfl, x3, rfl, rfl⟩
    | 4, hv => cases hv
    | i + 5, hv => cases hv
  · exact absurd hq List.not_mem_nil
theorem eu_525 (hk : kOK TTs g (EIm n) l Kx_525) {W0 : List aR} {bk0 bk : aB} {h0 h : jH} (hO : hOK TTs g (EIm n) W0 bk0 h0 bk h) {a1 : Nat} (ha1 : bk 1 = some a1) {x1 : Int32} (hx1 : (-2147483648 : Int) ≤ x1.toInt ∧ x1.toInt ≤ 2147483647) {x2 : Int32} (hx2 : (-2147483648 : Int) ≤ x2.toInt ∧ x2.toInt ≤ 2147483647) {x3 : Int32} (hx3 : (-2147483648 : Int) ≤ x3.toInt ∧ x3.toInt ≤ 2147483647) :
    jCal l g 307 3 [.ref (g.2.2 + (a1 + 0)), .int x1, .int x2, .int x3] h 0 0 (kPost TTs g (EIm n) Kx_525 bk h [x1.toInt, x2.toInt, x3.toInt]) := by
  refine hk bk h [.ref (g.2.2 + (a1 + 0)), .int x1, .int x2, .int x3] [x1.toInt, x2.toInt, x3.toInt] hO.1 hO.2.1 hO.2.2.1 hO.2.2.2.2.2 (show 4 ≤ jmx 307 by decide +kernel) rfl (fun q hq => ?_) ⟨⟨rfl, fun i e z he hz => ?_⟩, eFm_plain (plain_app (spEnv_plain _) clEnv_plain), fun F hF => absurd hF List.not_mem_nil, fun i v hv => ?_, trivial, fun q hq => ?_, fun B hB => absurd hB List.not_mem_nil⟩
  · have hq : q ∈ ([] : List (Nat × Int × Nat)) := hq
    exact absurd hq List.not_mem_nil
  · match i, he, hz with
    | 0, he, hz => cases he; cases hz; exact hx1
    | 1, he, hz => cases he; cases hz; exact hx2
    | 2, he, hz => cases he; cases hz; exact hx3
    | i + 3, he, _ => cases he
  · match i, hv with
    | 0, hv => cases hv; exact ⟨_, rfl, a1, ha1, rfl⟩
    | 1, hv => cases hv; exact ⟨_, rfl, x1, rfl, rfl⟩
    | 2, hv => cases hv; exact ⟨_, rfl, x2, rfl, rfl⟩
    | 3, hv => cases hv; exact ⟨_, rfl, x3, rfl, rfl⟩
    | 4, hv => cases hv
    | i + 5, hv => cases hv
  · exact absurd hq List.not_mem_nil
theorem cw_45 : (apW Kx_453.2.2.2.2.2.2.2.1 [(1, 1, 1, 1)] = true ∧ apW Kx_453.2.2.2.2.2.2.2.1 [(1, 1, 5066, 5066)] = true ∧ apW Kx_525.2.2.2.2.2.2.2.1 [(1, 1, 1, 1)] = true ∧ apW Kx_525.2.2.2.2.2.2.2.1 [(1, 1, 5066, 5066)] = true) ∧ (apW Kx_453.2.2.2.2.2.2.2.1 rlFI = true ∧ apW Kx_525.2.2.2.2.2.2.2.1 rlFI = true ∧ apW Kx_453.2.2.2.2.2.2.2.1 [(1, 1, 0, 5269)] = true ∧ rlE.all (fun e => apW Kx_525.2.2.2.2.2.2.2.1 [rlX 0 0 e]) = true) := by decide +kernel
set_option maxRecDepth 16384 in
set_option maxHeartbeats 4000000 in
theorem cp_45 (hlow : ∀ (k : Nat) (K : aK), KTx[k]? = some K → kOK TTs g (EIm n) l K) {b0 b1 : Nat} {bk : aB} {h : jH} (hI : lwI g n b0 b1 bk h) {x1 x2 x3 : Int32} : cpS l g n b0 b1 h 180 307 [.int x1, .int x2, .int x3] 0 0 true (k6 bk) := by
  obtain ⟨⟨v1, v2, v3, v4⟩, v5, v6, v7, v8⟩ := cw_45
  have hx := eu_453 (hlow 453 _ rfl) (hI.ok []) hI.2.2.2.1 (⟨i32_lo x1, i32_hi x1⟩) (⟨i32_lo x2, i32_hi x2⟩) (⟨i32_lo x3, i32_hi x3⟩)
  have hm : ∀ bk1 h1, hOK TTs g (EIm n) Kx_453.2.2.2.2.2.2.2.1 bk h bk1 h1 → bk1 1 = some b1 → _ := fun bk1 h1 k1 p1 => eu_525 (hlow 525 _ rfl) k1 p1 (⟨i32_lo x1, i32_hi x1⟩) (⟨i32_lo x2, i32_hi x2⟩) (⟨i32_lo x3, i32_hi x3⟩)
  by_cases g_1l : x2.toInt < 0
  · exact bad_pair hI (by decide) (by decide) hx hm (fun fsx q1 q2 q3 => xk_code_1l q1 q2 (by omega)) (fun h1 fsm fr m1 m2 m3 m4 m5 => xr_code_1l m1 m2 (by omega)) v1 v2 v3 v4 v5 v6 v7 v8
  by_cases g_1h : 99 < x2.toInt
  · exact bad_pair hI (by decide) (by decide) hx hm (fun fsx q1 q2 q3 => xk_code_1h q1 q2 (by omega)) (fun h1 fsm fr m1 m2 m3 m4 m5 => xr_code_1h m1 m2 (by omega)) v1 v2 v3 v4 v5 v6 v7 v8
  by_cases g_2l : x3.toInt < 1
  · exact bad_pair hI (by decide) (by decide) hx hm (fun fsx q1 q2 q3 => xk_code_2l q1 q2 ⟨by omega, by omega⟩ (by omega)) (fun h1 fsm fr m1 m2 m3 m4 m5 => xr_code_2l m1 m2 ⟨by omega, by omega⟩ (by omega)) v1 v2 v3 v4 v5 v6 v7 v8
  by_cases g_2h : 999 < x3.toInt
  · exact bad_pair hI (by decide) (by decide) hx hm (fun fsx q1 q2 q3 => xk_code_2h q1 q2 ⟨by omega, by omega⟩ (by omega)) (fun h1 fsm fr m1 m2 m3 m4 m5 => xr_code_2h m1 m2 ⟨by omega, by omega⟩ (by omega)) v1 v2 v3 v4 v5 v6 v7 v8
  by_cases g_0l : x1.toInt < 0
  · exact bad_pair hI (by decide) (by decide) hx hm (fun fsx q1 q2 q3 => xk_code_0l q1 q2 ⟨by omega, by omega⟩ ⟨by omega, by omega⟩ (by omega)) (fun h1 fsm fr m1 m2 m3 m4 m5 => xr_code_0l m1 m2 ⟨by omega, by omega⟩ ⟨by omega, by omega⟩ (by omega)) v1 v2 v3 v4 v5 v6 v7 v8
  by_cases g_0h : 2 < x1.toInt
  · exact bad_pair hI (by decide) (by decide) hx hm (fun fsx q1 q2 q3 => xk_code_0h q1 q2 ⟨by omega, by omega⟩ ⟨by omega, by omega⟩ (by omega)) (fun h1 fsm fr m1 m2 m3 m4 m5 => xr_code_0h m1 m2 ⟨by omega, by omega⟩ ⟨by omega, by omega⟩ (by omega)) v1 v2 v3 v4 v5 v6 v7 v8
  obtain ⟨fx, hfx, lfx, rfx, -⟩ := k_obj (o := 0) (ci := 11) hI.1 hI.2.2.2.1 rfl
  obtain ⟨fs, hfs, lfs, rfs, -⟩ := k_obj (o := 1) (ci := 7) hI.1 hI.2.2.2.1 rfl
  obtain ⟨f, hfa, -⟩ := k_arr (o := 29) hI.1 hI.2.2.2.1 rfl
  obtain ⟨b, e1⟩ : ∃ b : Nat, x1.toInt = (b : Int) := ⟨x1.toInt.toNat, by omega⟩
  obtain ⟨c, e2⟩ : ∃ c : Nat, x2.toInt = (c : Int) := ⟨x2.toInt.toNat, by omega⟩
  refine ex_pair hI (by decide) (by decide) hx hm (xk_code hfx (lfx.trans (by decide +kernel)) (rfx 0 1 (by decide +kernel)) hfs (rfs 15 29 (by decide +kernel)) hfa e1 (by omega) e2 (by omega) ⟨by omega, by omega⟩) (fun h1 fm fr m1 m2 m3 m4 _ => xr_code m1 m2 m3 m4 e1 (by omega) e2 (by omega) ⟨by omega, by omega⟩) v1 v2 v3 v4 v5 v6 v7 v8 (fun v1 h1' hE => ?_)
  obtain ⟨rfl, rfl⟩ := hE
  refine ⟨f (100 * b + c), rfl, fun hq fm fr v2 h2' _ hr hR hs hE2 => ?_⟩
  obtain ⟨rfl, rfl⟩ := hE2
  have hix : fr (80 + (100 * b + c)) = f (100 * b + c) := by
    have := rl_num hI hs (e := (29, 0, 1, 300, 80, 1, 0)) (by decide +kernel) rfl (i := (100 * b + c)) (show (100 * b + c) < 300 by omega) (t := f (100 * b + c)) (by rw [show rlz (29, 0, 1, 300, 80, 1, 0) (100 * b + c) = (100 * b + c) from by show 0 + 1 * _ = _; omega]; exact cv_arr hfa _)
    rw [show rlr (29, 0, 1, 300, 80, 1, 0) (100 * b + c) = 80 + (100 * b + c) from by show 80 + 1 * _ = _; omega] at this
    exact this
  refine ⟨by rw [hix], upd fr (80 + (100 * b + c)) x3, ?_, fun e he => ?_⟩
  · rw [List.getElem?_set_ne (by omega)]
    exact List.getElem?_set_self (by rw [List.length_set]; exact (List.getElem?_eq_some_iff.mp hr).1)
  have u : ∀ o, o ≠ 0 → o ≠ 29 → ((h.set (b0 + 29) (.inl (0, 300, upd f (100 * b + c) x3))).set (b0 + 0) (.inr (11, fx.set 7 (.int (Int32.ofInt 0)))))[b0 + o]? = h[b0 + o]? := fun o h1 h2 => by rw [List.getElem?_set_ne (by omega), List.getElem?_set_ne (by omega)]
  have ua : ((h.set (b0 + 29) (.inl (0, 300, upd f (100 * b + c) x3))).set (b0 + 0) (.inr (11, fx.set 7 (.int (Int32.ofInt 0)))))[b0 + 29]? = some (.inl (0, 300, upd f (100 * b + c) x3)) := by
    rw [List.getElem?_set_ne (by omega)]
    exact List.getElem?_set_self (List.getElem?_eq_some_iff.mp hfa).1
  have he' := he
  simp only [rlE, List.mem_cons, List.not_mem_nil, or_false] at he'
  rcases he' with rfl | rfl | rfl | rfl | rfl | rfl | rfl | rfl | rfl | rfl | rfl | rfl
  · exact exR_un hR he (u 1 (by decide) (by decide)) (fun i hi => by
      have hi : i < 1 := hi
      show upd fr _ _ (7 + 1 * i) = fr (7 + 1 * i)
      exact upd_ne (by omega))
  · exact exR_un hR he (u 30 (by decide) (by decide)) (fun i hi => by
      have hi : i < 1 := hi
      show upd fr _ _ (8 + 1 * i) = fr (8 + 1 * i)
      exact upd_ne (by omega))
  · exact exR_un hR he (u 37 (by decide) (by decide)) (fun i hi => by
      have hi : i < 1 := hi
      show upd fr _ _ (3 + 1 * i) = fr (3 + 1 * i)
      exact upd_ne (by omega))
  · exact exR_un hR he (u 44 (by decide) (by decide)) (fun i hi => by
      have hi : i < 1 := hi
      show upd fr _ _ (5 + 1 * i) = fr (5 + 1 * i)
      exact upd_ne (by omega))
  · exact exR_un hR he (u 37 (by decide) (by decide)) (fun i hi => by
      have hi : i < 1 := hi
      show upd fr _ _ (4 + 1 * i) = fr (4 + 1 * i)
      exact upd_ne (by omega))
  · exact exR_un hR he (u 23 (by decide) (by decide)) (fun i hi => by
      have hi : i < 12 := hi
      show upd fr _ _ (52 + 1 * i) = fr (52 + 1 * i)
      exact upd_ne (by omega))
  · exact exR_un hR he (u 24 (by decide) (by decide)) (fun i hi => by
      have hi : i < 12 := hi
      show upd fr _ _ (64 + 1 * i) = fr (64 + 1 * i)
      exact upd_ne (by omega))
  · exact exR_un hR he (u 25 (by decide) (by decide)) (fun i hi => by
      have hi : i < 12 := hi
      show upd fr _ _ (5030 + 1 * i) = fr (5030 + 1 * i)
      exact upd_ne (by omega))
  · exact exR_un hR he (u 28 (by decide) (by decide)) (fun i hi => by
      have hi : i < 3 := hi
      show upd fr _ _ (76 + 1 * i) = fr (76 + 1 * i)
      exact upd_ne (by omega))
  · refine ⟨ck_arr (o := 29) rfl ua, fun i hi => ?_⟩
    have hi : i < 300 := hi
    refine ⟨(upd f (100 * b + c) x3 i).toInt, ?_, ?_⟩
    · rw [show rlz (29, 0, 1, 300, 80, 1, 0) i = i from by show 0 + 1 * i = i; omega]
      exact cv_arr ua i
    · show (upd fr (80 + (100 * b + c)) x3 (80 + 1 * i)).toInt = (upd f (100 * b + c) x3 i).toInt
      by_cases q : i = (100 * b + c)
      · rw [q, Nat.one_mul, upd_eq, upd_eq]
      · rw [upd_ne (by omega), upd_ne q]
        have := rl_num hI hs he rfl (i := i) hi (t := f i) (by rw [show rlz (29, 0, 1, 300, 80, 1, 0) i = i from by show 0 + 1 * i = i; omega]; exact cv_arr hfa i)
        exact congrArg Int32.toInt this
  · exact exR_un hR he (u 41 (by decide) (by decide)) (fun i hi => by
      have hi : i < 16 := hi
      show upd fr _ _ (456 + 3 * i) = fr (456 + 3 * i)
      exact upd_ne (by omega))
  · exact exR_un hR he (u 2 (by decide) (by decide)) (fun i hi => by
      have hi : i < 8 := hi
      show upd fr _ _ (30 + 1 * i) = fr (30 + 1 * i)
      exact upd_ne (by omega))
theorem eu_442 (hk : kOK TTs g (EIm n) l Kx_442) {W0 : List aR} {bk0 bk : aB} {h0 h : jH} (hO : hOK TTs g (EIm n) W0 bk0 h0 bk h) {a0 : Nat} (ha0 : bk 0 = some a0) {x1 : Int32} (hx1 : (-2147483648 : Int) ≤ x1.toInt ∧ x1.toInt ≤ 2147483647) {x2 : Int32} (hx2 : (-2147483648 : Int) ≤ x2.toInt ∧ x2.toInt ≤ 2147483647) :
    jCal l g 183 2 [.ref (g.2.2 + (a0 + 0)), .int x1, .int x2] h 0 0 (kPost TTs g (EIm n) Kx_442 bk h [x1.toInt, x2.toInt]) := by
  refine hk bk h [.ref (g.2.2 + (a0 + 0)), .int x1, .int x2] [x1.toInt, x2.toInt] hO.1 hO.2.1 hO.2.2.1 hO.2.2.2.2.2 (show 3 ≤ jmx 183 by decide +kernel) rfl (fun q hq => ?_) ⟨⟨rfl, fun i e z he hz => ?_⟩, eFm_plain (plain_app (spEnv_plain _) clEnv_plain), fun F hF => absurd hF List.not_mem_nil, fun i v hv => ?_, trivial, fun q hq => ?_, fun B hB => absurd hB List.not_mem_nil⟩
  · have hq : q ∈ ([] : List (Nat × Int × Nat)) := hq
    exact absurd hq List.not_mem_nil
  · match i, he, hz with
    | 0, he, hz => cases he; cases hz; exact hx1
    | 1, he, hz => cases he; cases hz; exact hx2
    | i + 2, he, _ => cases he
  · match i, hv with
    | 0, hv => cases hv; exact ⟨_, rfl, a0, ha0, rfl⟩
    | 1, hv => cases hv; exact ⟨_, rfl, x1, rfl, rfl⟩
    | 2, hv => cases hv; exact ⟨_, rfl, x2, rfl, rfl⟩
    | 3, hv => cases hv
    | i + 4, hv => cases hv
  · exact absurd hq List.not_mem_nil
theorem eu_511 (hk : kOK TTs g (EIm n) l Kx_511) {W0 : List aR} {bk0 bk : aB} {h0 h : jH} (hO : hOK TTs g (EIm n) W0 bk0 h0 bk h) {a1 : Nat} (ha1 : bk 1 = some a1) {x1 : Int32} (hx1 : (-2147483648 : Int) ≤ x1.toInt ∧ x1.toInt ≤ 2147483647) {x2 : Int32} (hx2 : (-2147483648 : Int) ≤ x2.toInt ∧ x2.toInt ≤ 2147483647) :
    jCal l g 309 3 [.ref (g.2.2 + (a1 + 0)), .int x1, .int x2] h 0 0 (kPost TTs g (EIm n) Kx_511 bk h [x1.toInt, x2.toInt]) := by
  refine hk bk h [.ref (g.2.2 + (a1 + 0)), .int x1, .int x2] [x1.toInt, x2.toInt] hO.1 hO.2.1 hO.2.2.1 hO.2.2.2.2.2 (show 3 ≤ jmx 309 by decide +kernel) rfl (fun q hq => ?_) ⟨⟨rfl, fun i e z he hz => ?_⟩, eFm_plain (plain_app (spEnv_plain _) clEnv_plain), fun F hF => absurd hF List.not_mem_nil, fun i v hv => ?_, trivial, fun q hq => ?_, fun B hB => absurd hB List.not_mem_nil⟩
  · have hq : q ∈ ([] : List (Nat × Int × Nat)) := hq
    exact absurd hq List.not_mem_nil
  · match i, he, hz with
    | 0, he, hz => cases he; cases hz; exact hx1
    | 1, he, hz => cases he; cases hz; exact hx2
    | i + 2, he, _ => cases he
  · match i, hv with
    | 0, hv => cases hv; exact ⟨_, rfl, a1, ha1, rfl⟩
    | 1, hv => cases hv; exact ⟨_, rfl, x1, rfl, rfl⟩
    | 2, hv => cases hv; exact ⟨_, rfl, x2, rfl, rfl⟩
    | 3, hv => cases hv
    | i + 4, hv => cases hv
  · exact absurd hq List.not_mem_nil
theorem cw_47 : (apW Kx_442.2.2.2.2.2.2.2.1 [(1, 1, 1, 1)] = true ∧ apW Kx_442.2.2.2.2.2.2.2.1 [(1, 1, 5066, 5066)] = true ∧ apW Kx_511.2.2.2.2.2.2.2.1 [(1, 1, 1, 1)] = true ∧ apW Kx_511.2.2.2.2.2.2.2.1 [(1, 1, 5066, 5066)] = true) ∧ (apW Kx_442.2.2.2.2.2.2.2.1 rlFI = true ∧ apW Kx_511.2.2.2.2.2.2.2.1 rlFI = true ∧ apW Kx_442.2.2.2.2.2.2.2.1 [(1, 1, 0, 5269)] = true ∧ rlE.all (fun e => apW Kx_511.2.2.2.2.2.2.2.1 [rlX 0 0 e]) = true) := by decide +kernel
set_option maxRecDepth 16384 in
set_option maxHeartbeats 4000000 in
theorem cp_47 (hlow : ∀ (k : Nat) (K : aK), KTx[k]? = some K → kOK TTs g (EIm n) l K) {b0 b1 : Nat} {bk : aB} {h : jH} (hI : lwI g n b0 b1 bk h) {x1 x2 : Int32} : cpS l g n b0 b1 h 183 309 [.int x1, .int x2] 0 0 true (k6 bk) := by
  obtain ⟨⟨v1, v2, v3, v4⟩, v5, v6, v7, v8⟩ := cw_47
  have hx := eu_442 (hlow 442 _ rfl) (hI.ok []) hI.2.2.2.1 (⟨i32_lo x1, i32_hi x1⟩) (⟨i32_lo x2, i32_hi x2⟩)
  have hm : ∀ bk1 h1, hOK TTs g (EIm n) Kx_442.2.2.2.2.2.2.2.1 bk h bk1 h1 → bk1 1 = some b1 → _ := fun bk1 h1 k1 p1 => eu_511 (hlow 511 _ rfl) k1 p1 (⟨i32_lo x1, i32_hi x1⟩) (⟨i32_lo x2, i32_hi x2⟩)
  by_cases g_0l : x1.toInt < 0
  · exact bad_pair hI (by decide) (by decide) hx hm (fun fsx q1 q2 q3 => xk_bad_0l q1 q2 (by omega)) (fun h1 fsm fr m1 m2 m3 m4 m5 => xr_bad_0l m1 m2 (by omega)) v1 v2 v3 v4 v5 v6 v7 v8
  by_cases g_0h : 11 < x1.toInt
  · exact bad_pair hI (by decide) (by decide) hx hm (fun fsx q1 q2 q3 => xk_bad_0h q1 q2 (by omega)) (fun h1 fsm fr m1 m2 m3 m4 m5 => xr_bad_0h m1 m2 (by omega)) v1 v2 v3 v4 v5 v6 v7 v8
  by_cases g_1l : x2.toInt < 0
  · exact bad_pair hI (by decide) (by decide) hx hm (fun fsx q1 q2 q3 => xk_bad_1l q1 q2 ⟨by omega, by omega⟩ (by omega)) (fun h1 fsm fr m1 m2 m3 m4 m5 => xr_bad_1l m1 m2 ⟨by omega, by omega⟩ (by omega)) v1 v2 v3 v4 v5 v6 v7 v8
  by_cases g_1h : 1023 < x2.toInt
  · exact bad_pair hI (by decide) (by decide) hx hm (fun fsx q1 q2 q3 => xk_bad_1h q1 q2 ⟨by omega, by omega⟩ (by omega)) (fun h1 fsm fr m1 m2 m3 m4 m5 => xr_bad_1h m1 m2 ⟨by omega, by omega⟩ (by omega)) v1 v2 v3 v4 v5 v6 v7 v8
  obtain ⟨fx, hfx, lfx, rfx, -⟩ := k_obj (o := 0) (ci := 11) hI.1 hI.2.2.2.1 rfl
  obtain ⟨fs, hfs, lfs, rfs, -⟩ := k_obj (o := 1) (ci := 7) hI.1 hI.2.2.2.1 rfl
  obtain ⟨f, hfa, -⟩ := k_arr (o := 24) hI.1 hI.2.2.2.1 rfl
  obtain ⟨b, e1⟩ : ∃ b : Nat, x1.toInt = (b : Int) := ⟨x1.toInt.toNat, by omega⟩
  refine ex_pair hI (by decide) (by decide) hx hm (xk_bad hfx (lfx.trans (by decide +kernel)) (rfx 0 1 (by decide +kernel)) hfs (rfs 10 24 (by decide +kernel)) hfa e1 (by omega) ⟨by omega, by omega⟩) (fun h1 fm fr m1 m2 m3 m4 _ => xr_bad m1 m2 m3 m4 e1 (by omega) ⟨by omega, by omega⟩) v1 v2 v3 v4 v5 v6 v7 v8 (fun v1 h1' hE => ?_)
  obtain ⟨rfl, rfl⟩ := hE
  refine ⟨f b, rfl, fun hq fm fr v2 h2' _ hr hR hs hE2 => ?_⟩
  obtain ⟨rfl, rfl⟩ := hE2
  have hix : fr (64 + b) = f b := by
    have := rl_num hI hs (e := (24, 0, 1, 12, 64, 1, 0)) (by decide +kernel) rfl (i := b) (show b < 12 by omega) (t := f b) (by rw [show rlz (24, 0, 1, 12, 64, 1, 0) b = b from by show 0 + 1 * _ = _; omega]; exact cv_arr hfa _)
    rw [show rlr (24, 0, 1, 12, 64, 1, 0) b = 64 + b from by show 64 + 1 * _ = _; omega] at this
    exact this
  refine ⟨by rw [hix], upd fr (64 + b) x2, ?_, fun e he => ?_⟩
  · rw [List.getElem?_set_ne (by omega)]
    exact List.getElem?_set_self (by rw [List.length_set]; exact (List.getElem?_eq_some_iff.mp hr).1)
  have u : ∀ o, o ≠ 0 → o ≠ 24 → ((h.set (b0 + 24) (.inl (0, 12, upd f b x2))).set (b0 + 0) (.inr (11, fx.set 7 (.int (Int32.ofInt 0)))))[b0 + o]? = h[b0 + o]? := fun o h1 h2 => by rw [List.getElem?_set_ne (by omega), List.getElem?_set_ne (by omega)]
  have ua : ((h.set (b0 + 24) (.inl (0, 12, upd f b x2))).set (b0 + 0) (.inr (11, fx.set 7 (.int (Int32.ofInt 0)))))[b0 + 24]? = some (.inl (0, 12, upd f b x2)) := by
    rw [List.getElem?_set_ne (by omega)]
    exact List.getElem?_set_self (List.getElem?_eq_some_iff.mp hfa).1
  have he' := he
  simp only [rlE, List.mem_cons, List.not_mem_nil, or_false] at he'
  rcases he' with rfl | rfl | rfl | rfl | rfl | rfl | rfl | rfl | rfl | rfl | rfl | rfl
  · exact exR_un hR he (u 1 (by decide) (by decide)) (fun i hi => by
      have hi : i < 1 := hi
      show upd fr _ _ (7 + 1 * i) = fr (7 + 1 * i)
      exact upd_ne (by omega))
  · exact exR_un hR he (u 30 (by decide) (by decide)) (fun i hi => by
      have hi : i < 1 := hi
      show upd fr _ _ (8 + 1 * i) = fr (8 + 1 * i)
      exact upd_ne (by omega))
  · exact exR_un hR he (u 37 (by decide) (by decide)) (fun i hi => by
      have hi : i < 1 := hi
      show upd fr _ _ (3 + 1 * i) = fr (3 + 1 * i)
      exact upd_ne (by omega))
  · exact exR_un hR he (u 44 (by decide) (by decide)) (fun i hi => by
      have hi : i < 1 := hi
      show upd fr _ _ (5 + 1 * i) = fr (5 + 1 * i)
      exact upd_ne (by omega))
  · exact exR_un hR he (u 37 (by decide) (by decide)) (fun i hi => by
      have hi : i < 1 := hi
      show upd fr _ _ (4 + 1 * i) = fr (4 + 1 * i)
      exact upd_ne (by omega))
  · exact exR_un hR he (u 23 (by decide) (by decide)) (fun i hi => by
      have hi : i < 12 := hi
      show upd fr _ _ (52 + 1 * i) = fr (52 + 1 * i)
      exact upd_ne (by omega))
  · refine ⟨ck_arr (o := 24) rfl ua, fun i hi => ?_⟩
    have hi : i < 12 := hi
    refine ⟨(upd f b x2 i).toInt, ?_, ?_⟩
    · rw [show rlz (24, 0, 1, 12, 64, 1, 0) i = i from by show 0 + 1 * i = i; omega]
      exact cv_arr ua i
    · show (upd fr (64 + b) x2 (64 + 1 * i)).toInt = (upd f b x2 i).toInt
      by_cases q : i = b
      · rw [q, Nat.one_mul, upd_eq, upd_eq]
      · rw [upd_ne (by omega), upd_ne q]
        have := rl_num hI hs he rfl (i := i) hi (t := f i) (by rw [show rlz (24, 0, 1, 12, 64, 1, 0) i = i from by show 0 + 1 * i = i; omega]; exact cv_arr hfa i)
        exact congrArg Int32.toInt this
  · exact exR_un hR he (u 25 (by decide) (by decide)) (fun i hi => by
      have hi : i < 12 := hi
      show upd fr _ _ (5030 + 1 * i) = fr (5030 + 1 * i)
      exact upd_ne (by omega))
  · exact exR_un hR he (u 28 (by decide) (by decide)) (fun i hi => by
      have hi : i < 3 := hi
      show upd fr _ _ (76 + 1 * i) = fr (76 + 1 * i)
      exact upd_ne (by omega))
  · exact exR_un hR he (u 29 (by decide) (by decide)) (fun i hi => by
      have hi : i < 300 := hi
      show upd fr _ _ (80 + 1 * i) = fr (80 + 1 * i)
      exact upd_ne (by omega))
  · exact exR_un hR he (u 41 (by decide) (by decide)) (fun i hi => by
      have hi : i < 16 := hi
      show upd fr _ _ (456 + 3 * i) = fr (456 + 3 * i)
      exact upd_ne (by omega))
  · exact exR_un hR he (u 2 (by decide) (by decide)) (fun i hi => by
      have hi : i < 8 := hi
      show upd fr _ _ (30 + 1 * i) = fr (30 + 1 * i)
      exact upd_ne (by omega))
end QF
end
