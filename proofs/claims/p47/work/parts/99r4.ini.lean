/-! the law's two objects at its start -/
section LV
variable {l : Launch} {g : jG} {h0 : jH} {d : Nat}
def mFin (H : List cC) : Bool := match H[1]?, H[3]? with
  | some (Sum.inl a), some (Sum.inl k) => (List.range 2990).all (fun i => Nat.blt i 624 || decide (clook a.2.2.1 a.2.2.2 i = 0)) && decide (clook a.2.2.1 a.2.2.2 1 = 0) && decide (clook a.2.2.1 a.2.2.2 5066 = 0) && decide (k.2.2.1 = 0) && decide (k.2.2.2 = [])
  | _, _ => false
/-- the relation's numbers at the start -/
def cget (H : List cC) (o z : Nat) : Option Int := match H[o]? with
  | some (.inl a) => bif Nat.blt z a.2.1 then some (clook a.2.2.1 a.2.2.2 z) else none
  | some (.inr q) => (match q.2[z]? with | some v => bif Nat.beq v.1 0 then some v.2 else none | none => none)
  | none => none
def rlc (e : rlT) : Int := bif Nat.beq e.1 23 || Nat.beq e.1 25 then -1 else bif Nat.beq e.1 29 then 999 else 0
def rIC (H : List cC) : Bool := rlE.all (fun e => (List.range (rln e)).all (fun i => decide (cget H e.1 (rlz e i) = some (rlc e))))
def rIM (H : List cC) : Bool := rlE.all (fun e => (List.range (rln e)).all (fun i => decide (cget H 1 (rlr e i) = some (rlV (rlk e) (rlc e) i)) && decide (-1 ≤ rlV (rlk e) (rlc e) i) && decide (rlV (rlk e) (rlc e) i ≤ 999)))
theorem rlc_bd (e : rlT) : -1 ≤ rlc e ∧ rlc e ≤ 999 := by
  unfold rlc
  cases Nat.beq e.1 23 || Nat.beq e.1 25 with
  | true => exact (show (-1 : Int) ≤ -1 ∧ (-1 : Int) ≤ 999 by decide)
  | false =>
    cases Nat.beq e.1 29 with
    | true => exact (show (-1 : Int) ≤ 999 ∧ (999 : Int) ≤ 999 by decide)
    | false => exact (show (-1 : Int) ≤ 0 ∧ (0 : Int) ≤ 999 by decide)
theorem cget_cv {h0 : jH} {H : List cC} {o z : Nat} {x : Int} (hx : cget H o z = some x) (h1 : -1 ≤ x ∧ x ≤ 999) : cv (chp g h0 H) (h0.length + o) z x := by
  unfold cget at hx
  split at hx
  · rename_i a ha
    have hc := chp_get (g := g) (h0 := h0) ha
    cases hb : Nat.blt z a.2.1 with
    | false => rw [hb] at hx; cases hx
    | true =>
      rw [hb] at hx
      have hx := Option.some.inj hx
      have hc : (chp g h0 H)[h0.length + o]? = some (.inl (a.1, a.2.1, fun i => if i < a.2.1 then Int32.ofInt (clook a.2.2.1 a.2.2.2 i) else 0)) := hc
      have := cv_arr hc z
      rw [if_pos (blt_lt hb), hx, i32_ofInt (by omega) (by omega)] at this
      exact this
  · rename_i q hq
    have hc := chp_get (g := g) (h0 := h0) hq
    have hc : (chp g h0 H)[h0.length + o]? = some (.inr (q.1, q.2.map (cval g h0.length))) := hc
    split at hx
    · rename_i v hv
      cases hb : Nat.beq v.1 0 with
      | false => rw [hb] at hx; cases hx
      | true =>
        rw [hb] at hx
        have hx := Option.some.inj hx
        have e0 := Nat.eq_of_beq_eq_true hb
        obtain ⟨v0, v1⟩ := v
        have e0 : v0 = 0 := e0
        have hx : v1 = x := hx
        subst e0 hx
        have hz : (q.2.map (cval g h0.length))[z]? = some (.int (Int32.ofInt v1)) := by
          rw [List.getElem?_map, hv]
          rfl
        have := cv_fld hc hz
        rw [i32_ofInt (by omega) (by omega)] at this
        exact this
    · cases hx
  · cases hx
theorem rI0_ok : (match cev 500 0 11 8 0 (cloc 0 [(1, 0)]) [] [.inr (11, cdfT.getD 11 [])] with
    | some r => rIC r.1
    | none => false) = true := by decide +kernel
def mFin2 (H : List cC) : Bool := mFin H && rIM H
theorem mOK2_ok : (match mS2 with
    | some S2 => mFin2 S2.2.2.2.1
    | none => false) = true := by decide +kernel
theorem minit_ok2 {mc ms : Nat} (hmc : mc = 25) (hms : ms = 195855) (hd : 1 ≤ d) : jCal l g 203 d [.ref (g.2.2 + h0.length)] (chp g h0 [.inr (12, cdfT.getD 12 [])]) mc ms (fun v h' => v = none ∧ ∃ H, h' = chp g h0 H ∧ ctyH 1 TT_1 H = true ∧ mFin2 H = true) := by
  have hm := mOKs_ok
  unfold mOKs at hm
  cases h1 : mS1 with
  | none => rw [h1] at hm; cases hm
  | some S =>
    rw [h1] at hm
    simp only [Bool.and_eq_true, decide_eq_true_eq] at hm
    obtain ⟨⟨⟨⟨c1, c2⟩, c3⟩, c4⟩, c5⟩ := hm
    split at c4
    · rename_i o a ho ha
      simp only [Bool.and_eq_true, decide_eq_true_eq] at c4
      obtain ⟨⟨⟨d1, d2⟩, d3⟩, d4⟩ := c4
      cases h2 : mS2 with
      | none => rw [h2] at c5; cases c5
      | some S2 =>
        have hF := mOK2_ok
        rw [h2] at c5 hF
        have hF : mFin2 S2.2.2.2.1 = true := hF
        simp only [Bool.and_eq_true, decide_eq_true_eq] at c5
        obtain ⟨⟨⟨⟨e1, e2⟩, e3⟩, e4⟩, e5⟩ := c5
        unfold mS2 at h2
        rw [h1] at h2
        dsimp only at h2
        rw [ha] at h2
        dsimp only at h2
        unfold mS1 at h1
        have hcls : jcN 12 = (jyN 203).cls := by decide +kernel
        obtain ⟨mc1, ms1, f1, f2, K1⟩ := crun_ok (l := l) (g := g) (d := d) (h0 := h0) (Q := fun v h' => v = none ∧ ∃ H, h' = chp g h0 H ∧ ctyH 1 TT_1 H = true ∧ mFin2 H = true) 341 _ S hcls h1
        obtain ⟨mc2, ms2, f3, f4, K2⟩ := crun_ok (l := l) (g := g) (d := d) (h0 := h0) (Q := fun v h' => v = none ∧ ∃ H, h' = chp g h0 H ∧ ctyH 1 TT_1 H = true ∧ mFin2 H = true) 47 _ S2 hcls h2
        dsimp only at f1 f2 f3 f4 K1 K2
        refine jCal_of (by decide +kernel) (show 1 ≤ jmx 203 by decide +kernel) ?_
        show J l g 203 d 0 [some (.ref (g.2.2 + h0.length)), none] [] (chp g h0 [.inr (12, cdfT.getD 12 [])]) mc ms _
        refine j_aload_n (k4 := 0) (dQ (by decide +kernel)) rfl ?_
        refine j_obj (own := 12) (i := 1) (dQ (by decide +kernel)) hcls (by decide +kernel) hd (by decide) ?_
        rw [show mc = mc1 + mc2 by omega, show ms = ms1 + ms2 by omega]
        refine K1 mc2 ms2 ?_
        rw [c1, c2, c3]
        have ho2 := chp_get (g := g) (h0 := h0) ho
        rw [show ccel g h0.length (.inr o) = .inr (o.1, o.2.map (cval g h0.length)) from rfl, d1] at ho2
        have ha2 := chp_get (g := g) (h0 := h0) ha
        rw [show ccel g h0.length (.inl a) = .inl (a.1, a.2.1, fun i => if i < a.2.1 then Int32.ofInt (clook a.2.2.1 a.2.2.2 i) else 0) from rfl, d3, d4] at ha2
        have hfin : J l g 203 d 288 [some (.ref (g.2.2 + h0.length)), some (.int (Int32.ofInt (300 : Nat)))] [] ((chp g h0 S.2.2.2.1).set (h0.length + 1) (.inl (0, 5270, fun i => if 80 ≤ i ∧ i < 380 then 999 else (fun i => if i < 5270 then Int32.ofInt (clook a.2.2.1 a.2.2.2 i) else 0) i))) mc2 ms2 (fun v h' => v = none ∧ ∃ H, h' = chp g h0 H ∧ ctyH 1 TT_1 H = true ∧ mFin2 H = true) := by
          have e := chp_set (g := g) (h0 := h0) (H := S.2.2.2.1) (a := 1) (c := .inl (a.1, a.2.1, a.2.2.1, (80, 300, 999) :: a.2.2.2))
          rw [show ccel g h0.length (.inl (a.1, a.2.1, a.2.2.1, (80, 300, 999) :: a.2.2.2)) = .inl (a.1, a.2.1, fun i => if i < a.2.1 then Int32.ofInt (clook a.2.2.1 ((80, 300, 999) :: a.2.2.2) i) else 0) from rfl, d3, d4] at e
          have ef : (fun i => if 80 ≤ i ∧ i < 380 then (999 : Int32) else (fun i => if i < 5270 then Int32.ofInt (clook a.2.2.1 a.2.2.2 i) else 0) i) = fun i => if i < 5270 then Int32.ofInt (clook a.2.2.1 ((80, 300, 999) :: a.2.2.2) i) else 0 := by
            funext i
            dsimp only
            rw [clook]
            by_cases hi : 80 ≤ i ∧ i < 380
            · rw [if_pos hi, if_pos (by omega), show (Nat.ble 80 i && Nat.blt i (80 + 300)) = true by rw [Bool.and_eq_true]; exact ⟨Nat.ble_eq_true_of_le (by omega), Nat.ble_eq_true_of_le (by omega)⟩]
              show (999 : Int32) = Int32.ofInt 999
              decide
            · rw [if_neg hi, show (Nat.ble 80 i && Nat.blt i (80 + 300)) = false from by cases hbq : (Nat.ble 80 i && Nat.blt i (80 + 300)) with | false => rfl | true => rw [Bool.and_eq_true] at hbq; have h5 := Nat.le_of_ble_eq_true hbq.1; have h6 := blt_lt hbq.2; omega]
              rfl
          rw [ef, e]
          have hk := K2 0 0 (by
            rw [e1, e2]
            exact j_ret (v := none) ⟨by decide +kernel, by decide +kernel⟩ ⟨rfl, _, rfl, e3, hF⟩ rfl)
          rw [d3, d4] at hk
          exact hk
        have hl := codes_loop (l := l) (d := d) (by omega) ho2 (by rw [List.getElem?_map, d2]; rfl) ha2 hfin 300 0 rfl (by omega)
        have eh : (chp g h0 S.2.2.2.1).set (h0.length + 1) (.inl (0, 5270, fun i => if 80 ≤ i ∧ i < 80 + 0 then 999 else (fun i => if i < 5270 then Int32.ofInt (clook a.2.2.1 a.2.2.2 i) else 0) i)) = chp g h0 S.2.2.2.1 := by
          rw [show (fun i => if 80 ≤ i ∧ i < 80 + 0 then (999 : Int32) else (fun i => if i < 5270 then Int32.ofInt (clook a.2.2.1 a.2.2.2 i) else 0) i) = (fun i => if i < 5270 then Int32.ofInt (clook a.2.2.1 a.2.2.2 i) else 0) by funext i; rw [if_neg (by omega)]]
          obtain ⟨q1, q2⟩ := List.getElem?_eq_some_iff.mp ha2
          rw [← q2]
          exact List.set_getElem_self q1
        rw [eh] at hl
        exact hl
    · cases c4
theorem ini_z {a : Nat × Nat × Int × List (Nat × Nat × Int)} {i : Nat} (h : clook a.2.2.1 a.2.2.2 i = 0) : (if i < a.2.1 then Int32.ofInt (clook a.2.2.1 a.2.2.2 i) else 0) = 0 := by
  rw [h]
  split <;> rfl
theorem lw_ini {H0 H1 : List cC} (c0 : ctyH 0 TT_0 H0 = true) (c1 : ctyH 1 TT_1 H1 = true) (hF2 : mFin2 H1 = true) (hC : rIC H0 = true) : ∃ bk : aB, lwI g 0 0 (chp g [] H0).length bk (chp g (chp g [] H0) H1) := by
  rw [mFin2, Bool.and_eq_true] at hF2
  obtain ⟨hF, hM⟩ := hF2
  let bk : aB := fun B => match B with
    | 0 => some 0
    | 1 => some (chp g [] H0).length
    | _ => none
  have hab : ∀ B', 2 ≤ B' → bk B' = none := fun B' h2 => match B', h2 with
    | B' + 2, _ => rfl
  have k0 : ∀ (o : Nat) (t : aCT), TT_0[o]? = some t → ∃ c, (chp g [] H0)[0 + o]? = some c ∧ ctOK g bk t c := fun o t ht => ctyH_ok (bk := bk) (B := 0) (h0 := []) rfl (fun _ _ _ _ B' h2 _ => hab B' h2) c0 ht
  have k1 : ∀ (o : Nat) (t : aCT), TT_1[o]? = some t → ∃ c, (chp g (chp g [] H0) H1)[(chp g [] H0).length + o]? = some c ∧ ctOK g bk t c := fun o t ht => ctyH_ok (bk := bk) (B := 1) (h0 := chp g [] H0) rfl (fun _ _ _ _ B' h2 _ => hab B' h2) c1 ht
  have kl : ∀ o, o < tyLen TTs 0 → o < (chp g [] H0).length := fun o ho => by
    have ho : o < TT_0.length := ho
    obtain ⟨c, hc, -⟩ := k0 o _ (List.getElem?_eq_getElem ho)
    have := (List.getElem?_eq_some_iff.mp hc).1
    omega
  have hz : ∀ (f K : Nat → Int32), (chp g (chp g [] H0) H1)[(chp g [] H0).length + 1]? = some (.inl (0, 5270, f)) → (chp g (chp g [] H0) H1)[(chp g [] H0).length + 3]? = some (.inl (1, 2, K)) → (∀ i, 624 ≤ i → i < 2990 → f i = 0) ∧ f 1 = 0 ∧ f 5066 = 0 ∧ ∀ i, K i = 0 := by
    intro f K e1 e3
    unfold mFin at hF
    split at hF
    · rename_i a k ha hk
      simp only [Bool.and_eq_true, decide_eq_true_eq] at hF
      obtain ⟨⟨⟨⟨q1, q2⟩, q3⟩, q4⟩, q5⟩ := hF
      have ha2 := chp_get (g := g) (h0 := chp g [] H0) ha
      have hk2 := chp_get (g := g) (h0 := chp g [] H0) hk
      rw [e1] at ha2
      rw [e3] at hk2
      have ef : f = fun i => if i < a.2.1 then Int32.ofInt (clook a.2.2.1 a.2.2.2 i) else 0 := by
        have := Sum.inl.inj (Option.some.inj ha2)
        exact congrArg (fun q : Nat × Nat × (Nat → Int32) => q.2.2) this
      have eK : K = fun i => if i < k.2.1 then Int32.ofInt (clook k.2.2.1 k.2.2.2 i) else 0 := by
        have := Sum.inl.inj (Option.some.inj hk2)
        exact congrArg (fun q : Nat × Nat × (Nat → Int32) => q.2.2) this
      subst ef
      subst eK
      refine ⟨fun i h1 h2 => ini_z ?_, ini_z q2, ini_z q3, fun i => ini_z ?_⟩
      · have := List.all_eq_true.mp q1 i (List.mem_range.mpr h2)
        rcases (Bool.or_eq_true _ _).mp this with h | h
        · have := blt_lt h
          omega
        · exact of_decide_eq_true h
      · rw [q4, q5]
        rfl
    · cases hF
  have z0 : (0 : Int32).toInt = 0 := rfl
  refine ⟨bk, fun B b o t hb ht => ?_, fun B B' b b' o o' h1 h2 l1 l2 e => ?_, fun b f F K hb e1 e2 e3 => ?_, rfl, rfl, rfl, fun f hf => ?_, fun d0 d1 q0 q1 => ?_⟩
  · match B, hb, ht with
    | 0, hb, ht =>
      cases hb
      obtain ⟨c, hc, hct⟩ := k0 o t ht
      refine ⟨c, ?_, hct⟩
      have hl := (List.getElem?_eq_some_iff.mp hc).1
      show ((chp g [] H0) ++ _)[0 + o]? = _
      rw [List.getElem?_append_left hl]
      exact hc
    | 1, hb, ht => cases hb; exact k1 o t ht
    | B + 2, hb, _ => cases hb
  · match B, B', h1, h2, l1, l2 with
    | 0, 0, h1, h2, _, _ => cases h1; cases h2; exact ⟨rfl, by omega⟩
    | 1, 1, h1, h2, _, _ => cases h1; cases h2; exact ⟨rfl, by omega⟩
    | 0, 1, h1, h2, l1, _ => cases h1; cases h2; have := kl o l1; omega
    | 1, 0, h1, h2, _, l2 => cases h1; cases h2; have := kl o' l2; omega
    | B + 2, _, h1, _, _, _ => cases h1
    | _, B' + 2, _, h2, _, _ => cases h2
  · have hb : some (chp g [] H0).length = some b := hb
    cases hb
    obtain ⟨f0, -, -, K0⟩ := hz f K e1 e3
    refine ⟨⟨fun k hk => ?_, fun t ht k hk hn => ?_, fun t ht k hk _ => ?_⟩, fun k hk hne => absurd (K0 k) hne⟩
    · rw [f0 (0 + 624 + 5 * k + 3) (by omega) (by omega), f0 (0 + 624 + 5 * k + 2) (by omega) (by omega), z0]
      exact ⟨fun _ => by decide, fun _ => by decide⟩
    · rw [f0 (0 + 1130 + 930 * t) (by omega) (by omega), z0] at hn
      omega
    · rw [f0 (0 + 1130 + 930 * t + 1 + 8 * k + 2) (by omega) (by omega), z0]
      decide
  · obtain ⟨c3, hc3, K, rfl, -⟩ := k1 3 _ ty_m3
    obtain ⟨-, f1, f2, -⟩ := hz f K hf hc3
    rw [f1, f2, z0]
    decide
  · have q0 : some 0 = some d0 := q0
    have q1 : some (chp g [] H0).length = some d1 := q1
    cases q0
    cases q1
    obtain ⟨c1', hc1', f, rfl, -⟩ := k1 1 _ ty_m1
    obtain ⟨c3, hc3, K, rfl, -⟩ := k1 3 _ ty_m3
    obtain ⟨-, -, -, fK⟩ := hz f K hc1' hc3
    have hK : ∀ k, cv (chp g (chp g [] H0) H1) ((chp g [] H0).length + 3) k 0 := fun k => by
      have := cv_arr hc3 k
      rw [fK k, z0] at this
      exact this
    refine ⟨fun e he i hi => ⟨rlc e, ?_, ?_⟩, Or.inl ⟨rfl, hK 0⟩, Or.inl ⟨rfl, hK 1⟩⟩
    · have h1 := of_decide_eq_true (List.all_eq_true.mp (List.all_eq_true.mp hC e he) i (List.mem_range.mpr hi))
      have h2 := cget_cv (g := g) (h0 := []) h1 (rlc_bd e)
      obtain ⟨c, hc, hp⟩ := h2
      rw [rl_sh he]
      have hc : (chp g [] H0)[0 + e.1]? = some c := hc
      refine ⟨c, ?_, hp⟩
      have hl := (List.getElem?_eq_some_iff.mp hc).1
      show ((chp g [] H0) ++ _)[0 + e.1]? = _
      rw [List.getElem?_append_left hl]
      exact hc
    · have h1 := List.all_eq_true.mp (List.all_eq_true.mp hM e he) i (List.mem_range.mpr hi)
      simp only [Bool.and_eq_true, decide_eq_true_eq] at h1
      obtain ⟨⟨h1, h2⟩, h3⟩ := h1
      rw [Nat.zero_add]
      exact cget_cv h1 ⟨h2, h3⟩
end LV
