/-! THE REFERENCE'S CONSTRUCTOR: its loop over the codes by hand, the rest cell by cell -/
section MI
variable {l : Launch} {g : jG} {d kc ks : Nat} {Q : Option Value → jH → Prop} {h0 : jH}
theorem codes_loop {h : jH} {b a : Nat} {fs : List Value} {f : Nat → Int32} (hab : ¬ a = b) (ho : h[b]? = some (.inr (12, fs))) (hf : fs[2]? = some (.ref (g.2.2 + a))) (hc : h[a]? = some (.inl (0, 5270, f)))
    (k0 : J l g 203 d 288 [some (.ref (g.2.2 + b)), some (.int (Int32.ofInt (300 : Nat)))] [] (h.set a (.inl (0, 5270, fun i => if 80 ≤ i ∧ i < 380 then 999 else f i))) kc ks Q) :
    ∀ (m k : Nat), 300 - k = m → k ≤ 300 → J l g 203 d 263 [some (.ref (g.2.2 + b)), some (.int (Int32.ofInt k))] [] (h.set a (.inl (0, 5270, fun i => if 80 ≤ i ∧ i < 80 + k then 999 else f i))) kc ks Q := by
  have hla : a < h.length := (List.getElem?_eq_some_iff.mp hc).1
  intro m
  induction m with
  | zero =>
    intro k hm hk
    have e : k = 300 := by omega
    subst e
    refine j_iload_n (k4 := 1) (by decide +kernel) rfl ?_
    refine j_sipush (n := 300) (by decide +kernel) ?_
    refine j_icmp_ge (off := 21) (tgt := 288) (by decide +kernel) (by decide) (fun _ => k0) (fun q => absurd (by decide) q)
  | succ m ih =>
    intro k hm hk
    have t2 : (Int32.ofInt (k : Int)).toInt = k := i32_ofInt (by omega) (by omega)
    have t4 : (Int8.ofInt 80).toInt32 + Int32.ofInt (k : Int) = Int32.ofInt ((80 + k : Nat) : Int) := by
      rw [show (Int8.ofInt 80).toInt32 = Int32.ofInt 80 by decide, ← Int32.ofInt_add]
      rfl
    have t5 : (Int32.ofInt ((80 + k : Nat) : Int)).toInt = ((80 + k : Nat) : Int) := i32_ofInt (by omega) (by omega)
    have t6 := i32_clamp (i := Int32.ofInt ((80 + k : Nat) : Int)) (by omega)
    refine j_iload_n (k4 := 1) (by decide +kernel) rfl ?_
    refine j_sipush (n := 300) (by decide +kernel) ?_
    refine j_icmp_ge (off := 21) (tgt := 288) (by decide +kernel) (by decide) (fun q => ?_) (fun _ => ?_)
    · have := Int32.le_iff_toInt_le.mp q
      rw [t2, show (Int16.ofInt 300).toInt32.toInt = 300 by decide] at this
      omega
    refine j_aload_n (k4 := 0) (by decide +kernel) rfl ?_
    refine j_get (own := 12) (i := 7) (ci := 12) (f := 2) (fs := fs) (by decide +kernel) (by decide +kernel) (by decide +kernel) (by rw [List.getElem?_set_ne hab]; exact ho) (fun r hr => by cases hr; decide +kernel) hf ?_
    refine j_bipush (n := 80) (by decide +kernel) ?_
    refine j_iload_n (k4 := 1) (by decide +kernel) rfl ?_
    refine j_iadd (by decide +kernel) ?_
    refine j_sipush (n := 999) (by decide +kernel) ?_
    rw [t4]
    refine j_iast (a := a) (n := 5270) (by decide +kernel) (List.getElem?_set_self hla) (i32_in (by omega) (by omega)) ?_
    refine j_iinc (i := 1) (n := 1) (by decide +kernel) (by decide +kernel) rfl ?_
    refine j_goto (off := -22) (tgt := 263) (by decide +kernel) (by decide) ?_
    have e1 : ((h.set a (.inl (0, 5270, fun i => if 80 ≤ i ∧ i < 80 + k then 999 else f i))).set a (.inl (0, 5270, upd (fun i => if 80 ≤ i ∧ i < 80 + k then 999 else f i) (Int32.ofInt ((80 + k : Nat) : Int)).toNatClampNeg (Int16.ofInt 999).toInt32))) = h.set a (.inl (0, 5270, fun i => if 80 ≤ i ∧ i < 80 + (k + 1) then 999 else f i)) := by
      rw [List.set_set]
      congr 4
      funext i
      rw [upd]
      by_cases hi : i = (Int32.ofInt ((80 + k : Nat) : Int)).toNatClampNeg
      · rw [if_pos hi, if_pos (by omega)]
        decide
      · rw [if_neg hi]
        by_cases hi2 : 80 ≤ i ∧ i < 80 + k
        · rw [if_pos hi2, if_pos (by omega)]
        · rw [if_neg hi2, if_neg (by omega)]
    rw [e1]
    have e2 : Int32.ofInt (k : Int) + Int32.ofInt 1 = Int32.ofInt ((k + 1 : Nat) : Int) := by rw [← Int32.ofInt_add]; rfl
    have := ih (k + 1) (by omega) (by omega)
    rw [← e2] at this
    exact this
/-- up to the loop over the codes; and from behind it to the end -/
def mS1 : Option cN := crun 203 12 341 (4, cloc 203 [(1, 0)], [], [.inr (12, cdfT.getD 12 [])], 0, 0)
def mS2 : Option cN := match mS1 with
  | some S => (match (S.2.2.2.1 : List cC)[1]? with
    | some (Sum.inl a) => crun 203 12 47 (288, [some (1, 0), some (0, 300)], [], S.2.2.2.1.set 1 (.inl (a.1, a.2.1, a.2.2.1, (80, 300, 999) :: a.2.2.2)), S.2.2.2.2)
    | _ => none)
  | none => none
def mOKs : Bool := match mS1 with
  | some S => decide (S.1 = 263) && decide (S.2.1 = [some (1, 0), some (0, 0)]) && decide (S.2.2.1 = []) && (match (S.2.2.2.1 : List cC)[0]?, (S.2.2.2.1 : List cC)[1]? with
    | some (Sum.inr o), some (Sum.inl a) => decide (o.1 = 12) && decide (o.2[2]? = some (1, 1)) && decide (a.1 = 0) && decide (a.2.1 = 5270)
    | _, _ => false) && (match mS2 with
    | some S2 => decide (S2.1 = 314) && decide (S2.2.2.1 = []) && ctyH 1 TT_1 S2.2.2.2.1 && decide (S2.2.2.2.2.1 = 25) && decide (S2.2.2.2.2.2 = 195855)
    | none => false)
  | none => false
theorem mOKs_ok : mOKs = true := by decide +kernel

theorem minit_ok {mc ms : Nat} (hmc : mc = 25) (hms : ms = 195855) (hd : 1 ≤ d) : jCal l g 203 d [.ref (g.2.2 + h0.length)] (chp g h0 [.inr (12, cdfT.getD 12 [])]) mc ms (fun v h' => v = none ∧ ∃ H, h' = chp g h0 H ∧ ctyH 1 TT_1 H = true) := by
  have hm := mOKs_ok
  unfold mOKs at hm
  cases h1 : mS1 with
  | none => rw [h1] at hm; cases hm
  | some S =>
    rw [h1] at hm
    simp only [Bool.and_eq_true, decide_eq_true_eq] at hm
    obtain ⟨⟨⟨⟨c1, c2⟩, c3⟩, c4⟩, c5⟩ := hm
    split at c4
    · rename_i o a ho ha
      simp only [Bool.and_eq_true, decide_eq_true_eq] at c4
      obtain ⟨⟨⟨d1, d2⟩, d3⟩, d4⟩ := c4
      cases h2 : mS2 with
      | none => rw [h2] at c5; cases c5
      | some S2 =>
        rw [h2] at c5
        simp only [Bool.and_eq_true, decide_eq_true_eq] at c5
        obtain ⟨⟨⟨⟨e1, e2⟩, e3⟩, e4⟩, e5⟩ := c5
        unfold mS2 at h2
        rw [h1] at h2
        dsimp only at h2
        rw [ha] at h2
        dsimp only at h2
        unfold mS1 at h1
        have hcls : jcN 12 = (jyN 203).cls := by decide +kernel
        obtain ⟨mc1, ms1, f1, f2, K1⟩ := crun_ok (l := l) (g := g) (d := d) (h0 := h0) (Q := fun v h' => v = none ∧ ∃ H, h' = chp g h0 H ∧ ctyH 1 TT_1 H = true) 341 _ S hcls h1
        obtain ⟨mc2, ms2, f3, f4, K2⟩ := crun_ok (l := l) (g := g) (d := d) (h0 := h0) (Q := fun v h' => v = none ∧ ∃ H, h' = chp g h0 H ∧ ctyH 1 TT_1 H = true) 47 _ S2 hcls h2
        dsimp only at f1 f2 f3 f4 K1 K2
        refine jCal_of (by decide +kernel) (show 1 ≤ jmx 203 by decide +kernel) ?_
        show J l g 203 d 0 [some (.ref (g.2.2 + h0.length)), none] [] (chp g h0 [.inr (12, cdfT.getD 12 [])]) mc ms _
        refine j_aload_n (k4 := 0) (by decide +kernel) rfl ?_
        refine j_obj (own := 12) (i := 1) (by decide +kernel) hcls (by decide +kernel) hd (by decide) ?_
        rw [show mc = mc1 + mc2 by omega, show ms = ms1 + ms2 by omega]
        refine K1 mc2 ms2 ?_
        rw [c1, c2, c3]
        have ho2 := chp_get (g := g) (h0 := h0) ho
        rw [show ccel g h0.length (.inr o) = .inr (o.1, o.2.map (cval g h0.length)) from rfl, d1] at ho2
        have ha2 := chp_get (g := g) (h0 := h0) ha
        rw [show ccel g h0.length (.inl a) = .inl (a.1, a.2.1, fun i => if i < a.2.1 then Int32.ofInt (clook a.2.2.1 a.2.2.2 i) else 0) from rfl, d3, d4] at ha2
        have hfin : J l g 203 d 288 [some (.ref (g.2.2 + h0.length)), some (.int (Int32.ofInt (300 : Nat)))] [] ((chp g h0 S.2.2.2.1).set (h0.length + 1) (.inl (0, 5270, fun i => if 80 ≤ i ∧ i < 380 then 999 else (fun i => if i < 5270 then Int32.ofInt (clook a.2.2.1 a.2.2.2 i) else 0) i))) mc2 ms2 (fun v h' => v = none ∧ ∃ H, h' = chp g h0 H ∧ ctyH 1 TT_1 H = true) := by
          have e := chp_set (g := g) (h0 := h0) (H := S.2.2.2.1) (a := 1) (c := .inl (a.1, a.2.1, a.2.2.1, (80, 300, 999) :: a.2.2.2))
          rw [show ccel g h0.length (.inl (a.1, a.2.1, a.2.2.1, (80, 300, 999) :: a.2.2.2)) = .inl (a.1, a.2.1, fun i => if i < a.2.1 then Int32.ofInt (clook a.2.2.1 ((80, 300, 999) :: a.2.2.2) i) else 0) from rfl, d3, d4] at e
          have ef : (fun i => if 80 ≤ i ∧ i < 380 then (999 : Int32) else (fun i => if i < 5270 then Int32.ofInt (clook a.2.2.1 a.2.2.2 i) else 0) i) = fun i => if i < 5270 then Int32.ofInt (clook a.2.2.1 ((80, 300, 999) :: a.2.2.2) i) else 0 := by
            funext i
            dsimp only
            rw [clook]
            by_cases hi : 80 ≤ i ∧ i < 380
            · rw [if_pos hi, if_pos (by omega), show (Nat.ble 80 i && Nat.blt i (80 + 300)) = true by rw [Bool.and_eq_true]; exact ⟨Nat.ble_eq_true_of_le (by omega), Nat.ble_eq_true_of_le (by omega)⟩]
              show (999 : Int32) = Int32.ofInt 999
              decide
            · rw [if_neg hi, show (Nat.ble 80 i && Nat.blt i (80 + 300)) = false from by cases hbq : (Nat.ble 80 i && Nat.blt i (80 + 300)) with | false => rfl | true => rw [Bool.and_eq_true] at hbq; have h5 := Nat.le_of_ble_eq_true hbq.1; have h6 := blt_lt hbq.2; omega]
              rfl
          rw [ef, e]
          have hk := K2 0 0 (by
            rw [e1, e2]
            exact j_ret (v := none) ⟨by decide +kernel, by decide +kernel⟩ ⟨rfl, _, rfl, e3⟩ rfl)
          rw [d3, d4] at hk
          exact hk
        have hl := codes_loop (l := l) (d := d) (by omega) ho2 (by rw [List.getElem?_map, d2]; rfl) ha2 hfin 300 0 rfl (by omega)
        have eh : (chp g h0 S.2.2.2.1).set (h0.length + 1) (.inl (0, 5270, fun i => if 80 ≤ i ∧ i < 80 + 0 then 999 else (fun i => if i < 5270 then Int32.ofInt (clook a.2.2.1 a.2.2.2 i) else 0) i)) = chp g h0 S.2.2.2.1 := by
          rw [show (fun i => if 80 ≤ i ∧ i < 80 + 0 then (999 : Int32) else (fun i => if i < 5270 then Int32.ofInt (clook a.2.2.1 a.2.2.2 i) else 0) i) = (fun i => if i < 5270 then Int32.ofInt (clook a.2.2.1 a.2.2.2 i) else 0) by funext i; rw [if_neg (by omega)]]
          obtain ⟨q1, q2⟩ := List.getElem?_eq_some_iff.mp ha2
          rw [← q2]
          exact List.set_getElem_self q1
        rw [eh] at hl
        exact hl
    · cases c4
end MI
