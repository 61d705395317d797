/-! exact walks: numbers that are told (written by wip/groupB/gen_x2.py) -/
section XN
variable {l : Launch} {g : jG} {h : jH}
set_option maxRecDepth 8192 in
theorem xs_wipe {b0 : Nat} {fsi : List Value}  (hi : h[b0 + 37]? = some (.inr (6, fsi))) (li : fsi.length = 8)  : jCal l g 155 1 [.ref (g.2.2 + (b0 + 37))] h 0 0 (fun v h' => v = none ∧ h' = ((h.set (b0 + 37) (.inr (6, (fsi.set 0 (.int (Int32.ofInt 0)))))).set (b0 + 37) (.inr (6, ((fsi.set 0 (.int (Int32.ofInt 0))).set 4 (.int (Int32.ofInt 0))))))) := by
  have hcls : jcN 6 = (jyN 155).cls := by decide +kernel
  have cn0 : (Int32.ofInt 0).toInt = 0 := by decide
  refine jCal_of (by decide +kernel) (show 1 ≤ jmx 155 by decide +kernel) ?_
  show J l g 155 1 0 [some (.ref (g.2.2 + (b0 + 37)))] [] h 0 0 _
  refine j_aload_n (k4 := 0) (dQ (by decide +kernel)) rfl ?_
  refine j_iconst (n := 0) (dQ (by decide +kernel)) ?_
  refine j_put (own := 6) (i := 30) (ci := 6) (f := 0) (ty := .int) (dQ (by decide +kernel)) hcls (by decide +kernel) hi rfl (by decide +kernel) (by rw [li]; decide) (by decide +kernel) (by decide +kernel) rfl rfl ?_
  have n1 : (fsi.set 0 (.int (Int32.ofInt 0))).length = 8 := by rw [List.length_set]; exact li
  have f2 : (fsi.set 0 (.int (Int32.ofInt 0)))[0]? = some (.int (Int32.ofInt 0)) := List.getElem?_set_self (by rw [li]; decide)
  have k3 : (h.set (b0 + 37) (.inr (6, (fsi.set 0 (.int (Int32.ofInt 0))))))[b0 + 37]? = some (.inr (6, (fsi.set 0 (.int (Int32.ofInt 0))))) := List.getElem?_set_self (List.getElem?_eq_some_iff.mp hi).1
  refine j_aload_n (k4 := 0) (dQ (by decide +kernel)) rfl ?_
  refine j_iconst (n := 0) (dQ (by decide +kernel)) ?_
  refine j_put (own := 6) (i := 40) (ci := 6) (f := 4) (ty := .int) (dQ (by decide +kernel)) hcls (by decide +kernel) k3 rfl (by decide +kernel) (by rw [n1]; decide) (by decide +kernel) (by decide +kernel) rfl rfl ?_
  have n4 : ((fsi.set 0 (.int (Int32.ofInt 0))).set 4 (.int (Int32.ofInt 0))).length = 8 := by rw [List.length_set]; exact n1
  have f5 : ((fsi.set 0 (.int (Int32.ofInt 0))).set 4 (.int (Int32.ofInt 0)))[0]? = some (.int (Int32.ofInt 0)) := by
    rw [List.getElem?_set_ne (by decide)]
    exact f2
  have f6 : ((fsi.set 0 (.int (Int32.ofInt 0))).set 4 (.int (Int32.ofInt 0)))[4]? = some (.int (Int32.ofInt 0)) := List.getElem?_set_self (by rw [n1]; decide)
  have k7 : ((h.set (b0 + 37) (.inr (6, (fsi.set 0 (.int (Int32.ofInt 0)))))).set (b0 + 37) (.inr (6, ((fsi.set 0 (.int (Int32.ofInt 0))).set 4 (.int (Int32.ofInt 0))))))[b0 + 37]? = some (.inr (6, ((fsi.set 0 (.int (Int32.ofInt 0))).set 4 (.int (Int32.ofInt 0))))) := List.getElem?_set_self (List.getElem?_eq_some_iff.mp k3).1
  exact j_ret (v := none) ⟨by decide +kernel, by decide +kernel⟩ ⟨rfl, rfl⟩ rfl
set_option maxRecDepth 8192 in
theorem xs_addTrain {b0 : Nat} {fsi : List Value} {fa : Nat → Int32} {fb : Nat → Int32} {fc : Nat → Int32} {t : Int32} {n : Nat} {x1 : Int32} (hi : h[b0 + 37]? = some (.inr (6, fsi))) (li : fsi.length = 8) (pi0 : fsi[0]? = some (.int t)) (pi1 : fsi[1]? = some (.ref (g.2.2 + (b0 + 38)))) (pi2 : fsi[2]? = some (.ref (g.2.2 + (b0 + 39)))) (pi3 : fsi[3]? = some (.ref (g.2.2 + (b0 + 40)))) (ha : h[b0 + 38]? = some (.inl (0, 3, fa))) (hb : h[b0 + 39]? = some (.inl (0, 3, fb))) (hc : h[b0 + 40]? = some (.inl (0, 3, fc))) (et : t.toInt = (n : Int)) (en : 0 ≤ n ∧ n ≤ 2) : jCal l g 129 1 [.ref (g.2.2 + (b0 + 37)), .int x1] h 0 0 (fun v h' => ∃ r13 : Int32, r13.toInt = (((n + 1) : Nat) : Int) ∧ ∃ r23 : Int32, r23.toInt = ((((n + 1) - 1) : Nat) : Int) ∧ v = some (.int r23) ∧ h' = ((((h.set (b0 + 38) (.inl (0, 3, (upd fa n x1)))).set (b0 + 39) (.inl (0, 3, (upd fb n (Int32.ofInt (-1)))))).set (b0 + 40) (.inl (0, 3, (upd fc n (Int32.ofInt 0))))).set (b0 + 37) (.inr (6, (fsi.set 0 (.int r13)))))) := by
  have hcls : jcN 6 = (jyN 129).cls := by decide +kernel
  have cn0 : (Int32.ofInt 3).toInt = 3 := by decide
  have cn1 : (Int32.ofInt (-1)).toInt = -1 := by decide
  have cn2 : (Int32.ofInt 0).toInt = 0 := by decide
  have cn3 : (Int32.ofInt 1).toInt = 1 := by decide
  refine jCal_of (by decide +kernel) (show 2 ≤ jmx 129 by decide +kernel) ?_
  show J l g 129 1 0 [some (.ref (g.2.2 + (b0 + 37))), some (.int x1)] [] h 0 0 _
  refine j_aload_n (k4 := 0) (dQ (by decide +kernel)) rfl ?_
  refine j_get (own := 6) (i := 30) (ci := 6) (f := 0) (dQ (by decide +kernel)) hcls (by decide +kernel) hi (fun r hr => by cases hr; decide +kernel) pi0 ?_
  refine j_iconst (n := 3) (dQ (by decide +kernel)) ?_
  refine j_icmp_lt (off := 5) (tgt := 10) (dQ (by decide +kernel)) (by decide) (fun _ => ?_) (fun q => absurd (i32_lt.mpr (by omega)) q)
  refine j_aload_n (k4 := 0) (dQ (by decide +kernel)) rfl ?_
  refine j_get (own := 6) (i := 11) (ci := 6) (f := 1) (dQ (by decide +kernel)) hcls (by decide +kernel) hi (fun r hr => by cases hr; decide +kernel) pi1 ?_
  refine j_aload_n (k4 := 0) (dQ (by decide +kernel)) rfl ?_
  refine j_get (own := 6) (i := 30) (ci := 6) (f := 0) (dQ (by decide +kernel)) hcls (by decide +kernel) hi (fun r hr => by cases hr; decide +kernel) pi0 ?_
  refine j_iload_n (k4 := 1) (dQ (by decide +kernel)) rfl ?_
  refine x_ast n (dQ (by decide +kernel)) ha (by omega) (by omega) ?_
  have k1 : (h.set (b0 + 38) (.inl (0, 3, (upd fa n x1))))[b0 + 37]? = some (.inr (6, fsi)) := by
    rw [List.getElem?_set_ne (by omega)]
    exact hi
  have k2 : (h.set (b0 + 38) (.inl (0, 3, (upd fa n x1))))[b0 + 38]? = some (.inl (0, 3, (upd fa n x1))) := List.getElem?_set_self (List.getElem?_eq_some_iff.mp ha).1
  have k3 : (h.set (b0 + 38) (.inl (0, 3, (upd fa n x1))))[b0 + 39]? = some (.inl (0, 3, fb)) := by
    rw [List.getElem?_set_ne (by omega)]
    exact hb
  have k4 : (h.set (b0 + 38) (.inl (0, 3, (upd fa n x1))))[b0 + 40]? = some (.inl (0, 3, fc)) := by
    rw [List.getElem?_set_ne (by omega)]
    exact hc
  refine j_aload_n (k4 := 0) (dQ (by decide +kernel)) rfl ?_
  refine j_get (own := 6) (i := 15) (ci := 6) (f := 2) (dQ (by decide +kernel)) hcls (by decide +kernel) k1 (fun r hr => by cases hr; decide +kernel) pi2 ?_
  refine j_aload_n (k4 := 0) (dQ (by decide +kernel)) rfl ?_
  refine j_get (own := 6) (i := 30) (ci := 6) (f := 0) (dQ (by decide +kernel)) hcls (by decide +kernel) k1 (fun r hr => by cases hr; decide +kernel) pi0 ?_
  refine j_iconst (n := (-1)) (dQ (by decide +kernel)) ?_
  refine x_ast n (dQ (by decide +kernel)) k3 (by omega) (by omega) ?_
  have k5 : ((h.set (b0 + 38) (.inl (0, 3, (upd fa n x1)))).set (b0 + 39) (.inl (0, 3, (upd fb n (Int32.ofInt (-1))))))[b0 + 37]? = some (.inr (6, fsi)) := by
    rw [List.getElem?_set_ne (by omega)]
    exact k1
  have k6 : ((h.set (b0 + 38) (.inl (0, 3, (upd fa n x1)))).set (b0 + 39) (.inl (0, 3, (upd fb n (Int32.ofInt (-1))))))[b0 + 38]? = some (.inl (0, 3, (upd fa n x1))) := by
    rw [List.getElem?_set_ne (by omega)]
    exact k2
  have k7 : ((h.set (b0 + 38) (.inl (0, 3, (upd fa n x1)))).set (b0 + 39) (.inl (0, 3, (upd fb n (Int32.ofInt (-1))))))[b0 + 39]? = some (.inl (0, 3, (upd fb n (Int32.ofInt (-1))))) := List.getElem?_set_self (List.getElem?_eq_some_iff.mp k3).1
  have k8 : ((h.set (b0 + 38) (.inl (0, 3, (upd fa n x1)))).set (b0 + 39) (.inl (0, 3, (upd fb n (Int32.ofInt (-1))))))[b0 + 40]? = some (.inl (0, 3, fc)) := by
    rw [List.getElem?_set_ne (by omega)]
    exact k4
  refine j_aload_n (k4 := 0) (dQ (by decide +kernel)) rfl ?_
  refine j_get (own := 6) (i := 18) (ci := 6) (f := 3) (dQ (by decide +kernel)) hcls (by decide +kernel) k5 (fun r hr => by cases hr; decide +kernel) pi3 ?_
  refine j_aload_n (k4 := 0) (dQ (by decide +kernel)) rfl ?_
  refine j_get (own := 6) (i := 30) (ci := 6) (f := 0) (dQ (by decide +kernel)) hcls (by decide +kernel) k5 (fun r hr => by cases hr; decide +kernel) pi0 ?_
  refine j_iconst (n := 0) (dQ (by decide +kernel)) ?_
  refine x_ast n (dQ (by decide +kernel)) k8 (by omega) (by omega) ?_
  have k9 : (((h.set (b0 + 38) (.inl (0, 3, (upd fa n x1)))).set (b0 + 39) (.inl (0, 3, (upd fb n (Int32.ofInt (-1)))))).set (b0 + 40) (.inl (0, 3, (upd fc n (Int32.ofInt 0)))))[b0 + 37]? = some (.inr (6, fsi)) := by
    rw [List.getElem?_set_ne (by omega)]
    exact k5
  have k10 : (((h.set (b0 + 38) (.inl (0, 3, (upd fa n x1)))).set (b0 + 39) (.inl (0, 3, (upd fb n (Int32.ofInt (-1)))))).set (b0 + 40) (.inl (0, 3, (upd fc n (Int32.ofInt 0)))))[b0 + 38]? = some (.inl (0, 3, (upd fa n x1))) := by
    rw [List.getElem?_set_ne (by omega)]
    exact k6
  have k11 : (((h.set (b0 + 38) (.inl (0, 3, (upd fa n x1)))).set (b0 + 39) (.inl (0, 3, (upd fb n (Int32.ofInt (-1)))))).set (b0 + 40) (.inl (0, 3, (upd fc n (Int32.ofInt 0)))))[b0 + 39]? = some (.inl (0, 3, (upd fb n (Int32.ofInt (-1))))) := by
    rw [List.getElem?_set_ne (by omega)]
    exact k7
  have k12 : (((h.set (b0 + 38) (.inl (0, 3, (upd fa n x1)))).set (b0 + 39) (.inl (0, 3, (upd fb n (Int32.ofInt (-1)))))).set (b0 + 40) (.inl (0, 3, (upd fc n (Int32.ofInt 0)))))[b0 + 40]? = some (.inl (0, 3, (upd fc n (Int32.ofInt 0)))) := List.getElem?_set_self (List.getElem?_eq_some_iff.mp k8).1
  refine j_aload_n (k4 := 0) (dQ (by decide +kernel)) rfl ?_
  refine j_dup (dQ (by decide +kernel)) rfl ?_
  refine j_get (own := 6) (i := 30) (ci := 6) (f := 0) (dQ (by decide +kernel)) hcls (by decide +kernel) k9 (fun r hr => by cases hr; decide +kernel) pi0 ?_
  refine j_iconst (n := 1) (dQ (by decide +kernel)) ?_
  refine x_add (dQ (by decide +kernel)) (by omega) (fun r13 hr13 => ?_)
  refine j_put (own := 6) (i := 30) (ci := 6) (f := 0) (ty := .int) (dQ (by decide +kernel)) hcls (by decide +kernel) k9 rfl (by decide +kernel) (by rw [li]; decide) (by decide +kernel) (by decide +kernel) rfl rfl ?_
  have n14 : (fsi.set 0 (.int r13)).length = 8 := by rw [List.length_set]; exact li
  have f15 : (fsi.set 0 (.int r13))[1]? = some (.ref (g.2.2 + (b0 + 38))) := by
    rw [List.getElem?_set_ne (by decide)]
    exact pi1
  have f16 : (fsi.set 0 (.int r13))[2]? = some (.ref (g.2.2 + (b0 + 39))) := by
    rw [List.getElem?_set_ne (by decide)]
    exact pi2
  have f17 : (fsi.set 0 (.int r13))[3]? = some (.ref (g.2.2 + (b0 + 40))) := by
    rw [List.getElem?_set_ne (by decide)]
    exact pi3
  have f18 : (fsi.set 0 (.int r13))[0]? = some (.int r13) := List.getElem?_set_self (by rw [li]; decide)
  have k19 : ((((h.set (b0 + 38) (.inl (0, 3, (upd fa n x1)))).set (b0 + 39) (.inl (0, 3, (upd fb n (Int32.ofInt (-1)))))).set (b0 + 40) (.inl (0, 3, (upd fc n (Int32.ofInt 0))))).set (b0 + 37) (.inr (6, (fsi.set 0 (.int r13)))))[b0 + 37]? = some (.inr (6, (fsi.set 0 (.int r13)))) := List.getElem?_set_self (List.getElem?_eq_some_iff.mp k9).1
  have k20 : ((((h.set (b0 + 38) (.inl (0, 3, (upd fa n x1)))).set (b0 + 39) (.inl (0, 3, (upd fb n (Int32.ofInt (-1)))))).set (b0 + 40) (.inl (0, 3, (upd fc n (Int32.ofInt 0))))).set (b0 + 37) (.inr (6, (fsi.set 0 (.int r13)))))[b0 + 38]? = some (.inl (0, 3, (upd fa n x1))) := by
    rw [List.getElem?_set_ne (by omega)]
    exact k10
  have k21 : ((((h.set (b0 + 38) (.inl (0, 3, (upd fa n x1)))).set (b0 + 39) (.inl (0, 3, (upd fb n (Int32.ofInt (-1)))))).set (b0 + 40) (.inl (0, 3, (upd fc n (Int32.ofInt 0))))).set (b0 + 37) (.inr (6, (fsi.set 0 (.int r13)))))[b0 + 39]? = some (.inl (0, 3, (upd fb n (Int32.ofInt (-1))))) := by
    rw [List.getElem?_set_ne (by omega)]
    exact k11
  have k22 : ((((h.set (b0 + 38) (.inl (0, 3, (upd fa n x1)))).set (b0 + 39) (.inl (0, 3, (upd fb n (Int32.ofInt (-1)))))).set (b0 + 40) (.inl (0, 3, (upd fc n (Int32.ofInt 0))))).set (b0 + 37) (.inr (6, (fsi.set 0 (.int r13)))))[b0 + 40]? = some (.inl (0, 3, (upd fc n (Int32.ofInt 0)))) := by
    rw [List.getElem?_set_ne (by omega)]
    exact k12
  refine j_aload_n (k4 := 0) (dQ (by decide +kernel)) rfl ?_
  refine j_get (own := 6) (i := 30) (ci := 6) (f := 0) (dQ (by decide +kernel)) hcls (by decide +kernel) k19 (fun r hr => by cases hr; decide +kernel) f18 ?_
  refine j_iconst (n := 1) (dQ (by decide +kernel)) ?_
  refine x_sub (dQ (by decide +kernel)) (by omega) (fun r23 hr23 => ?_)
  exact j_ret (v := some (.int r23)) ⟨by decide +kernel, Or.inl (by decide +kernel)⟩ ⟨r13, by omega, r23, by omega, rfl, rfl⟩ rfl
set_option maxRecDepth 8192 in
theorem xs_addTrainF {b0 : Nat} {fsi : List Value} {t : Int32} {n : Nat} {x1 : Int32} (hi : h[b0 + 37]? = some (.inr (6, fsi))) (li : fsi.length = 8) (pi0 : fsi[0]? = some (.int t)) (et : t.toInt = (n : Int)) (en : 3 ≤ n ∧ n ≤ 3) : jCal l g 129 1 [.ref (g.2.2 + (b0 + 37)), .int x1] h 0 0 (fun v h' => v = some (.int (Int32.ofInt (-1))) ∧ h = h') := by
  have hcls : jcN 6 = (jyN 129).cls := by decide +kernel
  have cn0 : (Int32.ofInt 3).toInt = 3 := by decide
  have cn1 : (Int32.ofInt (-1)).toInt = -1 := by decide
  refine jCal_of (by decide +kernel) (show 2 ≤ jmx 129 by decide +kernel) ?_
  show J l g 129 1 0 [some (.ref (g.2.2 + (b0 + 37))), some (.int x1)] [] h 0 0 _
  refine j_aload_n (k4 := 0) (dQ (by decide +kernel)) rfl ?_
  refine j_get (own := 6) (i := 30) (ci := 6) (f := 0) (dQ (by decide +kernel)) hcls (by decide +kernel) hi (fun r hr => by cases hr; decide +kernel) pi0 ?_
  refine j_iconst (n := 3) (dQ (by decide +kernel)) ?_
  refine j_icmp_lt (off := 5) (tgt := 10) (dQ (by decide +kernel)) (by decide) (fun q => absurd (i32_lt.mp q) (by omega)) (fun _ => ?_)
  refine j_iconst (n := (-1)) (dQ (by decide +kernel)) ?_
  exact j_ret (v := some (.int (Int32.ofInt (-1)))) ⟨by decide +kernel, Or.inl (by decide +kernel)⟩ ⟨rfl, rfl⟩ rfl
set_option maxRecDepth 8192 in
theorem xs_work {b0 : Nat} {fsi : List Value} {fa : Nat → Int32} {fb : Nat → Int32} {fc : Nat → Int32} {t : Int32} {n : Nat} {x1 x2 x3 : Int32} (hi : h[b0 + 30]? = some (.inr (10, fsi))) (li : fsi.length = 5) (pi0 : fsi[0]? = some (.int t)) (pi2 : fsi[2]? = some (.ref (g.2.2 + (b0 + 31)))) (pi3 : fsi[3]? = some (.ref (g.2.2 + (b0 + 32)))) (pi4 : fsi[4]? = some (.ref (g.2.2 + (b0 + 33)))) (ha : h[b0 + 31]? = some (.inl (0, 8, fa))) (hb : h[b0 + 32]? = some (.inl (0, 8, fb))) (hc : h[b0 + 33]? = some (.inl (0, 8, fc))) (et : t.toInt = (n : Int)) (en : 0 ≤ n ∧ n ≤ 7) : jCal l g 41 1 [.ref (g.2.2 + (b0 + 30)), .int x1, .int x2, .int x3] h 0 0 (fun v h' => ∃ r13 : Int32, r13.toInt = (((n + 1) : Nat) : Int) ∧ v = some (.int (Int32.ofInt 1)) ∧ h' = ((((h.set (b0 + 31) (.inl (0, 8, (upd fa n x1)))).set (b0 + 32) (.inl (0, 8, (upd fb n x2)))).set (b0 + 33) (.inl (0, 8, (upd fc n x3)))).set (b0 + 30) (.inr (10, (fsi.set 0 (.int r13)))))) := by
  have hcls : jcN 10 = (jyN 41).cls := by decide +kernel
  have cn0 : (Int32.ofInt 8).toInt = 8 := by decide
  have cn1 : (Int32.ofInt 1).toInt = 1 := by decide
  refine jCal_of (by decide +kernel) (show 4 ≤ jmx 41 by decide +kernel) ?_
  show J l g 41 1 0 [some (.ref (g.2.2 + (b0 + 30))), some (.int x1), some (.int x2), some (.int x3)] [] h 0 0 _
  refine j_aload_n (k4 := 0) (dQ (by decide +kernel)) rfl ?_
  refine j_get (own := 10) (i := 19) (ci := 10) (f := 0) (dQ (by decide +kernel)) hcls (by decide +kernel) hi (fun r hr => by cases hr; decide +kernel) pi0 ?_
  refine x_bi (n := 8) (dQ (by decide +kernel)) (by decide) ?_
  refine j_icmp_lt (off := 5) (tgt := 11) (dQ (by decide +kernel)) (by decide) (fun _ => ?_) (fun q => absurd (i32_lt.mpr (by omega)) q)
  refine j_aload_n (k4 := 0) (dQ (by decide +kernel)) rfl ?_
  refine j_get (own := 10) (i := 9) (ci := 10) (f := 2) (dQ (by decide +kernel)) hcls (by decide +kernel) hi (fun r hr => by cases hr; decide +kernel) pi2 ?_
  refine j_aload_n (k4 := 0) (dQ (by decide +kernel)) rfl ?_
  refine j_get (own := 10) (i := 19) (ci := 10) (f := 0) (dQ (by decide +kernel)) hcls (by decide +kernel) hi (fun r hr => by cases hr; decide +kernel) pi0 ?_
  refine j_iload_n (k4 := 1) (dQ (by decide +kernel)) rfl ?_
  refine x_ast n (dQ (by decide +kernel)) ha (by omega) (by omega) ?_
  have k1 : (h.set (b0 + 31) (.inl (0, 8, (upd fa n x1))))[b0 + 30]? = some (.inr (10, fsi)) := by
    rw [List.getElem?_set_ne (by omega)]
    exact hi
  have k2 : (h.set (b0 + 31) (.inl (0, 8, (upd fa n x1))))[b0 + 31]? = some (.inl (0, 8, (upd fa n x1))) := List.getElem?_set_self (List.getElem?_eq_some_iff.mp ha).1
  have k3 : (h.set (b0 + 31) (.inl (0, 8, (upd fa n x1))))[b0 + 32]? = some (.inl (0, 8, fb)) := by
    rw [List.getElem?_set_ne (by omega)]
    exact hb
  have k4 : (h.set (b0 + 31) (.inl (0, 8, (upd fa n x1))))[b0 + 33]? = some (.inl (0, 8, fc)) := by
    rw [List.getElem?_set_ne (by omega)]
    exact hc
  refine j_aload_n (k4 := 0) (dQ (by decide +kernel)) rfl ?_
  refine j_get (own := 10) (i := 13) (ci := 10) (f := 3) (dQ (by decide +kernel)) hcls (by decide +kernel) k1 (fun r hr => by cases hr; decide +kernel) pi3 ?_
  refine j_aload_n (k4 := 0) (dQ (by decide +kernel)) rfl ?_
  refine j_get (own := 10) (i := 19) (ci := 10) (f := 0) (dQ (by decide +kernel)) hcls (by decide +kernel) k1 (fun r hr => by cases hr; decide +kernel) pi0 ?_
  refine j_iload_n (k4 := 2) (dQ (by decide +kernel)) rfl ?_
  refine x_ast n (dQ (by decide +kernel)) k3 (by omega) (by omega) ?_
  have k5 : ((h.set (b0 + 31) (.inl (0, 8, (upd fa n x1)))).set (b0 + 32) (.inl (0, 8, (upd fb n x2))))[b0 + 30]? = some (.inr (10, fsi)) := by
    rw [List.getElem?_set_ne (by omega)]
    exact k1
  have k6 : ((h.set (b0 + 31) (.inl (0, 8, (upd fa n x1)))).set (b0 + 32) (.inl (0, 8, (upd fb n x2))))[b0 + 31]? = some (.inl (0, 8, (upd fa n x1))) := by
    rw [List.getElem?_set_ne (by omega)]
    exact k2
  have k7 : ((h.set (b0 + 31) (.inl (0, 8, (upd fa n x1)))).set (b0 + 32) (.inl (0, 8, (upd fb n x2))))[b0 + 32]? = some (.inl (0, 8, (upd fb n x2))) := List.getElem?_set_self (List.getElem?_eq_some_iff.mp k3).1
  have k8 : ((h.set (b0 + 31) (.inl (0, 8, (upd fa n x1)))).set (b0 + 32) (.inl (0, 8, (upd fb n x2))))[b0 + 33]? = some (.inl (0, 8, fc)) := by
    rw [List.getElem?_set_ne (by omega)]
    exact k4
  refine j_aload_n (k4 := 0) (dQ (by decide +kernel)) rfl ?_
  refine j_get (own := 10) (i := 16) (ci := 10) (f := 4) (dQ (by decide +kernel)) hcls (by decide +kernel) k5 (fun r hr => by cases hr; decide +kernel) pi4 ?_
  refine j_aload_n (k4 := 0) (dQ (by decide +kernel)) rfl ?_
  refine j_get (own := 10) (i := 19) (ci := 10) (f := 0) (dQ (by decide +kernel)) hcls (by decide +kernel) k5 (fun r hr => by cases hr; decide +kernel) pi0 ?_
  refine j_iload_n (k4 := 3) (dQ (by decide +kernel)) rfl ?_
  refine x_ast n (dQ (by decide +kernel)) k8 (by omega) (by omega) ?_
  have k9 : (((h.set (b0 + 31) (.inl (0, 8, (upd fa n x1)))).set (b0 + 32) (.inl (0, 8, (upd fb n x2)))).set (b0 + 33) (.inl (0, 8, (upd fc n x3))))[b0 + 30]? = some (.inr (10, fsi)) := by
    rw [List.getElem?_set_ne (by omega)]
    exact k5
  have k10 : (((h.set (b0 + 31) (.inl (0, 8, (upd fa n x1)))).set (b0 + 32) (.inl (0, 8, (upd fb n x2)))).set (b0 + 33) (.inl (0, 8, (upd fc n x3))))[b0 + 31]? = some (.inl (0, 8, (upd fa n x1))) := by
    rw [List.getElem?_set_ne (by omega)]
    exact k6
  have k11 : (((h.set (b0 + 31) (.inl (0, 8, (upd fa n x1)))).set (b0 + 32) (.inl (0, 8, (upd fb n x2)))).set (b0 + 33) (.inl (0, 8, (upd fc n x3))))[b0 + 32]? = some (.inl (0, 8, (upd fb n x2))) := by
    rw [List.getElem?_set_ne (by omega)]
    exact k7
  have k12 : (((h.set (b0 + 31) (.inl (0, 8, (upd fa n x1)))).set (b0 + 32) (.inl (0, 8, (upd fb n x2)))).set (b0 + 33) (.inl (0, 8, (upd fc n x3))))[b0 + 33]? = some (.inl (0, 8, (upd fc n x3))) := List.getElem?_set_self (List.getElem?_eq_some_iff.mp k8).1
  refine j_aload_n (k4 := 0) (dQ (by decide +kernel)) rfl ?_
  refine j_dup (dQ (by decide +kernel)) rfl ?_
  refine j_get (own := 10) (i := 19) (ci := 10) (f := 0) (dQ (by decide +kernel)) hcls (by decide +kernel) k9 (fun r hr => by cases hr; decide +kernel) pi0 ?_
  refine j_iconst (n := 1) (dQ (by decide +kernel)) ?_
  refine x_add (dQ (by decide +kernel)) (by omega) (fun r13 hr13 => ?_)
  refine j_put (own := 10) (i := 19) (ci := 10) (f := 0) (ty := .int) (dQ (by decide +kernel)) hcls (by decide +kernel) k9 rfl (by decide +kernel) (by rw [li]; decide) (by decide +kernel) (by decide +kernel) rfl rfl ?_
  have n14 : (fsi.set 0 (.int r13)).length = 5 := by rw [List.length_set]; exact li
  have f15 : (fsi.set 0 (.int r13))[2]? = some (.ref (g.2.2 + (b0 + 31))) := by
    rw [List.getElem?_set_ne (by decide)]
    exact pi2
  have f16 : (fsi.set 0 (.int r13))[3]? = some (.ref (g.2.2 + (b0 + 32))) := by
    rw [List.getElem?_set_ne (by decide)]
    exact pi3
  have f17 : (fsi.set 0 (.int r13))[4]? = some (.ref (g.2.2 + (b0 + 33))) := by
    rw [List.getElem?_set_ne (by decide)]
    exact pi4
  have f18 : (fsi.set 0 (.int r13))[0]? = some (.int r13) := List.getElem?_set_self (by rw [li]; decide)
  have k19 : ((((h.set (b0 + 31) (.inl (0, 8, (upd fa n x1)))).set (b0 + 32) (.inl (0, 8, (upd fb n x2)))).set (b0 + 33) (.inl (0, 8, (upd fc n x3)))).set (b0 + 30) (.inr (10, (fsi.set 0 (.int r13)))))[b0 + 30]? = some (.inr (10, (fsi.set 0 (.int r13)))) := List.getElem?_set_self (List.getElem?_eq_some_iff.mp k9).1
  have k20 : ((((h.set (b0 + 31) (.inl (0, 8, (upd fa n x1)))).set (b0 + 32) (.inl (0, 8, (upd fb n x2)))).set (b0 + 33) (.inl (0, 8, (upd fc n x3)))).set (b0 + 30) (.inr (10, (fsi.set 0 (.int r13)))))[b0 + 31]? = some (.inl (0, 8, (upd fa n x1))) := by
    rw [List.getElem?_set_ne (by omega)]
    exact k10
  have k21 : ((((h.set (b0 + 31) (.inl (0, 8, (upd fa n x1)))).set (b0 + 32) (.inl (0, 8, (upd fb n x2)))).set (b0 + 33) (.inl (0, 8, (upd fc n x3)))).set (b0 + 30) (.inr (10, (fsi.set 0 (.int r13)))))[b0 + 32]? = some (.inl (0, 8, (upd fb n x2))) := by
    rw [List.getElem?_set_ne (by omega)]
    exact k11
  have k22 : ((((h.set (b0 + 31) (.inl (0, 8, (upd fa n x1)))).set (b0 + 32) (.inl (0, 8, (upd fb n x2)))).set (b0 + 33) (.inl (0, 8, (upd fc n x3)))).set (b0 + 30) (.inr (10, (fsi.set 0 (.int r13)))))[b0 + 33]? = some (.inl (0, 8, (upd fc n x3))) := by
    rw [List.getElem?_set_ne (by omega)]
    exact k12
  refine j_iconst (n := 1) (dQ (by decide +kernel)) ?_
  exact j_ret (v := some (.int (Int32.ofInt 1))) ⟨by decide +kernel, Or.inr (Or.inl ⟨by decide +kernel, by decide⟩)⟩ ⟨r13, by omega, rfl, rfl⟩ rfl
set_option maxRecDepth 8192 in
theorem xs_workF {b0 : Nat} {fsi : List Value} {t : Int32} {n : Nat} {x1 x2 x3 : Int32} (hi : h[b0 + 30]? = some (.inr (10, fsi))) (li : fsi.length = 5) (pi0 : fsi[0]? = some (.int t)) (et : t.toInt = (n : Int)) (en : 8 ≤ n ∧ n ≤ 8) : jCal l g 41 1 [.ref (g.2.2 + (b0 + 30)), .int x1, .int x2, .int x3] h 0 0 (fun v h' => v = some (.int (Int32.ofInt 0)) ∧ h = h') := by
  have hcls : jcN 10 = (jyN 41).cls := by decide +kernel
  have cn0 : (Int32.ofInt 8).toInt = 8 := by decide
  have cn1 : (Int32.ofInt 0).toInt = 0 := by decide
  refine jCal_of (by decide +kernel) (show 4 ≤ jmx 41 by decide +kernel) ?_
  show J l g 41 1 0 [some (.ref (g.2.2 + (b0 + 30))), some (.int x1), some (.int x2), some (.int x3)] [] h 0 0 _
  refine j_aload_n (k4 := 0) (dQ (by decide +kernel)) rfl ?_
  refine j_get (own := 10) (i := 19) (ci := 10) (f := 0) (dQ (by decide +kernel)) hcls (by decide +kernel) hi (fun r hr => by cases hr; decide +kernel) pi0 ?_
  refine x_bi (n := 8) (dQ (by decide +kernel)) (by decide) ?_
  refine j_icmp_lt (off := 5) (tgt := 11) (dQ (by decide +kernel)) (by decide) (fun q => absurd (i32_lt.mp q) (by omega)) (fun _ => ?_)
  refine j_iconst (n := 0) (dQ (by decide +kernel)) ?_
  exact j_ret (v := some (.int (Int32.ofInt 0))) ⟨by decide +kernel, Or.inr (Or.inl ⟨by decide +kernel, by decide⟩)⟩ ⟨rfl, rfl⟩ rfl
set_option maxRecDepth 8192 in
theorem xs_due {b0 : Nat} {fsi : List Value} {fa : Nat → Int32} {fb : Nat → Int32} {fc : Nat → Int32} {t : Int32} {n : Nat} {x1 x2 x3 : Int32} (hi : h[b0 + 44]? = some (.inr (8, fsi))) (li : fsi.length = 5) (pi0 : fsi[0]? = some (.int t)) (pi1 : fsi[1]? = some (.ref (g.2.2 + (b0 + 45)))) (pi2 : fsi[2]? = some (.ref (g.2.2 + (b0 + 46)))) (pi3 : fsi[3]? = some (.ref (g.2.2 + (b0 + 47)))) (ha : h[b0 + 45]? = some (.inl (0, 40, fa))) (hb : h[b0 + 46]? = some (.inl (0, 40, fb))) (hc : h[b0 + 47]? = some (.inl (0, 40, fc))) (et : t.toInt = (n : Int)) (en : 0 ≤ n ∧ n ≤ 39) : jCal l g 157 1 [.ref (g.2.2 + (b0 + 44)), .int x1, .int x2, .int x3] h 0 0 (fun v h' => ∃ r13 : Int32, r13.toInt = (((n + 1) : Nat) : Int) ∧ v = some (.int (Int32.ofInt 1)) ∧ h' = ((((h.set (b0 + 45) (.inl (0, 40, (upd fa n x1)))).set (b0 + 46) (.inl (0, 40, (upd fb n x2)))).set (b0 + 47) (.inl (0, 40, (upd fc n x3)))).set (b0 + 44) (.inr (8, (fsi.set 0 (.int r13)))))) := by
  have hcls : jcN 8 = (jyN 157).cls := by decide +kernel
  have cn0 : (Int32.ofInt 40).toInt = 40 := by decide
  have cn1 : (Int32.ofInt 1).toInt = 1 := by decide
  refine jCal_of (by decide +kernel) (show 4 ≤ jmx 157 by decide +kernel) ?_
  show J l g 157 1 0 [some (.ref (g.2.2 + (b0 + 44))), some (.int x1), some (.int x2), some (.int x3)] [] h 0 0 _
  refine j_aload_n (k4 := 0) (dQ (by decide +kernel)) rfl ?_
  refine j_get (own := 8) (i := 25) (ci := 8) (f := 0) (dQ (by decide +kernel)) hcls (by decide +kernel) hi (fun r hr => by cases hr; decide +kernel) pi0 ?_
  refine x_bi (n := 40) (dQ (by decide +kernel)) (by decide) ?_
  refine j_icmp_lt (off := 5) (tgt := 11) (dQ (by decide +kernel)) (by decide) (fun _ => ?_) (fun q => absurd (i32_lt.mpr (by omega)) q)
  refine j_aload_n (k4 := 0) (dQ (by decide +kernel)) rfl ?_
  refine j_get (own := 8) (i := 11) (ci := 8) (f := 1) (dQ (by decide +kernel)) hcls (by decide +kernel) hi (fun r hr => by cases hr; decide +kernel) pi1 ?_
  refine j_aload_n (k4 := 0) (dQ (by decide +kernel)) rfl ?_
  refine j_get (own := 8) (i := 25) (ci := 8) (f := 0) (dQ (by decide +kernel)) hcls (by decide +kernel) hi (fun r hr => by cases hr; decide +kernel) pi0 ?_
  refine j_iload_n (k4 := 1) (dQ (by decide +kernel)) rfl ?_
  refine x_ast n (dQ (by decide +kernel)) ha (by omega) (by omega) ?_
  have k1 : (h.set (b0 + 45) (.inl (0, 40, (upd fa n x1))))[b0 + 44]? = some (.inr (8, fsi)) := by
    rw [List.getElem?_set_ne (by omega)]
    exact hi
  have k2 : (h.set (b0 + 45) (.inl (0, 40, (upd fa n x1))))[b0 + 45]? = some (.inl (0, 40, (upd fa n x1))) := List.getElem?_set_self (List.getElem?_eq_some_iff.mp ha).1
  have k3 : (h.set (b0 + 45) (.inl (0, 40, (upd fa n x1))))[b0 + 46]? = some (.inl (0, 40, fb)) := by
    rw [List.getElem?_set_ne (by omega)]
    exact hb
  have k4 : (h.set (b0 + 45) (.inl (0, 40, (upd fa n x1))))[b0 + 47]? = some (.inl (0, 40, fc)) := by
    rw [List.getElem?_set_ne (by omega)]
    exact hc
  refine j_aload_n (k4 := 0) (dQ (by decide +kernel)) rfl ?_
  refine j_get (own := 8) (i := 15) (ci := 8) (f := 2) (dQ (by decide +kernel)) hcls (by decide +kernel) k1 (fun r hr => by cases hr; decide +kernel) pi2 ?_
  refine j_aload_n (k4 := 0) (dQ (by decide +kernel)) rfl ?_
  refine j_get (own := 8) (i := 25) (ci := 8) (f := 0) (dQ (by decide +kernel)) hcls (by decide +kernel) k1 (fun r hr => by cases hr; decide +kernel) pi0 ?_
  refine j_iload_n (k4 := 2) (dQ (by decide +kernel)) rfl ?_
  refine x_ast n (dQ (by decide +kernel)) k3 (by omega) (by omega) ?_
  have k5 : ((h.set (b0 + 45) (.inl (0, 40, (upd fa n x1)))).set (b0 + 46) (.inl (0, 40, (upd fb n x2))))[b0 + 44]? = some (.inr (8, fsi)) := by
    rw [List.getElem?_set_ne (by omega)]
    exact k1
  have k6 : ((h.set (b0 + 45) (.inl (0, 40, (upd fa n x1)))).set (b0 + 46) (.inl (0, 40, (upd fb n x2))))[b0 + 45]? = some (.inl (0, 40, (upd fa n x1))) := by
    rw [List.getElem?_set_ne (by omega)]
    exact k2
  have k7 : ((h.set (b0 + 45) (.inl (0, 40, (upd fa n x1)))).set (b0 + 46) (.inl (0, 40, (upd fb n x2))))[b0 + 46]? = some (.inl (0, 40, (upd fb n x2))) := List.getElem?_set_self (List.getElem?_eq_some_iff.mp k3).1
  have k8 : ((h.set (b0 + 45) (.inl (0, 40, (upd fa n x1)))).set (b0 + 46) (.inl (0, 40, (upd fb n x2))))[b0 + 47]? = some (.inl (0, 40, fc)) := by
    rw [List.getElem?_set_ne (by omega)]
    exact k4
  refine j_aload_n (k4 := 0) (dQ (by decide +kernel)) rfl ?_
  refine j_get (own := 8) (i := 18) (ci := 8) (f := 3) (dQ (by decide +kernel)) hcls (by decide +kernel) k5 (fun r hr => by cases hr; decide +kernel) pi3 ?_
  refine j_aload_n (k4 := 0) (dQ (by decide +kernel)) rfl ?_
  refine j_get (own := 8) (i := 25) (ci := 8) (f := 0) (dQ (by decide +kernel)) hcls (by decide +kernel) k5 (fun r hr => by cases hr; decide +kernel) pi0 ?_
  refine j_iload_n (k4 := 3) (dQ (by decide +kernel)) rfl ?_
  refine x_ast n (dQ (by decide +kernel)) k8 (by omega) (by omega) ?_
  have k9 : (((h.set (b0 + 45) (.inl (0, 40, (upd fa n x1)))).set (b0 + 46) (.inl (0, 40, (upd fb n x2)))).set (b0 + 47) (.inl (0, 40, (upd fc n x3))))[b0 + 44]? = some (.inr (8, fsi)) := by
    rw [List.getElem?_set_ne (by omega)]
    exact k5
  have k10 : (((h.set (b0 + 45) (.inl (0, 40, (upd fa n x1)))).set (b0 + 46) (.inl (0, 40, (upd fb n x2)))).set (b0 + 47) (.inl (0, 40, (upd fc n x3))))[b0 + 45]? = some (.inl (0, 40, (upd fa n x1))) := by
    rw [List.getElem?_set_ne (by omega)]
    exact k6
  have k11 : (((h.set (b0 + 45) (.inl (0, 40, (upd fa n x1)))).set (b0 + 46) (.inl (0, 40, (upd fb n x2)))).set (b0 + 47) (.inl (0, 40, (upd fc n x3))))[b0 + 46]? = some (.inl (0, 40, (upd fb n x2))) := by
    rw [List.getElem?_set_ne (by omega)]
    exact k7
  have k12 : (((h.set (b0 + 45) (.inl (0, 40, (upd fa n x1)))).set (b0 + 46) (.inl (0, 40, (upd fb n x2)))).set (b0 + 47) (.inl (0, 40, (upd fc n x3))))[b0 + 47]? = some (.inl (0, 40, (upd fc n x3))) := List.getElem?_set_self (List.getElem?_eq_some_iff.mp k8).1
  refine j_aload_n (k4 := 0) (dQ (by decide +kernel)) rfl ?_
  refine j_dup (dQ (by decide +kernel)) rfl ?_
  refine j_get (own := 8) (i := 25) (ci := 8) (f := 0) (dQ (by decide +kernel)) hcls (by decide +kernel) k9 (fun r hr => by cases hr; decide +kernel) pi0 ?_
  refine j_iconst (n := 1) (dQ (by decide +kernel)) ?_
  refine x_add (dQ (by decide +kernel)) (by omega) (fun r13 hr13 => ?_)
  refine j_put (own := 8) (i := 25) (ci := 8) (f := 0) (ty := .int) (dQ (by decide +kernel)) hcls (by decide +kernel) k9 rfl (by decide +kernel) (by rw [li]; decide) (by decide +kernel) (by decide +kernel) rfl rfl ?_
  have n14 : (fsi.set 0 (.int r13)).length = 5 := by rw [List.length_set]; exact li
  have f15 : (fsi.set 0 (.int r13))[1]? = some (.ref (g.2.2 + (b0 + 45))) := by
    rw [List.getElem?_set_ne (by decide)]
    exact pi1
  have f16 : (fsi.set 0 (.int r13))[2]? = some (.ref (g.2.2 + (b0 + 46))) := by
    rw [List.getElem?_set_ne (by decide)]
    exact pi2
  have f17 : (fsi.set 0 (.int r13))[3]? = some (.ref (g.2.2 + (b0 + 47))) := by
    rw [List.getElem?_set_ne (by decide)]
    exact pi3
  have f18 : (fsi.set 0 (.int r13))[0]? = some (.int r13) := List.getElem?_set_self (by rw [li]; decide)
  have k19 : ((((h.set (b0 + 45) (.inl (0, 40, (upd fa n x1)))).set (b0 + 46) (.inl (0, 40, (upd fb n x2)))).set (b0 + 47) (.inl (0, 40, (upd fc n x3)))).set (b0 + 44) (.inr (8, (fsi.set 0 (.int r13)))))[b0 + 44]? = some (.inr (8, (fsi.set 0 (.int r13)))) := List.getElem?_set_self (List.getElem?_eq_some_iff.mp k9).1
  have k20 : ((((h.set (b0 + 45) (.inl (0, 40, (upd fa n x1)))).set (b0 + 46) (.inl (0, 40, (upd fb n x2)))).set (b0 + 47) (.inl (0, 40, (upd fc n x3)))).set (b0 + 44) (.inr (8, (fsi.set 0 (.int r13)))))[b0 + 45]? = some (.inl (0, 40, (upd fa n x1))) := by
    rw [List.getElem?_set_ne (by omega)]
    exact k10
  have k21 : ((((h.set (b0 + 45) (.inl (0, 40, (upd fa n x1)))).set (b0 + 46) (.inl (0, 40, (upd fb n x2)))).set (b0 + 47) (.inl (0, 40, (upd fc n x3)))).set (b0 + 44) (.inr (8, (fsi.set 0 (.int r13)))))[b0 + 46]? = some (.inl (0, 40, (upd fb n x2))) := by
    rw [List.getElem?_set_ne (by omega)]
    exact k11
  have k22 : ((((h.set (b0 + 45) (.inl (0, 40, (upd fa n x1)))).set (b0 + 46) (.inl (0, 40, (upd fb n x2)))).set (b0 + 47) (.inl (0, 40, (upd fc n x3)))).set (b0 + 44) (.inr (8, (fsi.set 0 (.int r13)))))[b0 + 47]? = some (.inl (0, 40, (upd fc n x3))) := by
    rw [List.getElem?_set_ne (by omega)]
    exact k12
  refine j_iconst (n := 1) (dQ (by decide +kernel)) ?_
  exact j_ret (v := some (.int (Int32.ofInt 1))) ⟨by decide +kernel, Or.inr (Or.inl ⟨by decide +kernel, by decide⟩)⟩ ⟨r13, by omega, rfl, rfl⟩ rfl
set_option maxRecDepth 8192 in
theorem xs_dueF {b0 : Nat} {fsi : List Value} {t : Int32} {n : Nat} {x1 x2 x3 : Int32} (hi : h[b0 + 44]? = some (.inr (8, fsi))) (li : fsi.length = 5) (pi0 : fsi[0]? = some (.int t)) (et : t.toInt = (n : Int)) (en : 40 ≤ n ∧ n ≤ 40) : jCal l g 157 1 [.ref (g.2.2 + (b0 + 44)), .int x1, .int x2, .int x3] h 0 0 (fun v h' => v = some (.int (Int32.ofInt 0)) ∧ h = h') := by
  have hcls : jcN 8 = (jyN 157).cls := by decide +kernel
  have cn0 : (Int32.ofInt 40).toInt = 40 := by decide
  have cn1 : (Int32.ofInt 0).toInt = 0 := by decide
  refine jCal_of (by decide +kernel) (show 4 ≤ jmx 157 by decide +kernel) ?_
  show J l g 157 1 0 [some (.ref (g.2.2 + (b0 + 44))), some (.int x1), some (.int x2), some (.int x3)] [] h 0 0 _
  refine j_aload_n (k4 := 0) (dQ (by decide +kernel)) rfl ?_
  refine j_get (own := 8) (i := 25) (ci := 8) (f := 0) (dQ (by decide +kernel)) hcls (by decide +kernel) hi (fun r hr => by cases hr; decide +kernel) pi0 ?_
  refine x_bi (n := 40) (dQ (by decide +kernel)) (by decide) ?_
  refine j_icmp_lt (off := 5) (tgt := 11) (dQ (by decide +kernel)) (by decide) (fun q => absurd (i32_lt.mp q) (by omega)) (fun _ => ?_)
  refine j_iconst (n := 0) (dQ (by decide +kernel)) ?_
  exact j_ret (v := some (.int (Int32.ofInt 0))) ⟨by decide +kernel, Or.inr (Or.inl ⟨by decide +kernel, by decide⟩)⟩ ⟨rfl, rfl⟩ rfl
set_option maxRecDepth 8192 in
theorem xs_latest0 {b0 : Nat} {fsi : List Value} {t : Int32} {n : Nat} (hi : h[b0 + 37]? = some (.inr (6, fsi))) (li : fsi.length = 8) (pi4 : fsi[4]? = some (.int t)) (et : t.toInt = (n : Int)) (en : 0 ≤ n ∧ n ≤ 0) : jCal l g 132 1 [.ref (g.2.2 + (b0 + 37))] h 0 0 (fun v h' => v = some (.int (Int32.ofInt 0)) ∧ h = h') := by
  have hcls : jcN 6 = (jyN 132).cls := by decide +kernel
  have cn0 : (Int32.ofInt 0).toInt = 0 := by decide
  refine jCal_of (by decide +kernel) (show 1 ≤ jmx 132 by decide +kernel) ?_
  show J l g 132 1 0 [some (.ref (g.2.2 + (b0 + 37)))] [] h 0 0 _
  refine j_aload_n (k4 := 0) (dQ (by decide +kernel)) rfl ?_
  refine j_get (own := 6) (i := 40) (ci := 6) (f := 4) (dQ (by decide +kernel)) hcls (by decide +kernel) hi (fun r hr => by cases hr; decide +kernel) pi4 ?_
  refine j_if_le (off := 17) (tgt := 21) (dQ (by decide +kernel)) (by decide) (fun _ => ?_) (fun q => absurd (i32_le.mpr (by rw [i32_z]; omega)) q)
  refine j_iconst (n := 0) (dQ (by decide +kernel)) ?_
  exact j_ret (v := some (.int (Int32.ofInt 0))) ⟨by decide +kernel, Or.inl (by decide +kernel)⟩ ⟨rfl, rfl⟩ rfl
set_option maxRecDepth 8192 in
theorem xs_latest {b0 : Nat} {fsi : List Value} {fa : Nat → Int32} {t : Int32} {n : Nat} (hi : h[b0 + 37]? = some (.inr (6, fsi))) (li : fsi.length = 8) (pi4 : fsi[4]? = some (.int t)) (pi5 : fsi[5]? = some (.ref (g.2.2 + (b0 + 41)))) (ha : h[b0 + 41]? = some (.inl (0, 16, fa))) (et : t.toInt = (n : Int)) (en : 1 ≤ n ∧ n ≤ 16) : jCal l g 132 1 [.ref (g.2.2 + (b0 + 37))] h 0 0 (fun v h' => v = some (.int (fa (n - 1))) ∧ h = h') := by
  have hcls : jcN 6 = (jyN 132).cls := by decide +kernel
  have cn0 : (Int32.ofInt 1).toInt = 1 := by decide
  refine jCal_of (by decide +kernel) (show 1 ≤ jmx 132 by decide +kernel) ?_
  show J l g 132 1 0 [some (.ref (g.2.2 + (b0 + 37)))] [] h 0 0 _
  refine j_aload_n (k4 := 0) (dQ (by decide +kernel)) rfl ?_
  refine j_get (own := 6) (i := 40) (ci := 6) (f := 4) (dQ (by decide +kernel)) hcls (by decide +kernel) hi (fun r hr => by cases hr; decide +kernel) pi4 ?_
  refine j_if_le (off := 17) (tgt := 21) (dQ (by decide +kernel)) (by decide) (fun q => absurd (i32_le.mp q) (by rw [i32_z]; omega)) (fun _ => ?_)
  refine j_aload_n (k4 := 0) (dQ (by decide +kernel)) rfl ?_
  refine j_get (own := 6) (i := 21) (ci := 6) (f := 5) (dQ (by decide +kernel)) hcls (by decide +kernel) hi (fun r hr => by cases hr; decide +kernel) pi5 ?_
  refine j_aload_n (k4 := 0) (dQ (by decide +kernel)) rfl ?_
  refine j_get (own := 6) (i := 40) (ci := 6) (f := 4) (dQ (by decide +kernel)) hcls (by decide +kernel) hi (fun r hr => by cases hr; decide +kernel) pi4 ?_
  refine j_iconst (n := 1) (dQ (by decide +kernel)) ?_
  refine x_sub (dQ (by decide +kernel)) (by omega) (fun r1 hr1 => ?_)
  refine x_ald (n - 1) (dQ (by decide +kernel)) ha (by omega) (by omega) ?_
  refine j_goto (off := 4) (tgt := 22) (dQ (by decide +kernel)) (by decide) ?_
  exact j_ret (v := some (.int (fa (n - 1)))) ⟨by decide +kernel, Or.inl (by decide +kernel)⟩ ⟨rfl, rfl⟩ rfl
set_option maxRecDepth 8192 in
theorem xs_addSeen {b0 : Nat} {fsi : List Value} {fa : Nat → Int32} {fb : Nat → Int32} {fc : Nat → Int32} {t : Int32} {n : Nat} {x1 x2 x3 : Int32} (hi : h[b0 + 37]? = some (.inr (6, fsi))) (li : fsi.length = 8) (pi4 : fsi[4]? = some (.int t)) (pi5 : fsi[5]? = some (.ref (g.2.2 + (b0 + 41)))) (pi6 : fsi[6]? = some (.ref (g.2.2 + (b0 + 42)))) (pi7 : fsi[7]? = some (.ref (g.2.2 + (b0 + 43)))) (ha : h[b0 + 41]? = some (.inl (0, 16, fa))) (hb : h[b0 + 42]? = some (.inl (0, 16, fb))) (hc : h[b0 + 43]? = some (.inl (0, 16, fc))) (et : t.toInt = (n : Int)) (en : 0 ≤ n ∧ n ≤ 15) : jCal l g 133 1 [.ref (g.2.2 + (b0 + 37)), .int x1, .int x2, .int x3] h 0 0 (fun v h' => ∃ r13 : Int32, r13.toInt = (((n + 1) : Nat) : Int) ∧ ∃ r23 : Int32, r23.toInt = ((((n + 1) - 1) : Nat) : Int) ∧ v = some (.int r23) ∧ h' = ((((h.set (b0 + 41) (.inl (0, 16, (upd fa n x1)))).set (b0 + 42) (.inl (0, 16, (upd fb n x2)))).set (b0 + 43) (.inl (0, 16, (upd fc n x3)))).set (b0 + 37) (.inr (6, (fsi.set 4 (.int r13)))))) := by
  have hcls : jcN 6 = (jyN 133).cls := by decide +kernel
  have cn0 : (Int32.ofInt 16).toInt = 16 := by decide
  have cn1 : (Int32.ofInt 1).toInt = 1 := by decide
  refine jCal_of (by decide +kernel) (show 4 ≤ jmx 133 by decide +kernel) ?_
  show J l g 133 1 0 [some (.ref (g.2.2 + (b0 + 37))), some (.int x1), some (.int x2), some (.int x3)] [] h 0 0 _
  refine j_aload_n (k4 := 0) (dQ (by decide +kernel)) rfl ?_
  refine j_get (own := 6) (i := 40) (ci := 6) (f := 4) (dQ (by decide +kernel)) hcls (by decide +kernel) hi (fun r hr => by cases hr; decide +kernel) pi4 ?_
  refine x_bi (n := 16) (dQ (by decide +kernel)) (by decide) ?_
  refine j_icmp_lt (off := 5) (tgt := 11) (dQ (by decide +kernel)) (by decide) (fun _ => ?_) (fun q => absurd (i32_lt.mpr (by omega)) q)
  refine j_aload_n (k4 := 0) (dQ (by decide +kernel)) rfl ?_
  refine j_get (own := 6) (i := 21) (ci := 6) (f := 5) (dQ (by decide +kernel)) hcls (by decide +kernel) hi (fun r hr => by cases hr; decide +kernel) pi5 ?_
  refine j_aload_n (k4 := 0) (dQ (by decide +kernel)) rfl ?_
  refine j_get (own := 6) (i := 40) (ci := 6) (f := 4) (dQ (by decide +kernel)) hcls (by decide +kernel) hi (fun r hr => by cases hr; decide +kernel) pi4 ?_
  refine j_iload_n (k4 := 1) (dQ (by decide +kernel)) rfl ?_
  refine x_ast n (dQ (by decide +kernel)) ha (by omega) (by omega) ?_
  have k1 : (h.set (b0 + 41) (.inl (0, 16, (upd fa n x1))))[b0 + 37]? = some (.inr (6, fsi)) := by
    rw [List.getElem?_set_ne (by omega)]
    exact hi
  have k2 : (h.set (b0 + 41) (.inl (0, 16, (upd fa n x1))))[b0 + 41]? = some (.inl (0, 16, (upd fa n x1))) := List.getElem?_set_self (List.getElem?_eq_some_iff.mp ha).1
  have k3 : (h.set (b0 + 41) (.inl (0, 16, (upd fa n x1))))[b0 + 42]? = some (.inl (0, 16, fb)) := by
    rw [List.getElem?_set_ne (by omega)]
    exact hb
  have k4 : (h.set (b0 + 41) (.inl (0, 16, (upd fa n x1))))[b0 + 43]? = some (.inl (0, 16, fc)) := by
    rw [List.getElem?_set_ne (by omega)]
    exact hc
  refine j_aload_n (k4 := 0) (dQ (by decide +kernel)) rfl ?_
  refine j_get (own := 6) (i := 24) (ci := 6) (f := 6) (dQ (by decide +kernel)) hcls (by decide +kernel) k1 (fun r hr => by cases hr; decide +kernel) pi6 ?_
  refine j_aload_n (k4 := 0) (dQ (by decide +kernel)) rfl ?_
  refine j_get (own := 6) (i := 40) (ci := 6) (f := 4) (dQ (by decide +kernel)) hcls (by decide +kernel) k1 (fun r hr => by cases hr; decide +kernel) pi4 ?_
  refine j_iload_n (k4 := 2) (dQ (by decide +kernel)) rfl ?_
  refine x_ast n (dQ (by decide +kernel)) k3 (by omega) (by omega) ?_
  have k5 : ((h.set (b0 + 41) (.inl (0, 16, (upd fa n x1)))).set (b0 + 42) (.inl (0, 16, (upd fb n x2))))[b0 + 37]? = some (.inr (6, fsi)) := by
    rw [List.getElem?_set_ne (by omega)]
    exact k1
  have k6 : ((h.set (b0 + 41) (.inl (0, 16, (upd fa n x1)))).set (b0 + 42) (.inl (0, 16, (upd fb n x2))))[b0 + 41]? = some (.inl (0, 16, (upd fa n x1))) := by
    rw [List.getElem?_set_ne (by omega)]
    exact k2
  have k7 : ((h.set (b0 + 41) (.inl (0, 16, (upd fa n x1)))).set (b0 + 42) (.inl (0, 16, (upd fb n x2))))[b0 + 42]? = some (.inl (0, 16, (upd fb n x2))) := List.getElem?_set_self (List.getElem?_eq_some_iff.mp k3).1
  have k8 : ((h.set (b0 + 41) (.inl (0, 16, (upd fa n x1)))).set (b0 + 42) (.inl (0, 16, (upd fb n x2))))[b0 + 43]? = some (.inl (0, 16, fc)) := by
    rw [List.getElem?_set_ne (by omega)]
    exact k4
  refine j_aload_n (k4 := 0) (dQ (by decide +kernel)) rfl ?_
  refine j_get (own := 6) (i := 27) (ci := 6) (f := 7) (dQ (by decide +kernel)) hcls (by decide +kernel) k5 (fun r hr => by cases hr; decide +kernel) pi7 ?_
  refine j_aload_n (k4 := 0) (dQ (by decide +kernel)) rfl ?_
  refine j_get (own := 6) (i := 40) (ci := 6) (f := 4) (dQ (by decide +kernel)) hcls (by decide +kernel) k5 (fun r hr => by cases hr; decide +kernel) pi4 ?_
  refine j_iload_n (k4 := 3) (dQ (by decide +kernel)) rfl ?_
  refine x_ast n (dQ (by decide +kernel)) k8 (by omega) (by omega) ?_
  have k9 : (((h.set (b0 + 41) (.inl (0, 16, (upd fa n x1)))).set (b0 + 42) (.inl (0, 16, (upd fb n x2)))).set (b0 + 43) (.inl (0, 16, (upd fc n x3))))[b0 + 37]? = some (.inr (6, fsi)) := by
    rw [List.getElem?_set_ne (by omega)]
    exact k5
  have k10 : (((h.set (b0 + 41) (.inl (0, 16, (upd fa n x1)))).set (b0 + 42) (.inl (0, 16, (upd fb n x2)))).set (b0 + 43) (.inl (0, 16, (upd fc n x3))))[b0 + 41]? = some (.inl (0, 16, (upd fa n x1))) := by
    rw [List.getElem?_set_ne (by omega)]
    exact k6
  have k11 : (((h.set (b0 + 41) (.inl (0, 16, (upd fa n x1)))).set (b0 + 42) (.inl (0, 16, (upd fb n x2)))).set (b0 + 43) (.inl (0, 16, (upd fc n x3))))[b0 + 42]? = some (.inl (0, 16, (upd fb n x2))) := by
    rw [List.getElem?_set_ne (by omega)]
    exact k7
  have k12 : (((h.set (b0 + 41) (.inl (0, 16, (upd fa n x1)))).set (b0 + 42) (.inl (0, 16, (upd fb n x2)))).set (b0 + 43) (.inl (0, 16, (upd fc n x3))))[b0 + 43]? = some (.inl (0, 16, (upd fc n x3))) := List.getElem?_set_self (List.getElem?_eq_some_iff.mp k8).1
  refine j_aload_n (k4 := 0) (dQ (by decide +kernel)) rfl ?_
  refine j_dup (dQ (by decide +kernel)) rfl ?_
  refine j_get (own := 6) (i := 40) (ci := 6) (f := 4) (dQ (by decide +kernel)) hcls (by decide +kernel) k9 (fun r hr => by cases hr; decide +kernel) pi4 ?_
  refine j_iconst (n := 1) (dQ (by decide +kernel)) ?_
  refine x_add (dQ (by decide +kernel)) (by omega) (fun r13 hr13 => ?_)
  refine j_put (own := 6) (i := 40) (ci := 6) (f := 4) (ty := .int) (dQ (by decide +kernel)) hcls (by decide +kernel) k9 rfl (by decide +kernel) (by rw [li]; decide) (by decide +kernel) (by decide +kernel) rfl rfl ?_
  have n14 : (fsi.set 4 (.int r13)).length = 8 := by rw [List.length_set]; exact li
  have f15 : (fsi.set 4 (.int r13))[5]? = some (.ref (g.2.2 + (b0 + 41))) := by
    rw [List.getElem?_set_ne (by decide)]
    exact pi5
  have f16 : (fsi.set 4 (.int r13))[6]? = some (.ref (g.2.2 + (b0 + 42))) := by
    rw [List.getElem?_set_ne (by decide)]
    exact pi6
  have f17 : (fsi.set 4 (.int r13))[7]? = some (.ref (g.2.2 + (b0 + 43))) := by
    rw [List.getElem?_set_ne (by decide)]
    exact pi7
  have f18 : (fsi.set 4 (.int r13))[4]? = some (.int r13) := List.getElem?_set_self (by rw [li]; decide)
  have k19 : ((((h.set (b0 + 41) (.inl (0, 16, (upd fa n x1)))).set (b0 + 42) (.inl (0, 16, (upd fb n x2)))).set (b0 + 43) (.inl (0, 16, (upd fc n x3)))).set (b0 + 37) (.inr (6, (fsi.set 4 (.int r13)))))[b0 + 37]? = some (.inr (6, (fsi.set 4 (.int r13)))) := List.getElem?_set_self (List.getElem?_eq_some_iff.mp k9).1
  have k20 : ((((h.set (b0 + 41) (.inl (0, 16, (upd fa n x1)))).set (b0 + 42) (.inl (0, 16, (upd fb n x2)))).set (b0 + 43) (.inl (0, 16, (upd fc n x3)))).set (b0 + 37) (.inr (6, (fsi.set 4 (.int r13)))))[b0 + 41]? = some (.inl (0, 16, (upd fa n x1))) := by
    rw [List.getElem?_set_ne (by omega)]
    exact k10
  have k21 : ((((h.set (b0 + 41) (.inl (0, 16, (upd fa n x1)))).set (b0 + 42) (.inl (0, 16, (upd fb n x2)))).set (b0 + 43) (.inl (0, 16, (upd fc n x3)))).set (b0 + 37) (.inr (6, (fsi.set 4 (.int r13)))))[b0 + 42]? = some (.inl (0, 16, (upd fb n x2))) := by
    rw [List.getElem?_set_ne (by omega)]
    exact k11
  have k22 : ((((h.set (b0 + 41) (.inl (0, 16, (upd fa n x1)))).set (b0 + 42) (.inl (0, 16, (upd fb n x2)))).set (b0 + 43) (.inl (0, 16, (upd fc n x3)))).set (b0 + 37) (.inr (6, (fsi.set 4 (.int r13)))))[b0 + 43]? = some (.inl (0, 16, (upd fc n x3))) := by
    rw [List.getElem?_set_ne (by omega)]
    exact k12
  refine j_aload_n (k4 := 0) (dQ (by decide +kernel)) rfl ?_
  refine j_get (own := 6) (i := 40) (ci := 6) (f := 4) (dQ (by decide +kernel)) hcls (by decide +kernel) k19 (fun r hr => by cases hr; decide +kernel) f18 ?_
  refine j_iconst (n := 1) (dQ (by decide +kernel)) ?_
  refine x_sub (dQ (by decide +kernel)) (by omega) (fun r23 hr23 => ?_)
  exact j_ret (v := some (.int r23)) ⟨by decide +kernel, Or.inl (by decide +kernel)⟩ ⟨r13, by omega, r23, by omega, rfl, rfl⟩ rfl
set_option maxRecDepth 8192 in
theorem xs_addSeenF {b0 : Nat} {fsi : List Value} {t : Int32} {n : Nat} {x1 x2 x3 : Int32} (hi : h[b0 + 37]? = some (.inr (6, fsi))) (li : fsi.length = 8) (pi4 : fsi[4]? = some (.int t)) (et : t.toInt = (n : Int)) (en : 16 ≤ n ∧ n ≤ 16) : jCal l g 133 1 [.ref (g.2.2 + (b0 + 37)), .int x1, .int x2, .int x3] h 0 0 (fun v h' => v = some (.int (Int32.ofInt (-1))) ∧ h = h') := by
  have hcls : jcN 6 = (jyN 133).cls := by decide +kernel
  have cn0 : (Int32.ofInt 16).toInt = 16 := by decide
  have cn1 : (Int32.ofInt (-1)).toInt = -1 := by decide
  refine jCal_of (by decide +kernel) (show 4 ≤ jmx 133 by decide +kernel) ?_
  show J l g 133 1 0 [some (.ref (g.2.2 + (b0 + 37))), some (.int x1), some (.int x2), some (.int x3)] [] h 0 0 _
  refine j_aload_n (k4 := 0) (dQ (by decide +kernel)) rfl ?_
  refine j_get (own := 6) (i := 40) (ci := 6) (f := 4) (dQ (by decide +kernel)) hcls (by decide +kernel) hi (fun r hr => by cases hr; decide +kernel) pi4 ?_
  refine x_bi (n := 16) (dQ (by decide +kernel)) (by decide) ?_
  refine j_icmp_lt (off := 5) (tgt := 11) (dQ (by decide +kernel)) (by decide) (fun q => absurd (i32_lt.mp q) (by omega)) (fun _ => ?_)
  refine j_iconst (n := (-1)) (dQ (by decide +kernel)) ?_
  exact j_ret (v := some (.int (Int32.ofInt (-1)))) ⟨by decide +kernel, Or.inl (by decide +kernel)⟩ ⟨rfl, rfl⟩ rfl
/-! a mending that was found is forgotten -/
def FgM (a : Nat) (h h' : jH) : Prop := ∀ c, c ≠ a → h'[c]? = h[c]?
def MEN (g : jG) (h : jH) (a : Nat) (fx : List Value) : Prop := fx[11]? = some .null ∨ (fx[11]? = some (.ref (g.2.2 + (a + 0))) ∧ ∃ fm, h[a + 0]? = some (.inr (2, fm)) ∧ fm.length = 12)
theorem MEN.set {a c : Nat} {x : jC} {fx : List Value} (hM : MEN g h a fx) (hc : c ≠ a + 0) : MEN g (h.set c x) a fx := by
  rcases hM with h1 | ⟨h1, fm, h2, h3⟩
  · exact Or.inl h1
  · exact Or.inr ⟨h1, fm, by rw [List.getElem?_set_ne hc]; exact h2, h3⟩
theorem x_forget {b0 a : Nat} {fx : List Value} (hc : h[b0 + 0]? = some (.inr (11, fx))) (hM : MEN g h a fx) : jCal l g 127 1 [.ref (g.2.2 + (b0 + 0))] h 0 0 (fun v h' => v = none ∧ FgM (a + 0) h h') := by
  have hcls : jcN 11 = (jyN 127).cls := by decide +kernel
  refine jCal_of (by decide +kernel) (show 1 ≤ jmx 127 by decide +kernel) ?_
  show J l g 127 1 0 [some (.ref (g.2.2 + (b0 + 0)))] [] h 0 0 _
  refine j_aload_n (k4 := 0) (dQ (by decide +kernel)) rfl ?_
  rcases hM with h1 | ⟨h1, fm, h2, h3⟩
  · refine j_get (own := 11) (i := 377) (ci := 11) (f := 11) (dQ (by decide +kernel)) hcls (by decide +kernel) hc (fun r hr => by cases hr; decide +kernel) h1 ?_
    refine j_ifnullN (off := 11) (tgt := 15) (dQ (by decide +kernel)) (by decide) ?_
    exact j_ret (v := none) ⟨by decide +kernel, by decide +kernel⟩ ⟨rfl, fun _ _ => rfl⟩ rfl
  · refine j_get (own := 11) (i := 377) (ci := 11) (f := 11) (dQ (by decide +kernel)) hcls (by decide +kernel) hc (fun r hr => by cases hr; decide +kernel) h1 ?_
    refine j_ifnull (off := 11) (dQ (by decide +kernel)) ?_
    refine j_aload_n (k4 := 0) (dQ (by decide +kernel)) rfl ?_
    refine j_get (own := 11) (i := 377) (ci := 11) (f := 11) (dQ (by decide +kernel)) hcls (by decide +kernel) hc (fun r hr => by cases hr; decide +kernel) h1 ?_
    refine j_iconst (n := 0) (dQ (by decide +kernel)) ?_
    refine j_put (own := 11) (i := 381) (ci := 2) (f := 0) (ty := .boolean) (dQ (by decide +kernel)) hcls (by decide +kernel) h2 rfl (by decide +kernel) (by rw [h3]; decide) (by decide +kernel) (by decide +kernel) rfl rfl ?_
    exact j_ret (v := none) ⟨by decide +kernel, by decide +kernel⟩ ⟨rfl, fun c hc => List.getElem?_set_ne (Ne.symm hc)⟩ rfl
set_option maxRecDepth 8192 in
theorem xk_use_l {b0 : Nat} {fsx : List Value} {x1 : Int32} (hx : h[b0 + 0]? = some (.inr (11, fsx))) (lx : fsx.length = 12) (px0 : fsx[0]? = some (.ref (g.2.2 + (b0 + 1)))) (u : x1.toInt < 0) : jCal l g 57 2 [.ref (g.2.2 + (b0 + 0)), .int x1] h 0 0 (fun v h' => v = some (.int (Int32.ofInt (-1))) ∧ h' = (h.set (b0 + 0) (.inr (11, (fsx.set 7 (.int (Int32.ofInt (-1)))))))) := by
  have hcls : jcN 11 = (jyN 57).cls := by decide +kernel
  have cn0 : (Int32.ofInt 0).toInt = 0 := by decide
  have cn1 : (Int32.ofInt (-1)).toInt = -1 := by decide
  refine jCal_of (by decide +kernel) (show 2 ≤ jmx 57 by decide +kernel) ?_
  show J l g 57 2 0 [some (.ref (g.2.2 + (b0 + 0))), some (.int x1), none] [] h 0 0 _
  refine j_iload_n (k4 := 1) (dQ (by decide +kernel)) rfl ?_
  refine j_cS (own := 11) (i := 51) (y2 := 19) (d2 := 1) (mc := 0) (ms := 0) (kc := 0) (ks := 0) (As := [.int x1]) (st := []) (dQ (by decide +kernel)) hcls (by decide +kernel) (by decide) (by decide +kernel) (show 1 = jnp 19 by decide +kernel) (by decide) (show 0 ≤ 8 by decide) (x_isFlag_0l (by omega)) (fun v hv2 hq => ?_)
  obtain ⟨rfl, rfl⟩ := hq
  refine j_if_ne (off := 9) (tgt := 13) (dQ (by decide +kernel)) (by decide) (fun q => absurd (i32_eq (show _ = (0 : Int32).toInt by rw [i32_z]; omega)) q) (fun _ => ?_)
  refine j_aload_n (k4 := 0) (dQ (by decide +kernel)) rfl ?_
  refine j_iconst (n := (-1)) (dQ (by decide +kernel)) ?_
  refine j_cV (own := 11) (i := 41) (y2 := 16) (d2 := 1) (mc := 0) (ms := 0) (kc := 0) (ks := 0) (a := b0 + 0) (As := [.int (Int32.ofInt (-1))]) (st := []) (dQ (by decide +kernel)) hcls (by decide +kernel) (by decide) (by decide +kernel) (show 1 = jnp 16 by decide +kernel) (by decide) (show 0 ≤ 8 by decide) hx (fun r hr => by cases hr; decide +kernel) (x_refuse hx lx) (fun v hv4 hq => ?_)
  obtain ⟨rfl, rfl⟩ := hq
  have n5 : (fsx.set 7 (.int (Int32.ofInt (-1)))).length = 12 := by rw [List.length_set]; exact lx
  have f6 : (fsx.set 7 (.int (Int32.ofInt (-1))))[0]? = some (.ref (g.2.2 + (b0 + 1))) := by
    rw [List.getElem?_set_ne (by decide)]
    exact px0
  have k7 : (h.set (b0 + 0) (.inr (11, (fsx.set 7 (.int (Int32.ofInt (-1)))))))[b0 + 0]? = some (.inr (11, (fsx.set 7 (.int (Int32.ofInt (-1)))))) := List.getElem?_set_self (List.getElem?_eq_some_iff.mp hx).1
  exact j_ret (v := some (.int (Int32.ofInt (-1)))) ⟨by decide +kernel, Or.inl (by decide +kernel)⟩ ⟨rfl, rfl⟩ rfl
set_option maxRecDepth 8192 in
theorem xr_use_l {b1 : Nat} {fsm : List Value} {x1 : Int32} (hm : h[b1 + 0]? = some (.inr (12, fsm))) (lm : fsm.length = 42) (pm2 : fsm[2]? = some (.ref (g.2.2 + (b1 + 1)))) (u : x1.toInt < 0) : jCal l g 215 2 [.ref (g.2.2 + (b1 + 0)), .int x1] h 0 0 (fun v h' => v = some (.int (Int32.ofInt (-1))) ∧ h' = ((h.set (b1 + 0) (.inr (12, (fsm.set 0 (.int (Int32.ofInt 0)))))).set (b1 + 0) (.inr (12, ((fsm.set 0 (.int (Int32.ofInt 0))).set 1 (.int (Int32.ofInt (-1)))))))) := by
  have hcls : jcN 12 = (jyN 215).cls := by decide +kernel
  have cn0 : (Int32.ofInt 0).toInt = 0 := by decide
  have cn1 : (Int32.ofInt (-1)).toInt = -1 := by decide
  refine jCal_of (by decide +kernel) (show 2 ≤ jmx 215 by decide +kernel) ?_
  show J l g 215 2 0 [some (.ref (g.2.2 + (b1 + 0))), some (.int x1), none] [] h 0 0 _
  refine j_aload_n (k4 := 0) (dQ (by decide +kernel)) rfl ?_
  refine j_iconst (n := 0) (dQ (by decide +kernel)) ?_
  refine j_put (own := 12) (i := 94) (ci := 12) (f := 0) (ty := .int) (dQ (by decide +kernel)) hcls (by decide +kernel) hm rfl (by decide +kernel) (by rw [lm]; decide) (by decide +kernel) (by decide +kernel) rfl rfl ?_
  have n1 : (fsm.set 0 (.int (Int32.ofInt 0))).length = 42 := by rw [List.length_set]; exact lm
  have f2 : (fsm.set 0 (.int (Int32.ofInt 0)))[2]? = some (.ref (g.2.2 + (b1 + 1))) := by
    rw [List.getElem?_set_ne (by decide)]
    exact pm2
  have f3 : (fsm.set 0 (.int (Int32.ofInt 0)))[0]? = some (.int (Int32.ofInt 0)) := List.getElem?_set_self (by rw [lm]; decide)
  have k4 : (h.set (b1 + 0) (.inr (12, (fsm.set 0 (.int (Int32.ofInt 0))))))[b1 + 0]? = some (.inr (12, (fsm.set 0 (.int (Int32.ofInt 0))))) := List.getElem?_set_self (List.getElem?_eq_some_iff.mp hm).1
  refine j_iload_n (k4 := 1) (dQ (by decide +kernel)) rfl ?_
  refine x_i2l (dQ (by decide +kernel)) (fun r5 hr5 => ?_)
  refine j_lconst (n := 0) (dQ (by decide +kernel)) ?_
  have hq6 : (Int64.ofNat ((0 : Fin 2) : Nat)).toInt = 0 := by decide
  refine j_lconst (n := 1) (dQ (by decide +kernel)) ?_
  have hq7 : (Int64.ofNat ((1 : Fin 2) : Nat)).toInt = 1 := by decide
  refine j_cS (own := 12) (i := 100) (y2 := 205) (d2 := 1) (mc := 0) (ms := 0) (kc := 0) (ks := 0) (As := [.long r5, .long (Int64.ofNat ((0 : Fin 2) : Nat)), .long (Int64.ofNat ((1 : Fin 2) : Nat))]) (st := []) (dQ (by decide +kernel)) hcls (by decide +kernel) (by decide) (by decide +kernel) (show 3 = jnp 205 by decide +kernel) (by decide) (show 0 ≤ 8 by decide) (xm_in_0l (by omega)) (fun v hv9 hq => ?_)
  obtain ⟨rfl, rfl⟩ := hq
  refine j_if_ne (off := 9) (tgt := 21) (dQ (by decide +kernel)) (by decide) (fun q => absurd (i32_eq (show _ = (0 : Int32).toInt by rw [i32_z]; omega)) q) (fun _ => ?_)
  refine j_aload_n (k4 := 0) (dQ (by decide +kernel)) rfl ?_
  refine j_iconst (n := (-1)) (dQ (by decide +kernel)) ?_
  refine j_cV (own := 12) (i := 104) (y2 := 206) (d2 := 1) (mc := 0) (ms := 0) (kc := 0) (ks := 0) (a := b1 + 0) (As := [.int (Int32.ofInt (-1))]) (st := []) (dQ (by decide +kernel)) hcls (by decide +kernel) (by decide) (by decide +kernel) (show 1 = jnp 206 by decide +kernel) (by decide) (show 0 ≤ 8 by decide) k4 (fun r hr => by cases hr; decide +kernel) (xm_tellN k4 n1 (by omega)) (fun v hv11 hq => ?_)
  obtain ⟨rfl, rfl⟩ := hq
  have n12 : ((fsm.set 0 (.int (Int32.ofInt 0))).set 1 (.int (Int32.ofInt (-1)))).length = 42 := by rw [List.length_set]; exact n1
  have f13 : ((fsm.set 0 (.int (Int32.ofInt 0))).set 1 (.int (Int32.ofInt (-1))))[2]? = some (.ref (g.2.2 + (b1 + 1))) := by
    rw [List.getElem?_set_ne (by decide)]
    exact f2
  have f14 : ((fsm.set 0 (.int (Int32.ofInt 0))).set 1 (.int (Int32.ofInt (-1))))[0]? = some (.int (Int32.ofInt 0)) := by
    rw [List.getElem?_set_ne (by decide)]
    exact f3
  have k15 : ((h.set (b1 + 0) (.inr (12, (fsm.set 0 (.int (Int32.ofInt 0)))))).set (b1 + 0) (.inr (12, ((fsm.set 0 (.int (Int32.ofInt 0))).set 1 (.int (Int32.ofInt (-1)))))))[b1 + 0]? = some (.inr (12, ((fsm.set 0 (.int (Int32.ofInt 0))).set 1 (.int (Int32.ofInt (-1)))))) := List.getElem?_set_self (List.getElem?_eq_some_iff.mp k4).1
  exact j_ret (v := some (.int (Int32.ofInt (-1)))) ⟨by decide +kernel, Or.inl (by decide +kernel)⟩ ⟨rfl, rfl⟩ rfl
set_option maxRecDepth 8192 in
theorem xk_use_h {b0 : Nat} {fsx : List Value} {x1 : Int32} (hx : h[b0 + 0]? = some (.inr (11, fsx))) (lx : fsx.length = 12) (px0 : fsx[0]? = some (.ref (g.2.2 + (b0 + 1)))) (u : 1 < x1.toInt) : jCal l g 57 2 [.ref (g.2.2 + (b0 + 0)), .int x1] h 0 0 (fun v h' => v = some (.int (Int32.ofInt (-1))) ∧ h' = (h.set (b0 + 0) (.inr (11, (fsx.set 7 (.int (Int32.ofInt (-1)))))))) := by
  have hcls : jcN 11 = (jyN 57).cls := by decide +kernel
  have cn0 : (Int32.ofInt 0).toInt = 0 := by decide
  have cn1 : (Int32.ofInt (-1)).toInt = -1 := by decide
  refine jCal_of (by decide +kernel) (show 2 ≤ jmx 57 by decide +kernel) ?_
  show J l g 57 2 0 [some (.ref (g.2.2 + (b0 + 0))), some (.int x1), none] [] h 0 0 _
  refine j_iload_n (k4 := 1) (dQ (by decide +kernel)) rfl ?_
  refine j_cS (own := 11) (i := 51) (y2 := 19) (d2 := 1) (mc := 0) (ms := 0) (kc := 0) (ks := 0) (As := [.int x1]) (st := []) (dQ (by decide +kernel)) hcls (by decide +kernel) (by decide) (by decide +kernel) (show 1 = jnp 19 by decide +kernel) (by decide) (show 0 ≤ 8 by decide) (x_isFlag_0h (by omega)) (fun v hv2 hq => ?_)
  obtain ⟨rfl, rfl⟩ := hq
  refine j_if_ne (off := 9) (tgt := 13) (dQ (by decide +kernel)) (by decide) (fun q => absurd (i32_eq (show _ = (0 : Int32).toInt by rw [i32_z]; omega)) q) (fun _ => ?_)
  refine j_aload_n (k4 := 0) (dQ (by decide +kernel)) rfl ?_
  refine j_iconst (n := (-1)) (dQ (by decide +kernel)) ?_
  refine j_cV (own := 11) (i := 41) (y2 := 16) (d2 := 1) (mc := 0) (ms := 0) (kc := 0) (ks := 0) (a := b0 + 0) (As := [.int (Int32.ofInt (-1))]) (st := []) (dQ (by decide +kernel)) hcls (by decide +kernel) (by decide) (by decide +kernel) (show 1 = jnp 16 by decide +kernel) (by decide) (show 0 ≤ 8 by decide) hx (fun r hr => by cases hr; decide +kernel) (x_refuse hx lx) (fun v hv4 hq => ?_)
  obtain ⟨rfl, rfl⟩ := hq
  have n5 : (fsx.set 7 (.int (Int32.ofInt (-1)))).length = 12 := by rw [List.length_set]; exact lx
  have f6 : (fsx.set 7 (.int (Int32.ofInt (-1))))[0]? = some (.ref (g.2.2 + (b0 + 1))) := by
    rw [List.getElem?_set_ne (by decide)]
    exact px0
  have k7 : (h.set (b0 + 0) (.inr (11, (fsx.set 7 (.int (Int32.ofInt (-1)))))))[b0 + 0]? = some (.inr (11, (fsx.set 7 (.int (Int32.ofInt (-1)))))) := List.getElem?_set_self (List.getElem?_eq_some_iff.mp hx).1
  exact j_ret (v := some (.int (Int32.ofInt (-1)))) ⟨by decide +kernel, Or.inl (by decide +kernel)⟩ ⟨rfl, rfl⟩ rfl
set_option maxRecDepth 8192 in
theorem xr_use_h {b1 : Nat} {fsm : List Value} {x1 : Int32} (hm : h[b1 + 0]? = some (.inr (12, fsm))) (lm : fsm.length = 42) (pm2 : fsm[2]? = some (.ref (g.2.2 + (b1 + 1)))) (u : 1 < x1.toInt) : jCal l g 215 2 [.ref (g.2.2 + (b1 + 0)), .int x1] h 0 0 (fun v h' => v = some (.int (Int32.ofInt (-1))) ∧ h' = ((h.set (b1 + 0) (.inr (12, (fsm.set 0 (.int (Int32.ofInt 0)))))).set (b1 + 0) (.inr (12, ((fsm.set 0 (.int (Int32.ofInt 0))).set 1 (.int (Int32.ofInt (-1)))))))) := by
  have hcls : jcN 12 = (jyN 215).cls := by decide +kernel
  have cn0 : (Int32.ofInt 0).toInt = 0 := by decide
  have cn1 : (Int32.ofInt (-1)).toInt = -1 := by decide
  refine jCal_of (by decide +kernel) (show 2 ≤ jmx 215 by decide +kernel) ?_
  show J l g 215 2 0 [some (.ref (g.2.2 + (b1 + 0))), some (.int x1), none] [] h 0 0 _
  refine j_aload_n (k4 := 0) (dQ (by decide +kernel)) rfl ?_
  refine j_iconst (n := 0) (dQ (by decide +kernel)) ?_
  refine j_put (own := 12) (i := 94) (ci := 12) (f := 0) (ty := .int) (dQ (by decide +kernel)) hcls (by decide +kernel) hm rfl (by decide +kernel) (by rw [lm]; decide) (by decide +kernel) (by decide +kernel) rfl rfl ?_
  have n1 : (fsm.set 0 (.int (Int32.ofInt 0))).length = 42 := by rw [List.length_set]; exact lm
  have f2 : (fsm.set 0 (.int (Int32.ofInt 0)))[2]? = some (.ref (g.2.2 + (b1 + 1))) := by
    rw [List.getElem?_set_ne (by decide)]
    exact pm2
  have f3 : (fsm.set 0 (.int (Int32.ofInt 0)))[0]? = some (.int (Int32.ofInt 0)) := List.getElem?_set_self (by rw [lm]; decide)
  have k4 : (h.set (b1 + 0) (.inr (12, (fsm.set 0 (.int (Int32.ofInt 0))))))[b1 + 0]? = some (.inr (12, (fsm.set 0 (.int (Int32.ofInt 0))))) := List.getElem?_set_self (List.getElem?_eq_some_iff.mp hm).1
  refine j_iload_n (k4 := 1) (dQ (by decide +kernel)) rfl ?_
  refine x_i2l (dQ (by decide +kernel)) (fun r5 hr5 => ?_)
  refine j_lconst (n := 0) (dQ (by decide +kernel)) ?_
  have hq6 : (Int64.ofNat ((0 : Fin 2) : Nat)).toInt = 0 := by decide
  refine j_lconst (n := 1) (dQ (by decide +kernel)) ?_
  have hq7 : (Int64.ofNat ((1 : Fin 2) : Nat)).toInt = 1 := by decide
  refine j_cS (own := 12) (i := 100) (y2 := 205) (d2 := 1) (mc := 0) (ms := 0) (kc := 0) (ks := 0) (As := [.long r5, .long (Int64.ofNat ((0 : Fin 2) : Nat)), .long (Int64.ofNat ((1 : Fin 2) : Nat))]) (st := []) (dQ (by decide +kernel)) hcls (by decide +kernel) (by decide) (by decide +kernel) (show 3 = jnp 205 by decide +kernel) (by decide) (show 0 ≤ 8 by decide) (xm_in_0h (by omega) (by omega)) (fun v hv9 hq => ?_)
  obtain ⟨rfl, rfl⟩ := hq
  refine j_if_ne (off := 9) (tgt := 21) (dQ (by decide +kernel)) (by decide) (fun q => absurd (i32_eq (show _ = (0 : Int32).toInt by rw [i32_z]; omega)) q) (fun _ => ?_)
  refine j_aload_n (k4 := 0) (dQ (by decide +kernel)) rfl ?_
  refine j_iconst (n := (-1)) (dQ (by decide +kernel)) ?_
  refine j_cV (own := 12) (i := 104) (y2 := 206) (d2 := 1) (mc := 0) (ms := 0) (kc := 0) (ks := 0) (a := b1 + 0) (As := [.int (Int32.ofInt (-1))]) (st := []) (dQ (by decide +kernel)) hcls (by decide +kernel) (by decide) (by decide +kernel) (show 1 = jnp 206 by decide +kernel) (by decide) (show 0 ≤ 8 by decide) k4 (fun r hr => by cases hr; decide +kernel) (xm_tellN k4 n1 (by omega)) (fun v hv11 hq => ?_)
  obtain ⟨rfl, rfl⟩ := hq
  have n12 : ((fsm.set 0 (.int (Int32.ofInt 0))).set 1 (.int (Int32.ofInt (-1)))).length = 42 := by rw [List.length_set]; exact n1
  have f13 : ((fsm.set 0 (.int (Int32.ofInt 0))).set 1 (.int (Int32.ofInt (-1))))[2]? = some (.ref (g.2.2 + (b1 + 1))) := by
    rw [List.getElem?_set_ne (by decide)]
    exact f2
  have f14 : ((fsm.set 0 (.int (Int32.ofInt 0))).set 1 (.int (Int32.ofInt (-1))))[0]? = some (.int (Int32.ofInt 0)) := by
    rw [List.getElem?_set_ne (by decide)]
    exact f3
  have k15 : ((h.set (b1 + 0) (.inr (12, (fsm.set 0 (.int (Int32.ofInt 0)))))).set (b1 + 0) (.inr (12, ((fsm.set 0 (.int (Int32.ofInt 0))).set 1 (.int (Int32.ofInt (-1)))))))[b1 + 0]? = some (.inr (12, ((fsm.set 0 (.int (Int32.ofInt 0))).set 1 (.int (Int32.ofInt (-1)))))) := List.getElem?_set_self (List.getElem?_eq_some_iff.mp k4).1
  exact j_ret (v := some (.int (Int32.ofInt (-1)))) ⟨by decide +kernel, Or.inl (by decide +kernel)⟩ ⟨rfl, rfl⟩ rfl
set_option maxRecDepth 8192 in
theorem xk_use_ok {b0 : Nat} {fsx : List Value} {fss : List Value} {x1 : Int32} {t : Int32} (hx : h[b0 + 0]? = some (.inr (11, fsx))) (lx : fsx.length = 12) (px0 : fsx[0]? = some (.ref (g.2.2 + (b0 + 1)))) (hs : h[b0 + 1]? = some (.inr (7, fss))) (ls : fss.length = 20) (ps3 : fss[3]? = some (.int t)) (g1 : 0 ≤ x1.toInt ∧ x1.toInt ≤ 1) : jCal l g 57 2 [.ref (g.2.2 + (b0 + 0)), .int x1] h 0 0 (fun v h' => v = some (.int t) ∧ h' = ((h.set (b0 + 1) (.inr (7, (fss.set 3 (.int x1))))).set (b0 + 0) (.inr (11, (fsx.set 7 (.int (Int32.ofInt 0))))))) := by
  have hcls : jcN 11 = (jyN 57).cls := by decide +kernel
  have cn0 : (Int32.ofInt 1).toInt = 1 := by decide
  have cn1 : (Int32.ofInt 0).toInt = 0 := by decide
  refine jCal_of (by decide +kernel) (show 2 ≤ jmx 57 by decide +kernel) ?_
  show J l g 57 2 0 [some (.ref (g.2.2 + (b0 + 0))), some (.int x1), none] [] h 0 0 _
  refine j_iload_n (k4 := 1) (dQ (by decide +kernel)) rfl ?_
  refine j_cS (own := 11) (i := 51) (y2 := 19) (d2 := 1) (mc := 0) (ms := 0) (kc := 0) (ks := 0) (As := [.int x1]) (st := []) (dQ (by decide +kernel)) hcls (by decide +kernel) (by decide) (by decide +kernel) (show 1 = jnp 19 by decide +kernel) (by decide) (show 0 ≤ 8 by decide) (x_isFlag_1 (by omega) (by omega)) (fun v hv2 hq => ?_)
  obtain ⟨rfl, rfl⟩ := hq
  refine j_if_ne (off := 9) (tgt := 13) (dQ (by decide +kernel)) (by decide) (fun _ => ?_) (fun q => absurd (fun q => absurd (congrArg Int32.toInt q) (by rw [i32_z]; omega)) q)
  refine j_aload_n (k4 := 0) (dQ (by decide +kernel)) rfl ?_
  refine j_get (own := 11) (i := 10) (ci := 11) (f := 0) (dQ (by decide +kernel)) hcls (by decide +kernel) hx (fun r hr => by cases hr; decide +kernel) px0 ?_
  refine j_get (own := 11) (i := 145) (ci := 7) (f := 3) (dQ (by decide +kernel)) hcls (by decide +kernel) hs (fun r hr => by cases hr; decide +kernel) ps3 ?_
  refine j_istore_n (k4 := 2) (dQ (by decide +kernel)) (by decide +kernel) ?_
  refine j_aload_n (k4 := 0) (dQ (by decide +kernel)) rfl ?_
  refine j_get (own := 11) (i := 10) (ci := 11) (f := 0) (dQ (by decide +kernel)) hcls (by decide +kernel) hx (fun r hr => by cases hr; decide +kernel) px0 ?_
  refine j_iload_n (k4 := 1) (dQ (by decide +kernel)) rfl ?_
  refine j_put (own := 11) (i := 145) (ci := 7) (f := 3) (ty := .int) (dQ (by decide +kernel)) hcls (by decide +kernel) hs rfl (by decide +kernel) (by rw [ls]; decide) (by decide +kernel) (by decide +kernel) rfl rfl ?_
  have n3 : (fss.set 3 (.int x1)).length = 20 := by rw [List.length_set]; exact ls
  have f4 : (fss.set 3 (.int x1))[3]? = some (.int x1) := List.getElem?_set_self (by rw [ls]; decide)
  have k5 : (h.set (b0 + 1) (.inr (7, (fss.set 3 (.int x1)))))[b0 + 0]? = some (.inr (11, fsx)) := by
    rw [List.getElem?_set_ne (by omega)]
    exact hx
  have k6 : (h.set (b0 + 1) (.inr (7, (fss.set 3 (.int x1)))))[b0 + 1]? = some (.inr (7, (fss.set 3 (.int x1)))) := List.getElem?_set_self (List.getElem?_eq_some_iff.mp hs).1
  refine j_aload_n (k4 := 0) (dQ (by decide +kernel)) rfl ?_
  refine j_iload_n (k4 := 2) (dQ (by decide +kernel)) rfl ?_
  refine j_cV (own := 11) (i := 48) (y2 := 17) (d2 := 1) (mc := 0) (ms := 0) (kc := 0) (ks := 0) (a := b0 + 0) (As := [.int t]) (st := []) (dQ (by decide +kernel)) hcls (by decide +kernel) (by decide) (by decide +kernel) (show 1 = jnp 17 by decide +kernel) (by decide) (show 0 ≤ 8 by decide) k5 (fun r hr => by cases hr; decide +kernel) (x_allow k5 lx) (fun v hv8 hq => ?_)
  obtain ⟨rfl, rfl⟩ := hq
  have n9 : (fsx.set 7 (.int (Int32.ofInt 0))).length = 12 := by rw [List.length_set]; exact lx
  have f10 : (fsx.set 7 (.int (Int32.ofInt 0)))[0]? = some (.ref (g.2.2 + (b0 + 1))) := by
    rw [List.getElem?_set_ne (by decide)]
    exact px0
  have k11 : ((h.set (b0 + 1) (.inr (7, (fss.set 3 (.int x1))))).set (b0 + 0) (.inr (11, (fsx.set 7 (.int (Int32.ofInt 0))))))[b0 + 0]? = some (.inr (11, (fsx.set 7 (.int (Int32.ofInt 0))))) := List.getElem?_set_self (List.getElem?_eq_some_iff.mp k5).1
  have k12 : ((h.set (b0 + 1) (.inr (7, (fss.set 3 (.int x1))))).set (b0 + 0) (.inr (11, (fsx.set 7 (.int (Int32.ofInt 0))))))[b0 + 1]? = some (.inr (7, (fss.set 3 (.int x1)))) := by
    rw [List.getElem?_set_ne (by omega)]
    exact k6
  exact j_ret (v := some (.int t)) ⟨by decide +kernel, Or.inl (by decide +kernel)⟩ ⟨rfl, rfl⟩ rfl
set_option maxRecDepth 8192 in
theorem xr_use_ok {b1 : Nat} {fsm : List Value} {fr : Nat → Int32} {x1 : Int32} {t : Int32} (hm : h[b1 + 0]? = some (.inr (12, fsm))) (lm : fsm.length = 42) (pm2 : fsm[2]? = some (.ref (g.2.2 + (b1 + 1)))) (hr : h[b1 + 1]? = some (.inl (0, 5270, fr))) (g1 : 0 ≤ x1.toInt ∧ x1.toInt ≤ 1) (qt : fr 7 = t) : jCal l g 215 2 [.ref (g.2.2 + (b1 + 0)), .int x1] h 0 0 (fun v h' => v = some (.int t) ∧ h' = (((h.set (b1 + 0) (.inr (12, (fsm.set 0 (.int (Int32.ofInt 0)))))).set (b1 + 1) (.inl (0, 5270, (upd fr 7 x1)))).set (b1 + 0) (.inr (12, ((fsm.set 0 (.int (Int32.ofInt 0))).set 1 (.int (Int32.ofInt 0))))))) := by
  have hcls : jcN 12 = (jyN 215).cls := by decide +kernel
  have cn0 : (Int32.ofInt 0).toInt = 0 := by decide
  have cn1 : (Int32.ofInt 1).toInt = 1 := by decide
  have cn2 : (Int32.ofInt 7).toInt = 7 := by decide
  refine jCal_of (by decide +kernel) (show 2 ≤ jmx 215 by decide +kernel) ?_
  show J l g 215 2 0 [some (.ref (g.2.2 + (b1 + 0))), some (.int x1), none] [] h 0 0 _
  refine j_aload_n (k4 := 0) (dQ (by decide +kernel)) rfl ?_
  refine j_iconst (n := 0) (dQ (by decide +kernel)) ?_
  refine j_put (own := 12) (i := 94) (ci := 12) (f := 0) (ty := .int) (dQ (by decide +kernel)) hcls (by decide +kernel) hm rfl (by decide +kernel) (by rw [lm]; decide) (by decide +kernel) (by decide +kernel) rfl rfl ?_
  have n1 : (fsm.set 0 (.int (Int32.ofInt 0))).length = 42 := by rw [List.length_set]; exact lm
  have f2 : (fsm.set 0 (.int (Int32.ofInt 0)))[2]? = some (.ref (g.2.2 + (b1 + 1))) := by
    rw [List.getElem?_set_ne (by decide)]
    exact pm2
  have f3 : (fsm.set 0 (.int (Int32.ofInt 0)))[0]? = some (.int (Int32.ofInt 0)) := List.getElem?_set_self (by rw [lm]; decide)
  have k4 : (h.set (b1 + 0) (.inr (12, (fsm.set 0 (.int (Int32.ofInt 0))))))[b1 + 0]? = some (.inr (12, (fsm.set 0 (.int (Int32.ofInt 0))))) := List.getElem?_set_self (List.getElem?_eq_some_iff.mp hm).1
  have k5 : (h.set (b1 + 0) (.inr (12, (fsm.set 0 (.int (Int32.ofInt 0))))))[b1 + 1]? = some (.inl (0, 5270, fr)) := by
    rw [List.getElem?_set_ne (by omega)]
    exact hr
  refine j_iload_n (k4 := 1) (dQ (by decide +kernel)) rfl ?_
  refine x_i2l (dQ (by decide +kernel)) (fun r6 hr6 => ?_)
  refine j_lconst (n := 0) (dQ (by decide +kernel)) ?_
  have hq7 : (Int64.ofNat ((0 : Fin 2) : Nat)).toInt = 0 := by decide
  refine j_lconst (n := 1) (dQ (by decide +kernel)) ?_
  have hq8 : (Int64.ofNat ((1 : Fin 2) : Nat)).toInt = 1 := by decide
  refine j_cS (own := 12) (i := 100) (y2 := 205) (d2 := 1) (mc := 0) (ms := 0) (kc := 0) (ks := 0) (As := [.long r6, .long (Int64.ofNat ((0 : Fin 2) : Nat)), .long (Int64.ofNat ((1 : Fin 2) : Nat))]) (st := []) (dQ (by decide +kernel)) hcls (by decide +kernel) (by decide) (by decide +kernel) (show 3 = jnp 205 by decide +kernel) (by decide) (show 0 ≤ 8 by decide) (xm_in_1 (by omega) (by omega)) (fun v hv10 hq => ?_)
  obtain ⟨rfl, rfl⟩ := hq
  refine j_if_ne (off := 9) (tgt := 21) (dQ (by decide +kernel)) (by decide) (fun _ => ?_) (fun q => absurd (fun q => absurd (congrArg Int32.toInt q) (by rw [i32_z]; omega)) q)
  refine j_aload_n (k4 := 0) (dQ (by decide +kernel)) rfl ?_
  refine j_get (own := 12) (i := 7) (ci := 12) (f := 2) (dQ (by decide +kernel)) hcls (by decide +kernel) k4 (fun r hr => by cases hr; decide +kernel) f2 ?_
  refine x_bi (n := 7) (dQ (by decide +kernel)) (by decide) ?_
  refine x_aldv (v := t) 7 (dQ (by decide +kernel)) k5 (by omega) (by omega) (by rw [qt]) ?_
  refine j_istore_n (k4 := 2) (dQ (by decide +kernel)) (by decide +kernel) ?_
  refine j_aload_n (k4 := 0) (dQ (by decide +kernel)) rfl ?_
  refine j_get (own := 12) (i := 7) (ci := 12) (f := 2) (dQ (by decide +kernel)) hcls (by decide +kernel) k4 (fun r hr => by cases hr; decide +kernel) f2 ?_
  refine x_bi (n := 7) (dQ (by decide +kernel)) (by decide) ?_
  refine j_iload_n (k4 := 1) (dQ (by decide +kernel)) rfl ?_
  refine x_ast 7 (dQ (by decide +kernel)) k5 (by omega) (by omega) ?_
  have k11 : ((h.set (b1 + 0) (.inr (12, (fsm.set 0 (.int (Int32.ofInt 0)))))).set (b1 + 1) (.inl (0, 5270, (upd fr 7 x1))))[b1 + 0]? = some (.inr (12, (fsm.set 0 (.int (Int32.ofInt 0))))) := by
    rw [List.getElem?_set_ne (by omega)]
    exact k4
  have k12 : ((h.set (b1 + 0) (.inr (12, (fsm.set 0 (.int (Int32.ofInt 0)))))).set (b1 + 1) (.inl (0, 5270, (upd fr 7 x1))))[b1 + 1]? = some (.inl (0, 5270, (upd fr 7 x1))) := List.getElem?_set_self (List.getElem?_eq_some_iff.mp k5).1
  refine j_aload_n (k4 := 0) (dQ (by decide +kernel)) rfl ?_
  refine j_iload_n (k4 := 2) (dQ (by decide +kernel)) rfl ?_
  refine j_cV (own := 12) (i := 252) (y2 := 216) (d2 := 1) (mc := 0) (ms := 0) (kc := 0) (ks := 0) (a := b1 + 0) (As := [.int t]) (st := []) (dQ (by decide +kernel)) hcls (by decide +kernel) (by decide) (by decide +kernel) (show 1 = jnp 216 by decide +kernel) (by decide) (show 0 ≤ 8 by decide) k11 (fun r hr => by cases hr; decide +kernel) (xm_was k11 n1) (fun v hv14 hq => ?_)
  obtain ⟨rfl, rfl⟩ := hq
  have n15 : ((fsm.set 0 (.int (Int32.ofInt 0))).set 1 (.int (Int32.ofInt 0))).length = 42 := by rw [List.length_set]; exact n1
  have f16 : ((fsm.set 0 (.int (Int32.ofInt 0))).set 1 (.int (Int32.ofInt 0)))[2]? = some (.ref (g.2.2 + (b1 + 1))) := by
    rw [List.getElem?_set_ne (by decide)]
    exact f2
  have f17 : ((fsm.set 0 (.int (Int32.ofInt 0))).set 1 (.int (Int32.ofInt 0)))[0]? = some (.int (Int32.ofInt 0)) := by
    rw [List.getElem?_set_ne (by decide)]
    exact f3
  have k18 : (((h.set (b1 + 0) (.inr (12, (fsm.set 0 (.int (Int32.ofInt 0)))))).set (b1 + 1) (.inl (0, 5270, (upd fr 7 x1)))).set (b1 + 0) (.inr (12, ((fsm.set 0 (.int (Int32.ofInt 0))).set 1 (.int (Int32.ofInt 0))))))[b1 + 0]? = some (.inr (12, ((fsm.set 0 (.int (Int32.ofInt 0))).set 1 (.int (Int32.ofInt 0))))) := List.getElem?_set_self (List.getElem?_eq_some_iff.mp k11).1
  have k19 : (((h.set (b1 + 0) (.inr (12, (fsm.set 0 (.int (Int32.ofInt 0)))))).set (b1 + 1) (.inl (0, 5270, (upd fr 7 x1)))).set (b1 + 0) (.inr (12, ((fsm.set 0 (.int (Int32.ofInt 0))).set 1 (.int (Int32.ofInt 0))))))[b1 + 1]? = some (.inl (0, 5270, (upd fr 7 x1))) := by
    rw [List.getElem?_set_ne (by omega)]
    exact k12
  exact j_ret (v := some (.int t)) ⟨by decide +kernel, Or.inl (by decide +kernel)⟩ ⟨rfl, rfl⟩ rfl
set_option maxRecDepth 8192 in
theorem xk_train_l {b0 : Nat} {fsx : List Value} {x1 : Int32} (hx : h[b0 + 0]? = some (.inr (11, fsx))) (lx : fsx.length = 12) (px0 : fsx[0]? = some (.ref (g.2.2 + (b0 + 1)))) (u : x1.toInt < 1) : jCal l g 128 2 [.ref (g.2.2 + (b0 + 0)), .int x1] h 0 0 (fun v h' => v = some (.int (Int32.ofInt (-1))) ∧ h' = (h.set (b0 + 0) (.inr (11, (fsx.set 7 (.int (Int32.ofInt (-1)))))))) := by
  have hcls : jcN 11 = (jyN 128).cls := by decide +kernel
  have cn0 : (Int32.ofInt 0).toInt = 0 := by decide
  have cn1 : (Int32.ofInt (-1)).toInt = -1 := by decide
  refine jCal_of (by decide +kernel) (show 2 ≤ jmx 128 by decide +kernel) ?_
  show J l g 128 2 0 [some (.ref (g.2.2 + (b0 + 0))), some (.int x1), none] [] h 0 0 _
  refine j_iload_n (k4 := 1) (dQ (by decide +kernel)) rfl ?_
  refine j_cS (own := 11) (i := 73) (y2 := 34) (d2 := 1) (mc := 0) (ms := 0) (kc := 0) (ks := 0) (As := [.int x1]) (st := []) (dQ (by decide +kernel)) hcls (by decide +kernel) (by decide) (by decide +kernel) (show 1 = jnp 34 by decide +kernel) (by decide) (show 0 ≤ 8 by decide) (x_isName_0l (by omega)) (fun v hv2 hq => ?_)
  obtain ⟨rfl, rfl⟩ := hq
  refine j_if_ne (off := 9) (tgt := 13) (dQ (by decide +kernel)) (by decide) (fun q => absurd (i32_eq (show _ = (0 : Int32).toInt by rw [i32_z]; omega)) q) (fun _ => ?_)
  refine j_aload_n (k4 := 0) (dQ (by decide +kernel)) rfl ?_
  refine j_iconst (n := (-1)) (dQ (by decide +kernel)) ?_
  refine j_cV (own := 11) (i := 41) (y2 := 16) (d2 := 1) (mc := 0) (ms := 0) (kc := 0) (ks := 0) (a := b0 + 0) (As := [.int (Int32.ofInt (-1))]) (st := []) (dQ (by decide +kernel)) hcls (by decide +kernel) (by decide) (by decide +kernel) (show 1 = jnp 16 by decide +kernel) (by decide) (show 0 ≤ 8 by decide) hx (fun r hr => by cases hr; decide +kernel) (x_refuse hx lx) (fun v hv4 hq => ?_)
  obtain ⟨rfl, rfl⟩ := hq
  have n5 : (fsx.set 7 (.int (Int32.ofInt (-1)))).length = 12 := by rw [List.length_set]; exact lx
  have f6 : (fsx.set 7 (.int (Int32.ofInt (-1))))[0]? = some (.ref (g.2.2 + (b0 + 1))) := by
    rw [List.getElem?_set_ne (by decide)]
    exact px0
  have k7 : (h.set (b0 + 0) (.inr (11, (fsx.set 7 (.int (Int32.ofInt (-1)))))))[b0 + 0]? = some (.inr (11, (fsx.set 7 (.int (Int32.ofInt (-1)))))) := List.getElem?_set_self (List.getElem?_eq_some_iff.mp hx).1
  exact j_ret (v := some (.int (Int32.ofInt (-1)))) ⟨by decide +kernel, Or.inl (by decide +kernel)⟩ ⟨rfl, rfl⟩ rfl
set_option maxRecDepth 8192 in
theorem xr_train_l {b1 : Nat} {fsm : List Value} {x1 : Int32} (hm : h[b1 + 0]? = some (.inr (12, fsm))) (lm : fsm.length = 42) (pm2 : fsm[2]? = some (.ref (g.2.2 + (b1 + 1)))) (u : x1.toInt < 1) : jCal l g 279 3 [.ref (g.2.2 + (b1 + 0)), .int x1] h 0 0 (fun v h' => v = some (.int (Int32.ofInt (-1))) ∧ h' = ((h.set (b1 + 0) (.inr (12, (fsm.set 0 (.int (Int32.ofInt 0)))))).set (b1 + 0) (.inr (12, ((fsm.set 0 (.int (Int32.ofInt 0))).set 1 (.int (Int32.ofInt (-1)))))))) := by
  have hcls : jcN 12 = (jyN 279).cls := by decide +kernel
  have cn0 : (Int32.ofInt 0).toInt = 0 := by decide
  have cn1 : (Int32.ofInt (-1)).toInt = -1 := by decide
  refine jCal_of (by decide +kernel) (show 2 ≤ jmx 279 by decide +kernel) ?_
  show J l g 279 3 0 [some (.ref (g.2.2 + (b1 + 0))), some (.int x1)] [] h 0 0 _
  refine j_aload_n (k4 := 0) (dQ (by decide +kernel)) rfl ?_
  refine j_iconst (n := 0) (dQ (by decide +kernel)) ?_
  refine j_put (own := 12) (i := 94) (ci := 12) (f := 0) (ty := .int) (dQ (by decide +kernel)) hcls (by decide +kernel) hm rfl (by decide +kernel) (by rw [lm]; decide) (by decide +kernel) (by decide +kernel) rfl rfl ?_
  have n1 : (fsm.set 0 (.int (Int32.ofInt 0))).length = 42 := by rw [List.length_set]; exact lm
  have f2 : (fsm.set 0 (.int (Int32.ofInt 0)))[2]? = some (.ref (g.2.2 + (b1 + 1))) := by
    rw [List.getElem?_set_ne (by decide)]
    exact pm2
  have f3 : (fsm.set 0 (.int (Int32.ofInt 0)))[0]? = some (.int (Int32.ofInt 0)) := List.getElem?_set_self (by rw [lm]; decide)
  have k4 : (h.set (b1 + 0) (.inr (12, (fsm.set 0 (.int (Int32.ofInt 0))))))[b1 + 0]? = some (.inr (12, (fsm.set 0 (.int (Int32.ofInt 0))))) := List.getElem?_set_self (List.getElem?_eq_some_iff.mp hm).1
  refine j_iload_n (k4 := 1) (dQ (by decide +kernel)) rfl ?_
  refine j_cS (own := 12) (i := 301) (y2 := 249) (d2 := 2) (mc := 0) (ms := 0) (kc := 0) (ks := 0) (As := [.int x1]) (st := []) (dQ (by decide +kernel)) hcls (by decide +kernel) (by decide) (by decide +kernel) (show 1 = jnp 249 by decide +kernel) (by decide) (show 0 ≤ 8 by decide) (xm_isName_0l (by omega)) (fun v hv6 hq => ?_)
  obtain ⟨rfl, rfl⟩ := hq
  refine j_if_ne (off := 9) (tgt := 18) (dQ (by decide +kernel)) (by decide) (fun q => absurd (i32_eq (show _ = (0 : Int32).toInt by rw [i32_z]; omega)) q) (fun _ => ?_)
  refine j_aload_n (k4 := 0) (dQ (by decide +kernel)) rfl ?_
  refine j_iconst (n := (-1)) (dQ (by decide +kernel)) ?_
  refine j_cV (own := 12) (i := 104) (y2 := 206) (d2 := 1) (mc := 0) (ms := 0) (kc := 0) (ks := 0) (a := b1 + 0) (As := [.int (Int32.ofInt (-1))]) (st := []) (dQ (by decide +kernel)) hcls (by decide +kernel) (by decide) (by decide +kernel) (show 1 = jnp 206 by decide +kernel) (by decide) (show 0 ≤ 8 by decide) k4 (fun r hr => by cases hr; decide +kernel) (xm_tellN k4 n1 (by omega)) (fun v hv8 hq => ?_)
  obtain ⟨rfl, rfl⟩ := hq
  have n9 : ((fsm.set 0 (.int (Int32.ofInt 0))).set 1 (.int (Int32.ofInt (-1)))).length = 42 := by rw [List.length_set]; exact n1
  have f10 : ((fsm.set 0 (.int (Int32.ofInt 0))).set 1 (.int (Int32.ofInt (-1))))[2]? = some (.ref (g.2.2 + (b1 + 1))) := by
    rw [List.getElem?_set_ne (by decide)]
    exact f2
  have f11 : ((fsm.set 0 (.int (Int32.ofInt 0))).set 1 (.int (Int32.ofInt (-1))))[0]? = some (.int (Int32.ofInt 0)) := by
    rw [List.getElem?_set_ne (by decide)]
    exact f3
  have k12 : ((h.set (b1 + 0) (.inr (12, (fsm.set 0 (.int (Int32.ofInt 0)))))).set (b1 + 0) (.inr (12, ((fsm.set 0 (.int (Int32.ofInt 0))).set 1 (.int (Int32.ofInt (-1)))))))[b1 + 0]? = some (.inr (12, ((fsm.set 0 (.int (Int32.ofInt 0))).set 1 (.int (Int32.ofInt (-1)))))) := List.getElem?_set_self (List.getElem?_eq_some_iff.mp k4).1
  exact j_ret (v := some (.int (Int32.ofInt (-1)))) ⟨by decide +kernel, Or.inl (by decide +kernel)⟩ ⟨rfl, rfl⟩ rfl
set_option maxRecDepth 8192 in
theorem xk_train_h {b0 : Nat} {fsx : List Value} {x1 : Int32} (hx : h[b0 + 0]? = some (.inr (11, fsx))) (lx : fsx.length = 12) (px0 : fsx[0]? = some (.ref (g.2.2 + (b0 + 1)))) (u : 999 < x1.toInt) : jCal l g 128 2 [.ref (g.2.2 + (b0 + 0)), .int x1] h 0 0 (fun v h' => v = some (.int (Int32.ofInt (-1))) ∧ h' = (h.set (b0 + 0) (.inr (11, (fsx.set 7 (.int (Int32.ofInt (-1)))))))) := by
  have hcls : jcN 11 = (jyN 128).cls := by decide +kernel
  have cn0 : (Int32.ofInt 0).toInt = 0 := by decide
  have cn1 : (Int32.ofInt (-1)).toInt = -1 := by decide
  refine jCal_of (by decide +kernel) (show 2 ≤ jmx 128 by decide +kernel) ?_
  show J l g 128 2 0 [some (.ref (g.2.2 + (b0 + 0))), some (.int x1), none] [] h 0 0 _
  refine j_iload_n (k4 := 1) (dQ (by decide +kernel)) rfl ?_
  refine j_cS (own := 11) (i := 73) (y2 := 34) (d2 := 1) (mc := 0) (ms := 0) (kc := 0) (ks := 0) (As := [.int x1]) (st := []) (dQ (by decide +kernel)) hcls (by decide +kernel) (by decide) (by decide +kernel) (show 1 = jnp 34 by decide +kernel) (by decide) (show 0 ≤ 8 by decide) (x_isName_0h (by omega)) (fun v hv2 hq => ?_)
  obtain ⟨rfl, rfl⟩ := hq
  refine j_if_ne (off := 9) (tgt := 13) (dQ (by decide +kernel)) (by decide) (fun q => absurd (i32_eq (show _ = (0 : Int32).toInt by rw [i32_z]; omega)) q) (fun _ => ?_)
  refine j_aload_n (k4 := 0) (dQ (by decide +kernel)) rfl ?_
  refine j_iconst (n := (-1)) (dQ (by decide +kernel)) ?_
  refine j_cV (own := 11) (i := 41) (y2 := 16) (d2 := 1) (mc := 0) (ms := 0) (kc := 0) (ks := 0) (a := b0 + 0) (As := [.int (Int32.ofInt (-1))]) (st := []) (dQ (by decide +kernel)) hcls (by decide +kernel) (by decide) (by decide +kernel) (show 1 = jnp 16 by decide +kernel) (by decide) (show 0 ≤ 8 by decide) hx (fun r hr => by cases hr; decide +kernel) (x_refuse hx lx) (fun v hv4 hq => ?_)
  obtain ⟨rfl, rfl⟩ := hq
  have n5 : (fsx.set 7 (.int (Int32.ofInt (-1)))).length = 12 := by rw [List.length_set]; exact lx
  have f6 : (fsx.set 7 (.int (Int32.ofInt (-1))))[0]? = some (.ref (g.2.2 + (b0 + 1))) := by
    rw [List.getElem?_set_ne (by decide)]
    exact px0
  have k7 : (h.set (b0 + 0) (.inr (11, (fsx.set 7 (.int (Int32.ofInt (-1)))))))[b0 + 0]? = some (.inr (11, (fsx.set 7 (.int (Int32.ofInt (-1)))))) := List.getElem?_set_self (List.getElem?_eq_some_iff.mp hx).1
  exact j_ret (v := some (.int (Int32.ofInt (-1)))) ⟨by decide +kernel, Or.inl (by decide +kernel)⟩ ⟨rfl, rfl⟩ rfl
set_option maxRecDepth 8192 in
theorem xr_train_h {b1 : Nat} {fsm : List Value} {x1 : Int32} (hm : h[b1 + 0]? = some (.inr (12, fsm))) (lm : fsm.length = 42) (pm2 : fsm[2]? = some (.ref (g.2.2 + (b1 + 1)))) (u : 999 < x1.toInt) : jCal l g 279 3 [.ref (g.2.2 + (b1 + 0)), .int x1] h 0 0 (fun v h' => v = some (.int (Int32.ofInt (-1))) ∧ h' = ((h.set (b1 + 0) (.inr (12, (fsm.set 0 (.int (Int32.ofInt 0)))))).set (b1 + 0) (.inr (12, ((fsm.set 0 (.int (Int32.ofInt 0))).set 1 (.int (Int32.ofInt (-1)))))))) := by
  have hcls : jcN 12 = (jyN 279).cls := by decide +kernel
  have cn0 : (Int32.ofInt 0).toInt = 0 := by decide
  have cn1 : (Int32.ofInt (-1)).toInt = -1 := by decide
  refine jCal_of (by decide +kernel) (show 2 ≤ jmx 279 by decide +kernel) ?_
  show J l g 279 3 0 [some (.ref (g.2.2 + (b1 + 0))), some (.int x1)] [] h 0 0 _
  refine j_aload_n (k4 := 0) (dQ (by decide +kernel)) rfl ?_
  refine j_iconst (n := 0) (dQ (by decide +kernel)) ?_
  refine j_put (own := 12) (i := 94) (ci := 12) (f := 0) (ty := .int) (dQ (by decide +kernel)) hcls (by decide +kernel) hm rfl (by decide +kernel) (by rw [lm]; decide) (by decide +kernel) (by decide +kernel) rfl rfl ?_
  have n1 : (fsm.set 0 (.int (Int32.ofInt 0))).length = 42 := by rw [List.length_set]; exact lm
  have f2 : (fsm.set 0 (.int (Int32.ofInt 0)))[2]? = some (.ref (g.2.2 + (b1 + 1))) := by
    rw [List.getElem?_set_ne (by decide)]
    exact pm2
  have f3 : (fsm.set 0 (.int (Int32.ofInt 0)))[0]? = some (.int (Int32.ofInt 0)) := List.getElem?_set_self (by rw [lm]; decide)
  have k4 : (h.set (b1 + 0) (.inr (12, (fsm.set 0 (.int (Int32.ofInt 0))))))[b1 + 0]? = some (.inr (12, (fsm.set 0 (.int (Int32.ofInt 0))))) := List.getElem?_set_self (List.getElem?_eq_some_iff.mp hm).1
  refine j_iload_n (k4 := 1) (dQ (by decide +kernel)) rfl ?_
  refine j_cS (own := 12) (i := 301) (y2 := 249) (d2 := 2) (mc := 0) (ms := 0) (kc := 0) (ks := 0) (As := [.int x1]) (st := []) (dQ (by decide +kernel)) hcls (by decide +kernel) (by decide) (by decide +kernel) (show 1 = jnp 249 by decide +kernel) (by decide) (show 0 ≤ 8 by decide) (xm_isName_0h (by omega)) (fun v hv6 hq => ?_)
  obtain ⟨rfl, rfl⟩ := hq
  refine j_if_ne (off := 9) (tgt := 18) (dQ (by decide +kernel)) (by decide) (fun q => absurd (i32_eq (show _ = (0 : Int32).toInt by rw [i32_z]; omega)) q) (fun _ => ?_)
  refine j_aload_n (k4 := 0) (dQ (by decide +kernel)) rfl ?_
  refine j_iconst (n := (-1)) (dQ (by decide +kernel)) ?_
  refine j_cV (own := 12) (i := 104) (y2 := 206) (d2 := 1) (mc := 0) (ms := 0) (kc := 0) (ks := 0) (a := b1 + 0) (As := [.int (Int32.ofInt (-1))]) (st := []) (dQ (by decide +kernel)) hcls (by decide +kernel) (by decide) (by decide +kernel) (show 1 = jnp 206 by decide +kernel) (by decide) (show 0 ≤ 8 by decide) k4 (fun r hr => by cases hr; decide +kernel) (xm_tellN k4 n1 (by omega)) (fun v hv8 hq => ?_)
  obtain ⟨rfl, rfl⟩ := hq
  have n9 : ((fsm.set 0 (.int (Int32.ofInt 0))).set 1 (.int (Int32.ofInt (-1)))).length = 42 := by rw [List.length_set]; exact n1
  have f10 : ((fsm.set 0 (.int (Int32.ofInt 0))).set 1 (.int (Int32.ofInt (-1))))[2]? = some (.ref (g.2.2 + (b1 + 1))) := by
    rw [List.getElem?_set_ne (by decide)]
    exact f2
  have f11 : ((fsm.set 0 (.int (Int32.ofInt 0))).set 1 (.int (Int32.ofInt (-1))))[0]? = some (.int (Int32.ofInt 0)) := by
    rw [List.getElem?_set_ne (by decide)]
    exact f3
  have k12 : ((h.set (b1 + 0) (.inr (12, (fsm.set 0 (.int (Int32.ofInt 0)))))).set (b1 + 0) (.inr (12, ((fsm.set 0 (.int (Int32.ofInt 0))).set 1 (.int (Int32.ofInt (-1)))))))[b1 + 0]? = some (.inr (12, ((fsm.set 0 (.int (Int32.ofInt 0))).set 1 (.int (Int32.ofInt (-1)))))) := List.getElem?_set_self (List.getElem?_eq_some_iff.mp k4).1
  exact j_ret (v := some (.int (Int32.ofInt (-1)))) ⟨by decide +kernel, Or.inl (by decide +kernel)⟩ ⟨rfl, rfl⟩ rfl
set_option maxRecDepth 8192 in
theorem xk_train_ok {b0 : Nat} {fsx : List Value} {fss : List Value} {fsi : List Value} {fa : Nat → Int32} {fb : Nat → Int32} {fc : Nat → Int32} {x1 : Int32} {t : Int32} {n : Nat} (hx : h[b0 + 0]? = some (.inr (11, fsx))) (lx : fsx.length = 12) (px0 : fsx[0]? = some (.ref (g.2.2 + (b0 + 1)))) (hs : h[b0 + 1]? = some (.inr (7, fss))) (ls : fss.length = 20) (ps18 : fss[18]? = some (.ref (g.2.2 + (b0 + 37)))) (hi : h[b0 + 37]? = some (.inr (6, fsi))) (li : fsi.length = 8) (pi0 : fsi[0]? = some (.int t)) (pi1 : fsi[1]? = some (.ref (g.2.2 + (b0 + 38)))) (pi2 : fsi[2]? = some (.ref (g.2.2 + (b0 + 39)))) (pi3 : fsi[3]? = some (.ref (g.2.2 + (b0 + 40)))) (ha : h[b0 + 38]? = some (.inl (0, 3, fa))) (hb : h[b0 + 39]? = some (.inl (0, 3, fb))) (hc : h[b0 + 40]? = some (.inl (0, 3, fc))) (g1 : 1 ≤ x1.toInt ∧ x1.toInt ≤ 999) (et : t.toInt = (n : Int)) (en : 0 ≤ n ∧ n ≤ 2) {a : Nat} (ua : ∀ o, o < 62 → a + 0 ≠ b0 + o) (hM : MEN g h a fsx) : jCal l g 128 2 [.ref (g.2.2 + (b0 + 0)), .int x1] h 0 0 (fun v h' => ∃ r4 : Int32, r4.toInt = ((((n + 1) - 1) : Nat) : Int) ∧ ∃ r3 : Int32, r3.toInt = (((n + 1) : Nat) : Int) ∧ ∃ hv20, FgM (a + 0) ((((h.set (b0 + 38) (.inl (0, 3, (upd fa n x1)))).set (b0 + 39) (.inl (0, 3, (upd fb n (Int32.ofInt (-1)))))).set (b0 + 40) (.inl (0, 3, (upd fc n (Int32.ofInt 0))))).set (b0 + 37) (.inr (6, (fsi.set 0 (.int r3))))) hv20 ∧ v = some (.int r4) ∧ h' = (hv20.set (b0 + 0) (.inr (11, (fsx.set 7 (.int (Int32.ofInt 0))))))) := by
  have hcls : jcN 11 = (jyN 128).cls := by decide +kernel
  have cn0 : (Int32.ofInt 1).toInt = 1 := by decide
  have cn1 : (Int32.ofInt (-1)).toInt = -1 := by decide
  have cn2 : (Int32.ofInt 0).toInt = 0 := by decide
  refine jCal_of (by decide +kernel) (show 2 ≤ jmx 128 by decide +kernel) ?_
  show J l g 128 2 0 [some (.ref (g.2.2 + (b0 + 0))), some (.int x1), none] [] h 0 0 _
  refine j_iload_n (k4 := 1) (dQ (by decide +kernel)) rfl ?_
  refine j_cS (own := 11) (i := 73) (y2 := 34) (d2 := 1) (mc := 0) (ms := 0) (kc := 0) (ks := 0) (As := [.int x1]) (st := []) (dQ (by decide +kernel)) hcls (by decide +kernel) (by decide) (by decide +kernel) (show 1 = jnp 34 by decide +kernel) (by decide) (show 0 ≤ 8 by decide) (x_isName_1 (by omega) (by omega)) (fun v hv2 hq => ?_)
  obtain ⟨rfl, rfl⟩ := hq
  refine j_if_ne (off := 9) (tgt := 13) (dQ (by decide +kernel)) (by decide) (fun _ => ?_) (fun q => absurd (fun q => absurd (congrArg Int32.toInt q) (by rw [i32_z]; omega)) q)
  refine j_aload_n (k4 := 0) (dQ (by decide +kernel)) rfl ?_
  refine j_get (own := 11) (i := 10) (ci := 11) (f := 0) (dQ (by decide +kernel)) hcls (by decide +kernel) hx (fun r hr => by cases hr; decide +kernel) px0 ?_
  refine j_get (own := 11) (i := 239) (ci := 7) (f := 18) (dQ (by decide +kernel)) hcls (by decide +kernel) hs (fun r hr => by cases hr; decide +kernel) ps18 ?_
  refine j_iload_n (k4 := 1) (dQ (by decide +kernel)) rfl ?_
  refine j_cV (own := 11) (i := 243) (y2 := 129) (d2 := 1) (mc := 0) (ms := 0) (kc := 0) (ks := 0) (a := b0 + 37) (As := [.int x1]) (st := []) (dQ (by decide +kernel)) hcls (by decide +kernel) (by decide) (by decide +kernel) (show 1 = jnp 129 by decide +kernel) (by decide) (show 0 ≤ 8 by decide) hi (fun r hr => by cases hr; decide +kernel) (xs_addTrain hi li pi0 pi1 pi2 pi3 ha hb hc (by omega) (by omega)) (fun v hv6 hq => ?_)
  obtain ⟨r3, hr3, r4, hr4, rfl, rfl⟩ := hq
  have k7 : ((((h.set (b0 + 38) (.inl (0, 3, (upd fa n x1)))).set (b0 + 39) (.inl (0, 3, (upd fb n (Int32.ofInt (-1)))))).set (b0 + 40) (.inl (0, 3, (upd fc n (Int32.ofInt 0))))).set (b0 + 37) (.inr (6, (fsi.set 0 (.int r3)))))[b0 + 0]? = some (.inr (11, fsx)) := by rw [List.getElem?_set_ne (by omega), List.getElem?_set_ne (by omega), List.getElem?_set_ne (by omega), List.getElem?_set_ne (by omega)]; exact hx
  have k8 : ((((h.set (b0 + 38) (.inl (0, 3, (upd fa n x1)))).set (b0 + 39) (.inl (0, 3, (upd fb n (Int32.ofInt (-1)))))).set (b0 + 40) (.inl (0, 3, (upd fc n (Int32.ofInt 0))))).set (b0 + 37) (.inr (6, (fsi.set 0 (.int r3)))))[b0 + 1]? = some (.inr (7, fss)) := by rw [List.getElem?_set_ne (by omega), List.getElem?_set_ne (by omega), List.getElem?_set_ne (by omega), List.getElem?_set_ne (by omega)]; exact hs
  have n10 : (fsi.set 0 (.int r3)).length = 8 := by rw [List.length_set]; exact li
  have f11 : (fsi.set 0 (.int r3))[1]? = some (.ref (g.2.2 + (b0 + 38))) := by rw [List.getElem?_set_ne (by decide)]; exact pi1
  have f12 : (fsi.set 0 (.int r3))[2]? = some (.ref (g.2.2 + (b0 + 39))) := by rw [List.getElem?_set_ne (by decide)]; exact pi2
  have f13 : (fsi.set 0 (.int r3))[3]? = some (.ref (g.2.2 + (b0 + 40))) := by rw [List.getElem?_set_ne (by decide)]; exact pi3
  have f14 : (fsi.set 0 (.int r3))[0]? = some (.int r3) := List.getElem?_set_self (by rw [li]; decide)
  have k9 : ((((h.set (b0 + 38) (.inl (0, 3, (upd fa n x1)))).set (b0 + 39) (.inl (0, 3, (upd fb n (Int32.ofInt (-1)))))).set (b0 + 40) (.inl (0, 3, (upd fc n (Int32.ofInt 0))))).set (b0 + 37) (.inr (6, (fsi.set 0 (.int r3)))))[b0 + 37]? = some (.inr (6, (fsi.set 0 (.int r3)))) := by exact List.getElem?_set_self (by first | exact (List.getElem?_eq_some_iff.mp hi).1 | (simp only [List.length_set]; exact (List.getElem?_eq_some_iff.mp hi).1))
  have k15 : ((((h.set (b0 + 38) (.inl (0, 3, (upd fa n x1)))).set (b0 + 39) (.inl (0, 3, (upd fb n (Int32.ofInt (-1)))))).set (b0 + 40) (.inl (0, 3, (upd fc n (Int32.ofInt 0))))).set (b0 + 37) (.inr (6, (fsi.set 0 (.int r3)))))[b0 + 38]? = some (.inl (0, 3, (upd fa n x1))) := by rw [List.getElem?_set_ne (by omega), List.getElem?_set_ne (by omega), List.getElem?_set_ne (by omega)]; exact List.getElem?_set_self (by first | exact (List.getElem?_eq_some_iff.mp ha).1 | (simp only [List.length_set]; exact (List.getElem?_eq_some_iff.mp ha).1))
  have k16 : ((((h.set (b0 + 38) (.inl (0, 3, (upd fa n x1)))).set (b0 + 39) (.inl (0, 3, (upd fb n (Int32.ofInt (-1)))))).set (b0 + 40) (.inl (0, 3, (upd fc n (Int32.ofInt 0))))).set (b0 + 37) (.inr (6, (fsi.set 0 (.int r3)))))[b0 + 39]? = some (.inl (0, 3, (upd fb n (Int32.ofInt (-1))))) := by rw [List.getElem?_set_ne (by omega), List.getElem?_set_ne (by omega)]; exact List.getElem?_set_self (by first | exact (List.getElem?_eq_some_iff.mp hb).1 | (simp only [List.length_set]; exact (List.getElem?_eq_some_iff.mp hb).1))
  have k17 : ((((h.set (b0 + 38) (.inl (0, 3, (upd fa n x1)))).set (b0 + 39) (.inl (0, 3, (upd fb n (Int32.ofInt (-1)))))).set (b0 + 40) (.inl (0, 3, (upd fc n (Int32.ofInt 0))))).set (b0 + 37) (.inr (6, (fsi.set 0 (.int r3)))))[b0 + 40]? = some (.inl (0, 3, (upd fc n (Int32.ofInt 0)))) := by rw [List.getElem?_set_ne (by omega)]; exact List.getElem?_set_self (by first | exact (List.getElem?_eq_some_iff.mp hc).1 | (simp only [List.length_set]; exact (List.getElem?_eq_some_iff.mp hc).1))
  have M18 : MEN g ((((h.set (b0 + 38) (.inl (0, 3, (upd fa n x1)))).set (b0 + 39) (.inl (0, 3, (upd fb n (Int32.ofInt (-1)))))).set (b0 + 40) (.inl (0, 3, (upd fc n (Int32.ofInt 0))))).set (b0 + 37) (.inr (6, (fsi.set 0 (.int r3))))) a fsx := ((((hM.set (Ne.symm (ua 38 (by decide)))).set (Ne.symm (ua 39 (by decide)))).set (Ne.symm (ua 40 (by decide)))).set (Ne.symm (ua 37 (by decide))))
  refine j_istore_n (k4 := 2) (dQ (by decide +kernel)) (by decide +kernel) ?_
  refine j_iload_n (k4 := 2) (dQ (by decide +kernel)) rfl ?_
  refine j_iconst (n := (-1)) (dQ (by decide +kernel)) ?_
  refine j_icmp_ne (off := 10) (tgt := 37) (dQ (by decide +kernel)) (by decide) (fun _ => ?_) (fun q => absurd (fun q => absurd (congrArg Int32.toInt q) (by omega)) q)
  refine j_aload_n (k4 := 0) (dQ (by decide +kernel)) rfl ?_
  refine j_cV (own := 11) (i := 235) (y2 := 127) (d2 := 1) (mc := 0) (ms := 0) (kc := 0) (ks := 0) (a := b0 + 0) (As := []) (st := []) (dQ (by decide +kernel)) hcls (by decide +kernel) (by decide) (by decide +kernel) (show 0 = jnp 127 by decide +kernel) (by decide) (show 0 ≤ 8 by decide) k7 (fun r hr => by cases hr; decide +kernel) (x_forget k7 M18) (fun v hv20 hq => ?_)
  obtain ⟨rfl, F21⟩ := hq
  have k22 : hv20[b0 + 0]? = some (.inr (11, fsx)) := (F21 _ (Ne.symm (ua 0 (by decide)))).trans k7
  have k23 : hv20[b0 + 1]? = some (.inr (7, fss)) := (F21 _ (Ne.symm (ua 1 (by decide)))).trans k8
  have k24 : hv20[b0 + 37]? = some (.inr (6, (fsi.set 0 (.int r3)))) := (F21 _ (Ne.symm (ua 37 (by decide)))).trans k9
  have k25 : hv20[b0 + 38]? = some (.inl (0, 3, (upd fa n x1))) := (F21 _ (Ne.symm (ua 38 (by decide)))).trans k15
  have k26 : hv20[b0 + 39]? = some (.inl (0, 3, (upd fb n (Int32.ofInt (-1))))) := (F21 _ (Ne.symm (ua 39 (by decide)))).trans k16
  have k27 : hv20[b0 + 40]? = some (.inl (0, 3, (upd fc n (Int32.ofInt 0)))) := (F21 _ (Ne.symm (ua 40 (by decide)))).trans k17
  refine j_aload_n (k4 := 0) (dQ (by decide +kernel)) rfl ?_
  refine j_iload_n (k4 := 2) (dQ (by decide +kernel)) rfl ?_
  refine j_cV (own := 11) (i := 48) (y2 := 17) (d2 := 1) (mc := 0) (ms := 0) (kc := 0) (ks := 0) (a := b0 + 0) (As := [.int r4]) (st := []) (dQ (by decide +kernel)) hcls (by decide +kernel) (by decide) (by decide +kernel) (show 1 = jnp 17 by decide +kernel) (by decide) (show 0 ≤ 8 by decide) k22 (fun r hr => by cases hr; decide +kernel) (x_allow k22 lx) (fun v hv29 hq => ?_)
  obtain ⟨rfl, rfl⟩ := hq
  have n30 : (fsx.set 7 (.int (Int32.ofInt 0))).length = 12 := by rw [List.length_set]; exact lx
  have f31 : (fsx.set 7 (.int (Int32.ofInt 0)))[0]? = some (.ref (g.2.2 + (b0 + 1))) := by
    rw [List.getElem?_set_ne (by decide)]
    exact px0
  have k32 : (hv20.set (b0 + 0) (.inr (11, (fsx.set 7 (.int (Int32.ofInt 0))))))[b0 + 0]? = some (.inr (11, (fsx.set 7 (.int (Int32.ofInt 0))))) := List.getElem?_set_self (List.getElem?_eq_some_iff.mp k22).1
  have k33 : (hv20.set (b0 + 0) (.inr (11, (fsx.set 7 (.int (Int32.ofInt 0))))))[b0 + 1]? = some (.inr (7, fss)) := by
    rw [List.getElem?_set_ne (by omega)]
    exact k23
  have k34 : (hv20.set (b0 + 0) (.inr (11, (fsx.set 7 (.int (Int32.ofInt 0))))))[b0 + 37]? = some (.inr (6, (fsi.set 0 (.int r3)))) := by
    rw [List.getElem?_set_ne (by omega)]
    exact k24
  have k35 : (hv20.set (b0 + 0) (.inr (11, (fsx.set 7 (.int (Int32.ofInt 0))))))[b0 + 38]? = some (.inl (0, 3, (upd fa n x1))) := by
    rw [List.getElem?_set_ne (by omega)]
    exact k25
  have k36 : (hv20.set (b0 + 0) (.inr (11, (fsx.set 7 (.int (Int32.ofInt 0))))))[b0 + 39]? = some (.inl (0, 3, (upd fb n (Int32.ofInt (-1))))) := by
    rw [List.getElem?_set_ne (by omega)]
    exact k26
  have k37 : (hv20.set (b0 + 0) (.inr (11, (fsx.set 7 (.int (Int32.ofInt 0))))))[b0 + 40]? = some (.inl (0, 3, (upd fc n (Int32.ofInt 0)))) := by
    rw [List.getElem?_set_ne (by omega)]
    exact k27
  exact j_ret (v := some (.int r4)) ⟨by decide +kernel, Or.inl (by decide +kernel)⟩ ⟨r4, by omega, r3, by omega, hv20, F21, rfl, rfl⟩ rfl
set_option maxRecDepth 8192 in
theorem xk_train_full {b0 : Nat} {fsx : List Value} {fss : List Value} {fsi : List Value} {x1 : Int32} {t : Int32} {n : Nat} (hx : h[b0 + 0]? = some (.inr (11, fsx))) (lx : fsx.length = 12) (px0 : fsx[0]? = some (.ref (g.2.2 + (b0 + 1)))) (hs : h[b0 + 1]? = some (.inr (7, fss))) (ls : fss.length = 20) (ps18 : fss[18]? = some (.ref (g.2.2 + (b0 + 37)))) (hi : h[b0 + 37]? = some (.inr (6, fsi))) (li : fsi.length = 8) (pi0 : fsi[0]? = some (.int t)) (g1 : 1 ≤ x1.toInt ∧ x1.toInt ≤ 999) (et : t.toInt = (n : Int)) (en : 3 ≤ n ∧ n ≤ 3) : jCal l g 128 2 [.ref (g.2.2 + (b0 + 0)), .int x1] h 0 0 (fun v h' => v = some (.int (Int32.ofInt (-5))) ∧ h' = (h.set (b0 + 0) (.inr (11, (fsx.set 7 (.int (Int32.ofInt (-5)))))))) := by
  have hcls : jcN 11 = (jyN 128).cls := by decide +kernel
  have cn0 : (Int32.ofInt 1).toInt = 1 := by decide
  have cn1 : (Int32.ofInt (-1)).toInt = -1 := by decide
  have cn2 : (Int32.ofInt (-5)).toInt = -5 := by decide
  refine jCal_of (by decide +kernel) (show 2 ≤ jmx 128 by decide +kernel) ?_
  show J l g 128 2 0 [some (.ref (g.2.2 + (b0 + 0))), some (.int x1), none] [] h 0 0 _
  refine j_iload_n (k4 := 1) (dQ (by decide +kernel)) rfl ?_
  refine j_cS (own := 11) (i := 73) (y2 := 34) (d2 := 1) (mc := 0) (ms := 0) (kc := 0) (ks := 0) (As := [.int x1]) (st := []) (dQ (by decide +kernel)) hcls (by decide +kernel) (by decide) (by decide +kernel) (show 1 = jnp 34 by decide +kernel) (by decide) (show 0 ≤ 8 by decide) (x_isName_1 (by omega) (by omega)) (fun v hv2 hq => ?_)
  obtain ⟨rfl, rfl⟩ := hq
  refine j_if_ne (off := 9) (tgt := 13) (dQ (by decide +kernel)) (by decide) (fun _ => ?_) (fun q => absurd (fun q => absurd (congrArg Int32.toInt q) (by rw [i32_z]; omega)) q)
  refine j_aload_n (k4 := 0) (dQ (by decide +kernel)) rfl ?_
  refine j_get (own := 11) (i := 10) (ci := 11) (f := 0) (dQ (by decide +kernel)) hcls (by decide +kernel) hx (fun r hr => by cases hr; decide +kernel) px0 ?_
  refine j_get (own := 11) (i := 239) (ci := 7) (f := 18) (dQ (by decide +kernel)) hcls (by decide +kernel) hs (fun r hr => by cases hr; decide +kernel) ps18 ?_
  refine j_iload_n (k4 := 1) (dQ (by decide +kernel)) rfl ?_
  refine j_cV (own := 11) (i := 243) (y2 := 129) (d2 := 1) (mc := 0) (ms := 0) (kc := 0) (ks := 0) (a := b0 + 37) (As := [.int x1]) (st := []) (dQ (by decide +kernel)) hcls (by decide +kernel) (by decide) (by decide +kernel) (show 1 = jnp 129 by decide +kernel) (by decide) (show 0 ≤ 8 by decide) hi (fun r hr => by cases hr; decide +kernel) (xs_addTrainF hi li pi0 (by omega) (by omega)) (fun v hv4 hq => ?_)
  obtain ⟨rfl, rfl⟩ := hq
  have k5 : h[b0 + 0]? = some (.inr (11, fsx)) := by exact hx
  have k6 : h[b0 + 1]? = some (.inr (7, fss)) := by exact hs
  have k7 : h[b0 + 37]? = some (.inr (6, fsi)) := by exact hi
  refine j_istore_n (k4 := 2) (dQ (by decide +kernel)) (by decide +kernel) ?_
  refine j_iload_n (k4 := 2) (dQ (by decide +kernel)) rfl ?_
  refine j_iconst (n := (-1)) (dQ (by decide +kernel)) ?_
  refine j_icmp_ne (off := 10) (tgt := 37) (dQ (by decide +kernel)) (by decide) (fun q => absurd (i32_eq (by omega)) q) (fun _ => ?_)
  refine j_aload_n (k4 := 0) (dQ (by decide +kernel)) rfl ?_
  refine x_bi (n := (-5)) (dQ (by decide +kernel)) (by decide) ?_
  refine j_cV (own := 11) (i := 41) (y2 := 16) (d2 := 1) (mc := 0) (ms := 0) (kc := 0) (ks := 0) (a := b0 + 0) (As := [.int (Int32.ofInt (-5))]) (st := []) (dQ (by decide +kernel)) hcls (by decide +kernel) (by decide) (by decide +kernel) (show 1 = jnp 16 by decide +kernel) (by decide) (show 0 ≤ 8 by decide) k5 (fun r hr => by cases hr; decide +kernel) (x_refuse k5 lx) (fun v hv9 hq => ?_)
  obtain ⟨rfl, rfl⟩ := hq
  have n10 : (fsx.set 7 (.int (Int32.ofInt (-5)))).length = 12 := by rw [List.length_set]; exact lx
  have f11 : (fsx.set 7 (.int (Int32.ofInt (-5))))[0]? = some (.ref (g.2.2 + (b0 + 1))) := by
    rw [List.getElem?_set_ne (by decide)]
    exact px0
  have k12 : (h.set (b0 + 0) (.inr (11, (fsx.set 7 (.int (Int32.ofInt (-5)))))))[b0 + 0]? = some (.inr (11, (fsx.set 7 (.int (Int32.ofInt (-5)))))) := List.getElem?_set_self (List.getElem?_eq_some_iff.mp k5).1
  have k13 : (h.set (b0 + 0) (.inr (11, (fsx.set 7 (.int (Int32.ofInt (-5)))))))[b0 + 1]? = some (.inr (7, fss)) := by
    rw [List.getElem?_set_ne (by omega)]
    exact k6
  have k14 : (h.set (b0 + 0) (.inr (11, (fsx.set 7 (.int (Int32.ofInt (-5)))))))[b0 + 37]? = some (.inr (6, fsi)) := by
    rw [List.getElem?_set_ne (by omega)]
    exact k7
  exact j_ret (v := some (.int (Int32.ofInt (-5)))) ⟨by decide +kernel, Or.inl (by decide +kernel)⟩ ⟨rfl, rfl⟩ rfl
set_option maxRecDepth 8192 in
theorem xr_train_ok {b1 : Nat} {fsm : List Value} {fr : Nat → Int32} {x1 : Int32} {t : Int32} {n : Nat} (hm : h[b1 + 0]? = some (.inr (12, fsm))) (lm : fsm.length = 42) (pm2 : fsm[2]? = some (.ref (g.2.2 + (b1 + 1)))) (hr : h[b1 + 1]? = some (.inl (0, 5270, fr))) (g1 : 1 ≤ x1.toInt ∧ x1.toInt ≤ 999) (et : t.toInt = (n : Int)) (en : 0 ≤ n ∧ n ≤ 2) (qt : fr 3 = t) : jCal l g 279 3 [.ref (g.2.2 + (b1 + 0)), .int x1] h 0 0 (fun v h' => ∃ r15 : Int32, r15.toInt = (((n + 1) : Nat) : Int) ∧ ∃ r18 : Int32, r18.toInt = ((((n + 1) - 1) : Nat) : Int) ∧ v = some (.int r18) ∧ h' = (((((h.set (b1 + 0) (.inr (12, (fsm.set 0 (.int (Int32.ofInt 0)))))).set (b1 + 1) (.inl (0, 5270, (upd fr (452 + n) x1)))).set (b1 + 1) (.inl (0, 5270, (upd (upd fr (452 + n) x1) (5024 + (2 * n)) (Int32.ofInt (-1)))))).set (b1 + 1) (.inl (0, 5270, (upd (upd (upd fr (452 + n) x1) (5024 + (2 * n)) (Int32.ofInt (-1))) 3 r15)))).set (b1 + 0) (.inr (12, ((fsm.set 0 (.int (Int32.ofInt 0))).set 1 (.int (Int32.ofInt 0))))))) := by
  have hcls : jcN 12 = (jyN 279).cls := by decide +kernel
  have cn0 : (Int32.ofInt 0).toInt = 0 := by decide
  have cn1 : (Int32.ofInt 1).toInt = 1 := by decide
  have cn2 : (Int32.ofInt 3).toInt = 3 := by decide
  have cn3 : (Int32.ofInt 452).toInt = 452 := by decide
  have cn4 : (Int32.ofInt 5024).toInt = 5024 := by decide
  have cn5 : (Int32.ofInt 2).toInt = 2 := by decide
  have cn6 : (Int32.ofInt (-1)).toInt = -1 := by decide
  refine jCal_of (by decide +kernel) (show 2 ≤ jmx 279 by decide +kernel) ?_
  show J l g 279 3 0 [some (.ref (g.2.2 + (b1 + 0))), some (.int x1)] [] h 0 0 _
  refine j_aload_n (k4 := 0) (dQ (by decide +kernel)) rfl ?_
  refine j_iconst (n := 0) (dQ (by decide +kernel)) ?_
  refine j_put (own := 12) (i := 94) (ci := 12) (f := 0) (ty := .int) (dQ (by decide +kernel)) hcls (by decide +kernel) hm rfl (by decide +kernel) (by rw [lm]; decide) (by decide +kernel) (by decide +kernel) rfl rfl ?_
  have n1 : (fsm.set 0 (.int (Int32.ofInt 0))).length = 42 := by rw [List.length_set]; exact lm
  have f2 : (fsm.set 0 (.int (Int32.ofInt 0)))[2]? = some (.ref (g.2.2 + (b1 + 1))) := by
    rw [List.getElem?_set_ne (by decide)]
    exact pm2
  have f3 : (fsm.set 0 (.int (Int32.ofInt 0)))[0]? = some (.int (Int32.ofInt 0)) := List.getElem?_set_self (by rw [lm]; decide)
  have k4 : (h.set (b1 + 0) (.inr (12, (fsm.set 0 (.int (Int32.ofInt 0))))))[b1 + 0]? = some (.inr (12, (fsm.set 0 (.int (Int32.ofInt 0))))) := List.getElem?_set_self (List.getElem?_eq_some_iff.mp hm).1
  have k5 : (h.set (b1 + 0) (.inr (12, (fsm.set 0 (.int (Int32.ofInt 0))))))[b1 + 1]? = some (.inl (0, 5270, fr)) := by
    rw [List.getElem?_set_ne (by omega)]
    exact hr
  refine j_iload_n (k4 := 1) (dQ (by decide +kernel)) rfl ?_
  refine j_cS (own := 12) (i := 301) (y2 := 249) (d2 := 2) (mc := 0) (ms := 0) (kc := 0) (ks := 0) (As := [.int x1]) (st := []) (dQ (by decide +kernel)) hcls (by decide +kernel) (by decide) (by decide +kernel) (show 1 = jnp 249 by decide +kernel) (by decide) (show 0 ≤ 8 by decide) (xm_isName_1 (by omega) (by omega)) (fun v hv7 hq => ?_)
  obtain ⟨rfl, rfl⟩ := hq
  refine j_if_ne (off := 9) (tgt := 18) (dQ (by decide +kernel)) (by decide) (fun _ => ?_) (fun q => absurd (fun q => absurd (congrArg Int32.toInt q) (by rw [i32_z]; omega)) q)
  refine j_aload_n (k4 := 0) (dQ (by decide +kernel)) rfl ?_
  refine j_get (own := 12) (i := 7) (ci := 12) (f := 2) (dQ (by decide +kernel)) hcls (by decide +kernel) k4 (fun r hr => by cases hr; decide +kernel) f2 ?_
  refine j_iconst (n := 3) (dQ (by decide +kernel)) ?_
  refine x_aldv (v := t) 3 (dQ (by decide +kernel)) k5 (by omega) (by omega) (by rw [qt]) ?_
  refine j_iconst (n := 3) (dQ (by decide +kernel)) ?_
  refine j_icmp_ne (off := 10) (tgt := 35) (dQ (by decide +kernel)) (by decide) (fun _ => ?_) (fun q => absurd (fun q => absurd (congrArg Int32.toInt q) (by omega)) q)
  refine j_aload_n (k4 := 0) (dQ (by decide +kernel)) rfl ?_
  refine j_get (own := 12) (i := 7) (ci := 12) (f := 2) (dQ (by decide +kernel)) hcls (by decide +kernel) k4 (fun r hr => by cases hr; decide +kernel) f2 ?_
  refine x_si (n := 452) (dQ (by decide +kernel)) (by decide) ?_
  refine j_aload_n (k4 := 0) (dQ (by decide +kernel)) rfl ?_
  refine j_get (own := 12) (i := 7) (ci := 12) (f := 2) (dQ (by decide +kernel)) hcls (by decide +kernel) k4 (fun r hr => by cases hr; decide +kernel) f2 ?_
  refine j_iconst (n := 3) (dQ (by decide +kernel)) ?_
  refine x_aldv (v := t) 3 (dQ (by decide +kernel)) k5 (by omega) (by omega) (by rw [qt]) ?_
  refine x_add (dQ (by decide +kernel)) (by omega) (fun r8 hr8 => ?_)
  refine j_iload_n (k4 := 1) (dQ (by decide +kernel)) rfl ?_
  refine x_ast (452 + n) (dQ (by decide +kernel)) k5 (by omega) (by omega) ?_
  have k9 : ((h.set (b1 + 0) (.inr (12, (fsm.set 0 (.int (Int32.ofInt 0)))))).set (b1 + 1) (.inl (0, 5270, (upd fr (452 + n) x1))))[b1 + 0]? = some (.inr (12, (fsm.set 0 (.int (Int32.ofInt 0))))) := by
    rw [List.getElem?_set_ne (by omega)]
    exact k4
  have k10 : ((h.set (b1 + 0) (.inr (12, (fsm.set 0 (.int (Int32.ofInt 0)))))).set (b1 + 1) (.inl (0, 5270, (upd fr (452 + n) x1))))[b1 + 1]? = some (.inl (0, 5270, (upd fr (452 + n) x1))) := List.getElem?_set_self (List.getElem?_eq_some_iff.mp k5).1
  refine j_aload_n (k4 := 0) (dQ (by decide +kernel)) rfl ?_
  refine j_get (own := 12) (i := 7) (ci := 12) (f := 2) (dQ (by decide +kernel)) hcls (by decide +kernel) k9 (fun r hr => by cases hr; decide +kernel) f2 ?_
  refine x_si (n := 5024) (dQ (by decide +kernel)) (by decide) ?_
  refine j_iconst (n := 2) (dQ (by decide +kernel)) ?_
  refine j_aload_n (k4 := 0) (dQ (by decide +kernel)) rfl ?_
  refine j_get (own := 12) (i := 7) (ci := 12) (f := 2) (dQ (by decide +kernel)) hcls (by decide +kernel) k9 (fun r hr => by cases hr; decide +kernel) f2 ?_
  refine j_iconst (n := 3) (dQ (by decide +kernel)) ?_
  refine x_aldv (v := t) 3 (dQ (by decide +kernel)) k10 (by omega) (by omega) (by rw [upd_ne (show 3 ≠ (452 + n) by omega), qt]) ?_
  refine x_mul (z := 2 * t.toInt) (dQ (by decide +kernel)) (by rw [cn5]) (by omega) (fun r11 hr11 => ?_)
  refine x_add (dQ (by decide +kernel)) (by omega) (fun r12 hr12 => ?_)
  refine j_iconst (n := (-1)) (dQ (by decide +kernel)) ?_
  refine x_ast (5024 + (2 * n)) (dQ (by decide +kernel)) k10 (by omega) (by omega) ?_
  have k13 : (((h.set (b1 + 0) (.inr (12, (fsm.set 0 (.int (Int32.ofInt 0)))))).set (b1 + 1) (.inl (0, 5270, (upd fr (452 + n) x1)))).set (b1 + 1) (.inl (0, 5270, (upd (upd fr (452 + n) x1) (5024 + (2 * n)) (Int32.ofInt (-1))))))[b1 + 0]? = some (.inr (12, (fsm.set 0 (.int (Int32.ofInt 0))))) := by
    rw [List.getElem?_set_ne (by omega)]
    exact k9
  have k14 : (((h.set (b1 + 0) (.inr (12, (fsm.set 0 (.int (Int32.ofInt 0)))))).set (b1 + 1) (.inl (0, 5270, (upd fr (452 + n) x1)))).set (b1 + 1) (.inl (0, 5270, (upd (upd fr (452 + n) x1) (5024 + (2 * n)) (Int32.ofInt (-1))))))[b1 + 1]? = some (.inl (0, 5270, (upd (upd fr (452 + n) x1) (5024 + (2 * n)) (Int32.ofInt (-1))))) := List.getElem?_set_self (List.getElem?_eq_some_iff.mp k10).1
  refine j_aload_n (k4 := 0) (dQ (by decide +kernel)) rfl ?_
  refine j_get (own := 12) (i := 7) (ci := 12) (f := 2) (dQ (by decide +kernel)) hcls (by decide +kernel) k13 (fun r hr => by cases hr; decide +kernel) f2 ?_
  refine j_iconst (n := 3) (dQ (by decide +kernel)) ?_
  refine j_dup2 (dQ (by decide +kernel)) rfl rfl ?_
  refine x_aldv (v := t) 3 (dQ (by decide +kernel)) k14 (by omega) (by omega) (by rw [upd_ne (show 3 ≠ (5024 + (2 * n)) by omega), upd_ne (show 3 ≠ (452 + n) by omega), qt]) ?_
  refine j_iconst (n := 1) (dQ (by decide +kernel)) ?_
  refine x_add (dQ (by decide +kernel)) (by omega) (fun r15 hr15 => ?_)
  refine x_ast 3 (dQ (by decide +kernel)) k14 (by omega) (by omega) ?_
  have k16 : ((((h.set (b1 + 0) (.inr (12, (fsm.set 0 (.int (Int32.ofInt 0)))))).set (b1 + 1) (.inl (0, 5270, (upd fr (452 + n) x1)))).set (b1 + 1) (.inl (0, 5270, (upd (upd fr (452 + n) x1) (5024 + (2 * n)) (Int32.ofInt (-1)))))).set (b1 + 1) (.inl (0, 5270, (upd (upd (upd fr (452 + n) x1) (5024 + (2 * n)) (Int32.ofInt (-1))) 3 r15))))[b1 + 0]? = some (.inr (12, (fsm.set 0 (.int (Int32.ofInt 0))))) := by
    rw [List.getElem?_set_ne (by omega)]
    exact k13
  have k17 : ((((h.set (b1 + 0) (.inr (12, (fsm.set 0 (.int (Int32.ofInt 0)))))).set (b1 + 1) (.inl (0, 5270, (upd fr (452 + n) x1)))).set (b1 + 1) (.inl (0, 5270, (upd (upd fr (452 + n) x1) (5024 + (2 * n)) (Int32.ofInt (-1)))))).set (b1 + 1) (.inl (0, 5270, (upd (upd (upd fr (452 + n) x1) (5024 + (2 * n)) (Int32.ofInt (-1))) 3 r15))))[b1 + 1]? = some (.inl (0, 5270, (upd (upd (upd fr (452 + n) x1) (5024 + (2 * n)) (Int32.ofInt (-1))) 3 r15))) := List.getElem?_set_self (List.getElem?_eq_some_iff.mp k14).1
  refine j_aload_n (k4 := 0) (dQ (by decide +kernel)) rfl ?_
  refine j_aload_n (k4 := 0) (dQ (by decide +kernel)) rfl ?_
  refine j_get (own := 12) (i := 7) (ci := 12) (f := 2) (dQ (by decide +kernel)) hcls (by decide +kernel) k16 (fun r hr => by cases hr; decide +kernel) f2 ?_
  refine j_iconst (n := 3) (dQ (by decide +kernel)) ?_
  refine x_aldv (v := r15) 3 (dQ (by decide +kernel)) k17 (by omega) (by omega) (by rw [upd_eq]) ?_
  refine j_iconst (n := 1) (dQ (by decide +kernel)) ?_
  refine x_sub (dQ (by decide +kernel)) (by omega) (fun r18 hr18 => ?_)
  refine j_cV (own := 12) (i := 104) (y2 := 206) (d2 := 1) (mc := 0) (ms := 0) (kc := 0) (ks := 0) (a := b1 + 0) (As := [.int r18]) (st := []) (dQ (by decide +kernel)) hcls (by decide +kernel) (by decide) (by decide +kernel) (show 1 = jnp 206 by decide +kernel) (by decide) (show 0 ≤ 8 by decide) k16 (fun r hr => by cases hr; decide +kernel) (xm_tellP k16 n1 (by omega)) (fun v hv20 hq => ?_)
  obtain ⟨rfl, rfl⟩ := hq
  have n21 : ((fsm.set 0 (.int (Int32.ofInt 0))).set 1 (.int (Int32.ofInt 0))).length = 42 := by rw [List.length_set]; exact n1
  have f22 : ((fsm.set 0 (.int (Int32.ofInt 0))).set 1 (.int (Int32.ofInt 0)))[2]? = some (.ref (g.2.2 + (b1 + 1))) := by
    rw [List.getElem?_set_ne (by decide)]
    exact f2
  have f23 : ((fsm.set 0 (.int (Int32.ofInt 0))).set 1 (.int (Int32.ofInt 0)))[0]? = some (.int (Int32.ofInt 0)) := by
    rw [List.getElem?_set_ne (by decide)]
    exact f3
  have k24 : (((((h.set (b1 + 0) (.inr (12, (fsm.set 0 (.int (Int32.ofInt 0)))))).set (b1 + 1) (.inl (0, 5270, (upd fr (452 + n) x1)))).set (b1 + 1) (.inl (0, 5270, (upd (upd fr (452 + n) x1) (5024 + (2 * n)) (Int32.ofInt (-1)))))).set (b1 + 1) (.inl (0, 5270, (upd (upd (upd fr (452 + n) x1) (5024 + (2 * n)) (Int32.ofInt (-1))) 3 r15)))).set (b1 + 0) (.inr (12, ((fsm.set 0 (.int (Int32.ofInt 0))).set 1 (.int (Int32.ofInt 0))))))[b1 + 0]? = some (.inr (12, ((fsm.set 0 (.int (Int32.ofInt 0))).set 1 (.int (Int32.ofInt 0))))) := List.getElem?_set_self (List.getElem?_eq_some_iff.mp k16).1
  have k25 : (((((h.set (b1 + 0) (.inr (12, (fsm.set 0 (.int (Int32.ofInt 0)))))).set (b1 + 1) (.inl (0, 5270, (upd fr (452 + n) x1)))).set (b1 + 1) (.inl (0, 5270, (upd (upd fr (452 + n) x1) (5024 + (2 * n)) (Int32.ofInt (-1)))))).set (b1 + 1) (.inl (0, 5270, (upd (upd (upd fr (452 + n) x1) (5024 + (2 * n)) (Int32.ofInt (-1))) 3 r15)))).set (b1 + 0) (.inr (12, ((fsm.set 0 (.int (Int32.ofInt 0))).set 1 (.int (Int32.ofInt 0))))))[b1 + 1]? = some (.inl (0, 5270, (upd (upd (upd fr (452 + n) x1) (5024 + (2 * n)) (Int32.ofInt (-1))) 3 r15))) := by
    rw [List.getElem?_set_ne (by omega)]
    exact k17
  exact j_ret (v := some (.int r18)) ⟨by decide +kernel, Or.inl (by decide +kernel)⟩ ⟨r15, by omega, r18, by omega, rfl, rfl⟩ rfl
set_option maxRecDepth 8192 in
theorem xr_train_full {b1 : Nat} {fsm : List Value} {fr : Nat → Int32} {x1 : Int32} {t : Int32} {n : Nat} (hm : h[b1 + 0]? = some (.inr (12, fsm))) (lm : fsm.length = 42) (pm2 : fsm[2]? = some (.ref (g.2.2 + (b1 + 1)))) (hr : h[b1 + 1]? = some (.inl (0, 5270, fr))) (g1 : 1 ≤ x1.toInt ∧ x1.toInt ≤ 999) (et : t.toInt = (n : Int)) (en : 3 ≤ n ∧ n ≤ 3) (qt : fr 3 = t) : jCal l g 279 3 [.ref (g.2.2 + (b1 + 0)), .int x1] h 0 0 (fun v h' => v = some (.int (Int32.ofInt (-5))) ∧ h' = ((h.set (b1 + 0) (.inr (12, (fsm.set 0 (.int (Int32.ofInt 0)))))).set (b1 + 0) (.inr (12, ((fsm.set 0 (.int (Int32.ofInt 0))).set 1 (.int (Int32.ofInt (-5)))))))) := by
  have hcls : jcN 12 = (jyN 279).cls := by decide +kernel
  have cn0 : (Int32.ofInt 0).toInt = 0 := by decide
  have cn1 : (Int32.ofInt 1).toInt = 1 := by decide
  have cn2 : (Int32.ofInt 3).toInt = 3 := by decide
  have cn3 : (Int32.ofInt (-5)).toInt = -5 := by decide
  refine jCal_of (by decide +kernel) (show 2 ≤ jmx 279 by decide +kernel) ?_
  show J l g 279 3 0 [some (.ref (g.2.2 + (b1 + 0))), some (.int x1)] [] h 0 0 _
  refine j_aload_n (k4 := 0) (dQ (by decide +kernel)) rfl ?_
  refine j_iconst (n := 0) (dQ (by decide +kernel)) ?_
  refine j_put (own := 12) (i := 94) (ci := 12) (f := 0) (ty := .int) (dQ (by decide +kernel)) hcls (by decide +kernel) hm rfl (by decide +kernel) (by rw [lm]; decide) (by decide +kernel) (by decide +kernel) rfl rfl ?_
  have n1 : (fsm.set 0 (.int (Int32.ofInt 0))).length = 42 := by rw [List.length_set]; exact lm
  have f2 : (fsm.set 0 (.int (Int32.ofInt 0)))[2]? = some (.ref (g.2.2 + (b1 + 1))) := by
    rw [List.getElem?_set_ne (by decide)]
    exact pm2
  have f3 : (fsm.set 0 (.int (Int32.ofInt 0)))[0]? = some (.int (Int32.ofInt 0)) := List.getElem?_set_self (by rw [lm]; decide)
  have k4 : (h.set (b1 + 0) (.inr (12, (fsm.set 0 (.int (Int32.ofInt 0))))))[b1 + 0]? = some (.inr (12, (fsm.set 0 (.int (Int32.ofInt 0))))) := List.getElem?_set_self (List.getElem?_eq_some_iff.mp hm).1
  have k5 : (h.set (b1 + 0) (.inr (12, (fsm.set 0 (.int (Int32.ofInt 0))))))[b1 + 1]? = some (.inl (0, 5270, fr)) := by
    rw [List.getElem?_set_ne (by omega)]
    exact hr
  refine j_iload_n (k4 := 1) (dQ (by decide +kernel)) rfl ?_
  refine j_cS (own := 12) (i := 301) (y2 := 249) (d2 := 2) (mc := 0) (ms := 0) (kc := 0) (ks := 0) (As := [.int x1]) (st := []) (dQ (by decide +kernel)) hcls (by decide +kernel) (by decide) (by decide +kernel) (show 1 = jnp 249 by decide +kernel) (by decide) (show 0 ≤ 8 by decide) (xm_isName_1 (by omega) (by omega)) (fun v hv7 hq => ?_)
  obtain ⟨rfl, rfl⟩ := hq
  refine j_if_ne (off := 9) (tgt := 18) (dQ (by decide +kernel)) (by decide) (fun _ => ?_) (fun q => absurd (fun q => absurd (congrArg Int32.toInt q) (by rw [i32_z]; omega)) q)
  refine j_aload_n (k4 := 0) (dQ (by decide +kernel)) rfl ?_
  refine j_get (own := 12) (i := 7) (ci := 12) (f := 2) (dQ (by decide +kernel)) hcls (by decide +kernel) k4 (fun r hr => by cases hr; decide +kernel) f2 ?_
  refine j_iconst (n := 3) (dQ (by decide +kernel)) ?_
  refine x_aldv (v := t) 3 (dQ (by decide +kernel)) k5 (by omega) (by omega) (by rw [qt]) ?_
  refine j_iconst (n := 3) (dQ (by decide +kernel)) ?_
  refine j_icmp_ne (off := 10) (tgt := 35) (dQ (by decide +kernel)) (by decide) (fun q => absurd (i32_eq (by omega)) q) (fun _ => ?_)
  refine j_aload_n (k4 := 0) (dQ (by decide +kernel)) rfl ?_
  refine x_bi (n := (-5)) (dQ (by decide +kernel)) (by decide) ?_
  refine j_cV (own := 12) (i := 104) (y2 := 206) (d2 := 1) (mc := 0) (ms := 0) (kc := 0) (ks := 0) (a := b1 + 0) (As := [.int (Int32.ofInt (-5))]) (st := []) (dQ (by decide +kernel)) hcls (by decide +kernel) (by decide) (by decide +kernel) (show 1 = jnp 206 by decide +kernel) (by decide) (show 0 ≤ 8 by decide) k4 (fun r hr => by cases hr; decide +kernel) (xm_tellN k4 n1 (by omega)) (fun v hv9 hq => ?_)
  obtain ⟨rfl, rfl⟩ := hq
  have n10 : ((fsm.set 0 (.int (Int32.ofInt 0))).set 1 (.int (Int32.ofInt (-5)))).length = 42 := by rw [List.length_set]; exact n1
  have f11 : ((fsm.set 0 (.int (Int32.ofInt 0))).set 1 (.int (Int32.ofInt (-5))))[2]? = some (.ref (g.2.2 + (b1 + 1))) := by
    rw [List.getElem?_set_ne (by decide)]
    exact f2
  have f12 : ((fsm.set 0 (.int (Int32.ofInt 0))).set 1 (.int (Int32.ofInt (-5))))[0]? = some (.int (Int32.ofInt 0)) := by
    rw [List.getElem?_set_ne (by decide)]
    exact f3
  have k13 : ((h.set (b1 + 0) (.inr (12, (fsm.set 0 (.int (Int32.ofInt 0)))))).set (b1 + 0) (.inr (12, ((fsm.set 0 (.int (Int32.ofInt 0))).set 1 (.int (Int32.ofInt (-5)))))))[b1 + 0]? = some (.inr (12, ((fsm.set 0 (.int (Int32.ofInt 0))).set 1 (.int (Int32.ofInt (-5)))))) := List.getElem?_set_self (List.getElem?_eq_some_iff.mp k4).1
  have k14 : ((h.set (b1 + 0) (.inr (12, (fsm.set 0 (.int (Int32.ofInt 0)))))).set (b1 + 0) (.inr (12, ((fsm.set 0 (.int (Int32.ofInt 0))).set 1 (.int (Int32.ofInt (-5)))))))[b1 + 1]? = some (.inl (0, 5270, fr)) := by
    rw [List.getElem?_set_ne (by omega)]
    exact k5
  exact j_ret (v := some (.int (Int32.ofInt (-5)))) ⟨by decide +kernel, Or.inl (by decide +kernel)⟩ ⟨rfl, rfl⟩ rfl
set_option maxRecDepth 8192 in
theorem xk_clear_ok {b0 : Nat} {fsx : List Value} {fss : List Value} {fsi : List Value} {t : Int32} {n : Nat} (hx : h[b0 + 0]? = some (.inr (11, fsx))) (lx : fsx.length = 12) (px0 : fsx[0]? = some (.ref (g.2.2 + (b0 + 1)))) (hs : h[b0 + 1]? = some (.inr (7, fss))) (ls : fss.length = 20) (ps18 : fss[18]? = some (.ref (g.2.2 + (b0 + 37)))) (hi : h[b0 + 37]? = some (.inr (6, fsi))) (li : fsi.length = 8) (pi4 : fsi[4]? = some (.int t)) (et : t.toInt = (n : Int)) (en : 0 ≤ n ∧ n ≤ 16) {a : Nat} (ua : ∀ o, o < 62 → a + 0 ≠ b0 + o) (hM : MEN g h a fsx) : jCal l g 154 2 [.ref (g.2.2 + (b0 + 0))] h 0 0 (fun v h' => ∃ hv14, FgM (a + 0) ((h.set (b0 + 37) (.inr (6, (fsi.set 0 (.int (Int32.ofInt 0)))))).set (b0 + 37) (.inr (6, ((fsi.set 0 (.int (Int32.ofInt 0))).set 4 (.int (Int32.ofInt 0)))))) hv14 ∧ v = some (.int t) ∧ h' = hv14) := by
  have hcls : jcN 11 = (jyN 154).cls := by decide +kernel
  refine jCal_of (by decide +kernel) (show 1 ≤ jmx 154 by decide +kernel) ?_
  show J l g 154 2 0 [some (.ref (g.2.2 + (b0 + 0))), none] [] h 0 0 _
  refine j_aload_n (k4 := 0) (dQ (by decide +kernel)) rfl ?_
  refine j_get (own := 11) (i := 10) (ci := 11) (f := 0) (dQ (by decide +kernel)) hcls (by decide +kernel) hx (fun r hr => by cases hr; decide +kernel) px0 ?_
  refine j_get (own := 11) (i := 239) (ci := 7) (f := 18) (dQ (by decide +kernel)) hcls (by decide +kernel) hs (fun r hr => by cases hr; decide +kernel) ps18 ?_
  refine j_get (own := 11) (i := 280) (ci := 6) (f := 4) (dQ (by decide +kernel)) hcls (by decide +kernel) hi (fun r hr => by cases hr; decide +kernel) pi4 ?_
  refine j_istore_n (k4 := 1) (dQ (by decide +kernel)) (by decide +kernel) ?_
  refine j_aload_n (k4 := 0) (dQ (by decide +kernel)) rfl ?_
  refine j_get (own := 11) (i := 10) (ci := 11) (f := 0) (dQ (by decide +kernel)) hcls (by decide +kernel) hx (fun r hr => by cases hr; decide +kernel) px0 ?_
  refine j_get (own := 11) (i := 239) (ci := 7) (f := 18) (dQ (by decide +kernel)) hcls (by decide +kernel) hs (fun r hr => by cases hr; decide +kernel) ps18 ?_
  refine j_cV (own := 11) (i := 289) (y2 := 155) (d2 := 1) (mc := 0) (ms := 0) (kc := 0) (ks := 0) (a := b0 + 37) (As := []) (st := []) (dQ (by decide +kernel)) hcls (by decide +kernel) (by decide) (by decide +kernel) (show 0 = jnp 155 by decide +kernel) (by decide) (show 0 ≤ 8 by decide) hi (fun r hr => by cases hr; decide +kernel) (xs_wipe hi li) (fun v hv2 hq => ?_)
  obtain ⟨rfl, rfl⟩ := hq
  have k3 : ((h.set (b0 + 37) (.inr (6, (fsi.set 0 (.int (Int32.ofInt 0)))))).set (b0 + 37) (.inr (6, ((fsi.set 0 (.int (Int32.ofInt 0))).set 4 (.int (Int32.ofInt 0))))))[b0 + 0]? = some (.inr (11, fsx)) := by rw [List.getElem?_set_ne (by omega), List.getElem?_set_ne (by omega)]; exact hx
  have k4 : ((h.set (b0 + 37) (.inr (6, (fsi.set 0 (.int (Int32.ofInt 0)))))).set (b0 + 37) (.inr (6, ((fsi.set 0 (.int (Int32.ofInt 0))).set 4 (.int (Int32.ofInt 0))))))[b0 + 1]? = some (.inr (7, fss)) := by rw [List.getElem?_set_ne (by omega), List.getElem?_set_ne (by omega)]; exact hs
  have n6 : (fsi.set 0 (.int (Int32.ofInt 0))).length = 8 := by rw [List.length_set]; exact li
  have f7 : (fsi.set 0 (.int (Int32.ofInt 0)))[4]? = some (.int t) := by rw [List.getElem?_set_ne (by decide)]; exact pi4
  have f8 : (fsi.set 0 (.int (Int32.ofInt 0)))[0]? = some (.int (Int32.ofInt 0)) := List.getElem?_set_self (by rw [li]; decide)
  have n9 : ((fsi.set 0 (.int (Int32.ofInt 0))).set 4 (.int (Int32.ofInt 0))).length = 8 := by rw [List.length_set]; exact n6
  have f10 : ((fsi.set 0 (.int (Int32.ofInt 0))).set 4 (.int (Int32.ofInt 0)))[0]? = some (.int (Int32.ofInt 0)) := by rw [List.getElem?_set_ne (by decide)]; exact f8
  have f11 : ((fsi.set 0 (.int (Int32.ofInt 0))).set 4 (.int (Int32.ofInt 0)))[4]? = some (.int (Int32.ofInt 0)) := List.getElem?_set_self (by rw [n6]; decide)
  have k5 : ((h.set (b0 + 37) (.inr (6, (fsi.set 0 (.int (Int32.ofInt 0)))))).set (b0 + 37) (.inr (6, ((fsi.set 0 (.int (Int32.ofInt 0))).set 4 (.int (Int32.ofInt 0))))))[b0 + 37]? = some (.inr (6, ((fsi.set 0 (.int (Int32.ofInt 0))).set 4 (.int (Int32.ofInt 0))))) := by exact List.getElem?_set_self (by first | exact (List.getElem?_eq_some_iff.mp hi).1 | (simp only [List.length_set]; exact (List.getElem?_eq_some_iff.mp hi).1))
  have M12 : MEN g ((h.set (b0 + 37) (.inr (6, (fsi.set 0 (.int (Int32.ofInt 0)))))).set (b0 + 37) (.inr (6, ((fsi.set 0 (.int (Int32.ofInt 0))).set 4 (.int (Int32.ofInt 0)))))) a fsx := ((hM.set (Ne.symm (ua 37 (by decide)))).set (Ne.symm (ua 37 (by decide))))
  refine j_aload_n (k4 := 0) (dQ (by decide +kernel)) rfl ?_
  refine j_cV (own := 11) (i := 235) (y2 := 127) (d2 := 1) (mc := 0) (ms := 0) (kc := 0) (ks := 0) (a := b0 + 0) (As := []) (st := []) (dQ (by decide +kernel)) hcls (by decide +kernel) (by decide) (by decide +kernel) (show 0 = jnp 127 by decide +kernel) (by decide) (show 0 ≤ 8 by decide) k3 (fun r hr => by cases hr; decide +kernel) (x_forget k3 M12) (fun v hv14 hq => ?_)
  obtain ⟨rfl, F15⟩ := hq
  have k16 : hv14[b0 + 0]? = some (.inr (11, fsx)) := (F15 _ (Ne.symm (ua 0 (by decide)))).trans k3
  have k17 : hv14[b0 + 1]? = some (.inr (7, fss)) := (F15 _ (Ne.symm (ua 1 (by decide)))).trans k4
  have k18 : hv14[b0 + 37]? = some (.inr (6, ((fsi.set 0 (.int (Int32.ofInt 0))).set 4 (.int (Int32.ofInt 0))))) := (F15 _ (Ne.symm (ua 37 (by decide)))).trans k5
  refine j_iload_n (k4 := 1) (dQ (by decide +kernel)) rfl ?_
  exact j_ret (v := some (.int t)) ⟨by decide +kernel, Or.inl (by decide +kernel)⟩ ⟨hv14, F15, rfl, rfl⟩ rfl
set_option maxRecDepth 8192 in
theorem xr_clear_ok {b1 : Nat} {fsm : List Value} {fr : Nat → Int32} {t : Int32} {n : Nat} (hm : h[b1 + 0]? = some (.inr (12, fsm))) (lm : fsm.length = 42) (pm2 : fsm[2]? = some (.ref (g.2.2 + (b1 + 1)))) (hr : h[b1 + 1]? = some (.inl (0, 5270, fr))) (et : t.toInt = (n : Int)) (en : 0 ≤ n ∧ n ≤ 16) (qt : fr 4 = t) : jCal l g 282 1 [.ref (g.2.2 + (b1 + 0))] h 0 0 (fun v h' => v = some (.int t) ∧ h' = (((h.set (b1 + 0) (.inr (12, (fsm.set 0 (.int (Int32.ofInt 0)))))).set (b1 + 1) (.inl (0, 5270, (upd fr 4 (Int32.ofInt 0))))).set (b1 + 1) (.inl (0, 5270, (upd (upd fr 4 (Int32.ofInt 0)) 3 (Int32.ofInt 0)))))) := by
  have hcls : jcN 12 = (jyN 282).cls := by decide +kernel
  have cn0 : (Int32.ofInt 0).toInt = 0 := by decide
  have cn1 : (Int32.ofInt 4).toInt = 4 := by decide
  have cn2 : (Int32.ofInt 3).toInt = 3 := by decide
  refine jCal_of (by decide +kernel) (show 1 ≤ jmx 282 by decide +kernel) ?_
  show J l g 282 1 0 [some (.ref (g.2.2 + (b1 + 0))), none] [] h 0 0 _
  refine j_aload_n (k4 := 0) (dQ (by decide +kernel)) rfl ?_
  refine j_iconst (n := 0) (dQ (by decide +kernel)) ?_
  refine j_put (own := 12) (i := 94) (ci := 12) (f := 0) (ty := .int) (dQ (by decide +kernel)) hcls (by decide +kernel) hm rfl (by decide +kernel) (by rw [lm]; decide) (by decide +kernel) (by decide +kernel) rfl rfl ?_
  have n1 : (fsm.set 0 (.int (Int32.ofInt 0))).length = 42 := by rw [List.length_set]; exact lm
  have f2 : (fsm.set 0 (.int (Int32.ofInt 0)))[2]? = some (.ref (g.2.2 + (b1 + 1))) := by
    rw [List.getElem?_set_ne (by decide)]
    exact pm2
  have f3 : (fsm.set 0 (.int (Int32.ofInt 0)))[0]? = some (.int (Int32.ofInt 0)) := List.getElem?_set_self (by rw [lm]; decide)
  have k4 : (h.set (b1 + 0) (.inr (12, (fsm.set 0 (.int (Int32.ofInt 0))))))[b1 + 0]? = some (.inr (12, (fsm.set 0 (.int (Int32.ofInt 0))))) := List.getElem?_set_self (List.getElem?_eq_some_iff.mp hm).1
  have k5 : (h.set (b1 + 0) (.inr (12, (fsm.set 0 (.int (Int32.ofInt 0))))))[b1 + 1]? = some (.inl (0, 5270, fr)) := by
    rw [List.getElem?_set_ne (by omega)]
    exact hr
  refine j_aload_n (k4 := 0) (dQ (by decide +kernel)) rfl ?_
  refine j_get (own := 12) (i := 7) (ci := 12) (f := 2) (dQ (by decide +kernel)) hcls (by decide +kernel) k4 (fun r hr => by cases hr; decide +kernel) f2 ?_
  refine j_iconst (n := 4) (dQ (by decide +kernel)) ?_
  refine x_aldv (v := t) 4 (dQ (by decide +kernel)) k5 (by omega) (by omega) (by rw [qt]) ?_
  refine j_istore_n (k4 := 1) (dQ (by decide +kernel)) (by decide +kernel) ?_
  refine j_aload_n (k4 := 0) (dQ (by decide +kernel)) rfl ?_
  refine j_get (own := 12) (i := 7) (ci := 12) (f := 2) (dQ (by decide +kernel)) hcls (by decide +kernel) k4 (fun r hr => by cases hr; decide +kernel) f2 ?_
  refine j_iconst (n := 4) (dQ (by decide +kernel)) ?_
  refine j_iconst (n := 0) (dQ (by decide +kernel)) ?_
  refine x_ast 4 (dQ (by decide +kernel)) k5 (by omega) (by omega) ?_
  have k6 : ((h.set (b1 + 0) (.inr (12, (fsm.set 0 (.int (Int32.ofInt 0)))))).set (b1 + 1) (.inl (0, 5270, (upd fr 4 (Int32.ofInt 0)))))[b1 + 0]? = some (.inr (12, (fsm.set 0 (.int (Int32.ofInt 0))))) := by
    rw [List.getElem?_set_ne (by omega)]
    exact k4
  have k7 : ((h.set (b1 + 0) (.inr (12, (fsm.set 0 (.int (Int32.ofInt 0)))))).set (b1 + 1) (.inl (0, 5270, (upd fr 4 (Int32.ofInt 0)))))[b1 + 1]? = some (.inl (0, 5270, (upd fr 4 (Int32.ofInt 0)))) := List.getElem?_set_self (List.getElem?_eq_some_iff.mp k5).1
  refine j_aload_n (k4 := 0) (dQ (by decide +kernel)) rfl ?_
  refine j_get (own := 12) (i := 7) (ci := 12) (f := 2) (dQ (by decide +kernel)) hcls (by decide +kernel) k6 (fun r hr => by cases hr; decide +kernel) f2 ?_
  refine j_iconst (n := 3) (dQ (by decide +kernel)) ?_
  refine j_iconst (n := 0) (dQ (by decide +kernel)) ?_
  refine x_ast 3 (dQ (by decide +kernel)) k7 (by omega) (by omega) ?_
  have k8 : (((h.set (b1 + 0) (.inr (12, (fsm.set 0 (.int (Int32.ofInt 0)))))).set (b1 + 1) (.inl (0, 5270, (upd fr 4 (Int32.ofInt 0))))).set (b1 + 1) (.inl (0, 5270, (upd (upd fr 4 (Int32.ofInt 0)) 3 (Int32.ofInt 0)))))[b1 + 0]? = some (.inr (12, (fsm.set 0 (.int (Int32.ofInt 0))))) := by
    rw [List.getElem?_set_ne (by omega)]
    exact k6
  have k9 : (((h.set (b1 + 0) (.inr (12, (fsm.set 0 (.int (Int32.ofInt 0)))))).set (b1 + 1) (.inl (0, 5270, (upd fr 4 (Int32.ofInt 0))))).set (b1 + 1) (.inl (0, 5270, (upd (upd fr 4 (Int32.ofInt 0)) 3 (Int32.ofInt 0)))))[b1 + 1]? = some (.inl (0, 5270, (upd (upd fr 4 (Int32.ofInt 0)) 3 (Int32.ofInt 0)))) := List.getElem?_set_self (List.getElem?_eq_some_iff.mp k7).1
  refine j_iload_n (k4 := 1) (dQ (by decide +kernel)) rfl ?_
  exact j_ret (v := some (.int t)) ⟨by decide +kernel, Or.inl (by decide +kernel)⟩ ⟨rfl, rfl⟩ rfl
set_option maxRecDepth 8192 in
theorem xk_due_0l {b0 : Nat} {fsx : List Value} {x1 : Int32} {x2 : Int32} {x3 : Int32} (hx : h[b0 + 0]? = some (.inr (11, fsx))) (lx : fsx.length = 12) (px0 : fsx[0]? = some (.ref (g.2.2 + (b0 + 1)))) (u : x1.toInt < 1) : jCal l g 156 2 [.ref (g.2.2 + (b0 + 0)), .int x1, .int x2, .int x3] h 0 0 (fun v h' => v = some (.int (Int32.ofInt (-1))) ∧ h' = (h.set (b0 + 0) (.inr (11, (fsx.set 7 (.int (Int32.ofInt (-1)))))))) := by
  have hcls : jcN 11 = (jyN 156).cls := by decide +kernel
  have cn0 : (Int32.ofInt 0).toInt = 0 := by decide
  have cn1 : (Int32.ofInt (-1)).toInt = -1 := by decide
  refine jCal_of (by decide +kernel) (show 4 ≤ jmx 156 by decide +kernel) ?_
  show J l g 156 2 0 [some (.ref (g.2.2 + (b0 + 0))), some (.int x1), some (.int x2), some (.int x3)] [] h 0 0 _
  refine j_iload_n (k4 := 1) (dQ (by decide +kernel)) rfl ?_
  refine j_cS (own := 11) (i := 73) (y2 := 34) (d2 := 1) (mc := 0) (ms := 0) (kc := 0) (ks := 0) (As := [.int x1]) (st := []) (dQ (by decide +kernel)) hcls (by decide +kernel) (by decide) (by decide +kernel) (show 1 = jnp 34 by decide +kernel) (by decide) (show 0 ≤ 8 by decide) (x_isName_0l (by omega)) (fun v hv2 hq => ?_)
  obtain ⟨rfl, rfl⟩ := hq
  refine j_if_eq (off := 17) (tgt := 21) (dQ (by decide +kernel)) (by decide) (fun _ => ?_) (fun q => absurd (i32_eq (show _ = (0 : Int32).toInt by rw [i32_z]; omega)) q)
  refine j_aload_n (k4 := 0) (dQ (by decide +kernel)) rfl ?_
  refine j_iconst (n := (-1)) (dQ (by decide +kernel)) ?_
  refine j_cV (own := 11) (i := 41) (y2 := 16) (d2 := 1) (mc := 0) (ms := 0) (kc := 0) (ks := 0) (a := b0 + 0) (As := [.int (Int32.ofInt (-1))]) (st := []) (dQ (by decide +kernel)) hcls (by decide +kernel) (by decide) (by decide +kernel) (show 1 = jnp 16 by decide +kernel) (by decide) (show 0 ≤ 8 by decide) hx (fun r hr => by cases hr; decide +kernel) (x_refuse hx lx) (fun v hv4 hq => ?_)
  obtain ⟨rfl, rfl⟩ := hq
  have n5 : (fsx.set 7 (.int (Int32.ofInt (-1)))).length = 12 := by rw [List.length_set]; exact lx
  have f6 : (fsx.set 7 (.int (Int32.ofInt (-1))))[0]? = some (.ref (g.2.2 + (b0 + 1))) := by
    rw [List.getElem?_set_ne (by decide)]
    exact px0
  have k7 : (h.set (b0 + 0) (.inr (11, (fsx.set 7 (.int (Int32.ofInt (-1)))))))[b0 + 0]? = some (.inr (11, (fsx.set 7 (.int (Int32.ofInt (-1)))))) := List.getElem?_set_self (List.getElem?_eq_some_iff.mp hx).1
  exact j_ret (v := some (.int (Int32.ofInt (-1)))) ⟨by decide +kernel, Or.inl (by decide +kernel)⟩ ⟨rfl, rfl⟩ rfl
set_option maxRecDepth 8192 in
theorem xr_due_0l {b1 : Nat} {fsm : List Value} {x1 : Int32} {x2 : Int32} {x3 : Int32} (hm : h[b1 + 0]? = some (.inr (12, fsm))) (lm : fsm.length = 42) (pm2 : fsm[2]? = some (.ref (g.2.2 + (b1 + 1)))) (u : x1.toInt < 1) : jCal l g 292 3 [.ref (g.2.2 + (b1 + 0)), .int x1, .int x2, .int x3] h 0 0 (fun v h' => v = some (.int (Int32.ofInt (-1))) ∧ h' = ((h.set (b1 + 0) (.inr (12, (fsm.set 0 (.int (Int32.ofInt 0)))))).set (b1 + 0) (.inr (12, ((fsm.set 0 (.int (Int32.ofInt 0))).set 1 (.int (Int32.ofInt (-1)))))))) := by
  have hcls : jcN 12 = (jyN 292).cls := by decide +kernel
  have cn0 : (Int32.ofInt 0).toInt = 0 := by decide
  have cn1 : (Int32.ofInt (-1)).toInt = -1 := by decide
  refine jCal_of (by decide +kernel) (show 4 ≤ jmx 292 by decide +kernel) ?_
  show J l g 292 3 0 [some (.ref (g.2.2 + (b1 + 0))), some (.int x1), some (.int x2), some (.int x3), none] [] h 0 0 _
  refine j_aload_n (k4 := 0) (dQ (by decide +kernel)) rfl ?_
  refine j_iconst (n := 0) (dQ (by decide +kernel)) ?_
  refine j_put (own := 12) (i := 94) (ci := 12) (f := 0) (ty := .int) (dQ (by decide +kernel)) hcls (by decide +kernel) hm rfl (by decide +kernel) (by rw [lm]; decide) (by decide +kernel) (by decide +kernel) rfl rfl ?_
  have n1 : (fsm.set 0 (.int (Int32.ofInt 0))).length = 42 := by rw [List.length_set]; exact lm
  have f2 : (fsm.set 0 (.int (Int32.ofInt 0)))[2]? = some (.ref (g.2.2 + (b1 + 1))) := by
    rw [List.getElem?_set_ne (by decide)]
    exact pm2
  have f3 : (fsm.set 0 (.int (Int32.ofInt 0)))[0]? = some (.int (Int32.ofInt 0)) := List.getElem?_set_self (by rw [lm]; decide)
  have k4 : (h.set (b1 + 0) (.inr (12, (fsm.set 0 (.int (Int32.ofInt 0))))))[b1 + 0]? = some (.inr (12, (fsm.set 0 (.int (Int32.ofInt 0))))) := List.getElem?_set_self (List.getElem?_eq_some_iff.mp hm).1
  refine j_iload_n (k4 := 1) (dQ (by decide +kernel)) rfl ?_
  refine j_cS (own := 12) (i := 301) (y2 := 249) (d2 := 2) (mc := 0) (ms := 0) (kc := 0) (ks := 0) (As := [.int x1]) (st := []) (dQ (by decide +kernel)) hcls (by decide +kernel) (by decide) (by decide +kernel) (show 1 = jnp 249 by decide +kernel) (by decide) (show 0 ≤ 8 by decide) (xm_isName_0l (by omega)) (fun v hv6 hq => ?_)
  obtain ⟨rfl, rfl⟩ := hq
  refine j_if_eq (off := 17) (tgt := 26) (dQ (by decide +kernel)) (by decide) (fun _ => ?_) (fun q => absurd (i32_eq (show _ = (0 : Int32).toInt by rw [i32_z]; omega)) q)
  refine j_aload_n (k4 := 0) (dQ (by decide +kernel)) rfl ?_
  refine j_iconst (n := (-1)) (dQ (by decide +kernel)) ?_
  refine j_cV (own := 12) (i := 104) (y2 := 206) (d2 := 1) (mc := 0) (ms := 0) (kc := 0) (ks := 0) (a := b1 + 0) (As := [.int (Int32.ofInt (-1))]) (st := []) (dQ (by decide +kernel)) hcls (by decide +kernel) (by decide) (by decide +kernel) (show 1 = jnp 206 by decide +kernel) (by decide) (show 0 ≤ 8 by decide) k4 (fun r hr => by cases hr; decide +kernel) (xm_tellN k4 n1 (by omega)) (fun v hv8 hq => ?_)
  obtain ⟨rfl, rfl⟩ := hq
  have n9 : ((fsm.set 0 (.int (Int32.ofInt 0))).set 1 (.int (Int32.ofInt (-1)))).length = 42 := by rw [List.length_set]; exact n1
  have f10 : ((fsm.set 0 (.int (Int32.ofInt 0))).set 1 (.int (Int32.ofInt (-1))))[2]? = some (.ref (g.2.2 + (b1 + 1))) := by
    rw [List.getElem?_set_ne (by decide)]
    exact f2
  have f11 : ((fsm.set 0 (.int (Int32.ofInt 0))).set 1 (.int (Int32.ofInt (-1))))[0]? = some (.int (Int32.ofInt 0)) := by
    rw [List.getElem?_set_ne (by decide)]
    exact f3
  have k12 : ((h.set (b1 + 0) (.inr (12, (fsm.set 0 (.int (Int32.ofInt 0)))))).set (b1 + 0) (.inr (12, ((fsm.set 0 (.int (Int32.ofInt 0))).set 1 (.int (Int32.ofInt (-1)))))))[b1 + 0]? = some (.inr (12, ((fsm.set 0 (.int (Int32.ofInt 0))).set 1 (.int (Int32.ofInt (-1)))))) := List.getElem?_set_self (List.getElem?_eq_some_iff.mp k4).1
  exact j_ret (v := some (.int (Int32.ofInt (-1)))) ⟨by decide +kernel, Or.inl (by decide +kernel)⟩ ⟨rfl, rfl⟩ rfl
set_option maxRecDepth 8192 in
theorem xk_due_0h {b0 : Nat} {fsx : List Value} {x1 : Int32} {x2 : Int32} {x3 : Int32} (hx : h[b0 + 0]? = some (.inr (11, fsx))) (lx : fsx.length = 12) (px0 : fsx[0]? = some (.ref (g.2.2 + (b0 + 1)))) (u : 999 < x1.toInt) : jCal l g 156 2 [.ref (g.2.2 + (b0 + 0)), .int x1, .int x2, .int x3] h 0 0 (fun v h' => v = some (.int (Int32.ofInt (-1))) ∧ h' = (h.set (b0 + 0) (.inr (11, (fsx.set 7 (.int (Int32.ofInt (-1)))))))) := by
  have hcls : jcN 11 = (jyN 156).cls := by decide +kernel
  have cn0 : (Int32.ofInt 0).toInt = 0 := by decide
  have cn1 : (Int32.ofInt (-1)).toInt = -1 := by decide
  refine jCal_of (by decide +kernel) (show 4 ≤ jmx 156 by decide +kernel) ?_
  show J l g 156 2 0 [some (.ref (g.2.2 + (b0 + 0))), some (.int x1), some (.int x2), some (.int x3)] [] h 0 0 _
  refine j_iload_n (k4 := 1) (dQ (by decide +kernel)) rfl ?_
  refine j_cS (own := 11) (i := 73) (y2 := 34) (d2 := 1) (mc := 0) (ms := 0) (kc := 0) (ks := 0) (As := [.int x1]) (st := []) (dQ (by decide +kernel)) hcls (by decide +kernel) (by decide) (by decide +kernel) (show 1 = jnp 34 by decide +kernel) (by decide) (show 0 ≤ 8 by decide) (x_isName_0h (by omega)) (fun v hv2 hq => ?_)
  obtain ⟨rfl, rfl⟩ := hq
  refine j_if_eq (off := 17) (tgt := 21) (dQ (by decide +kernel)) (by decide) (fun _ => ?_) (fun q => absurd (i32_eq (show _ = (0 : Int32).toInt by rw [i32_z]; omega)) q)
  refine j_aload_n (k4 := 0) (dQ (by decide +kernel)) rfl ?_
  refine j_iconst (n := (-1)) (dQ (by decide +kernel)) ?_
  refine j_cV (own := 11) (i := 41) (y2 := 16) (d2 := 1) (mc := 0) (ms := 0) (kc := 0) (ks := 0) (a := b0 + 0) (As := [.int (Int32.ofInt (-1))]) (st := []) (dQ (by decide +kernel)) hcls (by decide +kernel) (by decide) (by decide +kernel) (show 1 = jnp 16 by decide +kernel) (by decide) (show 0 ≤ 8 by decide) hx (fun r hr => by cases hr; decide +kernel) (x_refuse hx lx) (fun v hv4 hq => ?_)
  obtain ⟨rfl, rfl⟩ := hq
  have n5 : (fsx.set 7 (.int (Int32.ofInt (-1)))).length = 12 := by rw [List.length_set]; exact lx
  have f6 : (fsx.set 7 (.int (Int32.ofInt (-1))))[0]? = some (.ref (g.2.2 + (b0 + 1))) := by
    rw [List.getElem?_set_ne (by decide)]
    exact px0
  have k7 : (h.set (b0 + 0) (.inr (11, (fsx.set 7 (.int (Int32.ofInt (-1)))))))[b0 + 0]? = some (.inr (11, (fsx.set 7 (.int (Int32.ofInt (-1)))))) := List.getElem?_set_self (List.getElem?_eq_some_iff.mp hx).1
  exact j_ret (v := some (.int (Int32.ofInt (-1)))) ⟨by decide +kernel, Or.inl (by decide +kernel)⟩ ⟨rfl, rfl⟩ rfl
set_option maxRecDepth 8192 in
theorem xr_due_0h {b1 : Nat} {fsm : List Value} {x1 : Int32} {x2 : Int32} {x3 : Int32} (hm : h[b1 + 0]? = some (.inr (12, fsm))) (lm : fsm.length = 42) (pm2 : fsm[2]? = some (.ref (g.2.2 + (b1 + 1)))) (u : 999 < x1.toInt) : jCal l g 292 3 [.ref (g.2.2 + (b1 + 0)), .int x1, .int x2, .int x3] h 0 0 (fun v h' => v = some (.int (Int32.ofInt (-1))) ∧ h' = ((h.set (b1 + 0) (.inr (12, (fsm.set 0 (.int (Int32.ofInt 0)))))).set (b1 + 0) (.inr (12, ((fsm.set 0 (.int (Int32.ofInt 0))).set 1 (.int (Int32.ofInt (-1)))))))) := by
  have hcls : jcN 12 = (jyN 292).cls := by decide +kernel
  have cn0 : (Int32.ofInt 0).toInt = 0 := by decide
  have cn1 : (Int32.ofInt (-1)).toInt = -1 := by decide
  refine jCal_of (by decide +kernel) (show 4 ≤ jmx 292 by decide +kernel) ?_
  show J l g 292 3 0 [some (.ref (g.2.2 + (b1 + 0))), some (.int x1), some (.int x2), some (.int x3), none] [] h 0 0 _
  refine j_aload_n (k4 := 0) (dQ (by decide +kernel)) rfl ?_
  refine j_iconst (n := 0) (dQ (by decide +kernel)) ?_
  refine j_put (own := 12) (i := 94) (ci := 12) (f := 0) (ty := .int) (dQ (by decide +kernel)) hcls (by decide +kernel) hm rfl (by decide +kernel) (by rw [lm]; decide) (by decide +kernel) (by decide +kernel) rfl rfl ?_
  have n1 : (fsm.set 0 (.int (Int32.ofInt 0))).length = 42 := by rw [List.length_set]; exact lm
  have f2 : (fsm.set 0 (.int (Int32.ofInt 0)))[2]? = some (.ref (g.2.2 + (b1 + 1))) := by
    rw [List.getElem?_set_ne (by decide)]
    exact pm2
  have f3 : (fsm.set 0 (.int (Int32.ofInt 0)))[0]? = some (.int (Int32.ofInt 0)) := List.getElem?_set_self (by rw [lm]; decide)
  have k4 : (h.set (b1 + 0) (.inr (12, (fsm.set 0 (.int (Int32.ofInt 0))))))[b1 + 0]? = some (.inr (12, (fsm.set 0 (.int (Int32.ofInt 0))))) := List.getElem?_set_self (List.getElem?_eq_some_iff.mp hm).1
  refine j_iload_n (k4 := 1) (dQ (by decide +kernel)) rfl ?_
  refine j_cS (own := 12) (i := 301) (y2 := 249) (d2 := 2) (mc := 0) (ms := 0) (kc := 0) (ks := 0) (As := [.int x1]) (st := []) (dQ (by decide +kernel)) hcls (by decide +kernel) (by decide) (by decide +kernel) (show 1 = jnp 249 by decide +kernel) (by decide) (show 0 ≤ 8 by decide) (xm_isName_0h (by omega)) (fun v hv6 hq => ?_)
  obtain ⟨rfl, rfl⟩ := hq
  refine j_if_eq (off := 17) (tgt := 26) (dQ (by decide +kernel)) (by decide) (fun _ => ?_) (fun q => absurd (i32_eq (show _ = (0 : Int32).toInt by rw [i32_z]; omega)) q)
  refine j_aload_n (k4 := 0) (dQ (by decide +kernel)) rfl ?_
  refine j_iconst (n := (-1)) (dQ (by decide +kernel)) ?_
  refine j_cV (own := 12) (i := 104) (y2 := 206) (d2 := 1) (mc := 0) (ms := 0) (kc := 0) (ks := 0) (a := b1 + 0) (As := [.int (Int32.ofInt (-1))]) (st := []) (dQ (by decide +kernel)) hcls (by decide +kernel) (by decide) (by decide +kernel) (show 1 = jnp 206 by decide +kernel) (by decide) (show 0 ≤ 8 by decide) k4 (fun r hr => by cases hr; decide +kernel) (xm_tellN k4 n1 (by omega)) (fun v hv8 hq => ?_)
  obtain ⟨rfl, rfl⟩ := hq
  have n9 : ((fsm.set 0 (.int (Int32.ofInt 0))).set 1 (.int (Int32.ofInt (-1)))).length = 42 := by rw [List.length_set]; exact n1
  have f10 : ((fsm.set 0 (.int (Int32.ofInt 0))).set 1 (.int (Int32.ofInt (-1))))[2]? = some (.ref (g.2.2 + (b1 + 1))) := by
    rw [List.getElem?_set_ne (by decide)]
    exact f2
  have f11 : ((fsm.set 0 (.int (Int32.ofInt 0))).set 1 (.int (Int32.ofInt (-1))))[0]? = some (.int (Int32.ofInt 0)) := by
    rw [List.getElem?_set_ne (by decide)]
    exact f3
  have k12 : ((h.set (b1 + 0) (.inr (12, (fsm.set 0 (.int (Int32.ofInt 0)))))).set (b1 + 0) (.inr (12, ((fsm.set 0 (.int (Int32.ofInt 0))).set 1 (.int (Int32.ofInt (-1)))))))[b1 + 0]? = some (.inr (12, ((fsm.set 0 (.int (Int32.ofInt 0))).set 1 (.int (Int32.ofInt (-1)))))) := List.getElem?_set_self (List.getElem?_eq_some_iff.mp k4).1
  exact j_ret (v := some (.int (Int32.ofInt (-1)))) ⟨by decide +kernel, Or.inl (by decide +kernel)⟩ ⟨rfl, rfl⟩ rfl
set_option maxRecDepth 8192 in
theorem xk_due_1l {b0 : Nat} {fsx : List Value} {x1 : Int32} {x2 : Int32} {x3 : Int32} (hx : h[b0 + 0]? = some (.inr (11, fsx))) (lx : fsx.length = 12) (px0 : fsx[0]? = some (.ref (g.2.2 + (b0 + 1)))) (g1 : 1 ≤ x1.toInt ∧ x1.toInt ≤ 999) (u : x2.toInt < 0) : jCal l g 156 2 [.ref (g.2.2 + (b0 + 0)), .int x1, .int x2, .int x3] h 0 0 (fun v h' => v = some (.int (Int32.ofInt (-1))) ∧ h' = (h.set (b0 + 0) (.inr (11, (fsx.set 7 (.int (Int32.ofInt (-1)))))))) := by
  have hcls : jcN 11 = (jyN 156).cls := by decide +kernel
  have cn0 : (Int32.ofInt 1).toInt = 1 := by decide
  have cn1 : (Int32.ofInt 0).toInt = 0 := by decide
  have cn2 : (Int32.ofInt (-1)).toInt = -1 := by decide
  refine jCal_of (by decide +kernel) (show 4 ≤ jmx 156 by decide +kernel) ?_
  show J l g 156 2 0 [some (.ref (g.2.2 + (b0 + 0))), some (.int x1), some (.int x2), some (.int x3)] [] h 0 0 _
  refine j_iload_n (k4 := 1) (dQ (by decide +kernel)) rfl ?_
  refine j_cS (own := 11) (i := 73) (y2 := 34) (d2 := 1) (mc := 0) (ms := 0) (kc := 0) (ks := 0) (As := [.int x1]) (st := []) (dQ (by decide +kernel)) hcls (by decide +kernel) (by decide) (by decide +kernel) (show 1 = jnp 34 by decide +kernel) (by decide) (show 0 ≤ 8 by decide) (x_isName_1 (by omega) (by omega)) (fun v hv2 hq => ?_)
  obtain ⟨rfl, rfl⟩ := hq
  refine j_if_eq (off := 17) (tgt := 21) (dQ (by decide +kernel)) (by decide) (fun q => absurd (congrArg Int32.toInt q) (by rw [i32_z]; omega)) (fun _ => ?_)
  refine j_iload_n (k4 := 2) (dQ (by decide +kernel)) rfl ?_
  refine j_cS (own := 11) (i := 34) (y2 := 14) (d2 := 1) (mc := 0) (ms := 0) (kc := 0) (ks := 0) (As := [.int x2]) (st := []) (dQ (by decide +kernel)) hcls (by decide +kernel) (by decide) (by decide +kernel) (show 1 = jnp 14 by decide +kernel) (by decide) (show 0 ≤ 8 by decide) (x_isBerth_0l (by omega)) (fun v hv4 hq => ?_)
  obtain ⟨rfl, rfl⟩ := hq
  refine j_if_eq (off := 10) (tgt := 21) (dQ (by decide +kernel)) (by decide) (fun _ => ?_) (fun q => absurd (i32_eq (show _ = (0 : Int32).toInt by rw [i32_z]; omega)) q)
  refine j_aload_n (k4 := 0) (dQ (by decide +kernel)) rfl ?_
  refine j_iconst (n := (-1)) (dQ (by decide +kernel)) ?_
  refine j_cV (own := 11) (i := 41) (y2 := 16) (d2 := 1) (mc := 0) (ms := 0) (kc := 0) (ks := 0) (a := b0 + 0) (As := [.int (Int32.ofInt (-1))]) (st := []) (dQ (by decide +kernel)) hcls (by decide +kernel) (by decide) (by decide +kernel) (show 1 = jnp 16 by decide +kernel) (by decide) (show 0 ≤ 8 by decide) hx (fun r hr => by cases hr; decide +kernel) (x_refuse hx lx) (fun v hv6 hq => ?_)
  obtain ⟨rfl, rfl⟩ := hq
  have n7 : (fsx.set 7 (.int (Int32.ofInt (-1)))).length = 12 := by rw [List.length_set]; exact lx
  have f8 : (fsx.set 7 (.int (Int32.ofInt (-1))))[0]? = some (.ref (g.2.2 + (b0 + 1))) := by
    rw [List.getElem?_set_ne (by decide)]
    exact px0
  have k9 : (h.set (b0 + 0) (.inr (11, (fsx.set 7 (.int (Int32.ofInt (-1)))))))[b0 + 0]? = some (.inr (11, (fsx.set 7 (.int (Int32.ofInt (-1)))))) := List.getElem?_set_self (List.getElem?_eq_some_iff.mp hx).1
  exact j_ret (v := some (.int (Int32.ofInt (-1)))) ⟨by decide +kernel, Or.inl (by decide +kernel)⟩ ⟨rfl, rfl⟩ rfl
set_option maxRecDepth 8192 in
theorem xr_due_1l {b1 : Nat} {fsm : List Value} {x1 : Int32} {x2 : Int32} {x3 : Int32} (hm : h[b1 + 0]? = some (.inr (12, fsm))) (lm : fsm.length = 42) (pm2 : fsm[2]? = some (.ref (g.2.2 + (b1 + 1)))) (g1 : 1 ≤ x1.toInt ∧ x1.toInt ≤ 999) (u : x2.toInt < 0) : jCal l g 292 3 [.ref (g.2.2 + (b1 + 0)), .int x1, .int x2, .int x3] h 0 0 (fun v h' => v = some (.int (Int32.ofInt (-1))) ∧ h' = ((h.set (b1 + 0) (.inr (12, (fsm.set 0 (.int (Int32.ofInt 0)))))).set (b1 + 0) (.inr (12, ((fsm.set 0 (.int (Int32.ofInt 0))).set 1 (.int (Int32.ofInt (-1)))))))) := by
  have hcls : jcN 12 = (jyN 292).cls := by decide +kernel
  have cn0 : (Int32.ofInt 0).toInt = 0 := by decide
  have cn1 : (Int32.ofInt 1).toInt = 1 := by decide
  have cn2 : (Int32.ofInt (-1)).toInt = -1 := by decide
  refine jCal_of (by decide +kernel) (show 4 ≤ jmx 292 by decide +kernel) ?_
  show J l g 292 3 0 [some (.ref (g.2.2 + (b1 + 0))), some (.int x1), some (.int x2), some (.int x3), none] [] h 0 0 _
  refine j_aload_n (k4 := 0) (dQ (by decide +kernel)) rfl ?_
  refine j_iconst (n := 0) (dQ (by decide +kernel)) ?_
  refine j_put (own := 12) (i := 94) (ci := 12) (f := 0) (ty := .int) (dQ (by decide +kernel)) hcls (by decide +kernel) hm rfl (by decide +kernel) (by rw [lm]; decide) (by decide +kernel) (by decide +kernel) rfl rfl ?_
  have n1 : (fsm.set 0 (.int (Int32.ofInt 0))).length = 42 := by rw [List.length_set]; exact lm
  have f2 : (fsm.set 0 (.int (Int32.ofInt 0)))[2]? = some (.ref (g.2.2 + (b1 + 1))) := by
    rw [List.getElem?_set_ne (by decide)]
    exact pm2
  have f3 : (fsm.set 0 (.int (Int32.ofInt 0)))[0]? = some (.int (Int32.ofInt 0)) := List.getElem?_set_self (by rw [lm]; decide)
  have k4 : (h.set (b1 + 0) (.inr (12, (fsm.set 0 (.int (Int32.ofInt 0))))))[b1 + 0]? = some (.inr (12, (fsm.set 0 (.int (Int32.ofInt 0))))) := List.getElem?_set_self (List.getElem?_eq_some_iff.mp hm).1
  refine j_iload_n (k4 := 1) (dQ (by decide +kernel)) rfl ?_
  refine j_cS (own := 12) (i := 301) (y2 := 249) (d2 := 2) (mc := 0) (ms := 0) (kc := 0) (ks := 0) (As := [.int x1]) (st := []) (dQ (by decide +kernel)) hcls (by decide +kernel) (by decide) (by decide +kernel) (show 1 = jnp 249 by decide +kernel) (by decide) (show 0 ≤ 8 by decide) (xm_isName_1 (by omega) (by omega)) (fun v hv6 hq => ?_)
  obtain ⟨rfl, rfl⟩ := hq
  refine j_if_eq (off := 17) (tgt := 26) (dQ (by decide +kernel)) (by decide) (fun q => absurd (congrArg Int32.toInt q) (by rw [i32_z]; omega)) (fun _ => ?_)
  refine j_iload_n (k4 := 2) (dQ (by decide +kernel)) rfl ?_
  refine j_cS (own := 12) (i := 285) (y2 := 235) (d2 := 2) (mc := 0) (ms := 0) (kc := 0) (ks := 0) (As := [.int x2]) (st := []) (dQ (by decide +kernel)) hcls (by decide +kernel) (by decide) (by decide +kernel) (show 1 = jnp 235 by decide +kernel) (by decide) (show 0 ≤ 8 by decide) (xm_isBerth_0l (by omega)) (fun v hv8 hq => ?_)
  obtain ⟨rfl, rfl⟩ := hq
  refine j_if_eq (off := 10) (tgt := 26) (dQ (by decide +kernel)) (by decide) (fun _ => ?_) (fun q => absurd (i32_eq (show _ = (0 : Int32).toInt by rw [i32_z]; omega)) q)
  refine j_aload_n (k4 := 0) (dQ (by decide +kernel)) rfl ?_
  refine j_iconst (n := (-1)) (dQ (by decide +kernel)) ?_
  refine j_cV (own := 12) (i := 104) (y2 := 206) (d2 := 1) (mc := 0) (ms := 0) (kc := 0) (ks := 0) (a := b1 + 0) (As := [.int (Int32.ofInt (-1))]) (st := []) (dQ (by decide +kernel)) hcls (by decide +kernel) (by decide) (by decide +kernel) (show 1 = jnp 206 by decide +kernel) (by decide) (show 0 ≤ 8 by decide) k4 (fun r hr => by cases hr; decide +kernel) (xm_tellN k4 n1 (by omega)) (fun v hv10 hq => ?_)
  obtain ⟨rfl, rfl⟩ := hq
  have n11 : ((fsm.set 0 (.int (Int32.ofInt 0))).set 1 (.int (Int32.ofInt (-1)))).length = 42 := by rw [List.length_set]; exact n1
  have f12 : ((fsm.set 0 (.int (Int32.ofInt 0))).set 1 (.int (Int32.ofInt (-1))))[2]? = some (.ref (g.2.2 + (b1 + 1))) := by
    rw [List.getElem?_set_ne (by decide)]
    exact f2
  have f13 : ((fsm.set 0 (.int (Int32.ofInt 0))).set 1 (.int (Int32.ofInt (-1))))[0]? = some (.int (Int32.ofInt 0)) := by
    rw [List.getElem?_set_ne (by decide)]
    exact f3
  have k14 : ((h.set (b1 + 0) (.inr (12, (fsm.set 0 (.int (Int32.ofInt 0)))))).set (b1 + 0) (.inr (12, ((fsm.set 0 (.int (Int32.ofInt 0))).set 1 (.int (Int32.ofInt (-1)))))))[b1 + 0]? = some (.inr (12, ((fsm.set 0 (.int (Int32.ofInt 0))).set 1 (.int (Int32.ofInt (-1)))))) := List.getElem?_set_self (List.getElem?_eq_some_iff.mp k4).1
  exact j_ret (v := some (.int (Int32.ofInt (-1)))) ⟨by decide +kernel, Or.inl (by decide +kernel)⟩ ⟨rfl, rfl⟩ rfl
set_option maxRecDepth 8192 in
theorem xk_due_1h {b0 : Nat} {fsx : List Value} {x1 : Int32} {x2 : Int32} {x3 : Int32} (hx : h[b0 + 0]? = some (.inr (11, fsx))) (lx : fsx.length = 12) (px0 : fsx[0]? = some (.ref (g.2.2 + (b0 + 1)))) (g1 : 1 ≤ x1.toInt ∧ x1.toInt ≤ 999) (u : 11 < x2.toInt) : jCal l g 156 2 [.ref (g.2.2 + (b0 + 0)), .int x1, .int x2, .int x3] h 0 0 (fun v h' => v = some (.int (Int32.ofInt (-1))) ∧ h' = (h.set (b0 + 0) (.inr (11, (fsx.set 7 (.int (Int32.ofInt (-1)))))))) := by
  have hcls : jcN 11 = (jyN 156).cls := by decide +kernel
  have cn0 : (Int32.ofInt 1).toInt = 1 := by decide
  have cn1 : (Int32.ofInt 0).toInt = 0 := by decide
  have cn2 : (Int32.ofInt (-1)).toInt = -1 := by decide
  refine jCal_of (by decide +kernel) (show 4 ≤ jmx 156 by decide +kernel) ?_
  show J l g 156 2 0 [some (.ref (g.2.2 + (b0 + 0))), some (.int x1), some (.int x2), some (.int x3)] [] h 0 0 _
  refine j_iload_n (k4 := 1) (dQ (by decide +kernel)) rfl ?_
  refine j_cS (own := 11) (i := 73) (y2 := 34) (d2 := 1) (mc := 0) (ms := 0) (kc := 0) (ks := 0) (As := [.int x1]) (st := []) (dQ (by decide +kernel)) hcls (by decide +kernel) (by decide) (by decide +kernel) (show 1 = jnp 34 by decide +kernel) (by decide) (show 0 ≤ 8 by decide) (x_isName_1 (by omega) (by omega)) (fun v hv2 hq => ?_)
  obtain ⟨rfl, rfl⟩ := hq
  refine j_if_eq (off := 17) (tgt := 21) (dQ (by decide +kernel)) (by decide) (fun q => absurd (congrArg Int32.toInt q) (by rw [i32_z]; omega)) (fun _ => ?_)
  refine j_iload_n (k4 := 2) (dQ (by decide +kernel)) rfl ?_
  refine j_cS (own := 11) (i := 34) (y2 := 14) (d2 := 1) (mc := 0) (ms := 0) (kc := 0) (ks := 0) (As := [.int x2]) (st := []) (dQ (by decide +kernel)) hcls (by decide +kernel) (by decide) (by decide +kernel) (show 1 = jnp 14 by decide +kernel) (by decide) (show 0 ≤ 8 by decide) (x_isBerth_0h (by omega)) (fun v hv4 hq => ?_)
  obtain ⟨rfl, rfl⟩ := hq
  refine j_if_eq (off := 10) (tgt := 21) (dQ (by decide +kernel)) (by decide) (fun _ => ?_) (fun q => absurd (i32_eq (show _ = (0 : Int32).toInt by rw [i32_z]; omega)) q)
  refine j_aload_n (k4 := 0) (dQ (by decide +kernel)) rfl ?_
  refine j_iconst (n := (-1)) (dQ (by decide +kernel)) ?_
  refine j_cV (own := 11) (i := 41) (y2 := 16) (d2 := 1) (mc := 0) (ms := 0) (kc := 0) (ks := 0) (a := b0 + 0) (As := [.int (Int32.ofInt (-1))]) (st := []) (dQ (by decide +kernel)) hcls (by decide +kernel) (by decide) (by decide +kernel) (show 1 = jnp 16 by decide +kernel) (by decide) (show 0 ≤ 8 by decide) hx (fun r hr => by cases hr; decide +kernel) (x_refuse hx lx) (fun v hv6 hq => ?_)
  obtain ⟨rfl, rfl⟩ := hq
  have n7 : (fsx.set 7 (.int (Int32.ofInt (-1)))).length = 12 := by rw [List.length_set]; exact lx
  have f8 : (fsx.set 7 (.int (Int32.ofInt (-1))))[0]? = some (.ref (g.2.2 + (b0 + 1))) := by
    rw [List.getElem?_set_ne (by decide)]
    exact px0
  have k9 : (h.set (b0 + 0) (.inr (11, (fsx.set 7 (.int (Int32.ofInt (-1)))))))[b0 + 0]? = some (.inr (11, (fsx.set 7 (.int (Int32.ofInt (-1)))))) := List.getElem?_set_self (List.getElem?_eq_some_iff.mp hx).1
  exact j_ret (v := some (.int (Int32.ofInt (-1)))) ⟨by decide +kernel, Or.inl (by decide +kernel)⟩ ⟨rfl, rfl⟩ rfl
set_option maxRecDepth 8192 in
theorem xr_due_1h {b1 : Nat} {fsm : List Value} {x1 : Int32} {x2 : Int32} {x3 : Int32} (hm : h[b1 + 0]? = some (.inr (12, fsm))) (lm : fsm.length = 42) (pm2 : fsm[2]? = some (.ref (g.2.2 + (b1 + 1)))) (g1 : 1 ≤ x1.toInt ∧ x1.toInt ≤ 999) (u : 11 < x2.toInt) : jCal l g 292 3 [.ref (g.2.2 + (b1 + 0)), .int x1, .int x2, .int x3] h 0 0 (fun v h' => v = some (.int (Int32.ofInt (-1))) ∧ h' = ((h.set (b1 + 0) (.inr (12, (fsm.set 0 (.int (Int32.ofInt 0)))))).set (b1 + 0) (.inr (12, ((fsm.set 0 (.int (Int32.ofInt 0))).set 1 (.int (Int32.ofInt (-1)))))))) := by
  have hcls : jcN 12 = (jyN 292).cls := by decide +kernel
  have cn0 : (Int32.ofInt 0).toInt = 0 := by decide
  have cn1 : (Int32.ofInt 1).toInt = 1 := by decide
  have cn2 : (Int32.ofInt (-1)).toInt = -1 := by decide
  refine jCal_of (by decide +kernel) (show 4 ≤ jmx 292 by decide +kernel) ?_
  show J l g 292 3 0 [some (.ref (g.2.2 + (b1 + 0))), some (.int x1), some (.int x2), some (.int x3), none] [] h 0 0 _
  refine j_aload_n (k4 := 0) (dQ (by decide +kernel)) rfl ?_
  refine j_iconst (n := 0) (dQ (by decide +kernel)) ?_
  refine j_put (own := 12) (i := 94) (ci := 12) (f := 0) (ty := .int) (dQ (by decide +kernel)) hcls (by decide +kernel) hm rfl (by decide +kernel) (by rw [lm]; decide) (by decide +kernel) (by decide +kernel) rfl rfl ?_
  have n1 : (fsm.set 0 (.int (Int32.ofInt 0))).length = 42 := by rw [List.length_set]; exact lm
  have f2 : (fsm.set 0 (.int (Int32.ofInt 0)))[2]? = some (.ref (g.2.2 + (b1 + 1))) := by
    rw [List.getElem?_set_ne (by decide)]
    exact pm2
  have f3 : (fsm.set 0 (.int (Int32.ofInt 0)))[0]? = some (.int (Int32.ofInt 0)) := List.getElem?_set_self (by rw [lm]; decide)
  have k4 : (h.set (b1 + 0) (.inr (12, (fsm.set 0 (.int (Int32.ofInt 0))))))[b1 + 0]? = some (.inr (12, (fsm.set 0 (.int (Int32.ofInt 0))))) := List.getElem?_set_self (List.getElem?_eq_some_iff.mp hm).1
  refine j_iload_n (k4 := 1) (dQ (by decide +kernel)) rfl ?_
  refine j_cS (own := 12) (i := 301) (y2 := 249) (d2 := 2) (mc := 0) (ms := 0) (kc := 0) (ks := 0) (As := [.int x1]) (st := []) (dQ (by decide +kernel)) hcls (by decide +kernel) (by decide) (by decide +kernel) (show 1 = jnp 249 by decide +kernel) (by decide) (show 0 ≤ 8 by decide) (xm_isName_1 (by omega) (by omega)) (fun v hv6 hq => ?_)
  obtain ⟨rfl, rfl⟩ := hq
  refine j_if_eq (off := 17) (tgt := 26) (dQ (by decide +kernel)) (by decide) (fun q => absurd (congrArg Int32.toInt q) (by rw [i32_z]; omega)) (fun _ => ?_)
  refine j_iload_n (k4 := 2) (dQ (by decide +kernel)) rfl ?_
  refine j_cS (own := 12) (i := 285) (y2 := 235) (d2 := 2) (mc := 0) (ms := 0) (kc := 0) (ks := 0) (As := [.int x2]) (st := []) (dQ (by decide +kernel)) hcls (by decide +kernel) (by decide) (by decide +kernel) (show 1 = jnp 235 by decide +kernel) (by decide) (show 0 ≤ 8 by decide) (xm_isBerth_0h (by omega)) (fun v hv8 hq => ?_)
  obtain ⟨rfl, rfl⟩ := hq
  refine j_if_eq (off := 10) (tgt := 26) (dQ (by decide +kernel)) (by decide) (fun _ => ?_) (fun q => absurd (i32_eq (show _ = (0 : Int32).toInt by rw [i32_z]; omega)) q)
  refine j_aload_n (k4 := 0) (dQ (by decide +kernel)) rfl ?_
  refine j_iconst (n := (-1)) (dQ (by decide +kernel)) ?_
  refine j_cV (own := 12) (i := 104) (y2 := 206) (d2 := 1) (mc := 0) (ms := 0) (kc := 0) (ks := 0) (a := b1 + 0) (As := [.int (Int32.ofInt (-1))]) (st := []) (dQ (by decide +kernel)) hcls (by decide +kernel) (by decide) (by decide +kernel) (show 1 = jnp 206 by decide +kernel) (by decide) (show 0 ≤ 8 by decide) k4 (fun r hr => by cases hr; decide +kernel) (xm_tellN k4 n1 (by omega)) (fun v hv10 hq => ?_)
  obtain ⟨rfl, rfl⟩ := hq
  have n11 : ((fsm.set 0 (.int (Int32.ofInt 0))).set 1 (.int (Int32.ofInt (-1)))).length = 42 := by rw [List.length_set]; exact n1
  have f12 : ((fsm.set 0 (.int (Int32.ofInt 0))).set 1 (.int (Int32.ofInt (-1))))[2]? = some (.ref (g.2.2 + (b1 + 1))) := by
    rw [List.getElem?_set_ne (by decide)]
    exact f2
  have f13 : ((fsm.set 0 (.int (Int32.ofInt 0))).set 1 (.int (Int32.ofInt (-1))))[0]? = some (.int (Int32.ofInt 0)) := by
    rw [List.getElem?_set_ne (by decide)]
    exact f3
  have k14 : ((h.set (b1 + 0) (.inr (12, (fsm.set 0 (.int (Int32.ofInt 0)))))).set (b1 + 0) (.inr (12, ((fsm.set 0 (.int (Int32.ofInt 0))).set 1 (.int (Int32.ofInt (-1)))))))[b1 + 0]? = some (.inr (12, ((fsm.set 0 (.int (Int32.ofInt 0))).set 1 (.int (Int32.ofInt (-1)))))) := List.getElem?_set_self (List.getElem?_eq_some_iff.mp k4).1
  exact j_ret (v := some (.int (Int32.ofInt (-1)))) ⟨by decide +kernel, Or.inl (by decide +kernel)⟩ ⟨rfl, rfl⟩ rfl
set_option maxRecDepth 8192 in
theorem xk_due_2l {b0 : Nat} {fsx : List Value} {x1 : Int32} {x2 : Int32} {x3 : Int32} (hx : h[b0 + 0]? = some (.inr (11, fsx))) (lx : fsx.length = 12) (px0 : fsx[0]? = some (.ref (g.2.2 + (b0 + 1)))) (g1 : 1 ≤ x1.toInt ∧ x1.toInt ≤ 999) (g2 : 0 ≤ x2.toInt ∧ x2.toInt ≤ 11) (u : x3.toInt < 0) : jCal l g 156 2 [.ref (g.2.2 + (b0 + 0)), .int x1, .int x2, .int x3] h 0 0 (fun v h' => v = some (.int (Int32.ofInt (-1))) ∧ h' = (h.set (b0 + 0) (.inr (11, (fsx.set 7 (.int (Int32.ofInt (-1)))))))) := by
  have hcls : jcN 11 = (jyN 156).cls := by decide +kernel
  have cn0 : (Int32.ofInt 1).toInt = 1 := by decide
  have cn1 : (Int32.ofInt 0).toInt = 0 := by decide
  have cn2 : (Int32.ofInt (-1)).toInt = -1 := by decide
  refine jCal_of (by decide +kernel) (show 4 ≤ jmx 156 by decide +kernel) ?_
  show J l g 156 2 0 [some (.ref (g.2.2 + (b0 + 0))), some (.int x1), some (.int x2), some (.int x3)] [] h 0 0 _
  refine j_iload_n (k4 := 1) (dQ (by decide +kernel)) rfl ?_
  refine j_cS (own := 11) (i := 73) (y2 := 34) (d2 := 1) (mc := 0) (ms := 0) (kc := 0) (ks := 0) (As := [.int x1]) (st := []) (dQ (by decide +kernel)) hcls (by decide +kernel) (by decide) (by decide +kernel) (show 1 = jnp 34 by decide +kernel) (by decide) (show 0 ≤ 8 by decide) (x_isName_1 (by omega) (by omega)) (fun v hv2 hq => ?_)
  obtain ⟨rfl, rfl⟩ := hq
  refine j_if_eq (off := 17) (tgt := 21) (dQ (by decide +kernel)) (by decide) (fun q => absurd (congrArg Int32.toInt q) (by rw [i32_z]; omega)) (fun _ => ?_)
  refine j_iload_n (k4 := 2) (dQ (by decide +kernel)) rfl ?_
  refine j_cS (own := 11) (i := 34) (y2 := 14) (d2 := 1) (mc := 0) (ms := 0) (kc := 0) (ks := 0) (As := [.int x2]) (st := []) (dQ (by decide +kernel)) hcls (by decide +kernel) (by decide) (by decide +kernel) (show 1 = jnp 14 by decide +kernel) (by decide) (show 0 ≤ 8 by decide) (x_isBerth_1 (by omega) (by omega)) (fun v hv4 hq => ?_)
  obtain ⟨rfl, rfl⟩ := hq
  refine j_if_eq (off := 10) (tgt := 21) (dQ (by decide +kernel)) (by decide) (fun q => absurd (congrArg Int32.toInt q) (by rw [i32_z]; omega)) (fun _ => ?_)
  refine j_iload_n (k4 := 3) (dQ (by decide +kernel)) rfl ?_
  refine j_cS (own := 11) (i := 63) (y2 := 21) (d2 := 1) (mc := 0) (ms := 0) (kc := 0) (ks := 0) (As := [.int x3]) (st := []) (dQ (by decide +kernel)) hcls (by decide +kernel) (by decide) (by decide +kernel) (show 1 = jnp 21 by decide +kernel) (by decide) (show 0 ≤ 8 by decide) (x_isMinute_0l (by omega)) (fun v hv6 hq => ?_)
  obtain ⟨rfl, rfl⟩ := hq
  refine j_if_ne (off := 9) (tgt := 27) (dQ (by decide +kernel)) (by decide) (fun q => absurd (i32_eq (show _ = (0 : Int32).toInt by rw [i32_z]; omega)) q) (fun _ => ?_)
  refine j_aload_n (k4 := 0) (dQ (by decide +kernel)) rfl ?_
  refine j_iconst (n := (-1)) (dQ (by decide +kernel)) ?_
  refine j_cV (own := 11) (i := 41) (y2 := 16) (d2 := 1) (mc := 0) (ms := 0) (kc := 0) (ks := 0) (a := b0 + 0) (As := [.int (Int32.ofInt (-1))]) (st := []) (dQ (by decide +kernel)) hcls (by decide +kernel) (by decide) (by decide +kernel) (show 1 = jnp 16 by decide +kernel) (by decide) (show 0 ≤ 8 by decide) hx (fun r hr => by cases hr; decide +kernel) (x_refuse hx lx) (fun v hv8 hq => ?_)
  obtain ⟨rfl, rfl⟩ := hq
  have n9 : (fsx.set 7 (.int (Int32.ofInt (-1)))).length = 12 := by rw [List.length_set]; exact lx
  have f10 : (fsx.set 7 (.int (Int32.ofInt (-1))))[0]? = some (.ref (g.2.2 + (b0 + 1))) := by
    rw [List.getElem?_set_ne (by decide)]
    exact px0
  have k11 : (h.set (b0 + 0) (.inr (11, (fsx.set 7 (.int (Int32.ofInt (-1)))))))[b0 + 0]? = some (.inr (11, (fsx.set 7 (.int (Int32.ofInt (-1)))))) := List.getElem?_set_self (List.getElem?_eq_some_iff.mp hx).1
  exact j_ret (v := some (.int (Int32.ofInt (-1)))) ⟨by decide +kernel, Or.inl (by decide +kernel)⟩ ⟨rfl, rfl⟩ rfl
set_option maxRecDepth 8192 in
theorem xr_due_2l {b1 : Nat} {fsm : List Value} {x1 : Int32} {x2 : Int32} {x3 : Int32} (hm : h[b1 + 0]? = some (.inr (12, fsm))) (lm : fsm.length = 42) (pm2 : fsm[2]? = some (.ref (g.2.2 + (b1 + 1)))) (g1 : 1 ≤ x1.toInt ∧ x1.toInt ≤ 999) (g2 : 0 ≤ x2.toInt ∧ x2.toInt ≤ 11) (u : x3.toInt < 0) : jCal l g 292 3 [.ref (g.2.2 + (b1 + 0)), .int x1, .int x2, .int x3] h 0 0 (fun v h' => v = some (.int (Int32.ofInt (-1))) ∧ h' = ((h.set (b1 + 0) (.inr (12, (fsm.set 0 (.int (Int32.ofInt 0)))))).set (b1 + 0) (.inr (12, ((fsm.set 0 (.int (Int32.ofInt 0))).set 1 (.int (Int32.ofInt (-1)))))))) := by
  have hcls : jcN 12 = (jyN 292).cls := by decide +kernel
  have cn0 : (Int32.ofInt 0).toInt = 0 := by decide
  have cn1 : (Int32.ofInt 1).toInt = 1 := by decide
  have cn2 : (Int32.ofInt (-1)).toInt = -1 := by decide
  refine jCal_of (by decide +kernel) (show 4 ≤ jmx 292 by decide +kernel) ?_
  show J l g 292 3 0 [some (.ref (g.2.2 + (b1 + 0))), some (.int x1), some (.int x2), some (.int x3), none] [] h 0 0 _
  refine j_aload_n (k4 := 0) (dQ (by decide +kernel)) rfl ?_
  refine j_iconst (n := 0) (dQ (by decide +kernel)) ?_
  refine j_put (own := 12) (i := 94) (ci := 12) (f := 0) (ty := .int) (dQ (by decide +kernel)) hcls (by decide +kernel) hm rfl (by decide +kernel) (by rw [lm]; decide) (by decide +kernel) (by decide +kernel) rfl rfl ?_
  have n1 : (fsm.set 0 (.int (Int32.ofInt 0))).length = 42 := by rw [List.length_set]; exact lm
  have f2 : (fsm.set 0 (.int (Int32.ofInt 0)))[2]? = some (.ref (g.2.2 + (b1 + 1))) := by
    rw [List.getElem?_set_ne (by decide)]
    exact pm2
  have f3 : (fsm.set 0 (.int (Int32.ofInt 0)))[0]? = some (.int (Int32.ofInt 0)) := List.getElem?_set_self (by rw [lm]; decide)
  have k4 : (h.set (b1 + 0) (.inr (12, (fsm.set 0 (.int (Int32.ofInt 0))))))[b1 + 0]? = some (.inr (12, (fsm.set 0 (.int (Int32.ofInt 0))))) := List.getElem?_set_self (List.getElem?_eq_some_iff.mp hm).1
  refine j_iload_n (k4 := 1) (dQ (by decide +kernel)) rfl ?_
  refine j_cS (own := 12) (i := 301) (y2 := 249) (d2 := 2) (mc := 0) (ms := 0) (kc := 0) (ks := 0) (As := [.int x1]) (st := []) (dQ (by decide +kernel)) hcls (by decide +kernel) (by decide) (by decide +kernel) (show 1 = jnp 249 by decide +kernel) (by decide) (show 0 ≤ 8 by decide) (xm_isName_1 (by omega) (by omega)) (fun v hv6 hq => ?_)
  obtain ⟨rfl, rfl⟩ := hq
  refine j_if_eq (off := 17) (tgt := 26) (dQ (by decide +kernel)) (by decide) (fun q => absurd (congrArg Int32.toInt q) (by rw [i32_z]; omega)) (fun _ => ?_)
  refine j_iload_n (k4 := 2) (dQ (by decide +kernel)) rfl ?_
  refine j_cS (own := 12) (i := 285) (y2 := 235) (d2 := 2) (mc := 0) (ms := 0) (kc := 0) (ks := 0) (As := [.int x2]) (st := []) (dQ (by decide +kernel)) hcls (by decide +kernel) (by decide) (by decide +kernel) (show 1 = jnp 235 by decide +kernel) (by decide) (show 0 ≤ 8 by decide) (xm_isBerth_1 (by omega) (by omega)) (fun v hv8 hq => ?_)
  obtain ⟨rfl, rfl⟩ := hq
  refine j_if_eq (off := 10) (tgt := 26) (dQ (by decide +kernel)) (by decide) (fun q => absurd (congrArg Int32.toInt q) (by rw [i32_z]; omega)) (fun _ => ?_)
  refine j_iload_n (k4 := 3) (dQ (by decide +kernel)) rfl ?_
  refine j_cS (own := 12) (i := 288) (y2 := 238) (d2 := 2) (mc := 0) (ms := 0) (kc := 0) (ks := 0) (As := [.int x3]) (st := []) (dQ (by decide +kernel)) hcls (by decide +kernel) (by decide) (by decide +kernel) (show 1 = jnp 238 by decide +kernel) (by decide) (show 0 ≤ 8 by decide) (xm_isMinute_0l (by omega)) (fun v hv10 hq => ?_)
  obtain ⟨rfl, rfl⟩ := hq
  refine j_if_ne (off := 9) (tgt := 32) (dQ (by decide +kernel)) (by decide) (fun q => absurd (i32_eq (show _ = (0 : Int32).toInt by rw [i32_z]; omega)) q) (fun _ => ?_)
  refine j_aload_n (k4 := 0) (dQ (by decide +kernel)) rfl ?_
  refine j_iconst (n := (-1)) (dQ (by decide +kernel)) ?_
  refine j_cV (own := 12) (i := 104) (y2 := 206) (d2 := 1) (mc := 0) (ms := 0) (kc := 0) (ks := 0) (a := b1 + 0) (As := [.int (Int32.ofInt (-1))]) (st := []) (dQ (by decide +kernel)) hcls (by decide +kernel) (by decide) (by decide +kernel) (show 1 = jnp 206 by decide +kernel) (by decide) (show 0 ≤ 8 by decide) k4 (fun r hr => by cases hr; decide +kernel) (xm_tellN k4 n1 (by omega)) (fun v hv12 hq => ?_)
  obtain ⟨rfl, rfl⟩ := hq
  have n13 : ((fsm.set 0 (.int (Int32.ofInt 0))).set 1 (.int (Int32.ofInt (-1)))).length = 42 := by rw [List.length_set]; exact n1
  have f14 : ((fsm.set 0 (.int (Int32.ofInt 0))).set 1 (.int (Int32.ofInt (-1))))[2]? = some (.ref (g.2.2 + (b1 + 1))) := by
    rw [List.getElem?_set_ne (by decide)]
    exact f2
  have f15 : ((fsm.set 0 (.int (Int32.ofInt 0))).set 1 (.int (Int32.ofInt (-1))))[0]? = some (.int (Int32.ofInt 0)) := by
    rw [List.getElem?_set_ne (by decide)]
    exact f3
  have k16 : ((h.set (b1 + 0) (.inr (12, (fsm.set 0 (.int (Int32.ofInt 0)))))).set (b1 + 0) (.inr (12, ((fsm.set 0 (.int (Int32.ofInt 0))).set 1 (.int (Int32.ofInt (-1)))))))[b1 + 0]? = some (.inr (12, ((fsm.set 0 (.int (Int32.ofInt 0))).set 1 (.int (Int32.ofInt (-1)))))) := List.getElem?_set_self (List.getElem?_eq_some_iff.mp k4).1
  exact j_ret (v := some (.int (Int32.ofInt (-1)))) ⟨by decide +kernel, Or.inl (by decide +kernel)⟩ ⟨rfl, rfl⟩ rfl
set_option maxRecDepth 8192 in
theorem xk_due_2h {b0 : Nat} {fsx : List Value} {x1 : Int32} {x2 : Int32} {x3 : Int32} (hx : h[b0 + 0]? = some (.inr (11, fsx))) (lx : fsx.length = 12) (px0 : fsx[0]? = some (.ref (g.2.2 + (b0 + 1)))) (g1 : 1 ≤ x1.toInt ∧ x1.toInt ≤ 999) (g2 : 0 ≤ x2.toInt ∧ x2.toInt ≤ 11) (u : 9999 < x3.toInt) : jCal l g 156 2 [.ref (g.2.2 + (b0 + 0)), .int x1, .int x2, .int x3] h 0 0 (fun v h' => v = some (.int (Int32.ofInt (-1))) ∧ h' = (h.set (b0 + 0) (.inr (11, (fsx.set 7 (.int (Int32.ofInt (-1)))))))) := by
  have hcls : jcN 11 = (jyN 156).cls := by decide +kernel
  have cn0 : (Int32.ofInt 1).toInt = 1 := by decide
  have cn1 : (Int32.ofInt 0).toInt = 0 := by decide
  have cn2 : (Int32.ofInt (-1)).toInt = -1 := by decide
  refine jCal_of (by decide +kernel) (show 4 ≤ jmx 156 by decide +kernel) ?_
  show J l g 156 2 0 [some (.ref (g.2.2 + (b0 + 0))), some (.int x1), some (.int x2), some (.int x3)] [] h 0 0 _
  refine j_iload_n (k4 := 1) (dQ (by decide +kernel)) rfl ?_
  refine j_cS (own := 11) (i := 73) (y2 := 34) (d2 := 1) (mc := 0) (ms := 0) (kc := 0) (ks := 0) (As := [.int x1]) (st := []) (dQ (by decide +kernel)) hcls (by decide +kernel) (by decide) (by decide +kernel) (show 1 = jnp 34 by decide +kernel) (by decide) (show 0 ≤ 8 by decide) (x_isName_1 (by omega) (by omega)) (fun v hv2 hq => ?_)
  obtain ⟨rfl, rfl⟩ := hq
  refine j_if_eq (off := 17) (tgt := 21) (dQ (by decide +kernel)) (by decide) (fun q => absurd (congrArg Int32.toInt q) (by rw [i32_z]; omega)) (fun _ => ?_)
  refine j_iload_n (k4 := 2) (dQ (by decide +kernel)) rfl ?_
  refine j_cS (own := 11) (i := 34) (y2 := 14) (d2 := 1) (mc := 0) (ms := 0) (kc := 0) (ks := 0) (As := [.int x2]) (st := []) (dQ (by decide +kernel)) hcls (by decide +kernel) (by decide) (by decide +kernel) (show 1 = jnp 14 by decide +kernel) (by decide) (show 0 ≤ 8 by decide) (x_isBerth_1 (by omega) (by omega)) (fun v hv4 hq => ?_)
  obtain ⟨rfl, rfl⟩ := hq
  refine j_if_eq (off := 10) (tgt := 21) (dQ (by decide +kernel)) (by decide) (fun q => absurd (congrArg Int32.toInt q) (by rw [i32_z]; omega)) (fun _ => ?_)
  refine j_iload_n (k4 := 3) (dQ (by decide +kernel)) rfl ?_
  refine j_cS (own := 11) (i := 63) (y2 := 21) (d2 := 1) (mc := 0) (ms := 0) (kc := 0) (ks := 0) (As := [.int x3]) (st := []) (dQ (by decide +kernel)) hcls (by decide +kernel) (by decide) (by decide +kernel) (show 1 = jnp 21 by decide +kernel) (by decide) (show 0 ≤ 8 by decide) (x_isMinute_0h (by omega)) (fun v hv6 hq => ?_)
  obtain ⟨rfl, rfl⟩ := hq
  refine j_if_ne (off := 9) (tgt := 27) (dQ (by decide +kernel)) (by decide) (fun q => absurd (i32_eq (show _ = (0 : Int32).toInt by rw [i32_z]; omega)) q) (fun _ => ?_)
  refine j_aload_n (k4 := 0) (dQ (by decide +kernel)) rfl ?_
  refine j_iconst (n := (-1)) (dQ (by decide +kernel)) ?_
  refine j_cV (own := 11) (i := 41) (y2 := 16) (d2 := 1) (mc := 0) (ms := 0) (kc := 0) (ks := 0) (a := b0 + 0) (As := [.int (Int32.ofInt (-1))]) (st := []) (dQ (by decide +kernel)) hcls (by decide +kernel) (by decide) (by decide +kernel) (show 1 = jnp 16 by decide +kernel) (by decide) (show 0 ≤ 8 by decide) hx (fun r hr => by cases hr; decide +kernel) (x_refuse hx lx) (fun v hv8 hq => ?_)
  obtain ⟨rfl, rfl⟩ := hq
  have n9 : (fsx.set 7 (.int (Int32.ofInt (-1)))).length = 12 := by rw [List.length_set]; exact lx
  have f10 : (fsx.set 7 (.int (Int32.ofInt (-1))))[0]? = some (.ref (g.2.2 + (b0 + 1))) := by
    rw [List.getElem?_set_ne (by decide)]
    exact px0
  have k11 : (h.set (b0 + 0) (.inr (11, (fsx.set 7 (.int (Int32.ofInt (-1)))))))[b0 + 0]? = some (.inr (11, (fsx.set 7 (.int (Int32.ofInt (-1)))))) := List.getElem?_set_self (List.getElem?_eq_some_iff.mp hx).1
  exact j_ret (v := some (.int (Int32.ofInt (-1)))) ⟨by decide +kernel, Or.inl (by decide +kernel)⟩ ⟨rfl, rfl⟩ rfl
set_option maxRecDepth 8192 in
theorem xr_due_2h {b1 : Nat} {fsm : List Value} {x1 : Int32} {x2 : Int32} {x3 : Int32} (hm : h[b1 + 0]? = some (.inr (12, fsm))) (lm : fsm.length = 42) (pm2 : fsm[2]? = some (.ref (g.2.2 + (b1 + 1)))) (g1 : 1 ≤ x1.toInt ∧ x1.toInt ≤ 999) (g2 : 0 ≤ x2.toInt ∧ x2.toInt ≤ 11) (u : 9999 < x3.toInt) : jCal l g 292 3 [.ref (g.2.2 + (b1 + 0)), .int x1, .int x2, .int x3] h 0 0 (fun v h' => v = some (.int (Int32.ofInt (-1))) ∧ h' = ((h.set (b1 + 0) (.inr (12, (fsm.set 0 (.int (Int32.ofInt 0)))))).set (b1 + 0) (.inr (12, ((fsm.set 0 (.int (Int32.ofInt 0))).set 1 (.int (Int32.ofInt (-1)))))))) := by
  have hcls : jcN 12 = (jyN 292).cls := by decide +kernel
  have cn0 : (Int32.ofInt 0).toInt = 0 := by decide
  have cn1 : (Int32.ofInt 1).toInt = 1 := by decide
  have cn2 : (Int32.ofInt (-1)).toInt = -1 := by decide
  refine jCal_of (by decide +kernel) (show 4 ≤ jmx 292 by decide +kernel) ?_
  show J l g 292 3 0 [some (.ref (g.2.2 + (b1 + 0))), some (.int x1), some (.int x2), some (.int x3), none] [] h 0 0 _
  refine j_aload_n (k4 := 0) (dQ (by decide +kernel)) rfl ?_
  refine j_iconst (n := 0) (dQ (by decide +kernel)) ?_
  refine j_put (own := 12) (i := 94) (ci := 12) (f := 0) (ty := .int) (dQ (by decide +kernel)) hcls (by decide +kernel) hm rfl (by decide +kernel) (by rw [lm]; decide) (by decide +kernel) (by decide +kernel) rfl rfl ?_
  have n1 : (fsm.set 0 (.int (Int32.ofInt 0))).length = 42 := by rw [List.length_set]; exact lm
  have f2 : (fsm.set 0 (.int (Int32.ofInt 0)))[2]? = some (.ref (g.2.2 + (b1 + 1))) := by
    rw [List.getElem?_set_ne (by decide)]
    exact pm2
  have f3 : (fsm.set 0 (.int (Int32.ofInt 0)))[0]? = some (.int (Int32.ofInt 0)) := List.getElem?_set_self (by rw [lm]; decide)
  have k4 : (h.set (b1 + 0) (.inr (12, (fsm.set 0 (.int (Int32.ofInt 0))))))[b1 + 0]? = some (.inr (12, (fsm.set 0 (.int (Int32.ofInt 0))))) := List.getElem?_set_self (List.getElem?_eq_some_iff.mp hm).1
  refine j_iload_n (k4 := 1) (dQ (by decide +kernel)) rfl ?_
  refine j_cS (own := 12) (i := 301) (y2 := 249) (d2 := 2) (mc := 0) (ms := 0) (kc := 0) (ks := 0) (As := [.int x1]) (st := []) (dQ (by decide +kernel)) hcls (by decide +kernel) (by decide) (by decide +kernel) (show 1 = jnp 249 by decide +kernel) (by decide) (show 0 ≤ 8 by decide) (xm_isName_1 (by omega) (by omega)) (fun v hv6 hq => ?_)
  obtain ⟨rfl, rfl⟩ := hq
  refine j_if_eq (off := 17) (tgt := 26) (dQ (by decide +kernel)) (by decide) (fun q => absurd (congrArg Int32.toInt q) (by rw [i32_z]; omega)) (fun _ => ?_)
  refine j_iload_n (k4 := 2) (dQ (by decide +kernel)) rfl ?_
  refine j_cS (own := 12) (i := 285) (y2 := 235) (d2 := 2) (mc := 0) (ms := 0) (kc := 0) (ks := 0) (As := [.int x2]) (st := []) (dQ (by decide +kernel)) hcls (by decide +kernel) (by decide) (by decide +kernel) (show 1 = jnp 235 by decide +kernel) (by decide) (show 0 ≤ 8 by decide) (xm_isBerth_1 (by omega) (by omega)) (fun v hv8 hq => ?_)
  obtain ⟨rfl, rfl⟩ := hq
  refine j_if_eq (off := 10) (tgt := 26) (dQ (by decide +kernel)) (by decide) (fun q => absurd (congrArg Int32.toInt q) (by rw [i32_z]; omega)) (fun _ => ?_)
  refine j_iload_n (k4 := 3) (dQ (by decide +kernel)) rfl ?_
  refine j_cS (own := 12) (i := 288) (y2 := 238) (d2 := 2) (mc := 0) (ms := 0) (kc := 0) (ks := 0) (As := [.int x3]) (st := []) (dQ (by decide +kernel)) hcls (by decide +kernel) (by decide) (by decide +kernel) (show 1 = jnp 238 by decide +kernel) (by decide) (show 0 ≤ 8 by decide) (xm_isMinute_0h (by omega)) (fun v hv10 hq => ?_)
  obtain ⟨rfl, rfl⟩ := hq
  refine j_if_ne (off := 9) (tgt := 32) (dQ (by decide +kernel)) (by decide) (fun q => absurd (i32_eq (show _ = (0 : Int32).toInt by rw [i32_z]; omega)) q) (fun _ => ?_)
  refine j_aload_n (k4 := 0) (dQ (by decide +kernel)) rfl ?_
  refine j_iconst (n := (-1)) (dQ (by decide +kernel)) ?_
  refine j_cV (own := 12) (i := 104) (y2 := 206) (d2 := 1) (mc := 0) (ms := 0) (kc := 0) (ks := 0) (a := b1 + 0) (As := [.int (Int32.ofInt (-1))]) (st := []) (dQ (by decide +kernel)) hcls (by decide +kernel) (by decide) (by decide +kernel) (show 1 = jnp 206 by decide +kernel) (by decide) (show 0 ≤ 8 by decide) k4 (fun r hr => by cases hr; decide +kernel) (xm_tellN k4 n1 (by omega)) (fun v hv12 hq => ?_)
  obtain ⟨rfl, rfl⟩ := hq
  have n13 : ((fsm.set 0 (.int (Int32.ofInt 0))).set 1 (.int (Int32.ofInt (-1)))).length = 42 := by rw [List.length_set]; exact n1
  have f14 : ((fsm.set 0 (.int (Int32.ofInt 0))).set 1 (.int (Int32.ofInt (-1))))[2]? = some (.ref (g.2.2 + (b1 + 1))) := by
    rw [List.getElem?_set_ne (by decide)]
    exact f2
  have f15 : ((fsm.set 0 (.int (Int32.ofInt 0))).set 1 (.int (Int32.ofInt (-1))))[0]? = some (.int (Int32.ofInt 0)) := by
    rw [List.getElem?_set_ne (by decide)]
    exact f3
  have k16 : ((h.set (b1 + 0) (.inr (12, (fsm.set 0 (.int (Int32.ofInt 0)))))).set (b1 + 0) (.inr (12, ((fsm.set 0 (.int (Int32.ofInt 0))).set 1 (.int (Int32.ofInt (-1)))))))[b1 + 0]? = some (.inr (12, ((fsm.set 0 (.int (Int32.ofInt 0))).set 1 (.int (Int32.ofInt (-1)))))) := List.getElem?_set_self (List.getElem?_eq_some_iff.mp k4).1
  exact j_ret (v := some (.int (Int32.ofInt (-1)))) ⟨by decide +kernel, Or.inl (by decide +kernel)⟩ ⟨rfl, rfl⟩ rfl
set_option maxRecDepth 8192 in
theorem xk_due_ok {b0 : Nat} {fsx : List Value} {fss : List Value} {fsi : List Value} {fa : Nat → Int32} {fb : Nat → Int32} {fc : Nat → Int32} {x1 : Int32} {x2 : Int32} {x3 : Int32} {t : Int32} {n : Nat} (hx : h[b0 + 0]? = some (.inr (11, fsx))) (lx : fsx.length = 12) (px0 : fsx[0]? = some (.ref (g.2.2 + (b0 + 1)))) (hs : h[b0 + 1]? = some (.inr (7, fss))) (ls : fss.length = 20) (ps19 : fss[19]? = some (.ref (g.2.2 + (b0 + 44)))) (hi : h[b0 + 44]? = some (.inr (8, fsi))) (li : fsi.length = 5) (pi0 : fsi[0]? = some (.int t)) (pi1 : fsi[1]? = some (.ref (g.2.2 + (b0 + 45)))) (pi2 : fsi[2]? = some (.ref (g.2.2 + (b0 + 46)))) (pi3 : fsi[3]? = some (.ref (g.2.2 + (b0 + 47)))) (ha : h[b0 + 45]? = some (.inl (0, 40, fa))) (hb : h[b0 + 46]? = some (.inl (0, 40, fb))) (hc : h[b0 + 47]? = some (.inl (0, 40, fc))) (g1 : 1 ≤ x1.toInt ∧ x1.toInt ≤ 999) (g2 : 0 ≤ x2.toInt ∧ x2.toInt ≤ 11) (g3 : 0 ≤ x3.toInt ∧ x3.toInt ≤ 9999) (et : t.toInt = (n : Int)) (en : 0 ≤ n ∧ n ≤ 39) : jCal l g 156 2 [.ref (g.2.2 + (b0 + 0)), .int x1, .int x2, .int x3] h 0 0 (fun v h' => ∃ r7 : Int32, r7.toInt = (((n + 1) : Nat) : Int) ∧ v = some (.int r7) ∧ h' = (((((h.set (b0 + 45) (.inl (0, 40, (upd fa n x1)))).set (b0 + 46) (.inl (0, 40, (upd fb n x2)))).set (b0 + 47) (.inl (0, 40, (upd fc n x3)))).set (b0 + 44) (.inr (8, (fsi.set 0 (.int r7))))).set (b0 + 0) (.inr (11, (fsx.set 7 (.int (Int32.ofInt 0))))))) := by
  have hcls : jcN 11 = (jyN 156).cls := by decide +kernel
  have cn0 : (Int32.ofInt 1).toInt = 1 := by decide
  have cn1 : (Int32.ofInt 0).toInt = 0 := by decide
  refine jCal_of (by decide +kernel) (show 4 ≤ jmx 156 by decide +kernel) ?_
  show J l g 156 2 0 [some (.ref (g.2.2 + (b0 + 0))), some (.int x1), some (.int x2), some (.int x3)] [] h 0 0 _
  refine j_iload_n (k4 := 1) (dQ (by decide +kernel)) rfl ?_
  refine j_cS (own := 11) (i := 73) (y2 := 34) (d2 := 1) (mc := 0) (ms := 0) (kc := 0) (ks := 0) (As := [.int x1]) (st := []) (dQ (by decide +kernel)) hcls (by decide +kernel) (by decide) (by decide +kernel) (show 1 = jnp 34 by decide +kernel) (by decide) (show 0 ≤ 8 by decide) (x_isName_1 (by omega) (by omega)) (fun v hv2 hq => ?_)
  obtain ⟨rfl, rfl⟩ := hq
  refine j_if_eq (off := 17) (tgt := 21) (dQ (by decide +kernel)) (by decide) (fun q => absurd (congrArg Int32.toInt q) (by rw [i32_z]; omega)) (fun _ => ?_)
  refine j_iload_n (k4 := 2) (dQ (by decide +kernel)) rfl ?_
  refine j_cS (own := 11) (i := 34) (y2 := 14) (d2 := 1) (mc := 0) (ms := 0) (kc := 0) (ks := 0) (As := [.int x2]) (st := []) (dQ (by decide +kernel)) hcls (by decide +kernel) (by decide) (by decide +kernel) (show 1 = jnp 14 by decide +kernel) (by decide) (show 0 ≤ 8 by decide) (x_isBerth_1 (by omega) (by omega)) (fun v hv4 hq => ?_)
  obtain ⟨rfl, rfl⟩ := hq
  refine j_if_eq (off := 10) (tgt := 21) (dQ (by decide +kernel)) (by decide) (fun q => absurd (congrArg Int32.toInt q) (by rw [i32_z]; omega)) (fun _ => ?_)
  refine j_iload_n (k4 := 3) (dQ (by decide +kernel)) rfl ?_
  refine j_cS (own := 11) (i := 63) (y2 := 21) (d2 := 1) (mc := 0) (ms := 0) (kc := 0) (ks := 0) (As := [.int x3]) (st := []) (dQ (by decide +kernel)) hcls (by decide +kernel) (by decide) (by decide +kernel) (show 1 = jnp 21 by decide +kernel) (by decide) (show 0 ≤ 8 by decide) (x_isMinute_1 (by omega) (by omega)) (fun v hv6 hq => ?_)
  obtain ⟨rfl, rfl⟩ := hq
  refine j_if_ne (off := 9) (tgt := 27) (dQ (by decide +kernel)) (by decide) (fun _ => ?_) (fun q => absurd (fun q => absurd (congrArg Int32.toInt q) (by rw [i32_z]; omega)) q)
  refine j_aload_n (k4 := 0) (dQ (by decide +kernel)) rfl ?_
  refine j_get (own := 11) (i := 10) (ci := 11) (f := 0) (dQ (by decide +kernel)) hcls (by decide +kernel) hx (fun r hr => by cases hr; decide +kernel) px0 ?_
  refine j_get (own := 11) (i := 292) (ci := 7) (f := 19) (dQ (by decide +kernel)) hcls (by decide +kernel) hs (fun r hr => by cases hr; decide +kernel) ps19 ?_
  refine j_iload_n (k4 := 1) (dQ (by decide +kernel)) rfl ?_
  refine j_iload_n (k4 := 2) (dQ (by decide +kernel)) rfl ?_
  refine j_iload_n (k4 := 3) (dQ (by decide +kernel)) rfl ?_
  refine j_cV (own := 11) (i := 296) (y2 := 157) (d2 := 1) (mc := 0) (ms := 0) (kc := 0) (ks := 0) (a := b0 + 44) (As := [.int x1, .int x2, .int x3]) (st := []) (dQ (by decide +kernel)) hcls (by decide +kernel) (by decide) (by decide +kernel) (show 3 = jnp 157 by decide +kernel) (by decide) (show 0 ≤ 8 by decide) hi (fun r hr => by cases hr; decide +kernel) (xs_due hi li pi0 pi1 pi2 pi3 ha hb hc (by omega) (by omega)) (fun v hv9 hq => ?_)
  obtain ⟨r7, hr7, rfl, rfl⟩ := hq
  have k10 : ((((h.set (b0 + 45) (.inl (0, 40, (upd fa n x1)))).set (b0 + 46) (.inl (0, 40, (upd fb n x2)))).set (b0 + 47) (.inl (0, 40, (upd fc n x3)))).set (b0 + 44) (.inr (8, (fsi.set 0 (.int r7)))))[b0 + 0]? = some (.inr (11, fsx)) := by rw [List.getElem?_set_ne (by omega), List.getElem?_set_ne (by omega), List.getElem?_set_ne (by omega), List.getElem?_set_ne (by omega)]; exact hx
  have k11 : ((((h.set (b0 + 45) (.inl (0, 40, (upd fa n x1)))).set (b0 + 46) (.inl (0, 40, (upd fb n x2)))).set (b0 + 47) (.inl (0, 40, (upd fc n x3)))).set (b0 + 44) (.inr (8, (fsi.set 0 (.int r7)))))[b0 + 1]? = some (.inr (7, fss)) := by rw [List.getElem?_set_ne (by omega), List.getElem?_set_ne (by omega), List.getElem?_set_ne (by omega), List.getElem?_set_ne (by omega)]; exact hs
  have n13 : (fsi.set 0 (.int r7)).length = 5 := by rw [List.length_set]; exact li
  have f14 : (fsi.set 0 (.int r7))[1]? = some (.ref (g.2.2 + (b0 + 45))) := by rw [List.getElem?_set_ne (by decide)]; exact pi1
  have f15 : (fsi.set 0 (.int r7))[2]? = some (.ref (g.2.2 + (b0 + 46))) := by rw [List.getElem?_set_ne (by decide)]; exact pi2
  have f16 : (fsi.set 0 (.int r7))[3]? = some (.ref (g.2.2 + (b0 + 47))) := by rw [List.getElem?_set_ne (by decide)]; exact pi3
  have f17 : (fsi.set 0 (.int r7))[0]? = some (.int r7) := List.getElem?_set_self (by rw [li]; decide)
  have k12 : ((((h.set (b0 + 45) (.inl (0, 40, (upd fa n x1)))).set (b0 + 46) (.inl (0, 40, (upd fb n x2)))).set (b0 + 47) (.inl (0, 40, (upd fc n x3)))).set (b0 + 44) (.inr (8, (fsi.set 0 (.int r7)))))[b0 + 44]? = some (.inr (8, (fsi.set 0 (.int r7)))) := by exact List.getElem?_set_self (by first | exact (List.getElem?_eq_some_iff.mp hi).1 | (simp only [List.length_set]; exact (List.getElem?_eq_some_iff.mp hi).1))
  have k18 : ((((h.set (b0 + 45) (.inl (0, 40, (upd fa n x1)))).set (b0 + 46) (.inl (0, 40, (upd fb n x2)))).set (b0 + 47) (.inl (0, 40, (upd fc n x3)))).set (b0 + 44) (.inr (8, (fsi.set 0 (.int r7)))))[b0 + 45]? = some (.inl (0, 40, (upd fa n x1))) := by rw [List.getElem?_set_ne (by omega), List.getElem?_set_ne (by omega), List.getElem?_set_ne (by omega)]; exact List.getElem?_set_self (by first | exact (List.getElem?_eq_some_iff.mp ha).1 | (simp only [List.length_set]; exact (List.getElem?_eq_some_iff.mp ha).1))
  have k19 : ((((h.set (b0 + 45) (.inl (0, 40, (upd fa n x1)))).set (b0 + 46) (.inl (0, 40, (upd fb n x2)))).set (b0 + 47) (.inl (0, 40, (upd fc n x3)))).set (b0 + 44) (.inr (8, (fsi.set 0 (.int r7)))))[b0 + 46]? = some (.inl (0, 40, (upd fb n x2))) := by rw [List.getElem?_set_ne (by omega), List.getElem?_set_ne (by omega)]; exact List.getElem?_set_self (by first | exact (List.getElem?_eq_some_iff.mp hb).1 | (simp only [List.length_set]; exact (List.getElem?_eq_some_iff.mp hb).1))
  have k20 : ((((h.set (b0 + 45) (.inl (0, 40, (upd fa n x1)))).set (b0 + 46) (.inl (0, 40, (upd fb n x2)))).set (b0 + 47) (.inl (0, 40, (upd fc n x3)))).set (b0 + 44) (.inr (8, (fsi.set 0 (.int r7)))))[b0 + 47]? = some (.inl (0, 40, (upd fc n x3))) := by rw [List.getElem?_set_ne (by omega)]; exact List.getElem?_set_self (by first | exact (List.getElem?_eq_some_iff.mp hc).1 | (simp only [List.length_set]; exact (List.getElem?_eq_some_iff.mp hc).1))
  refine j_if_ne (off := 10) (tgt := 50) (dQ (by decide +kernel)) (by decide) (fun _ => ?_) (fun q => absurd (fun q => absurd (congrArg Int32.toInt q) (by rw [i32_z]; omega)) q)
  refine j_aload_n (k4 := 0) (dQ (by decide +kernel)) rfl ?_
  refine j_aload_n (k4 := 0) (dQ (by decide +kernel)) rfl ?_
  refine j_get (own := 11) (i := 10) (ci := 11) (f := 0) (dQ (by decide +kernel)) hcls (by decide +kernel) k10 (fun r hr => by cases hr; decide +kernel) px0 ?_
  refine j_get (own := 11) (i := 292) (ci := 7) (f := 19) (dQ (by decide +kernel)) hcls (by decide +kernel) k11 (fun r hr => by cases hr; decide +kernel) ps19 ?_
  refine j_get (own := 11) (i := 299) (ci := 8) (f := 0) (dQ (by decide +kernel)) hcls (by decide +kernel) k12 (fun r hr => by cases hr; decide +kernel) f17 ?_
  refine j_cV (own := 11) (i := 48) (y2 := 17) (d2 := 1) (mc := 0) (ms := 0) (kc := 0) (ks := 0) (a := b0 + 0) (As := [.int r7]) (st := []) (dQ (by decide +kernel)) hcls (by decide +kernel) (by decide) (by decide +kernel) (show 1 = jnp 17 by decide +kernel) (by decide) (show 0 ≤ 8 by decide) k10 (fun r hr => by cases hr; decide +kernel) (x_allow k10 lx) (fun v hv22 hq => ?_)
  obtain ⟨rfl, rfl⟩ := hq
  have n23 : (fsx.set 7 (.int (Int32.ofInt 0))).length = 12 := by rw [List.length_set]; exact lx
  have f24 : (fsx.set 7 (.int (Int32.ofInt 0)))[0]? = some (.ref (g.2.2 + (b0 + 1))) := by
    rw [List.getElem?_set_ne (by decide)]
    exact px0
  have k25 : (((((h.set (b0 + 45) (.inl (0, 40, (upd fa n x1)))).set (b0 + 46) (.inl (0, 40, (upd fb n x2)))).set (b0 + 47) (.inl (0, 40, (upd fc n x3)))).set (b0 + 44) (.inr (8, (fsi.set 0 (.int r7))))).set (b0 + 0) (.inr (11, (fsx.set 7 (.int (Int32.ofInt 0))))))[b0 + 0]? = some (.inr (11, (fsx.set 7 (.int (Int32.ofInt 0))))) := List.getElem?_set_self (List.getElem?_eq_some_iff.mp k10).1
  have k26 : (((((h.set (b0 + 45) (.inl (0, 40, (upd fa n x1)))).set (b0 + 46) (.inl (0, 40, (upd fb n x2)))).set (b0 + 47) (.inl (0, 40, (upd fc n x3)))).set (b0 + 44) (.inr (8, (fsi.set 0 (.int r7))))).set (b0 + 0) (.inr (11, (fsx.set 7 (.int (Int32.ofInt 0))))))[b0 + 1]? = some (.inr (7, fss)) := by
    rw [List.getElem?_set_ne (by omega)]
    exact k11
  have k27 : (((((h.set (b0 + 45) (.inl (0, 40, (upd fa n x1)))).set (b0 + 46) (.inl (0, 40, (upd fb n x2)))).set (b0 + 47) (.inl (0, 40, (upd fc n x3)))).set (b0 + 44) (.inr (8, (fsi.set 0 (.int r7))))).set (b0 + 0) (.inr (11, (fsx.set 7 (.int (Int32.ofInt 0))))))[b0 + 44]? = some (.inr (8, (fsi.set 0 (.int r7)))) := by
    rw [List.getElem?_set_ne (by omega)]
    exact k12
  have k28 : (((((h.set (b0 + 45) (.inl (0, 40, (upd fa n x1)))).set (b0 + 46) (.inl (0, 40, (upd fb n x2)))).set (b0 + 47) (.inl (0, 40, (upd fc n x3)))).set (b0 + 44) (.inr (8, (fsi.set 0 (.int r7))))).set (b0 + 0) (.inr (11, (fsx.set 7 (.int (Int32.ofInt 0))))))[b0 + 45]? = some (.inl (0, 40, (upd fa n x1))) := by
    rw [List.getElem?_set_ne (by omega)]
    exact k18
  have k29 : (((((h.set (b0 + 45) (.inl (0, 40, (upd fa n x1)))).set (b0 + 46) (.inl (0, 40, (upd fb n x2)))).set (b0 + 47) (.inl (0, 40, (upd fc n x3)))).set (b0 + 44) (.inr (8, (fsi.set 0 (.int r7))))).set (b0 + 0) (.inr (11, (fsx.set 7 (.int (Int32.ofInt 0))))))[b0 + 46]? = some (.inl (0, 40, (upd fb n x2))) := by
    rw [List.getElem?_set_ne (by omega)]
    exact k19
  have k30 : (((((h.set (b0 + 45) (.inl (0, 40, (upd fa n x1)))).set (b0 + 46) (.inl (0, 40, (upd fb n x2)))).set (b0 + 47) (.inl (0, 40, (upd fc n x3)))).set (b0 + 44) (.inr (8, (fsi.set 0 (.int r7))))).set (b0 + 0) (.inr (11, (fsx.set 7 (.int (Int32.ofInt 0))))))[b0 + 47]? = some (.inl (0, 40, (upd fc n x3))) := by
    rw [List.getElem?_set_ne (by omega)]
    exact k20
  exact j_ret (v := some (.int r7)) ⟨by decide +kernel, Or.inl (by decide +kernel)⟩ ⟨r7, by omega, rfl, rfl⟩ rfl
set_option maxRecDepth 8192 in
theorem xk_due_full {b0 : Nat} {fsx : List Value} {fss : List Value} {fsi : List Value} {x1 : Int32} {x2 : Int32} {x3 : Int32} {t : Int32} {n : Nat} (hx : h[b0 + 0]? = some (.inr (11, fsx))) (lx : fsx.length = 12) (px0 : fsx[0]? = some (.ref (g.2.2 + (b0 + 1)))) (hs : h[b0 + 1]? = some (.inr (7, fss))) (ls : fss.length = 20) (ps19 : fss[19]? = some (.ref (g.2.2 + (b0 + 44)))) (hi : h[b0 + 44]? = some (.inr (8, fsi))) (li : fsi.length = 5) (pi0 : fsi[0]? = some (.int t)) (g1 : 1 ≤ x1.toInt ∧ x1.toInt ≤ 999) (g2 : 0 ≤ x2.toInt ∧ x2.toInt ≤ 11) (g3 : 0 ≤ x3.toInt ∧ x3.toInt ≤ 9999) (et : t.toInt = (n : Int)) (en : 40 ≤ n ∧ n ≤ 40) : jCal l g 156 2 [.ref (g.2.2 + (b0 + 0)), .int x1, .int x2, .int x3] h 0 0 (fun v h' => v = some (.int (Int32.ofInt (-5))) ∧ h' = (h.set (b0 + 0) (.inr (11, (fsx.set 7 (.int (Int32.ofInt (-5)))))))) := by
  have hcls : jcN 11 = (jyN 156).cls := by decide +kernel
  have cn0 : (Int32.ofInt 1).toInt = 1 := by decide
  have cn1 : (Int32.ofInt 0).toInt = 0 := by decide
  have cn2 : (Int32.ofInt (-5)).toInt = -5 := by decide
  refine jCal_of (by decide +kernel) (show 4 ≤ jmx 156 by decide +kernel) ?_
  show J l g 156 2 0 [some (.ref (g.2.2 + (b0 + 0))), some (.int x1), some (.int x2), some (.int x3)] [] h 0 0 _
  refine j_iload_n (k4 := 1) (dQ (by decide +kernel)) rfl ?_
  refine j_cS (own := 11) (i := 73) (y2 := 34) (d2 := 1) (mc := 0) (ms := 0) (kc := 0) (ks := 0) (As := [.int x1]) (st := []) (dQ (by decide +kernel)) hcls (by decide +kernel) (by decide) (by decide +kernel) (show 1 = jnp 34 by decide +kernel) (by decide) (show 0 ≤ 8 by decide) (x_isName_1 (by omega) (by omega)) (fun v hv2 hq => ?_)
  obtain ⟨rfl, rfl⟩ := hq
  refine j_if_eq (off := 17) (tgt := 21) (dQ (by decide +kernel)) (by decide) (fun q => absurd (congrArg Int32.toInt q) (by rw [i32_z]; omega)) (fun _ => ?_)
  refine j_iload_n (k4 := 2) (dQ (by decide +kernel)) rfl ?_
  refine j_cS (own := 11) (i := 34) (y2 := 14) (d2 := 1) (mc := 0) (ms := 0) (kc := 0) (ks := 0) (As := [.int x2]) (st := []) (dQ (by decide +kernel)) hcls (by decide +kernel) (by decide) (by decide +kernel) (show 1 = jnp 14 by decide +kernel) (by decide) (show 0 ≤ 8 by decide) (x_isBerth_1 (by omega) (by omega)) (fun v hv4 hq => ?_)
  obtain ⟨rfl, rfl⟩ := hq
  refine j_if_eq (off := 10) (tgt := 21) (dQ (by decide +kernel)) (by decide) (fun q => absurd (congrArg Int32.toInt q) (by rw [i32_z]; omega)) (fun _ => ?_)
  refine j_iload_n (k4 := 3) (dQ (by decide +kernel)) rfl ?_
  refine j_cS (own := 11) (i := 63) (y2 := 21) (d2 := 1) (mc := 0) (ms := 0) (kc := 0) (ks := 0) (As := [.int x3]) (st := []) (dQ (by decide +kernel)) hcls (by decide +kernel) (by decide) (by decide +kernel) (show 1 = jnp 21 by decide +kernel) (by decide) (show 0 ≤ 8 by decide) (x_isMinute_1 (by omega) (by omega)) (fun v hv6 hq => ?_)
  obtain ⟨rfl, rfl⟩ := hq
  refine j_if_ne (off := 9) (tgt := 27) (dQ (by decide +kernel)) (by decide) (fun _ => ?_) (fun q => absurd (fun q => absurd (congrArg Int32.toInt q) (by rw [i32_z]; omega)) q)
  refine j_aload_n (k4 := 0) (dQ (by decide +kernel)) rfl ?_
  refine j_get (own := 11) (i := 10) (ci := 11) (f := 0) (dQ (by decide +kernel)) hcls (by decide +kernel) hx (fun r hr => by cases hr; decide +kernel) px0 ?_
  refine j_get (own := 11) (i := 292) (ci := 7) (f := 19) (dQ (by decide +kernel)) hcls (by decide +kernel) hs (fun r hr => by cases hr; decide +kernel) ps19 ?_
  refine j_iload_n (k4 := 1) (dQ (by decide +kernel)) rfl ?_
  refine j_iload_n (k4 := 2) (dQ (by decide +kernel)) rfl ?_
  refine j_iload_n (k4 := 3) (dQ (by decide +kernel)) rfl ?_
  refine j_cV (own := 11) (i := 296) (y2 := 157) (d2 := 1) (mc := 0) (ms := 0) (kc := 0) (ks := 0) (a := b0 + 44) (As := [.int x1, .int x2, .int x3]) (st := []) (dQ (by decide +kernel)) hcls (by decide +kernel) (by decide) (by decide +kernel) (show 3 = jnp 157 by decide +kernel) (by decide) (show 0 ≤ 8 by decide) hi (fun r hr => by cases hr; decide +kernel) (xs_dueF hi li pi0 (by omega) (by omega)) (fun v hv8 hq => ?_)
  obtain ⟨rfl, rfl⟩ := hq
  have k9 : h[b0 + 0]? = some (.inr (11, fsx)) := by exact hx
  have k10 : h[b0 + 1]? = some (.inr (7, fss)) := by exact hs
  have k11 : h[b0 + 44]? = some (.inr (8, fsi)) := by exact hi
  refine j_if_ne (off := 10) (tgt := 50) (dQ (by decide +kernel)) (by decide) (fun q => absurd (i32_eq (show _ = (0 : Int32).toInt by rw [i32_z]; omega)) q) (fun _ => ?_)
  refine j_aload_n (k4 := 0) (dQ (by decide +kernel)) rfl ?_
  refine x_bi (n := (-5)) (dQ (by decide +kernel)) (by decide) ?_
  refine j_cV (own := 11) (i := 41) (y2 := 16) (d2 := 1) (mc := 0) (ms := 0) (kc := 0) (ks := 0) (a := b0 + 0) (As := [.int (Int32.ofInt (-5))]) (st := []) (dQ (by decide +kernel)) hcls (by decide +kernel) (by decide) (by decide +kernel) (show 1 = jnp 16 by decide +kernel) (by decide) (show 0 ≤ 8 by decide) k9 (fun r hr => by cases hr; decide +kernel) (x_refuse k9 lx) (fun v hv13 hq => ?_)
  obtain ⟨rfl, rfl⟩ := hq
  have n14 : (fsx.set 7 (.int (Int32.ofInt (-5)))).length = 12 := by rw [List.length_set]; exact lx
  have f15 : (fsx.set 7 (.int (Int32.ofInt (-5))))[0]? = some (.ref (g.2.2 + (b0 + 1))) := by
    rw [List.getElem?_set_ne (by decide)]
    exact px0
  have k16 : (h.set (b0 + 0) (.inr (11, (fsx.set 7 (.int (Int32.ofInt (-5)))))))[b0 + 0]? = some (.inr (11, (fsx.set 7 (.int (Int32.ofInt (-5)))))) := List.getElem?_set_self (List.getElem?_eq_some_iff.mp k9).1
  have k17 : (h.set (b0 + 0) (.inr (11, (fsx.set 7 (.int (Int32.ofInt (-5)))))))[b0 + 1]? = some (.inr (7, fss)) := by
    rw [List.getElem?_set_ne (by omega)]
    exact k10
  have k18 : (h.set (b0 + 0) (.inr (11, (fsx.set 7 (.int (Int32.ofInt (-5)))))))[b0 + 44]? = some (.inr (8, fsi)) := by
    rw [List.getElem?_set_ne (by omega)]
    exact k11
  exact j_ret (v := some (.int (Int32.ofInt (-5)))) ⟨by decide +kernel, Or.inl (by decide +kernel)⟩ ⟨rfl, rfl⟩ rfl
set_option maxRecDepth 8192 in
theorem xr_due_ok {b1 : Nat} {fsm : List Value} {fr : Nat → Int32} {x1 : Int32} {x2 : Int32} {x3 : Int32} {t : Int32} {n : Nat} (hm : h[b1 + 0]? = some (.inr (12, fsm))) (lm : fsm.length = 42) (pm2 : fsm[2]? = some (.ref (g.2.2 + (b1 + 1)))) (hr : h[b1 + 1]? = some (.inl (0, 5270, fr))) (g1 : 1 ≤ x1.toInt ∧ x1.toInt ≤ 999) (g2 : 0 ≤ x2.toInt ∧ x2.toInt ≤ 11) (g3 : 0 ≤ x3.toInt ∧ x3.toInt ≤ 9999) (et : t.toInt = (n : Int)) (en : 0 ≤ n ∧ n ≤ 39) (qt : fr 5 = t) : jCal l g 292 3 [.ref (g.2.2 + (b1 + 0)), .int x1, .int x2, .int x3] h 0 0 (fun v h' => ∃ r22 : Int32, r22.toInt = (((n + 1) : Nat) : Int) ∧ v = some (.int r22) ∧ h' = ((((((h.set (b1 + 0) (.inr (12, (fsm.set 0 (.int (Int32.ofInt 0)))))).set (b1 + 1) (.inl (0, 5270, (upd fr (504 + (3 * n)) x1)))).set (b1 + 1) (.inl (0, 5270, (upd (upd fr (504 + (3 * n)) x1) ((504 + (3 * n)) + 1) x2)))).set (b1 + 1) (.inl (0, 5270, (upd (upd (upd fr (504 + (3 * n)) x1) ((504 + (3 * n)) + 1) x2) ((504 + (3 * n)) + 2) x3)))).set (b1 + 1) (.inl (0, 5270, (upd (upd (upd (upd fr (504 + (3 * n)) x1) ((504 + (3 * n)) + 1) x2) ((504 + (3 * n)) + 2) x3) 5 r22)))).set (b1 + 0) (.inr (12, ((fsm.set 0 (.int (Int32.ofInt 0))).set 1 (.int (Int32.ofInt 0))))))) := by
  have hcls : jcN 12 = (jyN 292).cls := by decide +kernel
  have cn0 : (Int32.ofInt 0).toInt = 0 := by decide
  have cn1 : (Int32.ofInt 1).toInt = 1 := by decide
  have cn2 : (Int32.ofInt 5).toInt = 5 := by decide
  have cn3 : (Int32.ofInt 40).toInt = 40 := by decide
  have cn4 : (Int32.ofInt 504).toInt = 504 := by decide
  have cn5 : (Int32.ofInt 3).toInt = 3 := by decide
  have cn6 : (Int32.ofInt 2).toInt = 2 := by decide
  refine jCal_of (by decide +kernel) (show 4 ≤ jmx 292 by decide +kernel) ?_
  show J l g 292 3 0 [some (.ref (g.2.2 + (b1 + 0))), some (.int x1), some (.int x2), some (.int x3), none] [] h 0 0 _
  refine j_aload_n (k4 := 0) (dQ (by decide +kernel)) rfl ?_
  refine j_iconst (n := 0) (dQ (by decide +kernel)) ?_
  refine j_put (own := 12) (i := 94) (ci := 12) (f := 0) (ty := .int) (dQ (by decide +kernel)) hcls (by decide +kernel) hm rfl (by decide +kernel) (by rw [lm]; decide) (by decide +kernel) (by decide +kernel) rfl rfl ?_
  have n1 : (fsm.set 0 (.int (Int32.ofInt 0))).length = 42 := by rw [List.length_set]; exact lm
  have f2 : (fsm.set 0 (.int (Int32.ofInt 0)))[2]? = some (.ref (g.2.2 + (b1 + 1))) := by
    rw [List.getElem?_set_ne (by decide)]
    exact pm2
  have f3 : (fsm.set 0 (.int (Int32.ofInt 0)))[0]? = some (.int (Int32.ofInt 0)) := List.getElem?_set_self (by rw [lm]; decide)
  have k4 : (h.set (b1 + 0) (.inr (12, (fsm.set 0 (.int (Int32.ofInt 0))))))[b1 + 0]? = some (.inr (12, (fsm.set 0 (.int (Int32.ofInt 0))))) := List.getElem?_set_self (List.getElem?_eq_some_iff.mp hm).1
  have k5 : (h.set (b1 + 0) (.inr (12, (fsm.set 0 (.int (Int32.ofInt 0))))))[b1 + 1]? = some (.inl (0, 5270, fr)) := by
    rw [List.getElem?_set_ne (by omega)]
    exact hr
  refine j_iload_n (k4 := 1) (dQ (by decide +kernel)) rfl ?_
  refine j_cS (own := 12) (i := 301) (y2 := 249) (d2 := 2) (mc := 0) (ms := 0) (kc := 0) (ks := 0) (As := [.int x1]) (st := []) (dQ (by decide +kernel)) hcls (by decide +kernel) (by decide) (by decide +kernel) (show 1 = jnp 249 by decide +kernel) (by decide) (show 0 ≤ 8 by decide) (xm_isName_1 (by omega) (by omega)) (fun v hv7 hq => ?_)
  obtain ⟨rfl, rfl⟩ := hq
  refine j_if_eq (off := 17) (tgt := 26) (dQ (by decide +kernel)) (by decide) (fun q => absurd (congrArg Int32.toInt q) (by rw [i32_z]; omega)) (fun _ => ?_)
  refine j_iload_n (k4 := 2) (dQ (by decide +kernel)) rfl ?_
  refine j_cS (own := 12) (i := 285) (y2 := 235) (d2 := 2) (mc := 0) (ms := 0) (kc := 0) (ks := 0) (As := [.int x2]) (st := []) (dQ (by decide +kernel)) hcls (by decide +kernel) (by decide) (by decide +kernel) (show 1 = jnp 235 by decide +kernel) (by decide) (show 0 ≤ 8 by decide) (xm_isBerth_1 (by omega) (by omega)) (fun v hv9 hq => ?_)
  obtain ⟨rfl, rfl⟩ := hq
  refine j_if_eq (off := 10) (tgt := 26) (dQ (by decide +kernel)) (by decide) (fun q => absurd (congrArg Int32.toInt q) (by rw [i32_z]; omega)) (fun _ => ?_)
  refine j_iload_n (k4 := 3) (dQ (by decide +kernel)) rfl ?_
  refine j_cS (own := 12) (i := 288) (y2 := 238) (d2 := 2) (mc := 0) (ms := 0) (kc := 0) (ks := 0) (As := [.int x3]) (st := []) (dQ (by decide +kernel)) hcls (by decide +kernel) (by decide) (by decide +kernel) (show 1 = jnp 238 by decide +kernel) (by decide) (show 0 ≤ 8 by decide) (xm_isMinute_1 (by omega) (by omega)) (fun v hv11 hq => ?_)
  obtain ⟨rfl, rfl⟩ := hq
  refine j_if_ne (off := 9) (tgt := 32) (dQ (by decide +kernel)) (by decide) (fun _ => ?_) (fun q => absurd (fun q => absurd (congrArg Int32.toInt q) (by rw [i32_z]; omega)) q)
  refine j_aload_n (k4 := 0) (dQ (by decide +kernel)) rfl ?_
  refine j_get (own := 12) (i := 7) (ci := 12) (f := 2) (dQ (by decide +kernel)) hcls (by decide +kernel) k4 (fun r hr => by cases hr; decide +kernel) f2 ?_
  refine j_iconst (n := 5) (dQ (by decide +kernel)) ?_
  refine x_aldv (v := t) 5 (dQ (by decide +kernel)) k5 (by omega) (by omega) (by rw [qt]) ?_
  refine x_bi (n := 40) (dQ (by decide +kernel)) (by decide) ?_
  refine j_icmp_ne (off := 10) (tgt := 50) (dQ (by decide +kernel)) (by decide) (fun _ => ?_) (fun q => absurd (fun q => absurd (congrArg Int32.toInt q) (by omega)) q)
  refine x_si (n := 504) (dQ (by decide +kernel)) (by decide) ?_
  refine j_iconst (n := 3) (dQ (by decide +kernel)) ?_
  refine j_aload_n (k4 := 0) (dQ (by decide +kernel)) rfl ?_
  refine j_get (own := 12) (i := 7) (ci := 12) (f := 2) (dQ (by decide +kernel)) hcls (by decide +kernel) k4 (fun r hr => by cases hr; decide +kernel) f2 ?_
  refine j_iconst (n := 5) (dQ (by decide +kernel)) ?_
  refine x_aldv (v := t) 5 (dQ (by decide +kernel)) k5 (by omega) (by omega) (by rw [qt]) ?_
  refine x_mul (z := 3 * t.toInt) (dQ (by decide +kernel)) (by rw [cn5]) (by omega) (fun r12 hr12 => ?_)
  refine x_add (dQ (by decide +kernel)) (by omega) (fun r13 hr13 => ?_)
  refine j_istore (i := 4) (dQ (by decide +kernel)) (by decide +kernel) ?_
  refine j_aload_n (k4 := 0) (dQ (by decide +kernel)) rfl ?_
  refine j_get (own := 12) (i := 7) (ci := 12) (f := 2) (dQ (by decide +kernel)) hcls (by decide +kernel) k4 (fun r hr => by cases hr; decide +kernel) f2 ?_
  refine j_iload (i := 4) (dQ (by decide +kernel)) rfl ?_
  refine j_iload_n (k4 := 1) (dQ (by decide +kernel)) rfl ?_
  refine x_ast (504 + (3 * n)) (dQ (by decide +kernel)) k5 (by omega) (by omega) ?_
  have k14 : ((h.set (b1 + 0) (.inr (12, (fsm.set 0 (.int (Int32.ofInt 0)))))).set (b1 + 1) (.inl (0, 5270, (upd fr (504 + (3 * n)) x1))))[b1 + 0]? = some (.inr (12, (fsm.set 0 (.int (Int32.ofInt 0))))) := by
    rw [List.getElem?_set_ne (by omega)]
    exact k4
  have k15 : ((h.set (b1 + 0) (.inr (12, (fsm.set 0 (.int (Int32.ofInt 0)))))).set (b1 + 1) (.inl (0, 5270, (upd fr (504 + (3 * n)) x1))))[b1 + 1]? = some (.inl (0, 5270, (upd fr (504 + (3 * n)) x1))) := List.getElem?_set_self (List.getElem?_eq_some_iff.mp k5).1
  refine j_aload_n (k4 := 0) (dQ (by decide +kernel)) rfl ?_
  refine j_get (own := 12) (i := 7) (ci := 12) (f := 2) (dQ (by decide +kernel)) hcls (by decide +kernel) k14 (fun r hr => by cases hr; decide +kernel) f2 ?_
  refine j_iload (i := 4) (dQ (by decide +kernel)) rfl ?_
  refine j_iconst (n := 1) (dQ (by decide +kernel)) ?_
  refine x_add (dQ (by decide +kernel)) (by omega) (fun r16 hr16 => ?_)
  refine j_iload_n (k4 := 2) (dQ (by decide +kernel)) rfl ?_
  refine x_ast ((504 + (3 * n)) + 1) (dQ (by decide +kernel)) k15 (by omega) (by omega) ?_
  have k17 : (((h.set (b1 + 0) (.inr (12, (fsm.set 0 (.int (Int32.ofInt 0)))))).set (b1 + 1) (.inl (0, 5270, (upd fr (504 + (3 * n)) x1)))).set (b1 + 1) (.inl (0, 5270, (upd (upd fr (504 + (3 * n)) x1) ((504 + (3 * n)) + 1) x2))))[b1 + 0]? = some (.inr (12, (fsm.set 0 (.int (Int32.ofInt 0))))) := by
    rw [List.getElem?_set_ne (by omega)]
    exact k14
  have k18 : (((h.set (b1 + 0) (.inr (12, (fsm.set 0 (.int (Int32.ofInt 0)))))).set (b1 + 1) (.inl (0, 5270, (upd fr (504 + (3 * n)) x1)))).set (b1 + 1) (.inl (0, 5270, (upd (upd fr (504 + (3 * n)) x1) ((504 + (3 * n)) + 1) x2))))[b1 + 1]? = some (.inl (0, 5270, (upd (upd fr (504 + (3 * n)) x1) ((504 + (3 * n)) + 1) x2))) := List.getElem?_set_self (List.getElem?_eq_some_iff.mp k15).1
  refine j_aload_n (k4 := 0) (dQ (by decide +kernel)) rfl ?_
  refine j_get (own := 12) (i := 7) (ci := 12) (f := 2) (dQ (by decide +kernel)) hcls (by decide +kernel) k17 (fun r hr => by cases hr; decide +kernel) f2 ?_
  refine j_iload (i := 4) (dQ (by decide +kernel)) rfl ?_
  refine j_iconst (n := 2) (dQ (by decide +kernel)) ?_
  refine x_add (dQ (by decide +kernel)) (by omega) (fun r19 hr19 => ?_)
  refine j_iload_n (k4 := 3) (dQ (by decide +kernel)) rfl ?_
  refine x_ast ((504 + (3 * n)) + 2) (dQ (by decide +kernel)) k18 (by omega) (by omega) ?_
  have k20 : ((((h.set (b1 + 0) (.inr (12, (fsm.set 0 (.int (Int32.ofInt 0)))))).set (b1 + 1) (.inl (0, 5270, (upd fr (504 + (3 * n)) x1)))).set (b1 + 1) (.inl (0, 5270, (upd (upd fr (504 + (3 * n)) x1) ((504 + (3 * n)) + 1) x2)))).set (b1 + 1) (.inl (0, 5270, (upd (upd (upd fr (504 + (3 * n)) x1) ((504 + (3 * n)) + 1) x2) ((504 + (3 * n)) + 2) x3))))[b1 + 0]? = some (.inr (12, (fsm.set 0 (.int (Int32.ofInt 0))))) := by
    rw [List.getElem?_set_ne (by omega)]
    exact k17
  have k21 : ((((h.set (b1 + 0) (.inr (12, (fsm.set 0 (.int (Int32.ofInt 0)))))).set (b1 + 1) (.inl (0, 5270, (upd fr (504 + (3 * n)) x1)))).set (b1 + 1) (.inl (0, 5270, (upd (upd fr (504 + (3 * n)) x1) ((504 + (3 * n)) + 1) x2)))).set (b1 + 1) (.inl (0, 5270, (upd (upd (upd fr (504 + (3 * n)) x1) ((504 + (3 * n)) + 1) x2) ((504 + (3 * n)) + 2) x3))))[b1 + 1]? = some (.inl (0, 5270, (upd (upd (upd fr (504 + (3 * n)) x1) ((504 + (3 * n)) + 1) x2) ((504 + (3 * n)) + 2) x3))) := List.getElem?_set_self (List.getElem?_eq_some_iff.mp k18).1
  refine j_aload_n (k4 := 0) (dQ (by decide +kernel)) rfl ?_
  refine j_get (own := 12) (i := 7) (ci := 12) (f := 2) (dQ (by decide +kernel)) hcls (by decide +kernel) k20 (fun r hr => by cases hr; decide +kernel) f2 ?_
  refine j_iconst (n := 5) (dQ (by decide +kernel)) ?_
  refine j_dup2 (dQ (by decide +kernel)) rfl rfl ?_
  refine x_aldv (v := t) 5 (dQ (by decide +kernel)) k21 (by omega) (by omega) (by rw [upd_ne (show 5 ≠ ((504 + (3 * n)) + 2) by omega), upd_ne (show 5 ≠ ((504 + (3 * n)) + 1) by omega), upd_ne (show 5 ≠ (504 + (3 * n)) by omega), qt]) ?_
  refine j_iconst (n := 1) (dQ (by decide +kernel)) ?_
  refine x_add (dQ (by decide +kernel)) (by omega) (fun r22 hr22 => ?_)
  refine x_ast 5 (dQ (by decide +kernel)) k21 (by omega) (by omega) ?_
  have k23 : (((((h.set (b1 + 0) (.inr (12, (fsm.set 0 (.int (Int32.ofInt 0)))))).set (b1 + 1) (.inl (0, 5270, (upd fr (504 + (3 * n)) x1)))).set (b1 + 1) (.inl (0, 5270, (upd (upd fr (504 + (3 * n)) x1) ((504 + (3 * n)) + 1) x2)))).set (b1 + 1) (.inl (0, 5270, (upd (upd (upd fr (504 + (3 * n)) x1) ((504 + (3 * n)) + 1) x2) ((504 + (3 * n)) + 2) x3)))).set (b1 + 1) (.inl (0, 5270, (upd (upd (upd (upd fr (504 + (3 * n)) x1) ((504 + (3 * n)) + 1) x2) ((504 + (3 * n)) + 2) x3) 5 r22))))[b1 + 0]? = some (.inr (12, (fsm.set 0 (.int (Int32.ofInt 0))))) := by
    rw [List.getElem?_set_ne (by omega)]
    exact k20
  have k24 : (((((h.set (b1 + 0) (.inr (12, (fsm.set 0 (.int (Int32.ofInt 0)))))).set (b1 + 1) (.inl (0, 5270, (upd fr (504 + (3 * n)) x1)))).set (b1 + 1) (.inl (0, 5270, (upd (upd fr (504 + (3 * n)) x1) ((504 + (3 * n)) + 1) x2)))).set (b1 + 1) (.inl (0, 5270, (upd (upd (upd fr (504 + (3 * n)) x1) ((504 + (3 * n)) + 1) x2) ((504 + (3 * n)) + 2) x3)))).set (b1 + 1) (.inl (0, 5270, (upd (upd (upd (upd fr (504 + (3 * n)) x1) ((504 + (3 * n)) + 1) x2) ((504 + (3 * n)) + 2) x3) 5 r22))))[b1 + 1]? = some (.inl (0, 5270, (upd (upd (upd (upd fr (504 + (3 * n)) x1) ((504 + (3 * n)) + 1) x2) ((504 + (3 * n)) + 2) x3) 5 r22))) := List.getElem?_set_self (List.getElem?_eq_some_iff.mp k21).1
  refine j_aload_n (k4 := 0) (dQ (by decide +kernel)) rfl ?_
  refine j_aload_n (k4 := 0) (dQ (by decide +kernel)) rfl ?_
  refine j_get (own := 12) (i := 7) (ci := 12) (f := 2) (dQ (by decide +kernel)) hcls (by decide +kernel) k23 (fun r hr => by cases hr; decide +kernel) f2 ?_
  refine j_iconst (n := 5) (dQ (by decide +kernel)) ?_
  refine x_aldv (v := r22) 5 (dQ (by decide +kernel)) k24 (by omega) (by omega) (by rw [upd_eq]) ?_
  refine j_cV (own := 12) (i := 104) (y2 := 206) (d2 := 1) (mc := 0) (ms := 0) (kc := 0) (ks := 0) (a := b1 + 0) (As := [.int r22]) (st := []) (dQ (by decide +kernel)) hcls (by decide +kernel) (by decide) (by decide +kernel) (show 1 = jnp 206 by decide +kernel) (by decide) (show 0 ≤ 8 by decide) k23 (fun r hr => by cases hr; decide +kernel) (xm_tellP k23 n1 (by omega)) (fun v hv26 hq => ?_)
  obtain ⟨rfl, rfl⟩ := hq
  have n27 : ((fsm.set 0 (.int (Int32.ofInt 0))).set 1 (.int (Int32.ofInt 0))).length = 42 := by rw [List.length_set]; exact n1
  have f28 : ((fsm.set 0 (.int (Int32.ofInt 0))).set 1 (.int (Int32.ofInt 0)))[2]? = some (.ref (g.2.2 + (b1 + 1))) := by
    rw [List.getElem?_set_ne (by decide)]
    exact f2
  have f29 : ((fsm.set 0 (.int (Int32.ofInt 0))).set 1 (.int (Int32.ofInt 0)))[0]? = some (.int (Int32.ofInt 0)) := by
    rw [List.getElem?_set_ne (by decide)]
    exact f3
  have k30 : ((((((h.set (b1 + 0) (.inr (12, (fsm.set 0 (.int (Int32.ofInt 0)))))).set (b1 + 1) (.inl (0, 5270, (upd fr (504 + (3 * n)) x1)))).set (b1 + 1) (.inl (0, 5270, (upd (upd fr (504 + (3 * n)) x1) ((504 + (3 * n)) + 1) x2)))).set (b1 + 1) (.inl (0, 5270, (upd (upd (upd fr (504 + (3 * n)) x1) ((504 + (3 * n)) + 1) x2) ((504 + (3 * n)) + 2) x3)))).set (b1 + 1) (.inl (0, 5270, (upd (upd (upd (upd fr (504 + (3 * n)) x1) ((504 + (3 * n)) + 1) x2) ((504 + (3 * n)) + 2) x3) 5 r22)))).set (b1 + 0) (.inr (12, ((fsm.set 0 (.int (Int32.ofInt 0))).set 1 (.int (Int32.ofInt 0))))))[b1 + 0]? = some (.inr (12, ((fsm.set 0 (.int (Int32.ofInt 0))).set 1 (.int (Int32.ofInt 0))))) := List.getElem?_set_self (List.getElem?_eq_some_iff.mp k23).1
  have k31 : ((((((h.set (b1 + 0) (.inr (12, (fsm.set 0 (.int (Int32.ofInt 0)))))).set (b1 + 1) (.inl (0, 5270, (upd fr (504 + (3 * n)) x1)))).set (b1 + 1) (.inl (0, 5270, (upd (upd fr (504 + (3 * n)) x1) ((504 + (3 * n)) + 1) x2)))).set (b1 + 1) (.inl (0, 5270, (upd (upd (upd fr (504 + (3 * n)) x1) ((504 + (3 * n)) + 1) x2) ((504 + (3 * n)) + 2) x3)))).set (b1 + 1) (.inl (0, 5270, (upd (upd (upd (upd fr (504 + (3 * n)) x1) ((504 + (3 * n)) + 1) x2) ((504 + (3 * n)) + 2) x3) 5 r22)))).set (b1 + 0) (.inr (12, ((fsm.set 0 (.int (Int32.ofInt 0))).set 1 (.int (Int32.ofInt 0))))))[b1 + 1]? = some (.inl (0, 5270, (upd (upd (upd (upd fr (504 + (3 * n)) x1) ((504 + (3 * n)) + 1) x2) ((504 + (3 * n)) + 2) x3) 5 r22))) := by
    rw [List.getElem?_set_ne (by omega)]
    exact k24
  exact j_ret (v := some (.int r22)) ⟨by decide +kernel, Or.inl (by decide +kernel)⟩ ⟨r22, by omega, rfl, rfl⟩ rfl
set_option maxRecDepth 8192 in
theorem xr_due_full {b1 : Nat} {fsm : List Value} {fr : Nat → Int32} {x1 : Int32} {x2 : Int32} {x3 : Int32} {t : Int32} {n : Nat} (hm : h[b1 + 0]? = some (.inr (12, fsm))) (lm : fsm.length = 42) (pm2 : fsm[2]? = some (.ref (g.2.2 + (b1 + 1)))) (hr : h[b1 + 1]? = some (.inl (0, 5270, fr))) (g1 : 1 ≤ x1.toInt ∧ x1.toInt ≤ 999) (g2 : 0 ≤ x2.toInt ∧ x2.toInt ≤ 11) (g3 : 0 ≤ x3.toInt ∧ x3.toInt ≤ 9999) (et : t.toInt = (n : Int)) (en : 40 ≤ n ∧ n ≤ 40) (qt : fr 5 = t) : jCal l g 292 3 [.ref (g.2.2 + (b1 + 0)), .int x1, .int x2, .int x3] h 0 0 (fun v h' => v = some (.int (Int32.ofInt (-5))) ∧ h' = ((h.set (b1 + 0) (.inr (12, (fsm.set 0 (.int (Int32.ofInt 0)))))).set (b1 + 0) (.inr (12, ((fsm.set 0 (.int (Int32.ofInt 0))).set 1 (.int (Int32.ofInt (-5)))))))) := by
  have hcls : jcN 12 = (jyN 292).cls := by decide +kernel
  have cn0 : (Int32.ofInt 0).toInt = 0 := by decide
  have cn1 : (Int32.ofInt 1).toInt = 1 := by decide
  have cn2 : (Int32.ofInt 5).toInt = 5 := by decide
  have cn3 : (Int32.ofInt 40).toInt = 40 := by decide
  have cn4 : (Int32.ofInt (-5)).toInt = -5 := by decide
  refine jCal_of (by decide +kernel) (show 4 ≤ jmx 292 by decide +kernel) ?_
  show J l g 292 3 0 [some (.ref (g.2.2 + (b1 + 0))), some (.int x1), some (.int x2), some (.int x3), none] [] h 0 0 _
  refine j_aload_n (k4 := 0) (dQ (by decide +kernel)) rfl ?_
  refine j_iconst (n := 0) (dQ (by decide +kernel)) ?_
  refine j_put (own := 12) (i := 94) (ci := 12) (f := 0) (ty := .int) (dQ (by decide +kernel)) hcls (by decide +kernel) hm rfl (by decide +kernel) (by rw [lm]; decide) (by decide +kernel) (by decide +kernel) rfl rfl ?_
  have n1 : (fsm.set 0 (.int (Int32.ofInt 0))).length = 42 := by rw [List.length_set]; exact lm
  have f2 : (fsm.set 0 (.int (Int32.ofInt 0)))[2]? = some (.ref (g.2.2 + (b1 + 1))) := by
    rw [List.getElem?_set_ne (by decide)]
    exact pm2
  have f3 : (fsm.set 0 (.int (Int32.ofInt 0)))[0]? = some (.int (Int32.ofInt 0)) := List.getElem?_set_self (by rw [lm]; decide)
  have k4 : (h.set (b1 + 0) (.inr (12, (fsm.set 0 (.int (Int32.ofInt 0))))))[b1 + 0]? = some (.inr (12, (fsm.set 0 (.int (Int32.ofInt 0))))) := List.getElem?_set_self (List.getElem?_eq_some_iff.mp hm).1
  have k5 : (h.set (b1 + 0) (.inr (12, (fsm.set 0 (.int (Int32.ofInt 0))))))[b1 + 1]? = some (.inl (0, 5270, fr)) := by
    rw [List.getElem?_set_ne (by omega)]
    exact hr
  refine j_iload_n (k4 := 1) (dQ (by decide +kernel)) rfl ?_
  refine j_cS (own := 12) (i := 301) (y2 := 249) (d2 := 2) (mc := 0) (ms := 0) (kc := 0) (ks := 0) (As := [.int x1]) (st := []) (dQ (by decide +kernel)) hcls (by decide +kernel) (by decide) (by decide +kernel) (show 1 = jnp 249 by decide +kernel) (by decide) (show 0 ≤ 8 by decide) (xm_isName_1 (by omega) (by omega)) (fun v hv7 hq => ?_)
  obtain ⟨rfl, rfl⟩ := hq
  refine j_if_eq (off := 17) (tgt := 26) (dQ (by decide +kernel)) (by decide) (fun q => absurd (congrArg Int32.toInt q) (by rw [i32_z]; omega)) (fun _ => ?_)
  refine j_iload_n (k4 := 2) (dQ (by decide +kernel)) rfl ?_
  refine j_cS (own := 12) (i := 285) (y2 := 235) (d2 := 2) (mc := 0) (ms := 0) (kc := 0) (ks := 0) (As := [.int x2]) (st := []) (dQ (by decide +kernel)) hcls (by decide +kernel) (by decide) (by decide +kernel) (show 1 = jnp 235 by decide +kernel) (by decide) (show 0 ≤ 8 by decide) (xm_isBerth_1 (by omega) (by omega)) (fun v hv9 hq => ?_)
  obtain ⟨rfl, rfl⟩ := hq
  refine j_if_eq (off := 10) (tgt := 26) (dQ (by decide +kernel)) (by decide) (fun q => absurd (congrArg Int32.toInt q) (by rw [i32_z]; omega)) (fun _ => ?_)
  refine j_iload_n (k4 := 3) (dQ (by decide +kernel)) rfl ?_
  refine j_cS (own := 12) (i := 288) (y2 := 238) (d2 := 2) (mc := 0) (ms := 0) (kc := 0) (ks := 0) (As := [.int x3]) (st := []) (dQ (by decide +kernel)) hcls (by decide +kernel) (by decide) (by decide +kernel) (show 1 = jnp 238 by decide +kernel) (by decide) (show 0 ≤ 8 by decide) (xm_isMinute_1 (by omega) (by omega)) (fun v hv11 hq => ?_)
  obtain ⟨rfl, rfl⟩ := hq
  refine j_if_ne (off := 9) (tgt := 32) (dQ (by decide +kernel)) (by decide) (fun _ => ?_) (fun q => absurd (fun q => absurd (congrArg Int32.toInt q) (by rw [i32_z]; omega)) q)
  refine j_aload_n (k4 := 0) (dQ (by decide +kernel)) rfl ?_
  refine j_get (own := 12) (i := 7) (ci := 12) (f := 2) (dQ (by decide +kernel)) hcls (by decide +kernel) k4 (fun r hr => by cases hr; decide +kernel) f2 ?_
  refine j_iconst (n := 5) (dQ (by decide +kernel)) ?_
  refine x_aldv (v := t) 5 (dQ (by decide +kernel)) k5 (by omega) (by omega) (by rw [qt]) ?_
  refine x_bi (n := 40) (dQ (by decide +kernel)) (by decide) ?_
  refine j_icmp_ne (off := 10) (tgt := 50) (dQ (by decide +kernel)) (by decide) (fun q => absurd (i32_eq (by omega)) q) (fun _ => ?_)
  refine j_aload_n (k4 := 0) (dQ (by decide +kernel)) rfl ?_
  refine x_bi (n := (-5)) (dQ (by decide +kernel)) (by decide) ?_
  refine j_cV (own := 12) (i := 104) (y2 := 206) (d2 := 1) (mc := 0) (ms := 0) (kc := 0) (ks := 0) (a := b1 + 0) (As := [.int (Int32.ofInt (-5))]) (st := []) (dQ (by decide +kernel)) hcls (by decide +kernel) (by decide) (by decide +kernel) (show 1 = jnp 206 by decide +kernel) (by decide) (show 0 ≤ 8 by decide) k4 (fun r hr => by cases hr; decide +kernel) (xm_tellN k4 n1 (by omega)) (fun v hv13 hq => ?_)
  obtain ⟨rfl, rfl⟩ := hq
  have n14 : ((fsm.set 0 (.int (Int32.ofInt 0))).set 1 (.int (Int32.ofInt (-5)))).length = 42 := by rw [List.length_set]; exact n1
  have f15 : ((fsm.set 0 (.int (Int32.ofInt 0))).set 1 (.int (Int32.ofInt (-5))))[2]? = some (.ref (g.2.2 + (b1 + 1))) := by
    rw [List.getElem?_set_ne (by decide)]
    exact f2
  have f16 : ((fsm.set 0 (.int (Int32.ofInt 0))).set 1 (.int (Int32.ofInt (-5))))[0]? = some (.int (Int32.ofInt 0)) := by
    rw [List.getElem?_set_ne (by decide)]
    exact f3
  have k17 : ((h.set (b1 + 0) (.inr (12, (fsm.set 0 (.int (Int32.ofInt 0)))))).set (b1 + 0) (.inr (12, ((fsm.set 0 (.int (Int32.ofInt 0))).set 1 (.int (Int32.ofInt (-5)))))))[b1 + 0]? = some (.inr (12, ((fsm.set 0 (.int (Int32.ofInt 0))).set 1 (.int (Int32.ofInt (-5)))))) := List.getElem?_set_self (List.getElem?_eq_some_iff.mp k4).1
  have k18 : ((h.set (b1 + 0) (.inr (12, (fsm.set 0 (.int (Int32.ofInt 0)))))).set (b1 + 0) (.inr (12, ((fsm.set 0 (.int (Int32.ofInt 0))).set 1 (.int (Int32.ofInt (-5)))))))[b1 + 1]? = some (.inl (0, 5270, fr)) := by
    rw [List.getElem?_set_ne (by omega)]
    exact k5
  exact j_ret (v := some (.int (Int32.ofInt (-5)))) ⟨by decide +kernel, Or.inl (by decide +kernel)⟩ ⟨rfl, rfl⟩ rfl
set_option maxRecDepth 8192 in
theorem xk_work_0l {b0 : Nat} {fsx : List Value} {x1 : Int32} {x2 : Int32} {x3 : Int32} (hx : h[b0 + 0]? = some (.inr (11, fsx))) (lx : fsx.length = 12) (px0 : fsx[0]? = some (.ref (g.2.2 + (b0 + 1)))) (u : x1.toInt < 0) : jCal l g 40 2 [.ref (g.2.2 + (b0 + 0)), .int x1, .int x2, .int x3] h 0 0 (fun v h' => v = some (.int (Int32.ofInt (-1))) ∧ h' = (h.set (b0 + 0) (.inr (11, (fsx.set 7 (.int (Int32.ofInt (-1)))))))) := by
  have hcls : jcN 11 = (jyN 40).cls := by decide +kernel
  have cn0 : (Int32.ofInt 0).toInt = 0 := by decide
  have cn1 : (Int32.ofInt (-1)).toInt = -1 := by decide
  refine jCal_of (by decide +kernel) (show 4 ≤ jmx 40 by decide +kernel) ?_
  show J l g 40 2 0 [some (.ref (g.2.2 + (b0 + 0))), some (.int x1), some (.int x2), some (.int x3)] [] h 0 0 _
  refine j_iload_n (k4 := 1) (dQ (by decide +kernel)) rfl ?_
  refine j_cS (own := 11) (i := 34) (y2 := 14) (d2 := 1) (mc := 0) (ms := 0) (kc := 0) (ks := 0) (As := [.int x1]) (st := []) (dQ (by decide +kernel)) hcls (by decide +kernel) (by decide) (by decide +kernel) (show 1 = jnp 14 by decide +kernel) (by decide) (show 0 ≤ 8 by decide) (x_isBerth_0l (by omega)) (fun v hv2 hq => ?_)
  obtain ⟨rfl, rfl⟩ := hq
  refine j_if_eq (off := 22) (tgt := 26) (dQ (by decide +kernel)) (by decide) (fun _ => ?_) (fun q => absurd (i32_eq (show _ = (0 : Int32).toInt by rw [i32_z]; omega)) q)
  refine j_aload_n (k4 := 0) (dQ (by decide +kernel)) rfl ?_
  refine j_iconst (n := (-1)) (dQ (by decide +kernel)) ?_
  refine j_cV (own := 11) (i := 41) (y2 := 16) (d2 := 1) (mc := 0) (ms := 0) (kc := 0) (ks := 0) (a := b0 + 0) (As := [.int (Int32.ofInt (-1))]) (st := []) (dQ (by decide +kernel)) hcls (by decide +kernel) (by decide) (by decide +kernel) (show 1 = jnp 16 by decide +kernel) (by decide) (show 0 ≤ 8 by decide) hx (fun r hr => by cases hr; decide +kernel) (x_refuse hx lx) (fun v hv4 hq => ?_)
  obtain ⟨rfl, rfl⟩ := hq
  have n5 : (fsx.set 7 (.int (Int32.ofInt (-1)))).length = 12 := by rw [List.length_set]; exact lx
  have f6 : (fsx.set 7 (.int (Int32.ofInt (-1))))[0]? = some (.ref (g.2.2 + (b0 + 1))) := by
    rw [List.getElem?_set_ne (by decide)]
    exact px0
  have k7 : (h.set (b0 + 0) (.inr (11, (fsx.set 7 (.int (Int32.ofInt (-1)))))))[b0 + 0]? = some (.inr (11, (fsx.set 7 (.int (Int32.ofInt (-1)))))) := List.getElem?_set_self (List.getElem?_eq_some_iff.mp hx).1
  exact j_ret (v := some (.int (Int32.ofInt (-1)))) ⟨by decide +kernel, Or.inl (by decide +kernel)⟩ ⟨rfl, rfl⟩ rfl
set_option maxRecDepth 8192 in
theorem xr_work_0l {b1 : Nat} {fsm : List Value} {x1 : Int32} {x2 : Int32} {x3 : Int32} (hm : h[b1 + 0]? = some (.inr (12, fsm))) (lm : fsm.length = 42) (pm2 : fsm[2]? = some (.ref (g.2.2 + (b1 + 1)))) (u : x1.toInt < 0) : jCal l g 255 3 [.ref (g.2.2 + (b1 + 0)), .int x1, .int x2, .int x3] h 0 0 (fun v h' => v = some (.int (Int32.ofInt (-1))) ∧ h' = ((h.set (b1 + 0) (.inr (12, (fsm.set 0 (.int (Int32.ofInt 0)))))).set (b1 + 0) (.inr (12, ((fsm.set 0 (.int (Int32.ofInt 0))).set 1 (.int (Int32.ofInt (-1)))))))) := by
  have hcls : jcN 12 = (jyN 255).cls := by decide +kernel
  have cn0 : (Int32.ofInt 0).toInt = 0 := by decide
  have cn1 : (Int32.ofInt (-1)).toInt = -1 := by decide
  refine jCal_of (by decide +kernel) (show 4 ≤ jmx 255 by decide +kernel) ?_
  show J l g 255 3 0 [some (.ref (g.2.2 + (b1 + 0))), some (.int x1), some (.int x2), some (.int x3), none] [] h 0 0 _
  refine j_aload_n (k4 := 0) (dQ (by decide +kernel)) rfl ?_
  refine j_iconst (n := 0) (dQ (by decide +kernel)) ?_
  refine j_put (own := 12) (i := 94) (ci := 12) (f := 0) (ty := .int) (dQ (by decide +kernel)) hcls (by decide +kernel) hm rfl (by decide +kernel) (by rw [lm]; decide) (by decide +kernel) (by decide +kernel) rfl rfl ?_
  have n1 : (fsm.set 0 (.int (Int32.ofInt 0))).length = 42 := by rw [List.length_set]; exact lm
  have f2 : (fsm.set 0 (.int (Int32.ofInt 0)))[2]? = some (.ref (g.2.2 + (b1 + 1))) := by
    rw [List.getElem?_set_ne (by decide)]
    exact pm2
  have f3 : (fsm.set 0 (.int (Int32.ofInt 0)))[0]? = some (.int (Int32.ofInt 0)) := List.getElem?_set_self (by rw [lm]; decide)
  have k4 : (h.set (b1 + 0) (.inr (12, (fsm.set 0 (.int (Int32.ofInt 0))))))[b1 + 0]? = some (.inr (12, (fsm.set 0 (.int (Int32.ofInt 0))))) := List.getElem?_set_self (List.getElem?_eq_some_iff.mp hm).1
  refine j_iload_n (k4 := 1) (dQ (by decide +kernel)) rfl ?_
  refine j_cS (own := 12) (i := 285) (y2 := 235) (d2 := 2) (mc := 0) (ms := 0) (kc := 0) (ks := 0) (As := [.int x1]) (st := []) (dQ (by decide +kernel)) hcls (by decide +kernel) (by decide) (by decide +kernel) (show 1 = jnp 235 by decide +kernel) (by decide) (show 0 ≤ 8 by decide) (xm_isBerth_0l (by omega)) (fun v hv6 hq => ?_)
  obtain ⟨rfl, rfl⟩ := hq
  refine j_if_eq (off := 22) (tgt := 31) (dQ (by decide +kernel)) (by decide) (fun _ => ?_) (fun q => absurd (i32_eq (show _ = (0 : Int32).toInt by rw [i32_z]; omega)) q)
  refine j_aload_n (k4 := 0) (dQ (by decide +kernel)) rfl ?_
  refine j_iconst (n := (-1)) (dQ (by decide +kernel)) ?_
  refine j_cV (own := 12) (i := 104) (y2 := 206) (d2 := 1) (mc := 0) (ms := 0) (kc := 0) (ks := 0) (a := b1 + 0) (As := [.int (Int32.ofInt (-1))]) (st := []) (dQ (by decide +kernel)) hcls (by decide +kernel) (by decide) (by decide +kernel) (show 1 = jnp 206 by decide +kernel) (by decide) (show 0 ≤ 8 by decide) k4 (fun r hr => by cases hr; decide +kernel) (xm_tellN k4 n1 (by omega)) (fun v hv8 hq => ?_)
  obtain ⟨rfl, rfl⟩ := hq
  have n9 : ((fsm.set 0 (.int (Int32.ofInt 0))).set 1 (.int (Int32.ofInt (-1)))).length = 42 := by rw [List.length_set]; exact n1
  have f10 : ((fsm.set 0 (.int (Int32.ofInt 0))).set 1 (.int (Int32.ofInt (-1))))[2]? = some (.ref (g.2.2 + (b1 + 1))) := by
    rw [List.getElem?_set_ne (by decide)]
    exact f2
  have f11 : ((fsm.set 0 (.int (Int32.ofInt 0))).set 1 (.int (Int32.ofInt (-1))))[0]? = some (.int (Int32.ofInt 0)) := by
    rw [List.getElem?_set_ne (by decide)]
    exact f3
  have k12 : ((h.set (b1 + 0) (.inr (12, (fsm.set 0 (.int (Int32.ofInt 0)))))).set (b1 + 0) (.inr (12, ((fsm.set 0 (.int (Int32.ofInt 0))).set 1 (.int (Int32.ofInt (-1)))))))[b1 + 0]? = some (.inr (12, ((fsm.set 0 (.int (Int32.ofInt 0))).set 1 (.int (Int32.ofInt (-1)))))) := List.getElem?_set_self (List.getElem?_eq_some_iff.mp k4).1
  exact j_ret (v := some (.int (Int32.ofInt (-1)))) ⟨by decide +kernel, Or.inl (by decide +kernel)⟩ ⟨rfl, rfl⟩ rfl
set_option maxRecDepth 8192 in
theorem xk_work_0h {b0 : Nat} {fsx : List Value} {x1 : Int32} {x2 : Int32} {x3 : Int32} (hx : h[b0 + 0]? = some (.inr (11, fsx))) (lx : fsx.length = 12) (px0 : fsx[0]? = some (.ref (g.2.2 + (b0 + 1)))) (u : 11 < x1.toInt) : jCal l g 40 2 [.ref (g.2.2 + (b0 + 0)), .int x1, .int x2, .int x3] h 0 0 (fun v h' => v = some (.int (Int32.ofInt (-1))) ∧ h' = (h.set (b0 + 0) (.inr (11, (fsx.set 7 (.int (Int32.ofInt (-1)))))))) := by
  have hcls : jcN 11 = (jyN 40).cls := by decide +kernel
  have cn0 : (Int32.ofInt 0).toInt = 0 := by decide
  have cn1 : (Int32.ofInt (-1)).toInt = -1 := by decide
  refine jCal_of (by decide +kernel) (show 4 ≤ jmx 40 by decide +kernel) ?_
  show J l g 40 2 0 [some (.ref (g.2.2 + (b0 + 0))), some (.int x1), some (.int x2), some (.int x3)] [] h 0 0 _
  refine j_iload_n (k4 := 1) (dQ (by decide +kernel)) rfl ?_
  refine j_cS (own := 11) (i := 34) (y2 := 14) (d2 := 1) (mc := 0) (ms := 0) (kc := 0) (ks := 0) (As := [.int x1]) (st := []) (dQ (by decide +kernel)) hcls (by decide +kernel) (by decide) (by decide +kernel) (show 1 = jnp 14 by decide +kernel) (by decide) (show 0 ≤ 8 by decide) (x_isBerth_0h (by omega)) (fun v hv2 hq => ?_)
  obtain ⟨rfl, rfl⟩ := hq
  refine j_if_eq (off := 22) (tgt := 26) (dQ (by decide +kernel)) (by decide) (fun _ => ?_) (fun q => absurd (i32_eq (show _ = (0 : Int32).toInt by rw [i32_z]; omega)) q)
  refine j_aload_n (k4 := 0) (dQ (by decide +kernel)) rfl ?_
  refine j_iconst (n := (-1)) (dQ (by decide +kernel)) ?_
  refine j_cV (own := 11) (i := 41) (y2 := 16) (d2 := 1) (mc := 0) (ms := 0) (kc := 0) (ks := 0) (a := b0 + 0) (As := [.int (Int32.ofInt (-1))]) (st := []) (dQ (by decide +kernel)) hcls (by decide +kernel) (by decide) (by decide +kernel) (show 1 = jnp 16 by decide +kernel) (by decide) (show 0 ≤ 8 by decide) hx (fun r hr => by cases hr; decide +kernel) (x_refuse hx lx) (fun v hv4 hq => ?_)
  obtain ⟨rfl, rfl⟩ := hq
  have n5 : (fsx.set 7 (.int (Int32.ofInt (-1)))).length = 12 := by rw [List.length_set]; exact lx
  have f6 : (fsx.set 7 (.int (Int32.ofInt (-1))))[0]? = some (.ref (g.2.2 + (b0 + 1))) := by
    rw [List.getElem?_set_ne (by decide)]
    exact px0
  have k7 : (h.set (b0 + 0) (.inr (11, (fsx.set 7 (.int (Int32.ofInt (-1)))))))[b0 + 0]? = some (.inr (11, (fsx.set 7 (.int (Int32.ofInt (-1)))))) := List.getElem?_set_self (List.getElem?_eq_some_iff.mp hx).1
  exact j_ret (v := some (.int (Int32.ofInt (-1)))) ⟨by decide +kernel, Or.inl (by decide +kernel)⟩ ⟨rfl, rfl⟩ rfl
set_option maxRecDepth 8192 in
theorem xr_work_0h {b1 : Nat} {fsm : List Value} {x1 : Int32} {x2 : Int32} {x3 : Int32} (hm : h[b1 + 0]? = some (.inr (12, fsm))) (lm : fsm.length = 42) (pm2 : fsm[2]? = some (.ref (g.2.2 + (b1 + 1)))) (u : 11 < x1.toInt) : jCal l g 255 3 [.ref (g.2.2 + (b1 + 0)), .int x1, .int x2, .int x3] h 0 0 (fun v h' => v = some (.int (Int32.ofInt (-1))) ∧ h' = ((h.set (b1 + 0) (.inr (12, (fsm.set 0 (.int (Int32.ofInt 0)))))).set (b1 + 0) (.inr (12, ((fsm.set 0 (.int (Int32.ofInt 0))).set 1 (.int (Int32.ofInt (-1)))))))) := by
  have hcls : jcN 12 = (jyN 255).cls := by decide +kernel
  have cn0 : (Int32.ofInt 0).toInt = 0 := by decide
  have cn1 : (Int32.ofInt (-1)).toInt = -1 := by decide
  refine jCal_of (by decide +kernel) (show 4 ≤ jmx 255 by decide +kernel) ?_
  show J l g 255 3 0 [some (.ref (g.2.2 + (b1 + 0))), some (.int x1), some (.int x2), some (.int x3), none] [] h 0 0 _
  refine j_aload_n (k4 := 0) (dQ (by decide +kernel)) rfl ?_
  refine j_iconst (n := 0) (dQ (by decide +kernel)) ?_
  refine j_put (own := 12) (i := 94) (ci := 12) (f := 0) (ty := .int) (dQ (by decide +kernel)) hcls (by decide +kernel) hm rfl (by decide +kernel) (by rw [lm]; decide) (by decide +kernel) (by decide +kernel) rfl rfl ?_
  have n1 : (fsm.set 0 (.int (Int32.ofInt 0))).length = 42 := by rw [List.length_set]; exact lm
  have f2 : (fsm.set 0 (.int (Int32.ofInt 0)))[2]? = some (.ref (g.2.2 + (b1 + 1))) := by
    rw [List.getElem?_set_ne (by decide)]
    exact pm2
  have f3 : (fsm.set 0 (.int (Int32.ofInt 0)))[0]? = some (.int (Int32.ofInt 0)) := List.getElem?_set_self (by rw [lm]; decide)
  have k4 : (h.set (b1 + 0) (.inr (12, (fsm.set 0 (.int (Int32.ofInt 0))))))[b1 + 0]? = some (.inr (12, (fsm.set 0 (.int (Int32.ofInt 0))))) := List.getElem?_set_self (List.getElem?_eq_some_iff.mp hm).1
  refine j_iload_n (k4 := 1) (dQ (by decide +kernel)) rfl ?_
  refine j_cS (own := 12) (i := 285) (y2 := 235) (d2 := 2) (mc := 0) (ms := 0) (kc := 0) (ks := 0) (As := [.int x1]) (st := []) (dQ (by decide +kernel)) hcls (by decide +kernel) (by decide) (by decide +kernel) (show 1 = jnp 235 by decide +kernel) (by decide) (show 0 ≤ 8 by decide) (xm_isBerth_0h (by omega)) (fun v hv6 hq => ?_)
  obtain ⟨rfl, rfl⟩ := hq
  refine j_if_eq (off := 22) (tgt := 31) (dQ (by decide +kernel)) (by decide) (fun _ => ?_) (fun q => absurd (i32_eq (show _ = (0 : Int32).toInt by rw [i32_z]; omega)) q)
  refine j_aload_n (k4 := 0) (dQ (by decide +kernel)) rfl ?_
  refine j_iconst (n := (-1)) (dQ (by decide +kernel)) ?_
  refine j_cV (own := 12) (i := 104) (y2 := 206) (d2 := 1) (mc := 0) (ms := 0) (kc := 0) (ks := 0) (a := b1 + 0) (As := [.int (Int32.ofInt (-1))]) (st := []) (dQ (by decide +kernel)) hcls (by decide +kernel) (by decide) (by decide +kernel) (show 1 = jnp 206 by decide +kernel) (by decide) (show 0 ≤ 8 by decide) k4 (fun r hr => by cases hr; decide +kernel) (xm_tellN k4 n1 (by omega)) (fun v hv8 hq => ?_)
  obtain ⟨rfl, rfl⟩ := hq
  have n9 : ((fsm.set 0 (.int (Int32.ofInt 0))).set 1 (.int (Int32.ofInt (-1)))).length = 42 := by rw [List.length_set]; exact n1
  have f10 : ((fsm.set 0 (.int (Int32.ofInt 0))).set 1 (.int (Int32.ofInt (-1))))[2]? = some (.ref (g.2.2 + (b1 + 1))) := by
    rw [List.getElem?_set_ne (by decide)]
    exact f2
  have f11 : ((fsm.set 0 (.int (Int32.ofInt 0))).set 1 (.int (Int32.ofInt (-1))))[0]? = some (.int (Int32.ofInt 0)) := by
    rw [List.getElem?_set_ne (by decide)]
    exact f3
  have k12 : ((h.set (b1 + 0) (.inr (12, (fsm.set 0 (.int (Int32.ofInt 0)))))).set (b1 + 0) (.inr (12, ((fsm.set 0 (.int (Int32.ofInt 0))).set 1 (.int (Int32.ofInt (-1)))))))[b1 + 0]? = some (.inr (12, ((fsm.set 0 (.int (Int32.ofInt 0))).set 1 (.int (Int32.ofInt (-1)))))) := List.getElem?_set_self (List.getElem?_eq_some_iff.mp k4).1
  exact j_ret (v := some (.int (Int32.ofInt (-1)))) ⟨by decide +kernel, Or.inl (by decide +kernel)⟩ ⟨rfl, rfl⟩ rfl
set_option maxRecDepth 8192 in
theorem xk_work_1l {b0 : Nat} {fsx : List Value} {x1 : Int32} {x2 : Int32} {x3 : Int32} (hx : h[b0 + 0]? = some (.inr (11, fsx))) (lx : fsx.length = 12) (px0 : fsx[0]? = some (.ref (g.2.2 + (b0 + 1)))) (g1 : 0 ≤ x1.toInt ∧ x1.toInt ≤ 11) (u : x2.toInt < 0) : jCal l g 40 2 [.ref (g.2.2 + (b0 + 0)), .int x1, .int x2, .int x3] h 0 0 (fun v h' => v = some (.int (Int32.ofInt (-1))) ∧ h' = (h.set (b0 + 0) (.inr (11, (fsx.set 7 (.int (Int32.ofInt (-1)))))))) := by
  have hcls : jcN 11 = (jyN 40).cls := by decide +kernel
  have cn0 : (Int32.ofInt 1).toInt = 1 := by decide
  have cn1 : (Int32.ofInt 0).toInt = 0 := by decide
  have cn2 : (Int32.ofInt (-1)).toInt = -1 := by decide
  refine jCal_of (by decide +kernel) (show 4 ≤ jmx 40 by decide +kernel) ?_
  show J l g 40 2 0 [some (.ref (g.2.2 + (b0 + 0))), some (.int x1), some (.int x2), some (.int x3)] [] h 0 0 _
  refine j_iload_n (k4 := 1) (dQ (by decide +kernel)) rfl ?_
  refine j_cS (own := 11) (i := 34) (y2 := 14) (d2 := 1) (mc := 0) (ms := 0) (kc := 0) (ks := 0) (As := [.int x1]) (st := []) (dQ (by decide +kernel)) hcls (by decide +kernel) (by decide) (by decide +kernel) (show 1 = jnp 14 by decide +kernel) (by decide) (show 0 ≤ 8 by decide) (x_isBerth_1 (by omega) (by omega)) (fun v hv2 hq => ?_)
  obtain ⟨rfl, rfl⟩ := hq
  refine j_if_eq (off := 22) (tgt := 26) (dQ (by decide +kernel)) (by decide) (fun q => absurd (congrArg Int32.toInt q) (by rw [i32_z]; omega)) (fun _ => ?_)
  refine j_iload_n (k4 := 2) (dQ (by decide +kernel)) rfl ?_
  refine j_cS (own := 11) (i := 63) (y2 := 21) (d2 := 1) (mc := 0) (ms := 0) (kc := 0) (ks := 0) (As := [.int x2]) (st := []) (dQ (by decide +kernel)) hcls (by decide +kernel) (by decide) (by decide +kernel) (show 1 = jnp 21 by decide +kernel) (by decide) (show 0 ≤ 8 by decide) (x_isMinute_0l (by omega)) (fun v hv4 hq => ?_)
  obtain ⟨rfl, rfl⟩ := hq
  refine j_if_eq (off := 15) (tgt := 26) (dQ (by decide +kernel)) (by decide) (fun _ => ?_) (fun q => absurd (i32_eq (show _ = (0 : Int32).toInt by rw [i32_z]; omega)) q)
  refine j_aload_n (k4 := 0) (dQ (by decide +kernel)) rfl ?_
  refine j_iconst (n := (-1)) (dQ (by decide +kernel)) ?_
  refine j_cV (own := 11) (i := 41) (y2 := 16) (d2 := 1) (mc := 0) (ms := 0) (kc := 0) (ks := 0) (a := b0 + 0) (As := [.int (Int32.ofInt (-1))]) (st := []) (dQ (by decide +kernel)) hcls (by decide +kernel) (by decide) (by decide +kernel) (show 1 = jnp 16 by decide +kernel) (by decide) (show 0 ≤ 8 by decide) hx (fun r hr => by cases hr; decide +kernel) (x_refuse hx lx) (fun v hv6 hq => ?_)
  obtain ⟨rfl, rfl⟩ := hq
  have n7 : (fsx.set 7 (.int (Int32.ofInt (-1)))).length = 12 := by rw [List.length_set]; exact lx
  have f8 : (fsx.set 7 (.int (Int32.ofInt (-1))))[0]? = some (.ref (g.2.2 + (b0 + 1))) := by
    rw [List.getElem?_set_ne (by decide)]
    exact px0
  have k9 : (h.set (b0 + 0) (.inr (11, (fsx.set 7 (.int (Int32.ofInt (-1)))))))[b0 + 0]? = some (.inr (11, (fsx.set 7 (.int (Int32.ofInt (-1)))))) := List.getElem?_set_self (List.getElem?_eq_some_iff.mp hx).1
  exact j_ret (v := some (.int (Int32.ofInt (-1)))) ⟨by decide +kernel, Or.inl (by decide +kernel)⟩ ⟨rfl, rfl⟩ rfl
set_option maxRecDepth 8192 in
theorem xr_work_1l {b1 : Nat} {fsm : List Value} {x1 : Int32} {x2 : Int32} {x3 : Int32} (hm : h[b1 + 0]? = some (.inr (12, fsm))) (lm : fsm.length = 42) (pm2 : fsm[2]? = some (.ref (g.2.2 + (b1 + 1)))) (g1 : 0 ≤ x1.toInt ∧ x1.toInt ≤ 11) (u : x2.toInt < 0) : jCal l g 255 3 [.ref (g.2.2 + (b1 + 0)), .int x1, .int x2, .int x3] h 0 0 (fun v h' => v = some (.int (Int32.ofInt (-1))) ∧ h' = ((h.set (b1 + 0) (.inr (12, (fsm.set 0 (.int (Int32.ofInt 0)))))).set (b1 + 0) (.inr (12, ((fsm.set 0 (.int (Int32.ofInt 0))).set 1 (.int (Int32.ofInt (-1)))))))) := by
  have hcls : jcN 12 = (jyN 255).cls := by decide +kernel
  have cn0 : (Int32.ofInt 0).toInt = 0 := by decide
  have cn1 : (Int32.ofInt 1).toInt = 1 := by decide
  have cn2 : (Int32.ofInt (-1)).toInt = -1 := by decide
  refine jCal_of (by decide +kernel) (show 4 ≤ jmx 255 by decide +kernel) ?_
  show J l g 255 3 0 [some (.ref (g.2.2 + (b1 + 0))), some (.int x1), some (.int x2), some (.int x3), none] [] h 0 0 _
  refine j_aload_n (k4 := 0) (dQ (by decide +kernel)) rfl ?_
  refine j_iconst (n := 0) (dQ (by decide +kernel)) ?_
  refine j_put (own := 12) (i := 94) (ci := 12) (f := 0) (ty := .int) (dQ (by decide +kernel)) hcls (by decide +kernel) hm rfl (by decide +kernel) (by rw [lm]; decide) (by decide +kernel) (by decide +kernel) rfl rfl ?_
  have n1 : (fsm.set 0 (.int (Int32.ofInt 0))).length = 42 := by rw [List.length_set]; exact lm
  have f2 : (fsm.set 0 (.int (Int32.ofInt 0)))[2]? = some (.ref (g.2.2 + (b1 + 1))) := by
    rw [List.getElem?_set_ne (by decide)]
    exact pm2
  have f3 : (fsm.set 0 (.int (Int32.ofInt 0)))[0]? = some (.int (Int32.ofInt 0)) := List.getElem?_set_self (by rw [lm]; decide)
  have k4 : (h.set (b1 + 0) (.inr (12, (fsm.set 0 (.int (Int32.ofInt 0))))))[b1 + 0]? = some (.inr (12, (fsm.set 0 (.int (Int32.ofInt 0))))) := List.getElem?_set_self (List.getElem?_eq_some_iff.mp hm).1
  refine j_iload_n (k4 := 1) (dQ (by decide +kernel)) rfl ?_
  refine j_cS (own := 12) (i := 285) (y2 := 235) (d2 := 2) (mc := 0) (ms := 0) (kc := 0) (ks := 0) (As := [.int x1]) (st := []) (dQ (by decide +kernel)) hcls (by decide +kernel) (by decide) (by decide +kernel) (show 1 = jnp 235 by decide +kernel) (by decide) (show 0 ≤ 8 by decide) (xm_isBerth_1 (by omega) (by omega)) (fun v hv6 hq => ?_)
  obtain ⟨rfl, rfl⟩ := hq
  refine j_if_eq (off := 22) (tgt := 31) (dQ (by decide +kernel)) (by decide) (fun q => absurd (congrArg Int32.toInt q) (by rw [i32_z]; omega)) (fun _ => ?_)
  refine j_iload_n (k4 := 2) (dQ (by decide +kernel)) rfl ?_
  refine j_cS (own := 12) (i := 288) (y2 := 238) (d2 := 2) (mc := 0) (ms := 0) (kc := 0) (ks := 0) (As := [.int x2]) (st := []) (dQ (by decide +kernel)) hcls (by decide +kernel) (by decide) (by decide +kernel) (show 1 = jnp 238 by decide +kernel) (by decide) (show 0 ≤ 8 by decide) (xm_isMinute_0l (by omega)) (fun v hv8 hq => ?_)
  obtain ⟨rfl, rfl⟩ := hq
  refine j_if_eq (off := 15) (tgt := 31) (dQ (by decide +kernel)) (by decide) (fun _ => ?_) (fun q => absurd (i32_eq (show _ = (0 : Int32).toInt by rw [i32_z]; omega)) q)
  refine j_aload_n (k4 := 0) (dQ (by decide +kernel)) rfl ?_
  refine j_iconst (n := (-1)) (dQ (by decide +kernel)) ?_
  refine j_cV (own := 12) (i := 104) (y2 := 206) (d2 := 1) (mc := 0) (ms := 0) (kc := 0) (ks := 0) (a := b1 + 0) (As := [.int (Int32.ofInt (-1))]) (st := []) (dQ (by decide +kernel)) hcls (by decide +kernel) (by decide) (by decide +kernel) (show 1 = jnp 206 by decide +kernel) (by decide) (show 0 ≤ 8 by decide) k4 (fun r hr => by cases hr; decide +kernel) (xm_tellN k4 n1 (by omega)) (fun v hv10 hq => ?_)
  obtain ⟨rfl, rfl⟩ := hq
  have n11 : ((fsm.set 0 (.int (Int32.ofInt 0))).set 1 (.int (Int32.ofInt (-1)))).length = 42 := by rw [List.length_set]; exact n1
  have f12 : ((fsm.set 0 (.int (Int32.ofInt 0))).set 1 (.int (Int32.ofInt (-1))))[2]? = some (.ref (g.2.2 + (b1 + 1))) := by
    rw [List.getElem?_set_ne (by decide)]
    exact f2
  have f13 : ((fsm.set 0 (.int (Int32.ofInt 0))).set 1 (.int (Int32.ofInt (-1))))[0]? = some (.int (Int32.ofInt 0)) := by
    rw [List.getElem?_set_ne (by decide)]
    exact f3
  have k14 : ((h.set (b1 + 0) (.inr (12, (fsm.set 0 (.int (Int32.ofInt 0)))))).set (b1 + 0) (.inr (12, ((fsm.set 0 (.int (Int32.ofInt 0))).set 1 (.int (Int32.ofInt (-1)))))))[b1 + 0]? = some (.inr (12, ((fsm.set 0 (.int (Int32.ofInt 0))).set 1 (.int (Int32.ofInt (-1)))))) := List.getElem?_set_self (List.getElem?_eq_some_iff.mp k4).1
  exact j_ret (v := some (.int (Int32.ofInt (-1)))) ⟨by decide +kernel, Or.inl (by decide +kernel)⟩ ⟨rfl, rfl⟩ rfl
set_option maxRecDepth 8192 in
theorem xk_work_1h {b0 : Nat} {fsx : List Value} {x1 : Int32} {x2 : Int32} {x3 : Int32} (hx : h[b0 + 0]? = some (.inr (11, fsx))) (lx : fsx.length = 12) (px0 : fsx[0]? = some (.ref (g.2.2 + (b0 + 1)))) (g1 : 0 ≤ x1.toInt ∧ x1.toInt ≤ 11) (u : 9999 < x2.toInt) : jCal l g 40 2 [.ref (g.2.2 + (b0 + 0)), .int x1, .int x2, .int x3] h 0 0 (fun v h' => v = some (.int (Int32.ofInt (-1))) ∧ h' = (h.set (b0 + 0) (.inr (11, (fsx.set 7 (.int (Int32.ofInt (-1)))))))) := by
  have hcls : jcN 11 = (jyN 40).cls := by decide +kernel
  have cn0 : (Int32.ofInt 1).toInt = 1 := by decide
  have cn1 : (Int32.ofInt 0).toInt = 0 := by decide
  have cn2 : (Int32.ofInt (-1)).toInt = -1 := by decide
  refine jCal_of (by decide +kernel) (show 4 ≤ jmx 40 by decide +kernel) ?_
  show J l g 40 2 0 [some (.ref (g.2.2 + (b0 + 0))), some (.int x1), some (.int x2), some (.int x3)] [] h 0 0 _
  refine j_iload_n (k4 := 1) (dQ (by decide +kernel)) rfl ?_
  refine j_cS (own := 11) (i := 34) (y2 := 14) (d2 := 1) (mc := 0) (ms := 0) (kc := 0) (ks := 0) (As := [.int x1]) (st := []) (dQ (by decide +kernel)) hcls (by decide +kernel) (by decide) (by decide +kernel) (show 1 = jnp 14 by decide +kernel) (by decide) (show 0 ≤ 8 by decide) (x_isBerth_1 (by omega) (by omega)) (fun v hv2 hq => ?_)
  obtain ⟨rfl, rfl⟩ := hq
  refine j_if_eq (off := 22) (tgt := 26) (dQ (by decide +kernel)) (by decide) (fun q => absurd (congrArg Int32.toInt q) (by rw [i32_z]; omega)) (fun _ => ?_)
  refine j_iload_n (k4 := 2) (dQ (by decide +kernel)) rfl ?_
  refine j_cS (own := 11) (i := 63) (y2 := 21) (d2 := 1) (mc := 0) (ms := 0) (kc := 0) (ks := 0) (As := [.int x2]) (st := []) (dQ (by decide +kernel)) hcls (by decide +kernel) (by decide) (by decide +kernel) (show 1 = jnp 21 by decide +kernel) (by decide) (show 0 ≤ 8 by decide) (x_isMinute_0h (by omega)) (fun v hv4 hq => ?_)
  obtain ⟨rfl, rfl⟩ := hq
  refine j_if_eq (off := 15) (tgt := 26) (dQ (by decide +kernel)) (by decide) (fun _ => ?_) (fun q => absurd (i32_eq (show _ = (0 : Int32).toInt by rw [i32_z]; omega)) q)
  refine j_aload_n (k4 := 0) (dQ (by decide +kernel)) rfl ?_
  refine j_iconst (n := (-1)) (dQ (by decide +kernel)) ?_
  refine j_cV (own := 11) (i := 41) (y2 := 16) (d2 := 1) (mc := 0) (ms := 0) (kc := 0) (ks := 0) (a := b0 + 0) (As := [.int (Int32.ofInt (-1))]) (st := []) (dQ (by decide +kernel)) hcls (by decide +kernel) (by decide) (by decide +kernel) (show 1 = jnp 16 by decide +kernel) (by decide) (show 0 ≤ 8 by decide) hx (fun r hr => by cases hr; decide +kernel) (x_refuse hx lx) (fun v hv6 hq => ?_)
  obtain ⟨rfl, rfl⟩ := hq
  have n7 : (fsx.set 7 (.int (Int32.ofInt (-1)))).length = 12 := by rw [List.length_set]; exact lx
  have f8 : (fsx.set 7 (.int (Int32.ofInt (-1))))[0]? = some (.ref (g.2.2 + (b0 + 1))) := by
    rw [List.getElem?_set_ne (by decide)]
    exact px0
  have k9 : (h.set (b0 + 0) (.inr (11, (fsx.set 7 (.int (Int32.ofInt (-1)))))))[b0 + 0]? = some (.inr (11, (fsx.set 7 (.int (Int32.ofInt (-1)))))) := List.getElem?_set_self (List.getElem?_eq_some_iff.mp hx).1
  exact j_ret (v := some (.int (Int32.ofInt (-1)))) ⟨by decide +kernel, Or.inl (by decide +kernel)⟩ ⟨rfl, rfl⟩ rfl
set_option maxRecDepth 8192 in
theorem xr_work_1h {b1 : Nat} {fsm : List Value} {x1 : Int32} {x2 : Int32} {x3 : Int32} (hm : h[b1 + 0]? = some (.inr (12, fsm))) (lm : fsm.length = 42) (pm2 : fsm[2]? = some (.ref (g.2.2 + (b1 + 1)))) (g1 : 0 ≤ x1.toInt ∧ x1.toInt ≤ 11) (u : 9999 < x2.toInt) : jCal l g 255 3 [.ref (g.2.2 + (b1 + 0)), .int x1, .int x2, .int x3] h 0 0 (fun v h' => v = some (.int (Int32.ofInt (-1))) ∧ h' = ((h.set (b1 + 0) (.inr (12, (fsm.set 0 (.int (Int32.ofInt 0)))))).set (b1 + 0) (.inr (12, ((fsm.set 0 (.int (Int32.ofInt 0))).set 1 (.int (Int32.ofInt (-1)))))))) := by
  have hcls : jcN 12 = (jyN 255).cls := by decide +kernel
  have cn0 : (Int32.ofInt 0).toInt = 0 := by decide
  have cn1 : (Int32.ofInt 1).toInt = 1 := by decide
  have cn2 : (Int32.ofInt (-1)).toInt = -1 := by decide
  refine jCal_of (by decide +kernel) (show 4 ≤ jmx 255 by decide +kernel) ?_
  show J l g 255 3 0 [some (.ref (g.2.2 + (b1 + 0))), some (.int x1), some (.int x2), some (.int x3), none] [] h 0 0 _
  refine j_aload_n (k4 := 0) (dQ (by decide +kernel)) rfl ?_
  refine j_iconst (n := 0) (dQ (by decide +kernel)) ?_
  refine j_put (own := 12) (i := 94) (ci := 12) (f := 0) (ty := .int) (dQ (by decide +kernel)) hcls (by decide +kernel) hm rfl (by decide +kernel) (by rw [lm]; decide) (by decide +kernel) (by decide +kernel) rfl rfl ?_
  have n1 : (fsm.set 0 (.int (Int32.ofInt 0))).length = 42 := by rw [List.length_set]; exact lm
  have f2 : (fsm.set 0 (.int (Int32.ofInt 0)))[2]? = some (.ref (g.2.2 + (b1 + 1))) := by
    rw [List.getElem?_set_ne (by decide)]
    exact pm2
  have f3 : (fsm.set 0 (.int (Int32.ofInt 0)))[0]? = some (.int (Int32.ofInt 0)) := List.getElem?_set_self (by rw [lm]; decide)
  have k4 : (h.set (b1 + 0) (.inr (12, (fsm.set 0 (.int (Int32.ofInt 0))))))[b1 + 0]? = some (.inr (12, (fsm.set 0 (.int (Int32.ofInt 0))))) := List.getElem?_set_self (List.getElem?_eq_some_iff.mp hm).1
  refine j_iload_n (k4 := 1) (dQ (by decide +kernel)) rfl ?_
  refine j_cS (own := 12) (i := 285) (y2 := 235) (d2 := 2) (mc := 0) (ms := 0) (kc := 0) (ks := 0) (As := [.int x1]) (st := []) (dQ (by decide +kernel)) hcls (by decide +kernel) (by decide) (by decide +kernel) (show 1 = jnp 235 by decide +kernel) (by decide) (show 0 ≤ 8 by decide) (xm_isBerth_1 (by omega) (by omega)) (fun v hv6 hq => ?_)
  obtain ⟨rfl, rfl⟩ := hq
  refine j_if_eq (off := 22) (tgt := 31) (dQ (by decide +kernel)) (by decide) (fun q => absurd (congrArg Int32.toInt q) (by rw [i32_z]; omega)) (fun _ => ?_)
  refine j_iload_n (k4 := 2) (dQ (by decide +kernel)) rfl ?_
  refine j_cS (own := 12) (i := 288) (y2 := 238) (d2 := 2) (mc := 0) (ms := 0) (kc := 0) (ks := 0) (As := [.int x2]) (st := []) (dQ (by decide +kernel)) hcls (by decide +kernel) (by decide) (by decide +kernel) (show 1 = jnp 238 by decide +kernel) (by decide) (show 0 ≤ 8 by decide) (xm_isMinute_0h (by omega)) (fun v hv8 hq => ?_)
  obtain ⟨rfl, rfl⟩ := hq
  refine j_if_eq (off := 15) (tgt := 31) (dQ (by decide +kernel)) (by decide) (fun _ => ?_) (fun q => absurd (i32_eq (show _ = (0 : Int32).toInt by rw [i32_z]; omega)) q)
  refine j_aload_n (k4 := 0) (dQ (by decide +kernel)) rfl ?_
  refine j_iconst (n := (-1)) (dQ (by decide +kernel)) ?_
  refine j_cV (own := 12) (i := 104) (y2 := 206) (d2 := 1) (mc := 0) (ms := 0) (kc := 0) (ks := 0) (a := b1 + 0) (As := [.int (Int32.ofInt (-1))]) (st := []) (dQ (by decide +kernel)) hcls (by decide +kernel) (by decide) (by decide +kernel) (show 1 = jnp 206 by decide +kernel) (by decide) (show 0 ≤ 8 by decide) k4 (fun r hr => by cases hr; decide +kernel) (xm_tellN k4 n1 (by omega)) (fun v hv10 hq => ?_)
  obtain ⟨rfl, rfl⟩ := hq
  have n11 : ((fsm.set 0 (.int (Int32.ofInt 0))).set 1 (.int (Int32.ofInt (-1)))).length = 42 := by rw [List.length_set]; exact n1
  have f12 : ((fsm.set 0 (.int (Int32.ofInt 0))).set 1 (.int (Int32.ofInt (-1))))[2]? = some (.ref (g.2.2 + (b1 + 1))) := by
    rw [List.getElem?_set_ne (by decide)]
    exact f2
  have f13 : ((fsm.set 0 (.int (Int32.ofInt 0))).set 1 (.int (Int32.ofInt (-1))))[0]? = some (.int (Int32.ofInt 0)) := by
    rw [List.getElem?_set_ne (by decide)]
    exact f3
  have k14 : ((h.set (b1 + 0) (.inr (12, (fsm.set 0 (.int (Int32.ofInt 0)))))).set (b1 + 0) (.inr (12, ((fsm.set 0 (.int (Int32.ofInt 0))).set 1 (.int (Int32.ofInt (-1)))))))[b1 + 0]? = some (.inr (12, ((fsm.set 0 (.int (Int32.ofInt 0))).set 1 (.int (Int32.ofInt (-1)))))) := List.getElem?_set_self (List.getElem?_eq_some_iff.mp k4).1
  exact j_ret (v := some (.int (Int32.ofInt (-1)))) ⟨by decide +kernel, Or.inl (by decide +kernel)⟩ ⟨rfl, rfl⟩ rfl
set_option maxRecDepth 8192 in
theorem xk_work_2l {b0 : Nat} {fsx : List Value} {x1 : Int32} {x2 : Int32} {x3 : Int32} (hx : h[b0 + 0]? = some (.inr (11, fsx))) (lx : fsx.length = 12) (px0 : fsx[0]? = some (.ref (g.2.2 + (b0 + 1)))) (g1 : 0 ≤ x1.toInt ∧ x1.toInt ≤ 11) (g2 : 0 ≤ x2.toInt ∧ x2.toInt ≤ 9999) (u : x3.toInt < 0) : jCal l g 40 2 [.ref (g.2.2 + (b0 + 0)), .int x1, .int x2, .int x3] h 0 0 (fun v h' => v = some (.int (Int32.ofInt (-1))) ∧ h' = (h.set (b0 + 0) (.inr (11, (fsx.set 7 (.int (Int32.ofInt (-1)))))))) := by
  have hcls : jcN 11 = (jyN 40).cls := by decide +kernel
  have cn0 : (Int32.ofInt 1).toInt = 1 := by decide
  have cn1 : (Int32.ofInt 0).toInt = 0 := by decide
  have cn2 : (Int32.ofInt (-1)).toInt = -1 := by decide
  refine jCal_of (by decide +kernel) (show 4 ≤ jmx 40 by decide +kernel) ?_
  show J l g 40 2 0 [some (.ref (g.2.2 + (b0 + 0))), some (.int x1), some (.int x2), some (.int x3)] [] h 0 0 _
  refine j_iload_n (k4 := 1) (dQ (by decide +kernel)) rfl ?_
  refine j_cS (own := 11) (i := 34) (y2 := 14) (d2 := 1) (mc := 0) (ms := 0) (kc := 0) (ks := 0) (As := [.int x1]) (st := []) (dQ (by decide +kernel)) hcls (by decide +kernel) (by decide) (by decide +kernel) (show 1 = jnp 14 by decide +kernel) (by decide) (show 0 ≤ 8 by decide) (x_isBerth_1 (by omega) (by omega)) (fun v hv2 hq => ?_)
  obtain ⟨rfl, rfl⟩ := hq
  refine j_if_eq (off := 22) (tgt := 26) (dQ (by decide +kernel)) (by decide) (fun q => absurd (congrArg Int32.toInt q) (by rw [i32_z]; omega)) (fun _ => ?_)
  refine j_iload_n (k4 := 2) (dQ (by decide +kernel)) rfl ?_
  refine j_cS (own := 11) (i := 63) (y2 := 21) (d2 := 1) (mc := 0) (ms := 0) (kc := 0) (ks := 0) (As := [.int x2]) (st := []) (dQ (by decide +kernel)) hcls (by decide +kernel) (by decide) (by decide +kernel) (show 1 = jnp 21 by decide +kernel) (by decide) (show 0 ≤ 8 by decide) (x_isMinute_1 (by omega) (by omega)) (fun v hv4 hq => ?_)
  obtain ⟨rfl, rfl⟩ := hq
  refine j_if_eq (off := 15) (tgt := 26) (dQ (by decide +kernel)) (by decide) (fun q => absurd (congrArg Int32.toInt q) (by rw [i32_z]; omega)) (fun _ => ?_)
  refine j_iload_n (k4 := 3) (dQ (by decide +kernel)) rfl ?_
  refine j_cS (own := 11) (i := 63) (y2 := 21) (d2 := 1) (mc := 0) (ms := 0) (kc := 0) (ks := 0) (As := [.int x3]) (st := []) (dQ (by decide +kernel)) hcls (by decide +kernel) (by decide) (by decide +kernel) (show 1 = jnp 21 by decide +kernel) (by decide) (show 0 ≤ 8 by decide) (x_isMinute_0l (by omega)) (fun v hv6 hq => ?_)
  obtain ⟨rfl, rfl⟩ := hq
  refine j_if_eq (off := 8) (tgt := 26) (dQ (by decide +kernel)) (by decide) (fun _ => ?_) (fun q => absurd (i32_eq (show _ = (0 : Int32).toInt by rw [i32_z]; omega)) q)
  refine j_aload_n (k4 := 0) (dQ (by decide +kernel)) rfl ?_
  refine j_iconst (n := (-1)) (dQ (by decide +kernel)) ?_
  refine j_cV (own := 11) (i := 41) (y2 := 16) (d2 := 1) (mc := 0) (ms := 0) (kc := 0) (ks := 0) (a := b0 + 0) (As := [.int (Int32.ofInt (-1))]) (st := []) (dQ (by decide +kernel)) hcls (by decide +kernel) (by decide) (by decide +kernel) (show 1 = jnp 16 by decide +kernel) (by decide) (show 0 ≤ 8 by decide) hx (fun r hr => by cases hr; decide +kernel) (x_refuse hx lx) (fun v hv8 hq => ?_)
  obtain ⟨rfl, rfl⟩ := hq
  have n9 : (fsx.set 7 (.int (Int32.ofInt (-1)))).length = 12 := by rw [List.length_set]; exact lx
  have f10 : (fsx.set 7 (.int (Int32.ofInt (-1))))[0]? = some (.ref (g.2.2 + (b0 + 1))) := by
    rw [List.getElem?_set_ne (by decide)]
    exact px0
  have k11 : (h.set (b0 + 0) (.inr (11, (fsx.set 7 (.int (Int32.ofInt (-1)))))))[b0 + 0]? = some (.inr (11, (fsx.set 7 (.int (Int32.ofInt (-1)))))) := List.getElem?_set_self (List.getElem?_eq_some_iff.mp hx).1
  exact j_ret (v := some (.int (Int32.ofInt (-1)))) ⟨by decide +kernel, Or.inl (by decide +kernel)⟩ ⟨rfl, rfl⟩ rfl
set_option maxRecDepth 8192 in
theorem xr_work_2l {b1 : Nat} {fsm : List Value} {x1 : Int32} {x2 : Int32} {x3 : Int32} (hm : h[b1 + 0]? = some (.inr (12, fsm))) (lm : fsm.length = 42) (pm2 : fsm[2]? = some (.ref (g.2.2 + (b1 + 1)))) (g1 : 0 ≤ x1.toInt ∧ x1.toInt ≤ 11) (g2 : 0 ≤ x2.toInt ∧ x2.toInt ≤ 9999) (u : x3.toInt < 0) : jCal l g 255 3 [.ref (g.2.2 + (b1 + 0)), .int x1, .int x2, .int x3] h 0 0 (fun v h' => v = some (.int (Int32.ofInt (-1))) ∧ h' = ((h.set (b1 + 0) (.inr (12, (fsm.set 0 (.int (Int32.ofInt 0)))))).set (b1 + 0) (.inr (12, ((fsm.set 0 (.int (Int32.ofInt 0))).set 1 (.int (Int32.ofInt (-1)))))))) := by
  have hcls : jcN 12 = (jyN 255).cls := by decide +kernel
  have cn0 : (Int32.ofInt 0).toInt = 0 := by decide
  have cn1 : (Int32.ofInt 1).toInt = 1 := by decide
  have cn2 : (Int32.ofInt (-1)).toInt = -1 := by decide
  refine jCal_of (by decide +kernel) (show 4 ≤ jmx 255 by decide +kernel) ?_
  show J l g 255 3 0 [some (.ref (g.2.2 + (b1 + 0))), some (.int x1), some (.int x2), some (.int x3), none] [] h 0 0 _
  refine j_aload_n (k4 := 0) (dQ (by decide +kernel)) rfl ?_
  refine j_iconst (n := 0) (dQ (by decide +kernel)) ?_
  refine j_put (own := 12) (i := 94) (ci := 12) (f := 0) (ty := .int) (dQ (by decide +kernel)) hcls (by decide +kernel) hm rfl (by decide +kernel) (by rw [lm]; decide) (by decide +kernel) (by decide +kernel) rfl rfl ?_
  have n1 : (fsm.set 0 (.int (Int32.ofInt 0))).length = 42 := by rw [List.length_set]; exact lm
  have f2 : (fsm.set 0 (.int (Int32.ofInt 0)))[2]? = some (.ref (g.2.2 + (b1 + 1))) := by
    rw [List.getElem?_set_ne (by decide)]
    exact pm2
  have f3 : (fsm.set 0 (.int (Int32.ofInt 0)))[0]? = some (.int (Int32.ofInt 0)) := List.getElem?_set_self (by rw [lm]; decide)
  have k4 : (h.set (b1 + 0) (.inr (12, (fsm.set 0 (.int (Int32.ofInt 0))))))[b1 + 0]? = some (.inr (12, (fsm.set 0 (.int (Int32.ofInt 0))))) := List.getElem?_set_self (List.getElem?_eq_some_iff.mp hm).1
  refine j_iload_n (k4 := 1) (dQ (by decide +kernel)) rfl ?_
  refine j_cS (own := 12) (i := 285) (y2 := 235) (d2 := 2) (mc := 0) (ms := 0) (kc := 0) (ks := 0) (As := [.int x1]) (st := []) (dQ (by decide +kernel)) hcls (by decide +kernel) (by decide) (by decide +kernel) (show 1 = jnp 235 by decide +kernel) (by decide) (show 0 ≤ 8 by decide) (xm_isBerth_1 (by omega) (by omega)) (fun v hv6 hq => ?_)
  obtain ⟨rfl, rfl⟩ := hq
  refine j_if_eq (off := 22) (tgt := 31) (dQ (by decide +kernel)) (by decide) (fun q => absurd (congrArg Int32.toInt q) (by rw [i32_z]; omega)) (fun _ => ?_)
  refine j_iload_n (k4 := 2) (dQ (by decide +kernel)) rfl ?_
  refine j_cS (own := 12) (i := 288) (y2 := 238) (d2 := 2) (mc := 0) (ms := 0) (kc := 0) (ks := 0) (As := [.int x2]) (st := []) (dQ (by decide +kernel)) hcls (by decide +kernel) (by decide) (by decide +kernel) (show 1 = jnp 238 by decide +kernel) (by decide) (show 0 ≤ 8 by decide) (xm_isMinute_1 (by omega) (by omega)) (fun v hv8 hq => ?_)
  obtain ⟨rfl, rfl⟩ := hq
  refine j_if_eq (off := 15) (tgt := 31) (dQ (by decide +kernel)) (by decide) (fun q => absurd (congrArg Int32.toInt q) (by rw [i32_z]; omega)) (fun _ => ?_)
  refine j_iload_n (k4 := 3) (dQ (by decide +kernel)) rfl ?_
  refine j_cS (own := 12) (i := 288) (y2 := 238) (d2 := 2) (mc := 0) (ms := 0) (kc := 0) (ks := 0) (As := [.int x3]) (st := []) (dQ (by decide +kernel)) hcls (by decide +kernel) (by decide) (by decide +kernel) (show 1 = jnp 238 by decide +kernel) (by decide) (show 0 ≤ 8 by decide) (xm_isMinute_0l (by omega)) (fun v hv10 hq => ?_)
  obtain ⟨rfl, rfl⟩ := hq
  refine j_if_eq (off := 8) (tgt := 31) (dQ (by decide +kernel)) (by decide) (fun _ => ?_) (fun q => absurd (i32_eq (show _ = (0 : Int32).toInt by rw [i32_z]; omega)) q)
  refine j_aload_n (k4 := 0) (dQ (by decide +kernel)) rfl ?_
  refine j_iconst (n := (-1)) (dQ (by decide +kernel)) ?_
  refine j_cV (own := 12) (i := 104) (y2 := 206) (d2 := 1) (mc := 0) (ms := 0) (kc := 0) (ks := 0) (a := b1 + 0) (As := [.int (Int32.ofInt (-1))]) (st := []) (dQ (by decide +kernel)) hcls (by decide +kernel) (by decide) (by decide +kernel) (show 1 = jnp 206 by decide +kernel) (by decide) (show 0 ≤ 8 by decide) k4 (fun r hr => by cases hr; decide +kernel) (xm_tellN k4 n1 (by omega)) (fun v hv12 hq => ?_)
  obtain ⟨rfl, rfl⟩ := hq
  have n13 : ((fsm.set 0 (.int (Int32.ofInt 0))).set 1 (.int (Int32.ofInt (-1)))).length = 42 := by rw [List.length_set]; exact n1
  have f14 : ((fsm.set 0 (.int (Int32.ofInt 0))).set 1 (.int (Int32.ofInt (-1))))[2]? = some (.ref (g.2.2 + (b1 + 1))) := by
    rw [List.getElem?_set_ne (by decide)]
    exact f2
  have f15 : ((fsm.set 0 (.int (Int32.ofInt 0))).set 1 (.int (Int32.ofInt (-1))))[0]? = some (.int (Int32.ofInt 0)) := by
    rw [List.getElem?_set_ne (by decide)]
    exact f3
  have k16 : ((h.set (b1 + 0) (.inr (12, (fsm.set 0 (.int (Int32.ofInt 0)))))).set (b1 + 0) (.inr (12, ((fsm.set 0 (.int (Int32.ofInt 0))).set 1 (.int (Int32.ofInt (-1)))))))[b1 + 0]? = some (.inr (12, ((fsm.set 0 (.int (Int32.ofInt 0))).set 1 (.int (Int32.ofInt (-1)))))) := List.getElem?_set_self (List.getElem?_eq_some_iff.mp k4).1
  exact j_ret (v := some (.int (Int32.ofInt (-1)))) ⟨by decide +kernel, Or.inl (by decide +kernel)⟩ ⟨rfl, rfl⟩ rfl
set_option maxRecDepth 8192 in
theorem xk_work_2h {b0 : Nat} {fsx : List Value} {x1 : Int32} {x2 : Int32} {x3 : Int32} (hx : h[b0 + 0]? = some (.inr (11, fsx))) (lx : fsx.length = 12) (px0 : fsx[0]? = some (.ref (g.2.2 + (b0 + 1)))) (g1 : 0 ≤ x1.toInt ∧ x1.toInt ≤ 11) (g2 : 0 ≤ x2.toInt ∧ x2.toInt ≤ 9999) (u : 9999 < x3.toInt) : jCal l g 40 2 [.ref (g.2.2 + (b0 + 0)), .int x1, .int x2, .int x3] h 0 0 (fun v h' => v = some (.int (Int32.ofInt (-1))) ∧ h' = (h.set (b0 + 0) (.inr (11, (fsx.set 7 (.int (Int32.ofInt (-1)))))))) := by
  have hcls : jcN 11 = (jyN 40).cls := by decide +kernel
  have cn0 : (Int32.ofInt 1).toInt = 1 := by decide
  have cn1 : (Int32.ofInt 0).toInt = 0 := by decide
  have cn2 : (Int32.ofInt (-1)).toInt = -1 := by decide
  refine jCal_of (by decide +kernel) (show 4 ≤ jmx 40 by decide +kernel) ?_
  show J l g 40 2 0 [some (.ref (g.2.2 + (b0 + 0))), some (.int x1), some (.int x2), some (.int x3)] [] h 0 0 _
  refine j_iload_n (k4 := 1) (dQ (by decide +kernel)) rfl ?_
  refine j_cS (own := 11) (i := 34) (y2 := 14) (d2 := 1) (mc := 0) (ms := 0) (kc := 0) (ks := 0) (As := [.int x1]) (st := []) (dQ (by decide +kernel)) hcls (by decide +kernel) (by decide) (by decide +kernel) (show 1 = jnp 14 by decide +kernel) (by decide) (show 0 ≤ 8 by decide) (x_isBerth_1 (by omega) (by omega)) (fun v hv2 hq => ?_)
  obtain ⟨rfl, rfl⟩ := hq
  refine j_if_eq (off := 22) (tgt := 26) (dQ (by decide +kernel)) (by decide) (fun q => absurd (congrArg Int32.toInt q) (by rw [i32_z]; omega)) (fun _ => ?_)
  refine j_iload_n (k4 := 2) (dQ (by decide +kernel)) rfl ?_
  refine j_cS (own := 11) (i := 63) (y2 := 21) (d2 := 1) (mc := 0) (ms := 0) (kc := 0) (ks := 0) (As := [.int x2]) (st := []) (dQ (by decide +kernel)) hcls (by decide +kernel) (by decide) (by decide +kernel) (show 1 = jnp 21 by decide +kernel) (by decide) (show 0 ≤ 8 by decide) (x_isMinute_1 (by omega) (by omega)) (fun v hv4 hq => ?_)
  obtain ⟨rfl, rfl⟩ := hq
  refine j_if_eq (off := 15) (tgt := 26) (dQ (by decide +kernel)) (by decide) (fun q => absurd (congrArg Int32.toInt q) (by rw [i32_z]; omega)) (fun _ => ?_)
  refine j_iload_n (k4 := 3) (dQ (by decide +kernel)) rfl ?_
  refine j_cS (own := 11) (i := 63) (y2 := 21) (d2 := 1) (mc := 0) (ms := 0) (kc := 0) (ks := 0) (As := [.int x3]) (st := []) (dQ (by decide +kernel)) hcls (by decide +kernel) (by decide) (by decide +kernel) (show 1 = jnp 21 by decide +kernel) (by decide) (show 0 ≤ 8 by decide) (x_isMinute_0h (by omega)) (fun v hv6 hq => ?_)
  obtain ⟨rfl, rfl⟩ := hq
  refine j_if_eq (off := 8) (tgt := 26) (dQ (by decide +kernel)) (by decide) (fun _ => ?_) (fun q => absurd (i32_eq (show _ = (0 : Int32).toInt by rw [i32_z]; omega)) q)
  refine j_aload_n (k4 := 0) (dQ (by decide +kernel)) rfl ?_
  refine j_iconst (n := (-1)) (dQ (by decide +kernel)) ?_
  refine j_cV (own := 11) (i := 41) (y2 := 16) (d2 := 1) (mc := 0) (ms := 0) (kc := 0) (ks := 0) (a := b0 + 0) (As := [.int (Int32.ofInt (-1))]) (st := []) (dQ (by decide +kernel)) hcls (by decide +kernel) (by decide) (by decide +kernel) (show 1 = jnp 16 by decide +kernel) (by decide) (show 0 ≤ 8 by decide) hx (fun r hr => by cases hr; decide +kernel) (x_refuse hx lx) (fun v hv8 hq => ?_)
  obtain ⟨rfl, rfl⟩ := hq
  have n9 : (fsx.set 7 (.int (Int32.ofInt (-1)))).length = 12 := by rw [List.length_set]; exact lx
  have f10 : (fsx.set 7 (.int (Int32.ofInt (-1))))[0]? = some (.ref (g.2.2 + (b0 + 1))) := by
    rw [List.getElem?_set_ne (by decide)]
    exact px0
  have k11 : (h.set (b0 + 0) (.inr (11, (fsx.set 7 (.int (Int32.ofInt (-1)))))))[b0 + 0]? = some (.inr (11, (fsx.set 7 (.int (Int32.ofInt (-1)))))) := List.getElem?_set_self (List.getElem?_eq_some_iff.mp hx).1
  exact j_ret (v := some (.int (Int32.ofInt (-1)))) ⟨by decide +kernel, Or.inl (by decide +kernel)⟩ ⟨rfl, rfl⟩ rfl
set_option maxRecDepth 8192 in
theorem xr_work_2h {b1 : Nat} {fsm : List Value} {x1 : Int32} {x2 : Int32} {x3 : Int32} (hm : h[b1 + 0]? = some (.inr (12, fsm))) (lm : fsm.length = 42) (pm2 : fsm[2]? = some (.ref (g.2.2 + (b1 + 1)))) (g1 : 0 ≤ x1.toInt ∧ x1.toInt ≤ 11) (g2 : 0 ≤ x2.toInt ∧ x2.toInt ≤ 9999) (u : 9999 < x3.toInt) : jCal l g 255 3 [.ref (g.2.2 + (b1 + 0)), .int x1, .int x2, .int x3] h 0 0 (fun v h' => v = some (.int (Int32.ofInt (-1))) ∧ h' = ((h.set (b1 + 0) (.inr (12, (fsm.set 0 (.int (Int32.ofInt 0)))))).set (b1 + 0) (.inr (12, ((fsm.set 0 (.int (Int32.ofInt 0))).set 1 (.int (Int32.ofInt (-1)))))))) := by
  have hcls : jcN 12 = (jyN 255).cls := by decide +kernel
  have cn0 : (Int32.ofInt 0).toInt = 0 := by decide
  have cn1 : (Int32.ofInt 1).toInt = 1 := by decide
  have cn2 : (Int32.ofInt (-1)).toInt = -1 := by decide
  refine jCal_of (by decide +kernel) (show 4 ≤ jmx 255 by decide +kernel) ?_
  show J l g 255 3 0 [some (.ref (g.2.2 + (b1 + 0))), some (.int x1), some (.int x2), some (.int x3), none] [] h 0 0 _
  refine j_aload_n (k4 := 0) (dQ (by decide +kernel)) rfl ?_
  refine j_iconst (n := 0) (dQ (by decide +kernel)) ?_
  refine j_put (own := 12) (i := 94) (ci := 12) (f := 0) (ty := .int) (dQ (by decide +kernel)) hcls (by decide +kernel) hm rfl (by decide +kernel) (by rw [lm]; decide) (by decide +kernel) (by decide +kernel) rfl rfl ?_
  have n1 : (fsm.set 0 (.int (Int32.ofInt 0))).length = 42 := by rw [List.length_set]; exact lm
  have f2 : (fsm.set 0 (.int (Int32.ofInt 0)))[2]? = some (.ref (g.2.2 + (b1 + 1))) := by
    rw [List.getElem?_set_ne (by decide)]
    exact pm2
  have f3 : (fsm.set 0 (.int (Int32.ofInt 0)))[0]? = some (.int (Int32.ofInt 0)) := List.getElem?_set_self (by rw [lm]; decide)
  have k4 : (h.set (b1 + 0) (.inr (12, (fsm.set 0 (.int (Int32.ofInt 0))))))[b1 + 0]? = some (.inr (12, (fsm.set 0 (.int (Int32.ofInt 0))))) := List.getElem?_set_self (List.getElem?_eq_some_iff.mp hm).1
  refine j_iload_n (k4 := 1) (dQ (by decide +kernel)) rfl ?_
  refine j_cS (own := 12) (i := 285) (y2 := 235) (d2 := 2) (mc := 0) (ms := 0) (kc := 0) (ks := 0) (As := [.int x1]) (st := []) (dQ (by decide +kernel)) hcls (by decide +kernel) (by decide) (by decide +kernel) (show 1 = jnp 235 by decide +kernel) (by decide) (show 0 ≤ 8 by decide) (xm_isBerth_1 (by omega) (by omega)) (fun v hv6 hq => ?_)
  obtain ⟨rfl, rfl⟩ := hq
  refine j_if_eq (off := 22) (tgt := 31) (dQ (by decide +kernel)) (by decide) (fun q => absurd (congrArg Int32.toInt q) (by rw [i32_z]; omega)) (fun _ => ?_)
  refine j_iload_n (k4 := 2) (dQ (by decide +kernel)) rfl ?_
  refine j_cS (own := 12) (i := 288) (y2 := 238) (d2 := 2) (mc := 0) (ms := 0) (kc := 0) (ks := 0) (As := [.int x2]) (st := []) (dQ (by decide +kernel)) hcls (by decide +kernel) (by decide) (by decide +kernel) (show 1 = jnp 238 by decide +kernel) (by decide) (show 0 ≤ 8 by decide) (xm_isMinute_1 (by omega) (by omega)) (fun v hv8 hq => ?_)
  obtain ⟨rfl, rfl⟩ := hq
  refine j_if_eq (off := 15) (tgt := 31) (dQ (by decide +kernel)) (by decide) (fun q => absurd (congrArg Int32.toInt q) (by rw [i32_z]; omega)) (fun _ => ?_)
  refine j_iload_n (k4 := 3) (dQ (by decide +kernel)) rfl ?_
  refine j_cS (own := 12) (i := 288) (y2 := 238) (d2 := 2) (mc := 0) (ms := 0) (kc := 0) (ks := 0) (As := [.int x3]) (st := []) (dQ (by decide +kernel)) hcls (by decide +kernel) (by decide) (by decide +kernel) (show 1 = jnp 238 by decide +kernel) (by decide) (show 0 ≤ 8 by decide) (xm_isMinute_0h (by omega)) (fun v hv10 hq => ?_)
  obtain ⟨rfl, rfl⟩ := hq
  refine j_if_eq (off := 8) (tgt := 31) (dQ (by decide +kernel)) (by decide) (fun _ => ?_) (fun q => absurd (i32_eq (show _ = (0 : Int32).toInt by rw [i32_z]; omega)) q)
  refine j_aload_n (k4 := 0) (dQ (by decide +kernel)) rfl ?_
  refine j_iconst (n := (-1)) (dQ (by decide +kernel)) ?_
  refine j_cV (own := 12) (i := 104) (y2 := 206) (d2 := 1) (mc := 0) (ms := 0) (kc := 0) (ks := 0) (a := b1 + 0) (As := [.int (Int32.ofInt (-1))]) (st := []) (dQ (by decide +kernel)) hcls (by decide +kernel) (by decide) (by decide +kernel) (show 1 = jnp 206 by decide +kernel) (by decide) (show 0 ≤ 8 by decide) k4 (fun r hr => by cases hr; decide +kernel) (xm_tellN k4 n1 (by omega)) (fun v hv12 hq => ?_)
  obtain ⟨rfl, rfl⟩ := hq
  have n13 : ((fsm.set 0 (.int (Int32.ofInt 0))).set 1 (.int (Int32.ofInt (-1)))).length = 42 := by rw [List.length_set]; exact n1
  have f14 : ((fsm.set 0 (.int (Int32.ofInt 0))).set 1 (.int (Int32.ofInt (-1))))[2]? = some (.ref (g.2.2 + (b1 + 1))) := by
    rw [List.getElem?_set_ne (by decide)]
    exact f2
  have f15 : ((fsm.set 0 (.int (Int32.ofInt 0))).set 1 (.int (Int32.ofInt (-1))))[0]? = some (.int (Int32.ofInt 0)) := by
    rw [List.getElem?_set_ne (by decide)]
    exact f3
  have k16 : ((h.set (b1 + 0) (.inr (12, (fsm.set 0 (.int (Int32.ofInt 0)))))).set (b1 + 0) (.inr (12, ((fsm.set 0 (.int (Int32.ofInt 0))).set 1 (.int (Int32.ofInt (-1)))))))[b1 + 0]? = some (.inr (12, ((fsm.set 0 (.int (Int32.ofInt 0))).set 1 (.int (Int32.ofInt (-1)))))) := List.getElem?_set_self (List.getElem?_eq_some_iff.mp k4).1
  exact j_ret (v := some (.int (Int32.ofInt (-1)))) ⟨by decide +kernel, Or.inl (by decide +kernel)⟩ ⟨rfl, rfl⟩ rfl
set_option maxRecDepth 8192 in
theorem xk_work_tf {b0 : Nat} {fsx : List Value} {x1 : Int32} {x2 : Int32} {x3 : Int32} (hx : h[b0 + 0]? = some (.inr (11, fsx))) (lx : fsx.length = 12) (px0 : fsx[0]? = some (.ref (g.2.2 + (b0 + 1)))) (g1 : 0 ≤ x1.toInt ∧ x1.toInt ≤ 11) (g2 : 0 ≤ x2.toInt ∧ x2.toInt ≤ 9999) (g3 : 0 ≤ x3.toInt ∧ x3.toInt ≤ 9999) (u : x3.toInt < x2.toInt) : jCal l g 40 2 [.ref (g.2.2 + (b0 + 0)), .int x1, .int x2, .int x3] h 0 0 (fun v h' => v = some (.int (Int32.ofInt (-1))) ∧ h' = (h.set (b0 + 0) (.inr (11, (fsx.set 7 (.int (Int32.ofInt (-1)))))))) := by
  have hcls : jcN 11 = (jyN 40).cls := by decide +kernel
  have cn0 : (Int32.ofInt 1).toInt = 1 := by decide
  have cn1 : (Int32.ofInt (-1)).toInt = -1 := by decide
  refine jCal_of (by decide +kernel) (show 4 ≤ jmx 40 by decide +kernel) ?_
  show J l g 40 2 0 [some (.ref (g.2.2 + (b0 + 0))), some (.int x1), some (.int x2), some (.int x3)] [] h 0 0 _
  refine j_iload_n (k4 := 1) (dQ (by decide +kernel)) rfl ?_
  refine j_cS (own := 11) (i := 34) (y2 := 14) (d2 := 1) (mc := 0) (ms := 0) (kc := 0) (ks := 0) (As := [.int x1]) (st := []) (dQ (by decide +kernel)) hcls (by decide +kernel) (by decide) (by decide +kernel) (show 1 = jnp 14 by decide +kernel) (by decide) (show 0 ≤ 8 by decide) (x_isBerth_1 (by omega) (by omega)) (fun v hv2 hq => ?_)
  obtain ⟨rfl, rfl⟩ := hq
  refine j_if_eq (off := 22) (tgt := 26) (dQ (by decide +kernel)) (by decide) (fun q => absurd (congrArg Int32.toInt q) (by rw [i32_z]; omega)) (fun _ => ?_)
  refine j_iload_n (k4 := 2) (dQ (by decide +kernel)) rfl ?_
  refine j_cS (own := 11) (i := 63) (y2 := 21) (d2 := 1) (mc := 0) (ms := 0) (kc := 0) (ks := 0) (As := [.int x2]) (st := []) (dQ (by decide +kernel)) hcls (by decide +kernel) (by decide) (by decide +kernel) (show 1 = jnp 21 by decide +kernel) (by decide) (show 0 ≤ 8 by decide) (x_isMinute_1 (by omega) (by omega)) (fun v hv4 hq => ?_)
  obtain ⟨rfl, rfl⟩ := hq
  refine j_if_eq (off := 15) (tgt := 26) (dQ (by decide +kernel)) (by decide) (fun q => absurd (congrArg Int32.toInt q) (by rw [i32_z]; omega)) (fun _ => ?_)
  refine j_iload_n (k4 := 3) (dQ (by decide +kernel)) rfl ?_
  refine j_cS (own := 11) (i := 63) (y2 := 21) (d2 := 1) (mc := 0) (ms := 0) (kc := 0) (ks := 0) (As := [.int x3]) (st := []) (dQ (by decide +kernel)) hcls (by decide +kernel) (by decide) (by decide +kernel) (show 1 = jnp 21 by decide +kernel) (by decide) (show 0 ≤ 8 by decide) (x_isMinute_1 (by omega) (by omega)) (fun v hv6 hq => ?_)
  obtain ⟨rfl, rfl⟩ := hq
  refine j_if_eq (off := 8) (tgt := 26) (dQ (by decide +kernel)) (by decide) (fun q => absurd (congrArg Int32.toInt q) (by rw [i32_z]; omega)) (fun _ => ?_)
  refine j_iload_n (k4 := 3) (dQ (by decide +kernel)) rfl ?_
  refine j_iload_n (k4 := 2) (dQ (by decide +kernel)) rfl ?_
  refine j_icmp_ge (off := 9) (tgt := 32) (dQ (by decide +kernel)) (by decide) (fun q => absurd (i32_le.mp q) (by omega)) (fun _ => ?_)
  refine j_aload_n (k4 := 0) (dQ (by decide +kernel)) rfl ?_
  refine j_iconst (n := (-1)) (dQ (by decide +kernel)) ?_
  refine j_cV (own := 11) (i := 41) (y2 := 16) (d2 := 1) (mc := 0) (ms := 0) (kc := 0) (ks := 0) (a := b0 + 0) (As := [.int (Int32.ofInt (-1))]) (st := []) (dQ (by decide +kernel)) hcls (by decide +kernel) (by decide) (by decide +kernel) (show 1 = jnp 16 by decide +kernel) (by decide) (show 0 ≤ 8 by decide) hx (fun r hr => by cases hr; decide +kernel) (x_refuse hx lx) (fun v hv8 hq => ?_)
  obtain ⟨rfl, rfl⟩ := hq
  have n9 : (fsx.set 7 (.int (Int32.ofInt (-1)))).length = 12 := by rw [List.length_set]; exact lx
  have f10 : (fsx.set 7 (.int (Int32.ofInt (-1))))[0]? = some (.ref (g.2.2 + (b0 + 1))) := by
    rw [List.getElem?_set_ne (by decide)]
    exact px0
  have k11 : (h.set (b0 + 0) (.inr (11, (fsx.set 7 (.int (Int32.ofInt (-1)))))))[b0 + 0]? = some (.inr (11, (fsx.set 7 (.int (Int32.ofInt (-1)))))) := List.getElem?_set_self (List.getElem?_eq_some_iff.mp hx).1
  exact j_ret (v := some (.int (Int32.ofInt (-1)))) ⟨by decide +kernel, Or.inl (by decide +kernel)⟩ ⟨rfl, rfl⟩ rfl
set_option maxRecDepth 8192 in
theorem xr_work_tf {b1 : Nat} {fsm : List Value} {x1 : Int32} {x2 : Int32} {x3 : Int32} (hm : h[b1 + 0]? = some (.inr (12, fsm))) (lm : fsm.length = 42) (pm2 : fsm[2]? = some (.ref (g.2.2 + (b1 + 1)))) (g1 : 0 ≤ x1.toInt ∧ x1.toInt ≤ 11) (g2 : 0 ≤ x2.toInt ∧ x2.toInt ≤ 9999) (g3 : 0 ≤ x3.toInt ∧ x3.toInt ≤ 9999) (u : x3.toInt < x2.toInt) : jCal l g 255 3 [.ref (g.2.2 + (b1 + 0)), .int x1, .int x2, .int x3] h 0 0 (fun v h' => v = some (.int (Int32.ofInt (-1))) ∧ h' = ((h.set (b1 + 0) (.inr (12, (fsm.set 0 (.int (Int32.ofInt 0)))))).set (b1 + 0) (.inr (12, ((fsm.set 0 (.int (Int32.ofInt 0))).set 1 (.int (Int32.ofInt (-1)))))))) := by
  have hcls : jcN 12 = (jyN 255).cls := by decide +kernel
  have cn0 : (Int32.ofInt 0).toInt = 0 := by decide
  have cn1 : (Int32.ofInt 1).toInt = 1 := by decide
  have cn2 : (Int32.ofInt (-1)).toInt = -1 := by decide
  refine jCal_of (by decide +kernel) (show 4 ≤ jmx 255 by decide +kernel) ?_
  show J l g 255 3 0 [some (.ref (g.2.2 + (b1 + 0))), some (.int x1), some (.int x2), some (.int x3), none] [] h 0 0 _
  refine j_aload_n (k4 := 0) (dQ (by decide +kernel)) rfl ?_
  refine j_iconst (n := 0) (dQ (by decide +kernel)) ?_
  refine j_put (own := 12) (i := 94) (ci := 12) (f := 0) (ty := .int) (dQ (by decide +kernel)) hcls (by decide +kernel) hm rfl (by decide +kernel) (by rw [lm]; decide) (by decide +kernel) (by decide +kernel) rfl rfl ?_
  have n1 : (fsm.set 0 (.int (Int32.ofInt 0))).length = 42 := by rw [List.length_set]; exact lm
  have f2 : (fsm.set 0 (.int (Int32.ofInt 0)))[2]? = some (.ref (g.2.2 + (b1 + 1))) := by
    rw [List.getElem?_set_ne (by decide)]
    exact pm2
  have f3 : (fsm.set 0 (.int (Int32.ofInt 0)))[0]? = some (.int (Int32.ofInt 0)) := List.getElem?_set_self (by rw [lm]; decide)
  have k4 : (h.set (b1 + 0) (.inr (12, (fsm.set 0 (.int (Int32.ofInt 0))))))[b1 + 0]? = some (.inr (12, (fsm.set 0 (.int (Int32.ofInt 0))))) := List.getElem?_set_self (List.getElem?_eq_some_iff.mp hm).1
  refine j_iload_n (k4 := 1) (dQ (by decide +kernel)) rfl ?_
  refine j_cS (own := 12) (i := 285) (y2 := 235) (d2 := 2) (mc := 0) (ms := 0) (kc := 0) (ks := 0) (As := [.int x1]) (st := []) (dQ (by decide +kernel)) hcls (by decide +kernel) (by decide) (by decide +kernel) (show 1 = jnp 235 by decide +kernel) (by decide) (show 0 ≤ 8 by decide) (xm_isBerth_1 (by omega) (by omega)) (fun v hv6 hq => ?_)
  obtain ⟨rfl, rfl⟩ := hq
  refine j_if_eq (off := 22) (tgt := 31) (dQ (by decide +kernel)) (by decide) (fun q => absurd (congrArg Int32.toInt q) (by rw [i32_z]; omega)) (fun _ => ?_)
  refine j_iload_n (k4 := 2) (dQ (by decide +kernel)) rfl ?_
  refine j_cS (own := 12) (i := 288) (y2 := 238) (d2 := 2) (mc := 0) (ms := 0) (kc := 0) (ks := 0) (As := [.int x2]) (st := []) (dQ (by decide +kernel)) hcls (by decide +kernel) (by decide) (by decide +kernel) (show 1 = jnp 238 by decide +kernel) (by decide) (show 0 ≤ 8 by decide) (xm_isMinute_1 (by omega) (by omega)) (fun v hv8 hq => ?_)
  obtain ⟨rfl, rfl⟩ := hq
  refine j_if_eq (off := 15) (tgt := 31) (dQ (by decide +kernel)) (by decide) (fun q => absurd (congrArg Int32.toInt q) (by rw [i32_z]; omega)) (fun _ => ?_)
  refine j_iload_n (k4 := 3) (dQ (by decide +kernel)) rfl ?_
  refine j_cS (own := 12) (i := 288) (y2 := 238) (d2 := 2) (mc := 0) (ms := 0) (kc := 0) (ks := 0) (As := [.int x3]) (st := []) (dQ (by decide +kernel)) hcls (by decide +kernel) (by decide) (by decide +kernel) (show 1 = jnp 238 by decide +kernel) (by decide) (show 0 ≤ 8 by decide) (xm_isMinute_1 (by omega) (by omega)) (fun v hv10 hq => ?_)
  obtain ⟨rfl, rfl⟩ := hq
  refine j_if_eq (off := 8) (tgt := 31) (dQ (by decide +kernel)) (by decide) (fun q => absurd (congrArg Int32.toInt q) (by rw [i32_z]; omega)) (fun _ => ?_)
  refine j_iload_n (k4 := 3) (dQ (by decide +kernel)) rfl ?_
  refine j_iload_n (k4 := 2) (dQ (by decide +kernel)) rfl ?_
  refine j_icmp_ge (off := 9) (tgt := 37) (dQ (by decide +kernel)) (by decide) (fun q => absurd (i32_le.mp q) (by omega)) (fun _ => ?_)
  refine j_aload_n (k4 := 0) (dQ (by decide +kernel)) rfl ?_
  refine j_iconst (n := (-1)) (dQ (by decide +kernel)) ?_
  refine j_cV (own := 12) (i := 104) (y2 := 206) (d2 := 1) (mc := 0) (ms := 0) (kc := 0) (ks := 0) (a := b1 + 0) (As := [.int (Int32.ofInt (-1))]) (st := []) (dQ (by decide +kernel)) hcls (by decide +kernel) (by decide) (by decide +kernel) (show 1 = jnp 206 by decide +kernel) (by decide) (show 0 ≤ 8 by decide) k4 (fun r hr => by cases hr; decide +kernel) (xm_tellN k4 n1 (by omega)) (fun v hv12 hq => ?_)
  obtain ⟨rfl, rfl⟩ := hq
  have n13 : ((fsm.set 0 (.int (Int32.ofInt 0))).set 1 (.int (Int32.ofInt (-1)))).length = 42 := by rw [List.length_set]; exact n1
  have f14 : ((fsm.set 0 (.int (Int32.ofInt 0))).set 1 (.int (Int32.ofInt (-1))))[2]? = some (.ref (g.2.2 + (b1 + 1))) := by
    rw [List.getElem?_set_ne (by decide)]
    exact f2
  have f15 : ((fsm.set 0 (.int (Int32.ofInt 0))).set 1 (.int (Int32.ofInt (-1))))[0]? = some (.int (Int32.ofInt 0)) := by
    rw [List.getElem?_set_ne (by decide)]
    exact f3
  have k16 : ((h.set (b1 + 0) (.inr (12, (fsm.set 0 (.int (Int32.ofInt 0)))))).set (b1 + 0) (.inr (12, ((fsm.set 0 (.int (Int32.ofInt 0))).set 1 (.int (Int32.ofInt (-1)))))))[b1 + 0]? = some (.inr (12, ((fsm.set 0 (.int (Int32.ofInt 0))).set 1 (.int (Int32.ofInt (-1)))))) := List.getElem?_set_self (List.getElem?_eq_some_iff.mp k4).1
  exact j_ret (v := some (.int (Int32.ofInt (-1)))) ⟨by decide +kernel, Or.inl (by decide +kernel)⟩ ⟨rfl, rfl⟩ rfl
set_option maxRecDepth 8192 in
theorem xk_work_ok {b0 : Nat} {fsx : List Value} {fss : List Value} {fsi : List Value} {fa : Nat → Int32} {fb : Nat → Int32} {fc : Nat → Int32} {x1 : Int32} {x2 : Int32} {x3 : Int32} {t : Int32} {n : Nat} (hx : h[b0 + 0]? = some (.inr (11, fsx))) (lx : fsx.length = 12) (px0 : fsx[0]? = some (.ref (g.2.2 + (b0 + 1)))) (hs : h[b0 + 1]? = some (.inr (7, fss))) (ls : fss.length = 20) (ps16 : fss[16]? = some (.ref (g.2.2 + (b0 + 30)))) (hi : h[b0 + 30]? = some (.inr (10, fsi))) (li : fsi.length = 5) (pi0 : fsi[0]? = some (.int t)) (pi2 : fsi[2]? = some (.ref (g.2.2 + (b0 + 31)))) (pi3 : fsi[3]? = some (.ref (g.2.2 + (b0 + 32)))) (pi4 : fsi[4]? = some (.ref (g.2.2 + (b0 + 33)))) (ha : h[b0 + 31]? = some (.inl (0, 8, fa))) (hb : h[b0 + 32]? = some (.inl (0, 8, fb))) (hc : h[b0 + 33]? = some (.inl (0, 8, fc))) (g1 : 0 ≤ x1.toInt ∧ x1.toInt ≤ 11) (g2 : 0 ≤ x2.toInt ∧ x2.toInt ≤ 9999) (g3 : 0 ≤ x3.toInt ∧ x3.toInt ≤ 9999) (u : x2.toInt ≤ x3.toInt) (et : t.toInt = (n : Int)) (en : 0 ≤ n ∧ n ≤ 7) : jCal l g 40 2 [.ref (g.2.2 + (b0 + 0)), .int x1, .int x2, .int x3] h 0 0 (fun v h' => ∃ r7 : Int32, r7.toInt = (((n + 1) : Nat) : Int) ∧ v = some (.int r7) ∧ h' = (((((h.set (b0 + 31) (.inl (0, 8, (upd fa n x1)))).set (b0 + 32) (.inl (0, 8, (upd fb n x2)))).set (b0 + 33) (.inl (0, 8, (upd fc n x3)))).set (b0 + 30) (.inr (10, (fsi.set 0 (.int r7))))).set (b0 + 0) (.inr (11, (fsx.set 7 (.int (Int32.ofInt 0))))))) := by
  have hcls : jcN 11 = (jyN 40).cls := by decide +kernel
  have cn0 : (Int32.ofInt 1).toInt = 1 := by decide
  have cn1 : (Int32.ofInt 0).toInt = 0 := by decide
  refine jCal_of (by decide +kernel) (show 4 ≤ jmx 40 by decide +kernel) ?_
  show J l g 40 2 0 [some (.ref (g.2.2 + (b0 + 0))), some (.int x1), some (.int x2), some (.int x3)] [] h 0 0 _
  refine j_iload_n (k4 := 1) (dQ (by decide +kernel)) rfl ?_
  refine j_cS (own := 11) (i := 34) (y2 := 14) (d2 := 1) (mc := 0) (ms := 0) (kc := 0) (ks := 0) (As := [.int x1]) (st := []) (dQ (by decide +kernel)) hcls (by decide +kernel) (by decide) (by decide +kernel) (show 1 = jnp 14 by decide +kernel) (by decide) (show 0 ≤ 8 by decide) (x_isBerth_1 (by omega) (by omega)) (fun v hv2 hq => ?_)
  obtain ⟨rfl, rfl⟩ := hq
  refine j_if_eq (off := 22) (tgt := 26) (dQ (by decide +kernel)) (by decide) (fun q => absurd (congrArg Int32.toInt q) (by rw [i32_z]; omega)) (fun _ => ?_)
  refine j_iload_n (k4 := 2) (dQ (by decide +kernel)) rfl ?_
  refine j_cS (own := 11) (i := 63) (y2 := 21) (d2 := 1) (mc := 0) (ms := 0) (kc := 0) (ks := 0) (As := [.int x2]) (st := []) (dQ (by decide +kernel)) hcls (by decide +kernel) (by decide) (by decide +kernel) (show 1 = jnp 21 by decide +kernel) (by decide) (show 0 ≤ 8 by decide) (x_isMinute_1 (by omega) (by omega)) (fun v hv4 hq => ?_)
  obtain ⟨rfl, rfl⟩ := hq
  refine j_if_eq (off := 15) (tgt := 26) (dQ (by decide +kernel)) (by decide) (fun q => absurd (congrArg Int32.toInt q) (by rw [i32_z]; omega)) (fun _ => ?_)
  refine j_iload_n (k4 := 3) (dQ (by decide +kernel)) rfl ?_
  refine j_cS (own := 11) (i := 63) (y2 := 21) (d2 := 1) (mc := 0) (ms := 0) (kc := 0) (ks := 0) (As := [.int x3]) (st := []) (dQ (by decide +kernel)) hcls (by decide +kernel) (by decide) (by decide +kernel) (show 1 = jnp 21 by decide +kernel) (by decide) (show 0 ≤ 8 by decide) (x_isMinute_1 (by omega) (by omega)) (fun v hv6 hq => ?_)
  obtain ⟨rfl, rfl⟩ := hq
  refine j_if_eq (off := 8) (tgt := 26) (dQ (by decide +kernel)) (by decide) (fun q => absurd (congrArg Int32.toInt q) (by rw [i32_z]; omega)) (fun _ => ?_)
  refine j_iload_n (k4 := 3) (dQ (by decide +kernel)) rfl ?_
  refine j_iload_n (k4 := 2) (dQ (by decide +kernel)) rfl ?_
  refine j_icmp_ge (off := 9) (tgt := 32) (dQ (by decide +kernel)) (by decide) (fun _ => ?_) (fun q => absurd (i32_le.mpr (by omega)) q)
  refine j_aload_n (k4 := 0) (dQ (by decide +kernel)) rfl ?_
  refine j_get (own := 11) (i := 10) (ci := 11) (f := 0) (dQ (by decide +kernel)) hcls (by decide +kernel) hx (fun r hr => by cases hr; decide +kernel) px0 ?_
  refine j_get (own := 11) (i := 92) (ci := 7) (f := 16) (dQ (by decide +kernel)) hcls (by decide +kernel) hs (fun r hr => by cases hr; decide +kernel) ps16 ?_
  refine j_iload_n (k4 := 1) (dQ (by decide +kernel)) rfl ?_
  refine j_iload_n (k4 := 2) (dQ (by decide +kernel)) rfl ?_
  refine j_iload_n (k4 := 3) (dQ (by decide +kernel)) rfl ?_
  refine j_cV (own := 11) (i := 96) (y2 := 41) (d2 := 1) (mc := 0) (ms := 0) (kc := 0) (ks := 0) (a := b0 + 30) (As := [.int x1, .int x2, .int x3]) (st := []) (dQ (by decide +kernel)) hcls (by decide +kernel) (by decide) (by decide +kernel) (show 3 = jnp 41 by decide +kernel) (by decide) (show 0 ≤ 8 by decide) hi (fun r hr => by cases hr; decide +kernel) (xs_work hi li pi0 pi2 pi3 pi4 ha hb hc (by omega) (by omega)) (fun v hv9 hq => ?_)
  obtain ⟨r7, hr7, rfl, rfl⟩ := hq
  have k10 : ((((h.set (b0 + 31) (.inl (0, 8, (upd fa n x1)))).set (b0 + 32) (.inl (0, 8, (upd fb n x2)))).set (b0 + 33) (.inl (0, 8, (upd fc n x3)))).set (b0 + 30) (.inr (10, (fsi.set 0 (.int r7)))))[b0 + 0]? = some (.inr (11, fsx)) := by rw [List.getElem?_set_ne (by omega), List.getElem?_set_ne (by omega), List.getElem?_set_ne (by omega), List.getElem?_set_ne (by omega)]; exact hx
  have k11 : ((((h.set (b0 + 31) (.inl (0, 8, (upd fa n x1)))).set (b0 + 32) (.inl (0, 8, (upd fb n x2)))).set (b0 + 33) (.inl (0, 8, (upd fc n x3)))).set (b0 + 30) (.inr (10, (fsi.set 0 (.int r7)))))[b0 + 1]? = some (.inr (7, fss)) := by rw [List.getElem?_set_ne (by omega), List.getElem?_set_ne (by omega), List.getElem?_set_ne (by omega), List.getElem?_set_ne (by omega)]; exact hs
  have n13 : (fsi.set 0 (.int r7)).length = 5 := by rw [List.length_set]; exact li
  have f14 : (fsi.set 0 (.int r7))[2]? = some (.ref (g.2.2 + (b0 + 31))) := by rw [List.getElem?_set_ne (by decide)]; exact pi2
  have f15 : (fsi.set 0 (.int r7))[3]? = some (.ref (g.2.2 + (b0 + 32))) := by rw [List.getElem?_set_ne (by decide)]; exact pi3
  have f16 : (fsi.set 0 (.int r7))[4]? = some (.ref (g.2.2 + (b0 + 33))) := by rw [List.getElem?_set_ne (by decide)]; exact pi4
  have f17 : (fsi.set 0 (.int r7))[0]? = some (.int r7) := List.getElem?_set_self (by rw [li]; decide)
  have k12 : ((((h.set (b0 + 31) (.inl (0, 8, (upd fa n x1)))).set (b0 + 32) (.inl (0, 8, (upd fb n x2)))).set (b0 + 33) (.inl (0, 8, (upd fc n x3)))).set (b0 + 30) (.inr (10, (fsi.set 0 (.int r7)))))[b0 + 30]? = some (.inr (10, (fsi.set 0 (.int r7)))) := by exact List.getElem?_set_self (by first | exact (List.getElem?_eq_some_iff.mp hi).1 | (simp only [List.length_set]; exact (List.getElem?_eq_some_iff.mp hi).1))
  have k18 : ((((h.set (b0 + 31) (.inl (0, 8, (upd fa n x1)))).set (b0 + 32) (.inl (0, 8, (upd fb n x2)))).set (b0 + 33) (.inl (0, 8, (upd fc n x3)))).set (b0 + 30) (.inr (10, (fsi.set 0 (.int r7)))))[b0 + 31]? = some (.inl (0, 8, (upd fa n x1))) := by rw [List.getElem?_set_ne (by omega), List.getElem?_set_ne (by omega), List.getElem?_set_ne (by omega)]; exact List.getElem?_set_self (by first | exact (List.getElem?_eq_some_iff.mp ha).1 | (simp only [List.length_set]; exact (List.getElem?_eq_some_iff.mp ha).1))
  have k19 : ((((h.set (b0 + 31) (.inl (0, 8, (upd fa n x1)))).set (b0 + 32) (.inl (0, 8, (upd fb n x2)))).set (b0 + 33) (.inl (0, 8, (upd fc n x3)))).set (b0 + 30) (.inr (10, (fsi.set 0 (.int r7)))))[b0 + 32]? = some (.inl (0, 8, (upd fb n x2))) := by rw [List.getElem?_set_ne (by omega), List.getElem?_set_ne (by omega)]; exact List.getElem?_set_self (by first | exact (List.getElem?_eq_some_iff.mp hb).1 | (simp only [List.length_set]; exact (List.getElem?_eq_some_iff.mp hb).1))
  have k20 : ((((h.set (b0 + 31) (.inl (0, 8, (upd fa n x1)))).set (b0 + 32) (.inl (0, 8, (upd fb n x2)))).set (b0 + 33) (.inl (0, 8, (upd fc n x3)))).set (b0 + 30) (.inr (10, (fsi.set 0 (.int r7)))))[b0 + 33]? = some (.inl (0, 8, (upd fc n x3))) := by rw [List.getElem?_set_ne (by omega)]; exact List.getElem?_set_self (by first | exact (List.getElem?_eq_some_iff.mp hc).1 | (simp only [List.length_set]; exact (List.getElem?_eq_some_iff.mp hc).1))
  refine j_if_ne (off := 10) (tgt := 55) (dQ (by decide +kernel)) (by decide) (fun _ => ?_) (fun q => absurd (fun q => absurd (congrArg Int32.toInt q) (by rw [i32_z]; omega)) q)
  refine j_aload_n (k4 := 0) (dQ (by decide +kernel)) rfl ?_
  refine j_aload_n (k4 := 0) (dQ (by decide +kernel)) rfl ?_
  refine j_get (own := 11) (i := 10) (ci := 11) (f := 0) (dQ (by decide +kernel)) hcls (by decide +kernel) k10 (fun r hr => by cases hr; decide +kernel) px0 ?_
  refine j_get (own := 11) (i := 92) (ci := 7) (f := 16) (dQ (by decide +kernel)) hcls (by decide +kernel) k11 (fun r hr => by cases hr; decide +kernel) ps16 ?_
  refine j_get (own := 11) (i := 102) (ci := 10) (f := 0) (dQ (by decide +kernel)) hcls (by decide +kernel) k12 (fun r hr => by cases hr; decide +kernel) f17 ?_
  refine j_cV (own := 11) (i := 48) (y2 := 17) (d2 := 1) (mc := 0) (ms := 0) (kc := 0) (ks := 0) (a := b0 + 0) (As := [.int r7]) (st := []) (dQ (by decide +kernel)) hcls (by decide +kernel) (by decide) (by decide +kernel) (show 1 = jnp 17 by decide +kernel) (by decide) (show 0 ≤ 8 by decide) k10 (fun r hr => by cases hr; decide +kernel) (x_allow k10 lx) (fun v hv22 hq => ?_)
  obtain ⟨rfl, rfl⟩ := hq
  have n23 : (fsx.set 7 (.int (Int32.ofInt 0))).length = 12 := by rw [List.length_set]; exact lx
  have f24 : (fsx.set 7 (.int (Int32.ofInt 0)))[0]? = some (.ref (g.2.2 + (b0 + 1))) := by
    rw [List.getElem?_set_ne (by decide)]
    exact px0
  have k25 : (((((h.set (b0 + 31) (.inl (0, 8, (upd fa n x1)))).set (b0 + 32) (.inl (0, 8, (upd fb n x2)))).set (b0 + 33) (.inl (0, 8, (upd fc n x3)))).set (b0 + 30) (.inr (10, (fsi.set 0 (.int r7))))).set (b0 + 0) (.inr (11, (fsx.set 7 (.int (Int32.ofInt 0))))))[b0 + 0]? = some (.inr (11, (fsx.set 7 (.int (Int32.ofInt 0))))) := List.getElem?_set_self (List.getElem?_eq_some_iff.mp k10).1
  have k26 : (((((h.set (b0 + 31) (.inl (0, 8, (upd fa n x1)))).set (b0 + 32) (.inl (0, 8, (upd fb n x2)))).set (b0 + 33) (.inl (0, 8, (upd fc n x3)))).set (b0 + 30) (.inr (10, (fsi.set 0 (.int r7))))).set (b0 + 0) (.inr (11, (fsx.set 7 (.int (Int32.ofInt 0))))))[b0 + 1]? = some (.inr (7, fss)) := by
    rw [List.getElem?_set_ne (by omega)]
    exact k11
  have k27 : (((((h.set (b0 + 31) (.inl (0, 8, (upd fa n x1)))).set (b0 + 32) (.inl (0, 8, (upd fb n x2)))).set (b0 + 33) (.inl (0, 8, (upd fc n x3)))).set (b0 + 30) (.inr (10, (fsi.set 0 (.int r7))))).set (b0 + 0) (.inr (11, (fsx.set 7 (.int (Int32.ofInt 0))))))[b0 + 30]? = some (.inr (10, (fsi.set 0 (.int r7)))) := by
    rw [List.getElem?_set_ne (by omega)]
    exact k12
  have k28 : (((((h.set (b0 + 31) (.inl (0, 8, (upd fa n x1)))).set (b0 + 32) (.inl (0, 8, (upd fb n x2)))).set (b0 + 33) (.inl (0, 8, (upd fc n x3)))).set (b0 + 30) (.inr (10, (fsi.set 0 (.int r7))))).set (b0 + 0) (.inr (11, (fsx.set 7 (.int (Int32.ofInt 0))))))[b0 + 31]? = some (.inl (0, 8, (upd fa n x1))) := by
    rw [List.getElem?_set_ne (by omega)]
    exact k18
  have k29 : (((((h.set (b0 + 31) (.inl (0, 8, (upd fa n x1)))).set (b0 + 32) (.inl (0, 8, (upd fb n x2)))).set (b0 + 33) (.inl (0, 8, (upd fc n x3)))).set (b0 + 30) (.inr (10, (fsi.set 0 (.int r7))))).set (b0 + 0) (.inr (11, (fsx.set 7 (.int (Int32.ofInt 0))))))[b0 + 32]? = some (.inl (0, 8, (upd fb n x2))) := by
    rw [List.getElem?_set_ne (by omega)]
    exact k19
  have k30 : (((((h.set (b0 + 31) (.inl (0, 8, (upd fa n x1)))).set (b0 + 32) (.inl (0, 8, (upd fb n x2)))).set (b0 + 33) (.inl (0, 8, (upd fc n x3)))).set (b0 + 30) (.inr (10, (fsi.set 0 (.int r7))))).set (b0 + 0) (.inr (11, (fsx.set 7 (.int (Int32.ofInt 0))))))[b0 + 33]? = some (.inl (0, 8, (upd fc n x3))) := by
    rw [List.getElem?_set_ne (by omega)]
    exact k20
  exact j_ret (v := some (.int r7)) ⟨by decide +kernel, Or.inl (by decide +kernel)⟩ ⟨r7, by omega, rfl, rfl⟩ rfl
set_option maxRecDepth 8192 in
theorem xk_work_full {b0 : Nat} {fsx : List Value} {fss : List Value} {fsi : List Value} {x1 : Int32} {x2 : Int32} {x3 : Int32} {t : Int32} {n : Nat} (hx : h[b0 + 0]? = some (.inr (11, fsx))) (lx : fsx.length = 12) (px0 : fsx[0]? = some (.ref (g.2.2 + (b0 + 1)))) (hs : h[b0 + 1]? = some (.inr (7, fss))) (ls : fss.length = 20) (ps16 : fss[16]? = some (.ref (g.2.2 + (b0 + 30)))) (hi : h[b0 + 30]? = some (.inr (10, fsi))) (li : fsi.length = 5) (pi0 : fsi[0]? = some (.int t)) (g1 : 0 ≤ x1.toInt ∧ x1.toInt ≤ 11) (g2 : 0 ≤ x2.toInt ∧ x2.toInt ≤ 9999) (g3 : 0 ≤ x3.toInt ∧ x3.toInt ≤ 9999) (u : x2.toInt ≤ x3.toInt) (et : t.toInt = (n : Int)) (en : 8 ≤ n ∧ n ≤ 8) : jCal l g 40 2 [.ref (g.2.2 + (b0 + 0)), .int x1, .int x2, .int x3] h 0 0 (fun v h' => v = some (.int (Int32.ofInt (-5))) ∧ h' = (h.set (b0 + 0) (.inr (11, (fsx.set 7 (.int (Int32.ofInt (-5)))))))) := by
  have hcls : jcN 11 = (jyN 40).cls := by decide +kernel
  have cn0 : (Int32.ofInt 1).toInt = 1 := by decide
  have cn1 : (Int32.ofInt 0).toInt = 0 := by decide
  have cn2 : (Int32.ofInt (-5)).toInt = -5 := by decide
  refine jCal_of (by decide +kernel) (show 4 ≤ jmx 40 by decide +kernel) ?_
  show J l g 40 2 0 [some (.ref (g.2.2 + (b0 + 0))), some (.int x1), some (.int x2), some (.int x3)] [] h 0 0 _
  refine j_iload_n (k4 := 1) (dQ (by decide +kernel)) rfl ?_
  refine j_cS (own := 11) (i := 34) (y2 := 14) (d2 := 1) (mc := 0) (ms := 0) (kc := 0) (ks := 0) (As := [.int x1]) (st := []) (dQ (by decide +kernel)) hcls (by decide +kernel) (by decide) (by decide +kernel) (show 1 = jnp 14 by decide +kernel) (by decide) (show 0 ≤ 8 by decide) (x_isBerth_1 (by omega) (by omega)) (fun v hv2 hq => ?_)
  obtain ⟨rfl, rfl⟩ := hq
  refine j_if_eq (off := 22) (tgt := 26) (dQ (by decide +kernel)) (by decide) (fun q => absurd (congrArg Int32.toInt q) (by rw [i32_z]; omega)) (fun _ => ?_)
  refine j_iload_n (k4 := 2) (dQ (by decide +kernel)) rfl ?_
  refine j_cS (own := 11) (i := 63) (y2 := 21) (d2 := 1) (mc := 0) (ms := 0) (kc := 0) (ks := 0) (As := [.int x2]) (st := []) (dQ (by decide +kernel)) hcls (by decide +kernel) (by decide) (by decide +kernel) (show 1 = jnp 21 by decide +kernel) (by decide) (show 0 ≤ 8 by decide) (x_isMinute_1 (by omega) (by omega)) (fun v hv4 hq => ?_)
  obtain ⟨rfl, rfl⟩ := hq
  refine j_if_eq (off := 15) (tgt := 26) (dQ (by decide +kernel)) (by decide) (fun q => absurd (congrArg Int32.toInt q) (by rw [i32_z]; omega)) (fun _ => ?_)
  refine j_iload_n (k4 := 3) (dQ (by decide +kernel)) rfl ?_
  refine j_cS (own := 11) (i := 63) (y2 := 21) (d2 := 1) (mc := 0) (ms := 0) (kc := 0) (ks := 0) (As := [.int x3]) (st := []) (dQ (by decide +kernel)) hcls (by decide +kernel) (by decide) (by decide +kernel) (show 1 = jnp 21 by decide +kernel) (by decide) (show 0 ≤ 8 by decide) (x_isMinute_1 (by omega) (by omega)) (fun v hv6 hq => ?_)
  obtain ⟨rfl, rfl⟩ := hq
  refine j_if_eq (off := 8) (tgt := 26) (dQ (by decide +kernel)) (by decide) (fun q => absurd (congrArg Int32.toInt q) (by rw [i32_z]; omega)) (fun _ => ?_)
  refine j_iload_n (k4 := 3) (dQ (by decide +kernel)) rfl ?_
  refine j_iload_n (k4 := 2) (dQ (by decide +kernel)) rfl ?_
  refine j_icmp_ge (off := 9) (tgt := 32) (dQ (by decide +kernel)) (by decide) (fun _ => ?_) (fun q => absurd (i32_le.mpr (by omega)) q)
  refine j_aload_n (k4 := 0) (dQ (by decide +kernel)) rfl ?_
  refine j_get (own := 11) (i := 10) (ci := 11) (f := 0) (dQ (by decide +kernel)) hcls (by decide +kernel) hx (fun r hr => by cases hr; decide +kernel) px0 ?_
  refine j_get (own := 11) (i := 92) (ci := 7) (f := 16) (dQ (by decide +kernel)) hcls (by decide +kernel) hs (fun r hr => by cases hr; decide +kernel) ps16 ?_
  refine j_iload_n (k4 := 1) (dQ (by decide +kernel)) rfl ?_
  refine j_iload_n (k4 := 2) (dQ (by decide +kernel)) rfl ?_
  refine j_iload_n (k4 := 3) (dQ (by decide +kernel)) rfl ?_
  refine j_cV (own := 11) (i := 96) (y2 := 41) (d2 := 1) (mc := 0) (ms := 0) (kc := 0) (ks := 0) (a := b0 + 30) (As := [.int x1, .int x2, .int x3]) (st := []) (dQ (by decide +kernel)) hcls (by decide +kernel) (by decide) (by decide +kernel) (show 3 = jnp 41 by decide +kernel) (by decide) (show 0 ≤ 8 by decide) hi (fun r hr => by cases hr; decide +kernel) (xs_workF hi li pi0 (by omega) (by omega)) (fun v hv8 hq => ?_)
  obtain ⟨rfl, rfl⟩ := hq
  have k9 : h[b0 + 0]? = some (.inr (11, fsx)) := by exact hx
  have k10 : h[b0 + 1]? = some (.inr (7, fss)) := by exact hs
  have k11 : h[b0 + 30]? = some (.inr (10, fsi)) := by exact hi
  refine j_if_ne (off := 10) (tgt := 55) (dQ (by decide +kernel)) (by decide) (fun q => absurd (i32_eq (show _ = (0 : Int32).toInt by rw [i32_z]; omega)) q) (fun _ => ?_)
  refine j_aload_n (k4 := 0) (dQ (by decide +kernel)) rfl ?_
  refine x_bi (n := (-5)) (dQ (by decide +kernel)) (by decide) ?_
  refine j_cV (own := 11) (i := 41) (y2 := 16) (d2 := 1) (mc := 0) (ms := 0) (kc := 0) (ks := 0) (a := b0 + 0) (As := [.int (Int32.ofInt (-5))]) (st := []) (dQ (by decide +kernel)) hcls (by decide +kernel) (by decide) (by decide +kernel) (show 1 = jnp 16 by decide +kernel) (by decide) (show 0 ≤ 8 by decide) k9 (fun r hr => by cases hr; decide +kernel) (x_refuse k9 lx) (fun v hv13 hq => ?_)
  obtain ⟨rfl, rfl⟩ := hq
  have n14 : (fsx.set 7 (.int (Int32.ofInt (-5)))).length = 12 := by rw [List.length_set]; exact lx
  have f15 : (fsx.set 7 (.int (Int32.ofInt (-5))))[0]? = some (.ref (g.2.2 + (b0 + 1))) := by
    rw [List.getElem?_set_ne (by decide)]
    exact px0
  have k16 : (h.set (b0 + 0) (.inr (11, (fsx.set 7 (.int (Int32.ofInt (-5)))))))[b0 + 0]? = some (.inr (11, (fsx.set 7 (.int (Int32.ofInt (-5)))))) := List.getElem?_set_self (List.getElem?_eq_some_iff.mp k9).1
  have k17 : (h.set (b0 + 0) (.inr (11, (fsx.set 7 (.int (Int32.ofInt (-5)))))))[b0 + 1]? = some (.inr (7, fss)) := by
    rw [List.getElem?_set_ne (by omega)]
    exact k10
  have k18 : (h.set (b0 + 0) (.inr (11, (fsx.set 7 (.int (Int32.ofInt (-5)))))))[b0 + 30]? = some (.inr (10, fsi)) := by
    rw [List.getElem?_set_ne (by omega)]
    exact k11
  exact j_ret (v := some (.int (Int32.ofInt (-5)))) ⟨by decide +kernel, Or.inl (by decide +kernel)⟩ ⟨rfl, rfl⟩ rfl
set_option maxRecDepth 8192 in
theorem xr_work_ok {b1 : Nat} {fsm : List Value} {fr : Nat → Int32} {x1 : Int32} {x2 : Int32} {x3 : Int32} {t : Int32} {n : Nat} (hm : h[b1 + 0]? = some (.inr (12, fsm))) (lm : fsm.length = 42) (pm2 : fsm[2]? = some (.ref (g.2.2 + (b1 + 1)))) (hr : h[b1 + 1]? = some (.inl (0, 5270, fr))) (g1 : 0 ≤ x1.toInt ∧ x1.toInt ≤ 11) (g2 : 0 ≤ x2.toInt ∧ x2.toInt ≤ 9999) (g3 : 0 ≤ x3.toInt ∧ x3.toInt ≤ 9999) (u : x2.toInt ≤ x3.toInt) (et : t.toInt = (n : Int)) (en : 0 ≤ n ∧ n ≤ 7) (qt : fr 8 = t) : jCal l g 255 3 [.ref (g.2.2 + (b1 + 0)), .int x1, .int x2, .int x3] h 0 0 (fun v h' => ∃ r22 : Int32, r22.toInt = (((n + 1) : Nat) : Int) ∧ v = some (.int r22) ∧ h' = ((((((h.set (b1 + 0) (.inr (12, (fsm.set 0 (.int (Int32.ofInt 0)))))).set (b1 + 1) (.inl (0, 5270, (upd fr (5000 + (3 * n)) x1)))).set (b1 + 1) (.inl (0, 5270, (upd (upd fr (5000 + (3 * n)) x1) ((5000 + (3 * n)) + 1) x2)))).set (b1 + 1) (.inl (0, 5270, (upd (upd (upd fr (5000 + (3 * n)) x1) ((5000 + (3 * n)) + 1) x2) ((5000 + (3 * n)) + 2) x3)))).set (b1 + 1) (.inl (0, 5270, (upd (upd (upd (upd fr (5000 + (3 * n)) x1) ((5000 + (3 * n)) + 1) x2) ((5000 + (3 * n)) + 2) x3) 8 r22)))).set (b1 + 0) (.inr (12, ((fsm.set 0 (.int (Int32.ofInt 0))).set 1 (.int (Int32.ofInt 0))))))) := by
  have hcls : jcN 12 = (jyN 255).cls := by decide +kernel
  have cn0 : (Int32.ofInt 0).toInt = 0 := by decide
  have cn1 : (Int32.ofInt 1).toInt = 1 := by decide
  have cn2 : (Int32.ofInt 8).toInt = 8 := by decide
  have cn3 : (Int32.ofInt 5000).toInt = 5000 := by decide
  have cn4 : (Int32.ofInt 3).toInt = 3 := by decide
  have cn5 : (Int32.ofInt 2).toInt = 2 := by decide
  refine jCal_of (by decide +kernel) (show 4 ≤ jmx 255 by decide +kernel) ?_
  show J l g 255 3 0 [some (.ref (g.2.2 + (b1 + 0))), some (.int x1), some (.int x2), some (.int x3), none] [] h 0 0 _
  refine j_aload_n (k4 := 0) (dQ (by decide +kernel)) rfl ?_
  refine j_iconst (n := 0) (dQ (by decide +kernel)) ?_
  refine j_put (own := 12) (i := 94) (ci := 12) (f := 0) (ty := .int) (dQ (by decide +kernel)) hcls (by decide +kernel) hm rfl (by decide +kernel) (by rw [lm]; decide) (by decide +kernel) (by decide +kernel) rfl rfl ?_
  have n1 : (fsm.set 0 (.int (Int32.ofInt 0))).length = 42 := by rw [List.length_set]; exact lm
  have f2 : (fsm.set 0 (.int (Int32.ofInt 0)))[2]? = some (.ref (g.2.2 + (b1 + 1))) := by
    rw [List.getElem?_set_ne (by decide)]
    exact pm2
  have f3 : (fsm.set 0 (.int (Int32.ofInt 0)))[0]? = some (.int (Int32.ofInt 0)) := List.getElem?_set_self (by rw [lm]; decide)
  have k4 : (h.set (b1 + 0) (.inr (12, (fsm.set 0 (.int (Int32.ofInt 0))))))[b1 + 0]? = some (.inr (12, (fsm.set 0 (.int (Int32.ofInt 0))))) := List.getElem?_set_self (List.getElem?_eq_some_iff.mp hm).1
  have k5 : (h.set (b1 + 0) (.inr (12, (fsm.set 0 (.int (Int32.ofInt 0))))))[b1 + 1]? = some (.inl (0, 5270, fr)) := by
    rw [List.getElem?_set_ne (by omega)]
    exact hr
  refine j_iload_n (k4 := 1) (dQ (by decide +kernel)) rfl ?_
  refine j_cS (own := 12) (i := 285) (y2 := 235) (d2 := 2) (mc := 0) (ms := 0) (kc := 0) (ks := 0) (As := [.int x1]) (st := []) (dQ (by decide +kernel)) hcls (by decide +kernel) (by decide) (by decide +kernel) (show 1 = jnp 235 by decide +kernel) (by decide) (show 0 ≤ 8 by decide) (xm_isBerth_1 (by omega) (by omega)) (fun v hv7 hq => ?_)
  obtain ⟨rfl, rfl⟩ := hq
  refine j_if_eq (off := 22) (tgt := 31) (dQ (by decide +kernel)) (by decide) (fun q => absurd (congrArg Int32.toInt q) (by rw [i32_z]; omega)) (fun _ => ?_)
  refine j_iload_n (k4 := 2) (dQ (by decide +kernel)) rfl ?_
  refine j_cS (own := 12) (i := 288) (y2 := 238) (d2 := 2) (mc := 0) (ms := 0) (kc := 0) (ks := 0) (As := [.int x2]) (st := []) (dQ (by decide +kernel)) hcls (by decide +kernel) (by decide) (by decide +kernel) (show 1 = jnp 238 by decide +kernel) (by decide) (show 0 ≤ 8 by decide) (xm_isMinute_1 (by omega) (by omega)) (fun v hv9 hq => ?_)
  obtain ⟨rfl, rfl⟩ := hq
  refine j_if_eq (off := 15) (tgt := 31) (dQ (by decide +kernel)) (by decide) (fun q => absurd (congrArg Int32.toInt q) (by rw [i32_z]; omega)) (fun _ => ?_)
  refine j_iload_n (k4 := 3) (dQ (by decide +kernel)) rfl ?_
  refine j_cS (own := 12) (i := 288) (y2 := 238) (d2 := 2) (mc := 0) (ms := 0) (kc := 0) (ks := 0) (As := [.int x3]) (st := []) (dQ (by decide +kernel)) hcls (by decide +kernel) (by decide) (by decide +kernel) (show 1 = jnp 238 by decide +kernel) (by decide) (show 0 ≤ 8 by decide) (xm_isMinute_1 (by omega) (by omega)) (fun v hv11 hq => ?_)
  obtain ⟨rfl, rfl⟩ := hq
  refine j_if_eq (off := 8) (tgt := 31) (dQ (by decide +kernel)) (by decide) (fun q => absurd (congrArg Int32.toInt q) (by rw [i32_z]; omega)) (fun _ => ?_)
  refine j_iload_n (k4 := 3) (dQ (by decide +kernel)) rfl ?_
  refine j_iload_n (k4 := 2) (dQ (by decide +kernel)) rfl ?_
  refine j_icmp_ge (off := 9) (tgt := 37) (dQ (by decide +kernel)) (by decide) (fun _ => ?_) (fun q => absurd (i32_le.mpr (by omega)) q)
  refine j_aload_n (k4 := 0) (dQ (by decide +kernel)) rfl ?_
  refine j_get (own := 12) (i := 7) (ci := 12) (f := 2) (dQ (by decide +kernel)) hcls (by decide +kernel) k4 (fun r hr => by cases hr; decide +kernel) f2 ?_
  refine x_bi (n := 8) (dQ (by decide +kernel)) (by decide) ?_
  refine x_aldv (v := t) 8 (dQ (by decide +kernel)) k5 (by omega) (by omega) (by rw [qt]) ?_
  refine x_bi (n := 8) (dQ (by decide +kernel)) (by decide) ?_
  refine j_icmp_ne (off := 10) (tgt := 56) (dQ (by decide +kernel)) (by decide) (fun _ => ?_) (fun q => absurd (fun q => absurd (congrArg Int32.toInt q) (by omega)) q)
  refine x_si (n := 5000) (dQ (by decide +kernel)) (by decide) ?_
  refine j_iconst (n := 3) (dQ (by decide +kernel)) ?_
  refine j_aload_n (k4 := 0) (dQ (by decide +kernel)) rfl ?_
  refine j_get (own := 12) (i := 7) (ci := 12) (f := 2) (dQ (by decide +kernel)) hcls (by decide +kernel) k4 (fun r hr => by cases hr; decide +kernel) f2 ?_
  refine x_bi (n := 8) (dQ (by decide +kernel)) (by decide) ?_
  refine x_aldv (v := t) 8 (dQ (by decide +kernel)) k5 (by omega) (by omega) (by rw [qt]) ?_
  refine x_mul (z := 3 * t.toInt) (dQ (by decide +kernel)) (by rw [cn4]) (by omega) (fun r12 hr12 => ?_)
  refine x_add (dQ (by decide +kernel)) (by omega) (fun r13 hr13 => ?_)
  refine j_istore (i := 4) (dQ (by decide +kernel)) (by decide +kernel) ?_
  refine j_aload_n (k4 := 0) (dQ (by decide +kernel)) rfl ?_
  refine j_get (own := 12) (i := 7) (ci := 12) (f := 2) (dQ (by decide +kernel)) hcls (by decide +kernel) k4 (fun r hr => by cases hr; decide +kernel) f2 ?_
  refine j_iload (i := 4) (dQ (by decide +kernel)) rfl ?_
  refine j_iload_n (k4 := 1) (dQ (by decide +kernel)) rfl ?_
  refine x_ast (5000 + (3 * n)) (dQ (by decide +kernel)) k5 (by omega) (by omega) ?_
  have k14 : ((h.set (b1 + 0) (.inr (12, (fsm.set 0 (.int (Int32.ofInt 0)))))).set (b1 + 1) (.inl (0, 5270, (upd fr (5000 + (3 * n)) x1))))[b1 + 0]? = some (.inr (12, (fsm.set 0 (.int (Int32.ofInt 0))))) := by
    rw [List.getElem?_set_ne (by omega)]
    exact k4
  have k15 : ((h.set (b1 + 0) (.inr (12, (fsm.set 0 (.int (Int32.ofInt 0)))))).set (b1 + 1) (.inl (0, 5270, (upd fr (5000 + (3 * n)) x1))))[b1 + 1]? = some (.inl (0, 5270, (upd fr (5000 + (3 * n)) x1))) := List.getElem?_set_self (List.getElem?_eq_some_iff.mp k5).1
  refine j_aload_n (k4 := 0) (dQ (by decide +kernel)) rfl ?_
  refine j_get (own := 12) (i := 7) (ci := 12) (f := 2) (dQ (by decide +kernel)) hcls (by decide +kernel) k14 (fun r hr => by cases hr; decide +kernel) f2 ?_
  refine j_iload (i := 4) (dQ (by decide +kernel)) rfl ?_
  refine j_iconst (n := 1) (dQ (by decide +kernel)) ?_
  refine x_add (dQ (by decide +kernel)) (by omega) (fun r16 hr16 => ?_)
  refine j_iload_n (k4 := 2) (dQ (by decide +kernel)) rfl ?_
  refine x_ast ((5000 + (3 * n)) + 1) (dQ (by decide +kernel)) k15 (by omega) (by omega) ?_
  have k17 : (((h.set (b1 + 0) (.inr (12, (fsm.set 0 (.int (Int32.ofInt 0)))))).set (b1 + 1) (.inl (0, 5270, (upd fr (5000 + (3 * n)) x1)))).set (b1 + 1) (.inl (0, 5270, (upd (upd fr (5000 + (3 * n)) x1) ((5000 + (3 * n)) + 1) x2))))[b1 + 0]? = some (.inr (12, (fsm.set 0 (.int (Int32.ofInt 0))))) := by
    rw [List.getElem?_set_ne (by omega)]
    exact k14
  have k18 : (((h.set (b1 + 0) (.inr (12, (fsm.set 0 (.int (Int32.ofInt 0)))))).set (b1 + 1) (.inl (0, 5270, (upd fr (5000 + (3 * n)) x1)))).set (b1 + 1) (.inl (0, 5270, (upd (upd fr (5000 + (3 * n)) x1) ((5000 + (3 * n)) + 1) x2))))[b1 + 1]? = some (.inl (0, 5270, (upd (upd fr (5000 + (3 * n)) x1) ((5000 + (3 * n)) + 1) x2))) := List.getElem?_set_self (List.getElem?_eq_some_iff.mp k15).1
  refine j_aload_n (k4 := 0) (dQ (by decide +kernel)) rfl ?_
  refine j_get (own := 12) (i := 7) (ci := 12) (f := 2) (dQ (by decide +kernel)) hcls (by decide +kernel) k17 (fun r hr => by cases hr; decide +kernel) f2 ?_
  refine j_iload (i := 4) (dQ (by decide +kernel)) rfl ?_
  refine j_iconst (n := 2) (dQ (by decide +kernel)) ?_
  refine x_add (dQ (by decide +kernel)) (by omega) (fun r19 hr19 => ?_)
  refine j_iload_n (k4 := 3) (dQ (by decide +kernel)) rfl ?_
  refine x_ast ((5000 + (3 * n)) + 2) (dQ (by decide +kernel)) k18 (by omega) (by omega) ?_
  have k20 : ((((h.set (b1 + 0) (.inr (12, (fsm.set 0 (.int (Int32.ofInt 0)))))).set (b1 + 1) (.inl (0, 5270, (upd fr (5000 + (3 * n)) x1)))).set (b1 + 1) (.inl (0, 5270, (upd (upd fr (5000 + (3 * n)) x1) ((5000 + (3 * n)) + 1) x2)))).set (b1 + 1) (.inl (0, 5270, (upd (upd (upd fr (5000 + (3 * n)) x1) ((5000 + (3 * n)) + 1) x2) ((5000 + (3 * n)) + 2) x3))))[b1 + 0]? = some (.inr (12, (fsm.set 0 (.int (Int32.ofInt 0))))) := by
    rw [List.getElem?_set_ne (by omega)]
    exact k17
  have k21 : ((((h.set (b1 + 0) (.inr (12, (fsm.set 0 (.int (Int32.ofInt 0)))))).set (b1 + 1) (.inl (0, 5270, (upd fr (5000 + (3 * n)) x1)))).set (b1 + 1) (.inl (0, 5270, (upd (upd fr (5000 + (3 * n)) x1) ((5000 + (3 * n)) + 1) x2)))).set (b1 + 1) (.inl (0, 5270, (upd (upd (upd fr (5000 + (3 * n)) x1) ((5000 + (3 * n)) + 1) x2) ((5000 + (3 * n)) + 2) x3))))[b1 + 1]? = some (.inl (0, 5270, (upd (upd (upd fr (5000 + (3 * n)) x1) ((5000 + (3 * n)) + 1) x2) ((5000 + (3 * n)) + 2) x3))) := List.getElem?_set_self (List.getElem?_eq_some_iff.mp k18).1
  refine j_aload_n (k4 := 0) (dQ (by decide +kernel)) rfl ?_
  refine j_get (own := 12) (i := 7) (ci := 12) (f := 2) (dQ (by decide +kernel)) hcls (by decide +kernel) k20 (fun r hr => by cases hr; decide +kernel) f2 ?_
  refine x_bi (n := 8) (dQ (by decide +kernel)) (by decide) ?_
  refine j_dup2 (dQ (by decide +kernel)) rfl rfl ?_
  refine x_aldv (v := t) 8 (dQ (by decide +kernel)) k21 (by omega) (by omega) (by rw [upd_ne (show 8 ≠ ((5000 + (3 * n)) + 2) by omega), upd_ne (show 8 ≠ ((5000 + (3 * n)) + 1) by omega), upd_ne (show 8 ≠ (5000 + (3 * n)) by omega), qt]) ?_
  refine j_iconst (n := 1) (dQ (by decide +kernel)) ?_
  refine x_add (dQ (by decide +kernel)) (by omega) (fun r22 hr22 => ?_)
  refine x_ast 8 (dQ (by decide +kernel)) k21 (by omega) (by omega) ?_
  have k23 : (((((h.set (b1 + 0) (.inr (12, (fsm.set 0 (.int (Int32.ofInt 0)))))).set (b1 + 1) (.inl (0, 5270, (upd fr (5000 + (3 * n)) x1)))).set (b1 + 1) (.inl (0, 5270, (upd (upd fr (5000 + (3 * n)) x1) ((5000 + (3 * n)) + 1) x2)))).set (b1 + 1) (.inl (0, 5270, (upd (upd (upd fr (5000 + (3 * n)) x1) ((5000 + (3 * n)) + 1) x2) ((5000 + (3 * n)) + 2) x3)))).set (b1 + 1) (.inl (0, 5270, (upd (upd (upd (upd fr (5000 + (3 * n)) x1) ((5000 + (3 * n)) + 1) x2) ((5000 + (3 * n)) + 2) x3) 8 r22))))[b1 + 0]? = some (.inr (12, (fsm.set 0 (.int (Int32.ofInt 0))))) := by
    rw [List.getElem?_set_ne (by omega)]
    exact k20
  have k24 : (((((h.set (b1 + 0) (.inr (12, (fsm.set 0 (.int (Int32.ofInt 0)))))).set (b1 + 1) (.inl (0, 5270, (upd fr (5000 + (3 * n)) x1)))).set (b1 + 1) (.inl (0, 5270, (upd (upd fr (5000 + (3 * n)) x1) ((5000 + (3 * n)) + 1) x2)))).set (b1 + 1) (.inl (0, 5270, (upd (upd (upd fr (5000 + (3 * n)) x1) ((5000 + (3 * n)) + 1) x2) ((5000 + (3 * n)) + 2) x3)))).set (b1 + 1) (.inl (0, 5270, (upd (upd (upd (upd fr (5000 + (3 * n)) x1) ((5000 + (3 * n)) + 1) x2) ((5000 + (3 * n)) + 2) x3) 8 r22))))[b1 + 1]? = some (.inl (0, 5270, (upd (upd (upd (upd fr (5000 + (3 * n)) x1) ((5000 + (3 * n)) + 1) x2) ((5000 + (3 * n)) + 2) x3) 8 r22))) := List.getElem?_set_self (List.getElem?_eq_some_iff.mp k21).1
  refine j_aload_n (k4 := 0) (dQ (by decide +kernel)) rfl ?_
  refine j_aload_n (k4 := 0) (dQ (by decide +kernel)) rfl ?_
  refine j_get (own := 12) (i := 7) (ci := 12) (f := 2) (dQ (by decide +kernel)) hcls (by decide +kernel) k23 (fun r hr => by cases hr; decide +kernel) f2 ?_
  refine x_bi (n := 8) (dQ (by decide +kernel)) (by decide) ?_
  refine x_aldv (v := r22) 8 (dQ (by decide +kernel)) k24 (by omega) (by omega) (by rw [upd_eq]) ?_
  refine j_cV (own := 12) (i := 104) (y2 := 206) (d2 := 1) (mc := 0) (ms := 0) (kc := 0) (ks := 0) (a := b1 + 0) (As := [.int r22]) (st := []) (dQ (by decide +kernel)) hcls (by decide +kernel) (by decide) (by decide +kernel) (show 1 = jnp 206 by decide +kernel) (by decide) (show 0 ≤ 8 by decide) k23 (fun r hr => by cases hr; decide +kernel) (xm_tellP k23 n1 (by omega)) (fun v hv26 hq => ?_)
  obtain ⟨rfl, rfl⟩ := hq
  have n27 : ((fsm.set 0 (.int (Int32.ofInt 0))).set 1 (.int (Int32.ofInt 0))).length = 42 := by rw [List.length_set]; exact n1
  have f28 : ((fsm.set 0 (.int (Int32.ofInt 0))).set 1 (.int (Int32.ofInt 0)))[2]? = some (.ref (g.2.2 + (b1 + 1))) := by
    rw [List.getElem?_set_ne (by decide)]
    exact f2
  have f29 : ((fsm.set 0 (.int (Int32.ofInt 0))).set 1 (.int (Int32.ofInt 0)))[0]? = some (.int (Int32.ofInt 0)) := by
    rw [List.getElem?_set_ne (by decide)]
    exact f3
  have k30 : ((((((h.set (b1 + 0) (.inr (12, (fsm.set 0 (.int (Int32.ofInt 0)))))).set (b1 + 1) (.inl (0, 5270, (upd fr (5000 + (3 * n)) x1)))).set (b1 + 1) (.inl (0, 5270, (upd (upd fr (5000 + (3 * n)) x1) ((5000 + (3 * n)) + 1) x2)))).set (b1 + 1) (.inl (0, 5270, (upd (upd (upd fr (5000 + (3 * n)) x1) ((5000 + (3 * n)) + 1) x2) ((5000 + (3 * n)) + 2) x3)))).set (b1 + 1) (.inl (0, 5270, (upd (upd (upd (upd fr (5000 + (3 * n)) x1) ((5000 + (3 * n)) + 1) x2) ((5000 + (3 * n)) + 2) x3) 8 r22)))).set (b1 + 0) (.inr (12, ((fsm.set 0 (.int (Int32.ofInt 0))).set 1 (.int (Int32.ofInt 0))))))[b1 + 0]? = some (.inr (12, ((fsm.set 0 (.int (Int32.ofInt 0))).set 1 (.int (Int32.ofInt 0))))) := List.getElem?_set_self (List.getElem?_eq_some_iff.mp k23).1
  have k31 : ((((((h.set (b1 + 0) (.inr (12, (fsm.set 0 (.int (Int32.ofInt 0)))))).set (b1 + 1) (.inl (0, 5270, (upd fr (5000 + (3 * n)) x1)))).set (b1 + 1) (.inl (0, 5270, (upd (upd fr (5000 + (3 * n)) x1) ((5000 + (3 * n)) + 1) x2)))).set (b1 + 1) (.inl (0, 5270, (upd (upd (upd fr (5000 + (3 * n)) x1) ((5000 + (3 * n)) + 1) x2) ((5000 + (3 * n)) + 2) x3)))).set (b1 + 1) (.inl (0, 5270, (upd (upd (upd (upd fr (5000 + (3 * n)) x1) ((5000 + (3 * n)) + 1) x2) ((5000 + (3 * n)) + 2) x3) 8 r22)))).set (b1 + 0) (.inr (12, ((fsm.set 0 (.int (Int32.ofInt 0))).set 1 (.int (Int32.ofInt 0))))))[b1 + 1]? = some (.inl (0, 5270, (upd (upd (upd (upd fr (5000 + (3 * n)) x1) ((5000 + (3 * n)) + 1) x2) ((5000 + (3 * n)) + 2) x3) 8 r22))) := by
    rw [List.getElem?_set_ne (by omega)]
    exact k24
  exact j_ret (v := some (.int r22)) ⟨by decide +kernel, Or.inl (by decide +kernel)⟩ ⟨r22, by omega, rfl, rfl⟩ rfl
set_option maxRecDepth 8192 in
theorem xr_work_full {b1 : Nat} {fsm : List Value} {fr : Nat → Int32} {x1 : Int32} {x2 : Int32} {x3 : Int32} {t : Int32} {n : Nat} (hm : h[b1 + 0]? = some (.inr (12, fsm))) (lm : fsm.length = 42) (pm2 : fsm[2]? = some (.ref (g.2.2 + (b1 + 1)))) (hr : h[b1 + 1]? = some (.inl (0, 5270, fr))) (g1 : 0 ≤ x1.toInt ∧ x1.toInt ≤ 11) (g2 : 0 ≤ x2.toInt ∧ x2.toInt ≤ 9999) (g3 : 0 ≤ x3.toInt ∧ x3.toInt ≤ 9999) (u : x2.toInt ≤ x3.toInt) (et : t.toInt = (n : Int)) (en : 8 ≤ n ∧ n ≤ 8) (qt : fr 8 = t) : jCal l g 255 3 [.ref (g.2.2 + (b1 + 0)), .int x1, .int x2, .int x3] h 0 0 (fun v h' => v = some (.int (Int32.ofInt (-5))) ∧ h' = ((h.set (b1 + 0) (.inr (12, (fsm.set 0 (.int (Int32.ofInt 0)))))).set (b1 + 0) (.inr (12, ((fsm.set 0 (.int (Int32.ofInt 0))).set 1 (.int (Int32.ofInt (-5)))))))) := by
  have hcls : jcN 12 = (jyN 255).cls := by decide +kernel
  have cn0 : (Int32.ofInt 0).toInt = 0 := by decide
  have cn1 : (Int32.ofInt 1).toInt = 1 := by decide
  have cn2 : (Int32.ofInt 8).toInt = 8 := by decide
  have cn3 : (Int32.ofInt (-5)).toInt = -5 := by decide
  refine jCal_of (by decide +kernel) (show 4 ≤ jmx 255 by decide +kernel) ?_
  show J l g 255 3 0 [some (.ref (g.2.2 + (b1 + 0))), some (.int x1), some (.int x2), some (.int x3), none] [] h 0 0 _
  refine j_aload_n (k4 := 0) (dQ (by decide +kernel)) rfl ?_
  refine j_iconst (n := 0) (dQ (by decide +kernel)) ?_
  refine j_put (own := 12) (i := 94) (ci := 12) (f := 0) (ty := .int) (dQ (by decide +kernel)) hcls (by decide +kernel) hm rfl (by decide +kernel) (by rw [lm]; decide) (by decide +kernel) (by decide +kernel) rfl rfl ?_
  have n1 : (fsm.set 0 (.int (Int32.ofInt 0))).length = 42 := by rw [List.length_set]; exact lm
  have f2 : (fsm.set 0 (.int (Int32.ofInt 0)))[2]? = some (.ref (g.2.2 + (b1 + 1))) := by
    rw [List.getElem?_set_ne (by decide)]
    exact pm2
  have f3 : (fsm.set 0 (.int (Int32.ofInt 0)))[0]? = some (.int (Int32.ofInt 0)) := List.getElem?_set_self (by rw [lm]; decide)
  have k4 : (h.set (b1 + 0) (.inr (12, (fsm.set 0 (.int (Int32.ofInt 0))))))[b1 + 0]? = some (.inr (12, (fsm.set 0 (.int (Int32.ofInt 0))))) := List.getElem?_set_self (List.getElem?_eq_some_iff.mp hm).1
  have k5 : (h.set (b1 + 0) (.inr (12, (fsm.set 0 (.int (Int32.ofInt 0))))))[b1 + 1]? = some (.inl (0, 5270, fr)) := by
    rw [List.getElem?_set_ne (by omega)]
    exact hr
  refine j_iload_n (k4 := 1) (dQ (by decide +kernel)) rfl ?_
  refine j_cS (own := 12) (i := 285) (y2 := 235) (d2 := 2) (mc := 0) (ms := 0) (kc := 0) (ks := 0) (As := [.int x1]) (st := []) (dQ (by decide +kernel)) hcls (by decide +kernel) (by decide) (by decide +kernel) (show 1 = jnp 235 by decide +kernel) (by decide) (show 0 ≤ 8 by decide) (xm_isBerth_1 (by omega) (by omega)) (fun v hv7 hq => ?_)
  obtain ⟨rfl, rfl⟩ := hq
  refine j_if_eq (off := 22) (tgt := 31) (dQ (by decide +kernel)) (by decide) (fun q => absurd (congrArg Int32.toInt q) (by rw [i32_z]; omega)) (fun _ => ?_)
  refine j_iload_n (k4 := 2) (dQ (by decide +kernel)) rfl ?_
  refine j_cS (own := 12) (i := 288) (y2 := 238) (d2 := 2) (mc := 0) (ms := 0) (kc := 0) (ks := 0) (As := [.int x2]) (st := []) (dQ (by decide +kernel)) hcls (by decide +kernel) (by decide) (by decide +kernel) (show 1 = jnp 238 by decide +kernel) (by decide) (show 0 ≤ 8 by decide) (xm_isMinute_1 (by omega) (by omega)) (fun v hv9 hq => ?_)
  obtain ⟨rfl, rfl⟩ := hq
  refine j_if_eq (off := 15) (tgt := 31) (dQ (by decide +kernel)) (by decide) (fun q => absurd (congrArg Int32.toInt q) (by rw [i32_z]; omega)) (fun _ => ?_)
  refine j_iload_n (k4 := 3) (dQ (by decide +kernel)) rfl ?_
  refine j_cS (own := 12) (i := 288) (y2 := 238) (d2 := 2) (mc := 0) (ms := 0) (kc := 0) (ks := 0) (As := [.int x3]) (st := []) (dQ (by decide +kernel)) hcls (by decide +kernel) (by decide) (by decide +kernel) (show 1 = jnp 238 by decide +kernel) (by decide) (show 0 ≤ 8 by decide) (xm_isMinute_1 (by omega) (by omega)) (fun v hv11 hq => ?_)
  obtain ⟨rfl, rfl⟩ := hq
  refine j_if_eq (off := 8) (tgt := 31) (dQ (by decide +kernel)) (by decide) (fun q => absurd (congrArg Int32.toInt q) (by rw [i32_z]; omega)) (fun _ => ?_)
  refine j_iload_n (k4 := 3) (dQ (by decide +kernel)) rfl ?_
  refine j_iload_n (k4 := 2) (dQ (by decide +kernel)) rfl ?_
  refine j_icmp_ge (off := 9) (tgt := 37) (dQ (by decide +kernel)) (by decide) (fun _ => ?_) (fun q => absurd (i32_le.mpr (by omega)) q)
  refine j_aload_n (k4 := 0) (dQ (by decide +kernel)) rfl ?_
  refine j_get (own := 12) (i := 7) (ci := 12) (f := 2) (dQ (by decide +kernel)) hcls (by decide +kernel) k4 (fun r hr => by cases hr; decide +kernel) f2 ?_
  refine x_bi (n := 8) (dQ (by decide +kernel)) (by decide) ?_
  refine x_aldv (v := t) 8 (dQ (by decide +kernel)) k5 (by omega) (by omega) (by rw [qt]) ?_
  refine x_bi (n := 8) (dQ (by decide +kernel)) (by decide) ?_
  refine j_icmp_ne (off := 10) (tgt := 56) (dQ (by decide +kernel)) (by decide) (fun q => absurd (i32_eq (by omega)) q) (fun _ => ?_)
  refine j_aload_n (k4 := 0) (dQ (by decide +kernel)) rfl ?_
  refine x_bi (n := (-5)) (dQ (by decide +kernel)) (by decide) ?_
  refine j_cV (own := 12) (i := 104) (y2 := 206) (d2 := 1) (mc := 0) (ms := 0) (kc := 0) (ks := 0) (a := b1 + 0) (As := [.int (Int32.ofInt (-5))]) (st := []) (dQ (by decide +kernel)) hcls (by decide +kernel) (by decide) (by decide +kernel) (show 1 = jnp 206 by decide +kernel) (by decide) (show 0 ≤ 8 by decide) k4 (fun r hr => by cases hr; decide +kernel) (xm_tellN k4 n1 (by omega)) (fun v hv13 hq => ?_)
  obtain ⟨rfl, rfl⟩ := hq
  have n14 : ((fsm.set 0 (.int (Int32.ofInt 0))).set 1 (.int (Int32.ofInt (-5)))).length = 42 := by rw [List.length_set]; exact n1
  have f15 : ((fsm.set 0 (.int (Int32.ofInt 0))).set 1 (.int (Int32.ofInt (-5))))[2]? = some (.ref (g.2.2 + (b1 + 1))) := by
    rw [List.getElem?_set_ne (by decide)]
    exact f2
  have f16 : ((fsm.set 0 (.int (Int32.ofInt 0))).set 1 (.int (Int32.ofInt (-5))))[0]? = some (.int (Int32.ofInt 0)) := by
    rw [List.getElem?_set_ne (by decide)]
    exact f3
  have k17 : ((h.set (b1 + 0) (.inr (12, (fsm.set 0 (.int (Int32.ofInt 0)))))).set (b1 + 0) (.inr (12, ((fsm.set 0 (.int (Int32.ofInt 0))).set 1 (.int (Int32.ofInt (-5)))))))[b1 + 0]? = some (.inr (12, ((fsm.set 0 (.int (Int32.ofInt 0))).set 1 (.int (Int32.ofInt (-5)))))) := List.getElem?_set_self (List.getElem?_eq_some_iff.mp k4).1
  have k18 : ((h.set (b1 + 0) (.inr (12, (fsm.set 0 (.int (Int32.ofInt 0)))))).set (b1 + 0) (.inr (12, ((fsm.set 0 (.int (Int32.ofInt 0))).set 1 (.int (Int32.ofInt (-5)))))))[b1 + 1]? = some (.inl (0, 5270, fr)) := by
    rw [List.getElem?_set_ne (by omega)]
    exact k5
  exact j_ret (v := some (.int (Int32.ofInt (-5)))) ⟨by decide +kernel, Or.inl (by decide +kernel)⟩ ⟨rfl, rfl⟩ rfl
set_option maxRecDepth 8192 in
theorem xk_start_bl {b0 : Nat} {fsx : List Value} {x1 : Int32} {x2 : Int32} {x3 : Int32} (hx : h[b0 + 0]? = some (.inr (11, fsx))) (lx : fsx.length = 12) (px0 : fsx[0]? = some (.ref (g.2.2 + (b0 + 1)))) (u : x2.toInt < -1) : jCal l g 130 2 [.ref (g.2.2 + (b0 + 0)), .int x1, .int x2, .int x3] h 0 0 (fun v h' => v = some (.int (Int32.ofInt (-1))) ∧ h' = (h.set (b0 + 0) (.inr (11, (fsx.set 7 (.int (Int32.ofInt (-1)))))))) := by
  have hcls : jcN 11 = (jyN 130).cls := by decide +kernel
  have cn0 : (Int32.ofInt (-1)).toInt = -1 := by decide
  have cn1 : (Int32.ofInt 0).toInt = 0 := by decide
  refine jCal_of (by decide +kernel) (show 4 ≤ jmx 130 by decide +kernel) ?_
  show J l g 130 2 0 [some (.ref (g.2.2 + (b0 + 0))), some (.int x1), some (.int x2), some (.int x3)] [] h 0 0 _
  refine j_iload_n (k4 := 2) (dQ (by decide +kernel)) rfl ?_
  refine j_iconst (n := (-1)) (dQ (by decide +kernel)) ?_
  refine j_icmp_eq (off := 10) (tgt := 12) (dQ (by decide +kernel)) (by decide) (fun q => absurd (congrArg Int32.toInt q) (by omega)) (fun _ => ?_)
  refine j_iload_n (k4 := 2) (dQ (by decide +kernel)) rfl ?_
  refine j_cS (own := 11) (i := 34) (y2 := 14) (d2 := 1) (mc := 0) (ms := 0) (kc := 0) (ks := 0) (As := [.int x2]) (st := []) (dQ (by decide +kernel)) hcls (by decide +kernel) (by decide) (by decide +kernel) (show 1 = jnp 14 by decide +kernel) (by decide) (show 0 ≤ 8 by decide) (x_isBerth_0l (by omega)) (fun v hv2 hq => ?_)
  obtain ⟨rfl, rfl⟩ := hq
  refine j_if_eq (off := 10) (tgt := 19) (dQ (by decide +kernel)) (by decide) (fun _ => ?_) (fun q => absurd (i32_eq (show _ = (0 : Int32).toInt by rw [i32_z]; omega)) q)
  refine j_aload_n (k4 := 0) (dQ (by decide +kernel)) rfl ?_
  refine j_iconst (n := (-1)) (dQ (by decide +kernel)) ?_
  refine j_cV (own := 11) (i := 41) (y2 := 16) (d2 := 1) (mc := 0) (ms := 0) (kc := 0) (ks := 0) (a := b0 + 0) (As := [.int (Int32.ofInt (-1))]) (st := []) (dQ (by decide +kernel)) hcls (by decide +kernel) (by decide) (by decide +kernel) (show 1 = jnp 16 by decide +kernel) (by decide) (show 0 ≤ 8 by decide) hx (fun r hr => by cases hr; decide +kernel) (x_refuse hx lx) (fun v hv4 hq => ?_)
  obtain ⟨rfl, rfl⟩ := hq
  have n5 : (fsx.set 7 (.int (Int32.ofInt (-1)))).length = 12 := by rw [List.length_set]; exact lx
  have f6 : (fsx.set 7 (.int (Int32.ofInt (-1))))[0]? = some (.ref (g.2.2 + (b0 + 1))) := by
    rw [List.getElem?_set_ne (by decide)]
    exact px0
  have k7 : (h.set (b0 + 0) (.inr (11, (fsx.set 7 (.int (Int32.ofInt (-1)))))))[b0 + 0]? = some (.inr (11, (fsx.set 7 (.int (Int32.ofInt (-1)))))) := List.getElem?_set_self (List.getElem?_eq_some_iff.mp hx).1
  exact j_ret (v := some (.int (Int32.ofInt (-1)))) ⟨by decide +kernel, Or.inl (by decide +kernel)⟩ ⟨rfl, rfl⟩ rfl
set_option maxRecDepth 8192 in
theorem xr_start_bl {b1 : Nat} {fsm : List Value} {x1 : Int32} {x2 : Int32} {x3 : Int32} (hm : h[b1 + 0]? = some (.inr (12, fsm))) (lm : fsm.length = 42) (pm2 : fsm[2]? = some (.ref (g.2.2 + (b1 + 1)))) (u : x2.toInt < -1) : jCal l g 280 3 [.ref (g.2.2 + (b1 + 0)), .int x1, .int x2, .int x3] h 0 0 (fun v h' => v = some (.int (Int32.ofInt (-1))) ∧ h' = ((h.set (b1 + 0) (.inr (12, (fsm.set 0 (.int (Int32.ofInt 0)))))).set (b1 + 0) (.inr (12, ((fsm.set 0 (.int (Int32.ofInt 0))).set 1 (.int (Int32.ofInt (-1)))))))) := by
  have hcls : jcN 12 = (jyN 280).cls := by decide +kernel
  have cn0 : (Int32.ofInt 0).toInt = 0 := by decide
  have cn1 : (Int32.ofInt (-1)).toInt = -1 := by decide
  refine jCal_of (by decide +kernel) (show 4 ≤ jmx 280 by decide +kernel) ?_
  show J l g 280 3 0 [some (.ref (g.2.2 + (b1 + 0))), some (.int x1), some (.int x2), some (.int x3)] [] h 0 0 _
  refine j_aload_n (k4 := 0) (dQ (by decide +kernel)) rfl ?_
  refine j_iconst (n := 0) (dQ (by decide +kernel)) ?_
  refine j_put (own := 12) (i := 94) (ci := 12) (f := 0) (ty := .int) (dQ (by decide +kernel)) hcls (by decide +kernel) hm rfl (by decide +kernel) (by rw [lm]; decide) (by decide +kernel) (by decide +kernel) rfl rfl ?_
  have n1 : (fsm.set 0 (.int (Int32.ofInt 0))).length = 42 := by rw [List.length_set]; exact lm
  have f2 : (fsm.set 0 (.int (Int32.ofInt 0)))[2]? = some (.ref (g.2.2 + (b1 + 1))) := by
    rw [List.getElem?_set_ne (by decide)]
    exact pm2
  have f3 : (fsm.set 0 (.int (Int32.ofInt 0)))[0]? = some (.int (Int32.ofInt 0)) := List.getElem?_set_self (by rw [lm]; decide)
  have k4 : (h.set (b1 + 0) (.inr (12, (fsm.set 0 (.int (Int32.ofInt 0))))))[b1 + 0]? = some (.inr (12, (fsm.set 0 (.int (Int32.ofInt 0))))) := List.getElem?_set_self (List.getElem?_eq_some_iff.mp hm).1
  refine j_iload_n (k4 := 2) (dQ (by decide +kernel)) rfl ?_
  refine x_i2l (dQ (by decide +kernel)) (fun r5 hr5 => ?_)
  refine j_ldc2 (own := 12) (i := 163) (v := -1) hcls (by decide +kernel) (by decide +kernel) ?_
  have hq6 : (-1 : Int64).toInt = -1 := by decide
  refine j_ldc2 (own := 12) (i := 108) (v := 11) hcls (by decide +kernel) (by decide +kernel) ?_
  have hq7 : (11 : Int64).toInt = 11 := by decide
  refine j_cS (own := 12) (i := 100) (y2 := 205) (d2 := 1) (mc := 0) (ms := 0) (kc := 0) (ks := 0) (As := [.long r5, .long (-1 : Int64), .long (11 : Int64)]) (st := []) (dQ (by decide +kernel)) hcls (by decide +kernel) (by decide) (by decide +kernel) (show 3 = jnp 205 by decide +kernel) (by decide) (show 0 ≤ 8 by decide) (xm_in_0l (by omega)) (fun v hv9 hq => ?_)
  obtain ⟨rfl, rfl⟩ := hq
  refine j_if_eq (off := 10) (tgt := 26) (dQ (by decide +kernel)) (by decide) (fun _ => ?_) (fun q => absurd (i32_eq (show _ = (0 : Int32).toInt by rw [i32_z]; omega)) q)
  refine j_aload_n (k4 := 0) (dQ (by decide +kernel)) rfl ?_
  refine j_iconst (n := (-1)) (dQ (by decide +kernel)) ?_
  refine j_cV (own := 12) (i := 104) (y2 := 206) (d2 := 1) (mc := 0) (ms := 0) (kc := 0) (ks := 0) (a := b1 + 0) (As := [.int (Int32.ofInt (-1))]) (st := []) (dQ (by decide +kernel)) hcls (by decide +kernel) (by decide) (by decide +kernel) (show 1 = jnp 206 by decide +kernel) (by decide) (show 0 ≤ 8 by decide) k4 (fun r hr => by cases hr; decide +kernel) (xm_tellN k4 n1 (by omega)) (fun v hv11 hq => ?_)
  obtain ⟨rfl, rfl⟩ := hq
  have n12 : ((fsm.set 0 (.int (Int32.ofInt 0))).set 1 (.int (Int32.ofInt (-1)))).length = 42 := by rw [List.length_set]; exact n1
  have f13 : ((fsm.set 0 (.int (Int32.ofInt 0))).set 1 (.int (Int32.ofInt (-1))))[2]? = some (.ref (g.2.2 + (b1 + 1))) := by
    rw [List.getElem?_set_ne (by decide)]
    exact f2
  have f14 : ((fsm.set 0 (.int (Int32.ofInt 0))).set 1 (.int (Int32.ofInt (-1))))[0]? = some (.int (Int32.ofInt 0)) := by
    rw [List.getElem?_set_ne (by decide)]
    exact f3
  have k15 : ((h.set (b1 + 0) (.inr (12, (fsm.set 0 (.int (Int32.ofInt 0)))))).set (b1 + 0) (.inr (12, ((fsm.set 0 (.int (Int32.ofInt 0))).set 1 (.int (Int32.ofInt (-1)))))))[b1 + 0]? = some (.inr (12, ((fsm.set 0 (.int (Int32.ofInt 0))).set 1 (.int (Int32.ofInt (-1)))))) := List.getElem?_set_self (List.getElem?_eq_some_iff.mp k4).1
  exact j_ret (v := some (.int (Int32.ofInt (-1)))) ⟨by decide +kernel, Or.inl (by decide +kernel)⟩ ⟨rfl, rfl⟩ rfl
set_option maxRecDepth 8192 in
theorem xk_start_bh {b0 : Nat} {fsx : List Value} {x1 : Int32} {x2 : Int32} {x3 : Int32} (hx : h[b0 + 0]? = some (.inr (11, fsx))) (lx : fsx.length = 12) (px0 : fsx[0]? = some (.ref (g.2.2 + (b0 + 1)))) (u : 11 < x2.toInt) : jCal l g 130 2 [.ref (g.2.2 + (b0 + 0)), .int x1, .int x2, .int x3] h 0 0 (fun v h' => v = some (.int (Int32.ofInt (-1))) ∧ h' = (h.set (b0 + 0) (.inr (11, (fsx.set 7 (.int (Int32.ofInt (-1)))))))) := by
  have hcls : jcN 11 = (jyN 130).cls := by decide +kernel
  have cn0 : (Int32.ofInt (-1)).toInt = -1 := by decide
  have cn1 : (Int32.ofInt 0).toInt = 0 := by decide
  refine jCal_of (by decide +kernel) (show 4 ≤ jmx 130 by decide +kernel) ?_
  show J l g 130 2 0 [some (.ref (g.2.2 + (b0 + 0))), some (.int x1), some (.int x2), some (.int x3)] [] h 0 0 _
  refine j_iload_n (k4 := 2) (dQ (by decide +kernel)) rfl ?_
  refine j_iconst (n := (-1)) (dQ (by decide +kernel)) ?_
  refine j_icmp_eq (off := 10) (tgt := 12) (dQ (by decide +kernel)) (by decide) (fun q => absurd (congrArg Int32.toInt q) (by omega)) (fun _ => ?_)
  refine j_iload_n (k4 := 2) (dQ (by decide +kernel)) rfl ?_
  refine j_cS (own := 11) (i := 34) (y2 := 14) (d2 := 1) (mc := 0) (ms := 0) (kc := 0) (ks := 0) (As := [.int x2]) (st := []) (dQ (by decide +kernel)) hcls (by decide +kernel) (by decide) (by decide +kernel) (show 1 = jnp 14 by decide +kernel) (by decide) (show 0 ≤ 8 by decide) (x_isBerth_0h (by omega)) (fun v hv2 hq => ?_)
  obtain ⟨rfl, rfl⟩ := hq
  refine j_if_eq (off := 10) (tgt := 19) (dQ (by decide +kernel)) (by decide) (fun _ => ?_) (fun q => absurd (i32_eq (show _ = (0 : Int32).toInt by rw [i32_z]; omega)) q)
  refine j_aload_n (k4 := 0) (dQ (by decide +kernel)) rfl ?_
  refine j_iconst (n := (-1)) (dQ (by decide +kernel)) ?_
  refine j_cV (own := 11) (i := 41) (y2 := 16) (d2 := 1) (mc := 0) (ms := 0) (kc := 0) (ks := 0) (a := b0 + 0) (As := [.int (Int32.ofInt (-1))]) (st := []) (dQ (by decide +kernel)) hcls (by decide +kernel) (by decide) (by decide +kernel) (show 1 = jnp 16 by decide +kernel) (by decide) (show 0 ≤ 8 by decide) hx (fun r hr => by cases hr; decide +kernel) (x_refuse hx lx) (fun v hv4 hq => ?_)
  obtain ⟨rfl, rfl⟩ := hq
  have n5 : (fsx.set 7 (.int (Int32.ofInt (-1)))).length = 12 := by rw [List.length_set]; exact lx
  have f6 : (fsx.set 7 (.int (Int32.ofInt (-1))))[0]? = some (.ref (g.2.2 + (b0 + 1))) := by
    rw [List.getElem?_set_ne (by decide)]
    exact px0
  have k7 : (h.set (b0 + 0) (.inr (11, (fsx.set 7 (.int (Int32.ofInt (-1)))))))[b0 + 0]? = some (.inr (11, (fsx.set 7 (.int (Int32.ofInt (-1)))))) := List.getElem?_set_self (List.getElem?_eq_some_iff.mp hx).1
  exact j_ret (v := some (.int (Int32.ofInt (-1)))) ⟨by decide +kernel, Or.inl (by decide +kernel)⟩ ⟨rfl, rfl⟩ rfl
set_option maxRecDepth 8192 in
theorem xr_start_bh {b1 : Nat} {fsm : List Value} {x1 : Int32} {x2 : Int32} {x3 : Int32} (hm : h[b1 + 0]? = some (.inr (12, fsm))) (lm : fsm.length = 42) (pm2 : fsm[2]? = some (.ref (g.2.2 + (b1 + 1)))) (u : 11 < x2.toInt) : jCal l g 280 3 [.ref (g.2.2 + (b1 + 0)), .int x1, .int x2, .int x3] h 0 0 (fun v h' => v = some (.int (Int32.ofInt (-1))) ∧ h' = ((h.set (b1 + 0) (.inr (12, (fsm.set 0 (.int (Int32.ofInt 0)))))).set (b1 + 0) (.inr (12, ((fsm.set 0 (.int (Int32.ofInt 0))).set 1 (.int (Int32.ofInt (-1)))))))) := by
  have hcls : jcN 12 = (jyN 280).cls := by decide +kernel
  have cn0 : (Int32.ofInt 0).toInt = 0 := by decide
  have cn1 : (Int32.ofInt (-1)).toInt = -1 := by decide
  refine jCal_of (by decide +kernel) (show 4 ≤ jmx 280 by decide +kernel) ?_
  show J l g 280 3 0 [some (.ref (g.2.2 + (b1 + 0))), some (.int x1), some (.int x2), some (.int x3)] [] h 0 0 _
  refine j_aload_n (k4 := 0) (dQ (by decide +kernel)) rfl ?_
  refine j_iconst (n := 0) (dQ (by decide +kernel)) ?_
  refine j_put (own := 12) (i := 94) (ci := 12) (f := 0) (ty := .int) (dQ (by decide +kernel)) hcls (by decide +kernel) hm rfl (by decide +kernel) (by rw [lm]; decide) (by decide +kernel) (by decide +kernel) rfl rfl ?_
  have n1 : (fsm.set 0 (.int (Int32.ofInt 0))).length = 42 := by rw [List.length_set]; exact lm
  have f2 : (fsm.set 0 (.int (Int32.ofInt 0)))[2]? = some (.ref (g.2.2 + (b1 + 1))) := by
    rw [List.getElem?_set_ne (by decide)]
    exact pm2
  have f3 : (fsm.set 0 (.int (Int32.ofInt 0)))[0]? = some (.int (Int32.ofInt 0)) := List.getElem?_set_self (by rw [lm]; decide)
  have k4 : (h.set (b1 + 0) (.inr (12, (fsm.set 0 (.int (Int32.ofInt 0))))))[b1 + 0]? = some (.inr (12, (fsm.set 0 (.int (Int32.ofInt 0))))) := List.getElem?_set_self (List.getElem?_eq_some_iff.mp hm).1
  refine j_iload_n (k4 := 2) (dQ (by decide +kernel)) rfl ?_
  refine x_i2l (dQ (by decide +kernel)) (fun r5 hr5 => ?_)
  refine j_ldc2 (own := 12) (i := 163) (v := -1) hcls (by decide +kernel) (by decide +kernel) ?_
  have hq6 : (-1 : Int64).toInt = -1 := by decide
  refine j_ldc2 (own := 12) (i := 108) (v := 11) hcls (by decide +kernel) (by decide +kernel) ?_
  have hq7 : (11 : Int64).toInt = 11 := by decide
  refine j_cS (own := 12) (i := 100) (y2 := 205) (d2 := 1) (mc := 0) (ms := 0) (kc := 0) (ks := 0) (As := [.long r5, .long (-1 : Int64), .long (11 : Int64)]) (st := []) (dQ (by decide +kernel)) hcls (by decide +kernel) (by decide) (by decide +kernel) (show 3 = jnp 205 by decide +kernel) (by decide) (show 0 ≤ 8 by decide) (xm_in_0h (by omega) (by omega)) (fun v hv9 hq => ?_)
  obtain ⟨rfl, rfl⟩ := hq
  refine j_if_eq (off := 10) (tgt := 26) (dQ (by decide +kernel)) (by decide) (fun _ => ?_) (fun q => absurd (i32_eq (show _ = (0 : Int32).toInt by rw [i32_z]; omega)) q)
  refine j_aload_n (k4 := 0) (dQ (by decide +kernel)) rfl ?_
  refine j_iconst (n := (-1)) (dQ (by decide +kernel)) ?_
  refine j_cV (own := 12) (i := 104) (y2 := 206) (d2 := 1) (mc := 0) (ms := 0) (kc := 0) (ks := 0) (a := b1 + 0) (As := [.int (Int32.ofInt (-1))]) (st := []) (dQ (by decide +kernel)) hcls (by decide +kernel) (by decide) (by decide +kernel) (show 1 = jnp 206 by decide +kernel) (by decide) (show 0 ≤ 8 by decide) k4 (fun r hr => by cases hr; decide +kernel) (xm_tellN k4 n1 (by omega)) (fun v hv11 hq => ?_)
  obtain ⟨rfl, rfl⟩ := hq
  have n12 : ((fsm.set 0 (.int (Int32.ofInt 0))).set 1 (.int (Int32.ofInt (-1)))).length = 42 := by rw [List.length_set]; exact n1
  have f13 : ((fsm.set 0 (.int (Int32.ofInt 0))).set 1 (.int (Int32.ofInt (-1))))[2]? = some (.ref (g.2.2 + (b1 + 1))) := by
    rw [List.getElem?_set_ne (by decide)]
    exact f2
  have f14 : ((fsm.set 0 (.int (Int32.ofInt 0))).set 1 (.int (Int32.ofInt (-1))))[0]? = some (.int (Int32.ofInt 0)) := by
    rw [List.getElem?_set_ne (by decide)]
    exact f3
  have k15 : ((h.set (b1 + 0) (.inr (12, (fsm.set 0 (.int (Int32.ofInt 0)))))).set (b1 + 0) (.inr (12, ((fsm.set 0 (.int (Int32.ofInt 0))).set 1 (.int (Int32.ofInt (-1)))))))[b1 + 0]? = some (.inr (12, ((fsm.set 0 (.int (Int32.ofInt 0))).set 1 (.int (Int32.ofInt (-1)))))) := List.getElem?_set_self (List.getElem?_eq_some_iff.mp k4).1
  exact j_ret (v := some (.int (Int32.ofInt (-1)))) ⟨by decide +kernel, Or.inl (by decide +kernel)⟩ ⟨rfl, rfl⟩ rfl
set_option maxRecDepth 8192 in
theorem xk_start_mln {b0 : Nat} {fsx : List Value} {x1 : Int32} {x2 : Int32} {x3 : Int32} (hx : h[b0 + 0]? = some (.inr (11, fsx))) (lx : fsx.length = 12) (px0 : fsx[0]? = some (.ref (g.2.2 + (b0 + 1)))) (v : x2.toInt = -1) (u : x3.toInt < 0) : jCal l g 130 2 [.ref (g.2.2 + (b0 + 0)), .int x1, .int x2, .int x3] h 0 0 (fun v h' => v = some (.int (Int32.ofInt (-1))) ∧ h' = (h.set (b0 + 0) (.inr (11, (fsx.set 7 (.int (Int32.ofInt (-1)))))))) := by
  have hcls : jcN 11 = (jyN 130).cls := by decide +kernel
  have cn0 : (Int32.ofInt (-1)).toInt = -1 := by decide
  have cn1 : (Int32.ofInt 0).toInt = 0 := by decide
  refine jCal_of (by decide +kernel) (show 4 ≤ jmx 130 by decide +kernel) ?_
  show J l g 130 2 0 [some (.ref (g.2.2 + (b0 + 0))), some (.int x1), some (.int x2), some (.int x3)] [] h 0 0 _
  refine j_iload_n (k4 := 2) (dQ (by decide +kernel)) rfl ?_
  refine j_iconst (n := (-1)) (dQ (by decide +kernel)) ?_
  refine j_icmp_eq (off := 10) (tgt := 12) (dQ (by decide +kernel)) (by decide) (fun _ => ?_) (fun q => absurd (i32_eq (by omega)) q)
  refine j_iload_n (k4 := 3) (dQ (by decide +kernel)) rfl ?_
  refine j_cS (own := 11) (i := 63) (y2 := 21) (d2 := 1) (mc := 0) (ms := 0) (kc := 0) (ks := 0) (As := [.int x3]) (st := []) (dQ (by decide +kernel)) hcls (by decide +kernel) (by decide) (by decide +kernel) (show 1 = jnp 21 by decide +kernel) (by decide) (show 0 ≤ 8 by decide) (x_isMinute_0l (by omega)) (fun v hv2 hq => ?_)
  obtain ⟨rfl, rfl⟩ := hq
  refine j_if_ne (off := 9) (tgt := 25) (dQ (by decide +kernel)) (by decide) (fun q => absurd (i32_eq (show _ = (0 : Int32).toInt by rw [i32_z]; omega)) q) (fun _ => ?_)
  refine j_aload_n (k4 := 0) (dQ (by decide +kernel)) rfl ?_
  refine j_iconst (n := (-1)) (dQ (by decide +kernel)) ?_
  refine j_cV (own := 11) (i := 41) (y2 := 16) (d2 := 1) (mc := 0) (ms := 0) (kc := 0) (ks := 0) (a := b0 + 0) (As := [.int (Int32.ofInt (-1))]) (st := []) (dQ (by decide +kernel)) hcls (by decide +kernel) (by decide) (by decide +kernel) (show 1 = jnp 16 by decide +kernel) (by decide) (show 0 ≤ 8 by decide) hx (fun r hr => by cases hr; decide +kernel) (x_refuse hx lx) (fun v hv4 hq => ?_)
  obtain ⟨rfl, rfl⟩ := hq
  have n5 : (fsx.set 7 (.int (Int32.ofInt (-1)))).length = 12 := by rw [List.length_set]; exact lx
  have f6 : (fsx.set 7 (.int (Int32.ofInt (-1))))[0]? = some (.ref (g.2.2 + (b0 + 1))) := by
    rw [List.getElem?_set_ne (by decide)]
    exact px0
  have k7 : (h.set (b0 + 0) (.inr (11, (fsx.set 7 (.int (Int32.ofInt (-1)))))))[b0 + 0]? = some (.inr (11, (fsx.set 7 (.int (Int32.ofInt (-1)))))) := List.getElem?_set_self (List.getElem?_eq_some_iff.mp hx).1
  exact j_ret (v := some (.int (Int32.ofInt (-1)))) ⟨by decide +kernel, Or.inl (by decide +kernel)⟩ ⟨rfl, rfl⟩ rfl
set_option maxRecDepth 8192 in
theorem xk_start_mhn {b0 : Nat} {fsx : List Value} {x1 : Int32} {x2 : Int32} {x3 : Int32} (hx : h[b0 + 0]? = some (.inr (11, fsx))) (lx : fsx.length = 12) (px0 : fsx[0]? = some (.ref (g.2.2 + (b0 + 1)))) (v : x2.toInt = -1) (u : 9999 < x3.toInt) : jCal l g 130 2 [.ref (g.2.2 + (b0 + 0)), .int x1, .int x2, .int x3] h 0 0 (fun v h' => v = some (.int (Int32.ofInt (-1))) ∧ h' = (h.set (b0 + 0) (.inr (11, (fsx.set 7 (.int (Int32.ofInt (-1)))))))) := by
  have hcls : jcN 11 = (jyN 130).cls := by decide +kernel
  have cn0 : (Int32.ofInt (-1)).toInt = -1 := by decide
  have cn1 : (Int32.ofInt 0).toInt = 0 := by decide
  refine jCal_of (by decide +kernel) (show 4 ≤ jmx 130 by decide +kernel) ?_
  show J l g 130 2 0 [some (.ref (g.2.2 + (b0 + 0))), some (.int x1), some (.int x2), some (.int x3)] [] h 0 0 _
  refine j_iload_n (k4 := 2) (dQ (by decide +kernel)) rfl ?_
  refine j_iconst (n := (-1)) (dQ (by decide +kernel)) ?_
  refine j_icmp_eq (off := 10) (tgt := 12) (dQ (by decide +kernel)) (by decide) (fun _ => ?_) (fun q => absurd (i32_eq (by omega)) q)
  refine j_iload_n (k4 := 3) (dQ (by decide +kernel)) rfl ?_
  refine j_cS (own := 11) (i := 63) (y2 := 21) (d2 := 1) (mc := 0) (ms := 0) (kc := 0) (ks := 0) (As := [.int x3]) (st := []) (dQ (by decide +kernel)) hcls (by decide +kernel) (by decide) (by decide +kernel) (show 1 = jnp 21 by decide +kernel) (by decide) (show 0 ≤ 8 by decide) (x_isMinute_0h (by omega)) (fun v hv2 hq => ?_)
  obtain ⟨rfl, rfl⟩ := hq
  refine j_if_ne (off := 9) (tgt := 25) (dQ (by decide +kernel)) (by decide) (fun q => absurd (i32_eq (show _ = (0 : Int32).toInt by rw [i32_z]; omega)) q) (fun _ => ?_)
  refine j_aload_n (k4 := 0) (dQ (by decide +kernel)) rfl ?_
  refine j_iconst (n := (-1)) (dQ (by decide +kernel)) ?_
  refine j_cV (own := 11) (i := 41) (y2 := 16) (d2 := 1) (mc := 0) (ms := 0) (kc := 0) (ks := 0) (a := b0 + 0) (As := [.int (Int32.ofInt (-1))]) (st := []) (dQ (by decide +kernel)) hcls (by decide +kernel) (by decide) (by decide +kernel) (show 1 = jnp 16 by decide +kernel) (by decide) (show 0 ≤ 8 by decide) hx (fun r hr => by cases hr; decide +kernel) (x_refuse hx lx) (fun v hv4 hq => ?_)
  obtain ⟨rfl, rfl⟩ := hq
  have n5 : (fsx.set 7 (.int (Int32.ofInt (-1)))).length = 12 := by rw [List.length_set]; exact lx
  have f6 : (fsx.set 7 (.int (Int32.ofInt (-1))))[0]? = some (.ref (g.2.2 + (b0 + 1))) := by
    rw [List.getElem?_set_ne (by decide)]
    exact px0
  have k7 : (h.set (b0 + 0) (.inr (11, (fsx.set 7 (.int (Int32.ofInt (-1)))))))[b0 + 0]? = some (.inr (11, (fsx.set 7 (.int (Int32.ofInt (-1)))))) := List.getElem?_set_self (List.getElem?_eq_some_iff.mp hx).1
  exact j_ret (v := some (.int (Int32.ofInt (-1)))) ⟨by decide +kernel, Or.inl (by decide +kernel)⟩ ⟨rfl, rfl⟩ rfl
set_option maxRecDepth 8192 in
theorem xk_start_mlp {b0 : Nat} {fsx : List Value} {x1 : Int32} {x2 : Int32} {x3 : Int32} (hx : h[b0 + 0]? = some (.inr (11, fsx))) (lx : fsx.length = 12) (px0 : fsx[0]? = some (.ref (g.2.2 + (b0 + 1)))) (g2 : 0 ≤ x2.toInt ∧ x2.toInt ≤ 11) (u : x3.toInt < 0) : jCal l g 130 2 [.ref (g.2.2 + (b0 + 0)), .int x1, .int x2, .int x3] h 0 0 (fun v h' => v = some (.int (Int32.ofInt (-1))) ∧ h' = (h.set (b0 + 0) (.inr (11, (fsx.set 7 (.int (Int32.ofInt (-1)))))))) := by
  have hcls : jcN 11 = (jyN 130).cls := by decide +kernel
  have cn0 : (Int32.ofInt (-1)).toInt = -1 := by decide
  have cn1 : (Int32.ofInt 1).toInt = 1 := by decide
  have cn2 : (Int32.ofInt 0).toInt = 0 := by decide
  refine jCal_of (by decide +kernel) (show 4 ≤ jmx 130 by decide +kernel) ?_
  show J l g 130 2 0 [some (.ref (g.2.2 + (b0 + 0))), some (.int x1), some (.int x2), some (.int x3)] [] h 0 0 _
  refine j_iload_n (k4 := 2) (dQ (by decide +kernel)) rfl ?_
  refine j_iconst (n := (-1)) (dQ (by decide +kernel)) ?_
  refine j_icmp_eq (off := 10) (tgt := 12) (dQ (by decide +kernel)) (by decide) (fun q => absurd (congrArg Int32.toInt q) (by omega)) (fun _ => ?_)
  refine j_iload_n (k4 := 2) (dQ (by decide +kernel)) rfl ?_
  refine j_cS (own := 11) (i := 34) (y2 := 14) (d2 := 1) (mc := 0) (ms := 0) (kc := 0) (ks := 0) (As := [.int x2]) (st := []) (dQ (by decide +kernel)) hcls (by decide +kernel) (by decide) (by decide +kernel) (show 1 = jnp 14 by decide +kernel) (by decide) (show 0 ≤ 8 by decide) (x_isBerth_1 (by omega) (by omega)) (fun v hv2 hq => ?_)
  obtain ⟨rfl, rfl⟩ := hq
  refine j_if_eq (off := 10) (tgt := 19) (dQ (by decide +kernel)) (by decide) (fun q => absurd (congrArg Int32.toInt q) (by rw [i32_z]; omega)) (fun _ => ?_)
  refine j_iload_n (k4 := 3) (dQ (by decide +kernel)) rfl ?_
  refine j_cS (own := 11) (i := 63) (y2 := 21) (d2 := 1) (mc := 0) (ms := 0) (kc := 0) (ks := 0) (As := [.int x3]) (st := []) (dQ (by decide +kernel)) hcls (by decide +kernel) (by decide) (by decide +kernel) (show 1 = jnp 21 by decide +kernel) (by decide) (show 0 ≤ 8 by decide) (x_isMinute_0l (by omega)) (fun v hv4 hq => ?_)
  obtain ⟨rfl, rfl⟩ := hq
  refine j_if_ne (off := 9) (tgt := 25) (dQ (by decide +kernel)) (by decide) (fun q => absurd (i32_eq (show _ = (0 : Int32).toInt by rw [i32_z]; omega)) q) (fun _ => ?_)
  refine j_aload_n (k4 := 0) (dQ (by decide +kernel)) rfl ?_
  refine j_iconst (n := (-1)) (dQ (by decide +kernel)) ?_
  refine j_cV (own := 11) (i := 41) (y2 := 16) (d2 := 1) (mc := 0) (ms := 0) (kc := 0) (ks := 0) (a := b0 + 0) (As := [.int (Int32.ofInt (-1))]) (st := []) (dQ (by decide +kernel)) hcls (by decide +kernel) (by decide) (by decide +kernel) (show 1 = jnp 16 by decide +kernel) (by decide) (show 0 ≤ 8 by decide) hx (fun r hr => by cases hr; decide +kernel) (x_refuse hx lx) (fun v hv6 hq => ?_)
  obtain ⟨rfl, rfl⟩ := hq
  have n7 : (fsx.set 7 (.int (Int32.ofInt (-1)))).length = 12 := by rw [List.length_set]; exact lx
  have f8 : (fsx.set 7 (.int (Int32.ofInt (-1))))[0]? = some (.ref (g.2.2 + (b0 + 1))) := by
    rw [List.getElem?_set_ne (by decide)]
    exact px0
  have k9 : (h.set (b0 + 0) (.inr (11, (fsx.set 7 (.int (Int32.ofInt (-1)))))))[b0 + 0]? = some (.inr (11, (fsx.set 7 (.int (Int32.ofInt (-1)))))) := List.getElem?_set_self (List.getElem?_eq_some_iff.mp hx).1
  exact j_ret (v := some (.int (Int32.ofInt (-1)))) ⟨by decide +kernel, Or.inl (by decide +kernel)⟩ ⟨rfl, rfl⟩ rfl
set_option maxRecDepth 8192 in
theorem xk_start_mhp {b0 : Nat} {fsx : List Value} {x1 : Int32} {x2 : Int32} {x3 : Int32} (hx : h[b0 + 0]? = some (.inr (11, fsx))) (lx : fsx.length = 12) (px0 : fsx[0]? = some (.ref (g.2.2 + (b0 + 1)))) (g2 : 0 ≤ x2.toInt ∧ x2.toInt ≤ 11) (u : 9999 < x3.toInt) : jCal l g 130 2 [.ref (g.2.2 + (b0 + 0)), .int x1, .int x2, .int x3] h 0 0 (fun v h' => v = some (.int (Int32.ofInt (-1))) ∧ h' = (h.set (b0 + 0) (.inr (11, (fsx.set 7 (.int (Int32.ofInt (-1)))))))) := by
  have hcls : jcN 11 = (jyN 130).cls := by decide +kernel
  have cn0 : (Int32.ofInt (-1)).toInt = -1 := by decide
  have cn1 : (Int32.ofInt 1).toInt = 1 := by decide
  have cn2 : (Int32.ofInt 0).toInt = 0 := by decide
  refine jCal_of (by decide +kernel) (show 4 ≤ jmx 130 by decide +kernel) ?_
  show J l g 130 2 0 [some (.ref (g.2.2 + (b0 + 0))), some (.int x1), some (.int x2), some (.int x3)] [] h 0 0 _
  refine j_iload_n (k4 := 2) (dQ (by decide +kernel)) rfl ?_
  refine j_iconst (n := (-1)) (dQ (by decide +kernel)) ?_
  refine j_icmp_eq (off := 10) (tgt := 12) (dQ (by decide +kernel)) (by decide) (fun q => absurd (congrArg Int32.toInt q) (by omega)) (fun _ => ?_)
  refine j_iload_n (k4 := 2) (dQ (by decide +kernel)) rfl ?_
  refine j_cS (own := 11) (i := 34) (y2 := 14) (d2 := 1) (mc := 0) (ms := 0) (kc := 0) (ks := 0) (As := [.int x2]) (st := []) (dQ (by decide +kernel)) hcls (by decide +kernel) (by decide) (by decide +kernel) (show 1 = jnp 14 by decide +kernel) (by decide) (show 0 ≤ 8 by decide) (x_isBerth_1 (by omega) (by omega)) (fun v hv2 hq => ?_)
  obtain ⟨rfl, rfl⟩ := hq
  refine j_if_eq (off := 10) (tgt := 19) (dQ (by decide +kernel)) (by decide) (fun q => absurd (congrArg Int32.toInt q) (by rw [i32_z]; omega)) (fun _ => ?_)
  refine j_iload_n (k4 := 3) (dQ (by decide +kernel)) rfl ?_
  refine j_cS (own := 11) (i := 63) (y2 := 21) (d2 := 1) (mc := 0) (ms := 0) (kc := 0) (ks := 0) (As := [.int x3]) (st := []) (dQ (by decide +kernel)) hcls (by decide +kernel) (by decide) (by decide +kernel) (show 1 = jnp 21 by decide +kernel) (by decide) (show 0 ≤ 8 by decide) (x_isMinute_0h (by omega)) (fun v hv4 hq => ?_)
  obtain ⟨rfl, rfl⟩ := hq
  refine j_if_ne (off := 9) (tgt := 25) (dQ (by decide +kernel)) (by decide) (fun q => absurd (i32_eq (show _ = (0 : Int32).toInt by rw [i32_z]; omega)) q) (fun _ => ?_)
  refine j_aload_n (k4 := 0) (dQ (by decide +kernel)) rfl ?_
  refine j_iconst (n := (-1)) (dQ (by decide +kernel)) ?_
  refine j_cV (own := 11) (i := 41) (y2 := 16) (d2 := 1) (mc := 0) (ms := 0) (kc := 0) (ks := 0) (a := b0 + 0) (As := [.int (Int32.ofInt (-1))]) (st := []) (dQ (by decide +kernel)) hcls (by decide +kernel) (by decide) (by decide +kernel) (show 1 = jnp 16 by decide +kernel) (by decide) (show 0 ≤ 8 by decide) hx (fun r hr => by cases hr; decide +kernel) (x_refuse hx lx) (fun v hv6 hq => ?_)
  obtain ⟨rfl, rfl⟩ := hq
  have n7 : (fsx.set 7 (.int (Int32.ofInt (-1)))).length = 12 := by rw [List.length_set]; exact lx
  have f8 : (fsx.set 7 (.int (Int32.ofInt (-1))))[0]? = some (.ref (g.2.2 + (b0 + 1))) := by
    rw [List.getElem?_set_ne (by decide)]
    exact px0
  have k9 : (h.set (b0 + 0) (.inr (11, (fsx.set 7 (.int (Int32.ofInt (-1)))))))[b0 + 0]? = some (.inr (11, (fsx.set 7 (.int (Int32.ofInt (-1)))))) := List.getElem?_set_self (List.getElem?_eq_some_iff.mp hx).1
  exact j_ret (v := some (.int (Int32.ofInt (-1)))) ⟨by decide +kernel, Or.inl (by decide +kernel)⟩ ⟨rfl, rfl⟩ rfl
set_option maxRecDepth 8192 in
theorem xr_start_ml {b1 : Nat} {fsm : List Value} {x1 : Int32} {x2 : Int32} {x3 : Int32} (hm : h[b1 + 0]? = some (.inr (12, fsm))) (lm : fsm.length = 42) (pm2 : fsm[2]? = some (.ref (g.2.2 + (b1 + 1)))) (g2 : -1 ≤ x2.toInt ∧ x2.toInt ≤ 11) (u : x3.toInt < 0) : jCal l g 280 3 [.ref (g.2.2 + (b1 + 0)), .int x1, .int x2, .int x3] h 0 0 (fun v h' => v = some (.int (Int32.ofInt (-1))) ∧ h' = ((h.set (b1 + 0) (.inr (12, (fsm.set 0 (.int (Int32.ofInt 0)))))).set (b1 + 0) (.inr (12, ((fsm.set 0 (.int (Int32.ofInt 0))).set 1 (.int (Int32.ofInt (-1)))))))) := by
  have hcls : jcN 12 = (jyN 280).cls := by decide +kernel
  have cn0 : (Int32.ofInt 0).toInt = 0 := by decide
  have cn1 : (Int32.ofInt 1).toInt = 1 := by decide
  have cn2 : (Int32.ofInt (-1)).toInt = -1 := by decide
  refine jCal_of (by decide +kernel) (show 4 ≤ jmx 280 by decide +kernel) ?_
  show J l g 280 3 0 [some (.ref (g.2.2 + (b1 + 0))), some (.int x1), some (.int x2), some (.int x3)] [] h 0 0 _
  refine j_aload_n (k4 := 0) (dQ (by decide +kernel)) rfl ?_
  refine j_iconst (n := 0) (dQ (by decide +kernel)) ?_
  refine j_put (own := 12) (i := 94) (ci := 12) (f := 0) (ty := .int) (dQ (by decide +kernel)) hcls (by decide +kernel) hm rfl (by decide +kernel) (by rw [lm]; decide) (by decide +kernel) (by decide +kernel) rfl rfl ?_
  have n1 : (fsm.set 0 (.int (Int32.ofInt 0))).length = 42 := by rw [List.length_set]; exact lm
  have f2 : (fsm.set 0 (.int (Int32.ofInt 0)))[2]? = some (.ref (g.2.2 + (b1 + 1))) := by
    rw [List.getElem?_set_ne (by decide)]
    exact pm2
  have f3 : (fsm.set 0 (.int (Int32.ofInt 0)))[0]? = some (.int (Int32.ofInt 0)) := List.getElem?_set_self (by rw [lm]; decide)
  have k4 : (h.set (b1 + 0) (.inr (12, (fsm.set 0 (.int (Int32.ofInt 0))))))[b1 + 0]? = some (.inr (12, (fsm.set 0 (.int (Int32.ofInt 0))))) := List.getElem?_set_self (List.getElem?_eq_some_iff.mp hm).1
  refine j_iload_n (k4 := 2) (dQ (by decide +kernel)) rfl ?_
  refine x_i2l (dQ (by decide +kernel)) (fun r5 hr5 => ?_)
  refine j_ldc2 (own := 12) (i := 163) (v := -1) hcls (by decide +kernel) (by decide +kernel) ?_
  have hq6 : (-1 : Int64).toInt = -1 := by decide
  refine j_ldc2 (own := 12) (i := 108) (v := 11) hcls (by decide +kernel) (by decide +kernel) ?_
  have hq7 : (11 : Int64).toInt = 11 := by decide
  refine j_cS (own := 12) (i := 100) (y2 := 205) (d2 := 1) (mc := 0) (ms := 0) (kc := 0) (ks := 0) (As := [.long r5, .long (-1 : Int64), .long (11 : Int64)]) (st := []) (dQ (by decide +kernel)) hcls (by decide +kernel) (by decide) (by decide +kernel) (show 3 = jnp 205 by decide +kernel) (by decide) (show 0 ≤ 8 by decide) (xm_in_1 (by omega) (by omega)) (fun v hv9 hq => ?_)
  obtain ⟨rfl, rfl⟩ := hq
  refine j_if_eq (off := 10) (tgt := 26) (dQ (by decide +kernel)) (by decide) (fun q => absurd (congrArg Int32.toInt q) (by rw [i32_z]; omega)) (fun _ => ?_)
  refine j_iload_n (k4 := 3) (dQ (by decide +kernel)) rfl ?_
  refine j_cS (own := 12) (i := 288) (y2 := 238) (d2 := 2) (mc := 0) (ms := 0) (kc := 0) (ks := 0) (As := [.int x3]) (st := []) (dQ (by decide +kernel)) hcls (by decide +kernel) (by decide) (by decide +kernel) (show 1 = jnp 238 by decide +kernel) (by decide) (show 0 ≤ 8 by decide) (xm_isMinute_0l (by omega)) (fun v hv11 hq => ?_)
  obtain ⟨rfl, rfl⟩ := hq
  refine j_if_ne (off := 9) (tgt := 32) (dQ (by decide +kernel)) (by decide) (fun q => absurd (i32_eq (show _ = (0 : Int32).toInt by rw [i32_z]; omega)) q) (fun _ => ?_)
  refine j_aload_n (k4 := 0) (dQ (by decide +kernel)) rfl ?_
  refine j_iconst (n := (-1)) (dQ (by decide +kernel)) ?_
  refine j_cV (own := 12) (i := 104) (y2 := 206) (d2 := 1) (mc := 0) (ms := 0) (kc := 0) (ks := 0) (a := b1 + 0) (As := [.int (Int32.ofInt (-1))]) (st := []) (dQ (by decide +kernel)) hcls (by decide +kernel) (by decide) (by decide +kernel) (show 1 = jnp 206 by decide +kernel) (by decide) (show 0 ≤ 8 by decide) k4 (fun r hr => by cases hr; decide +kernel) (xm_tellN k4 n1 (by omega)) (fun v hv13 hq => ?_)
  obtain ⟨rfl, rfl⟩ := hq
  have n14 : ((fsm.set 0 (.int (Int32.ofInt 0))).set 1 (.int (Int32.ofInt (-1)))).length = 42 := by rw [List.length_set]; exact n1
  have f15 : ((fsm.set 0 (.int (Int32.ofInt 0))).set 1 (.int (Int32.ofInt (-1))))[2]? = some (.ref (g.2.2 + (b1 + 1))) := by
    rw [List.getElem?_set_ne (by decide)]
    exact f2
  have f16 : ((fsm.set 0 (.int (Int32.ofInt 0))).set 1 (.int (Int32.ofInt (-1))))[0]? = some (.int (Int32.ofInt 0)) := by
    rw [List.getElem?_set_ne (by decide)]
    exact f3
  have k17 : ((h.set (b1 + 0) (.inr (12, (fsm.set 0 (.int (Int32.ofInt 0)))))).set (b1 + 0) (.inr (12, ((fsm.set 0 (.int (Int32.ofInt 0))).set 1 (.int (Int32.ofInt (-1)))))))[b1 + 0]? = some (.inr (12, ((fsm.set 0 (.int (Int32.ofInt 0))).set 1 (.int (Int32.ofInt (-1)))))) := List.getElem?_set_self (List.getElem?_eq_some_iff.mp k4).1
  exact j_ret (v := some (.int (Int32.ofInt (-1)))) ⟨by decide +kernel, Or.inl (by decide +kernel)⟩ ⟨rfl, rfl⟩ rfl
set_option maxRecDepth 8192 in
theorem xr_start_mh {b1 : Nat} {fsm : List Value} {x1 : Int32} {x2 : Int32} {x3 : Int32} (hm : h[b1 + 0]? = some (.inr (12, fsm))) (lm : fsm.length = 42) (pm2 : fsm[2]? = some (.ref (g.2.2 + (b1 + 1)))) (g2 : -1 ≤ x2.toInt ∧ x2.toInt ≤ 11) (u : 9999 < x3.toInt) : jCal l g 280 3 [.ref (g.2.2 + (b1 + 0)), .int x1, .int x2, .int x3] h 0 0 (fun v h' => v = some (.int (Int32.ofInt (-1))) ∧ h' = ((h.set (b1 + 0) (.inr (12, (fsm.set 0 (.int (Int32.ofInt 0)))))).set (b1 + 0) (.inr (12, ((fsm.set 0 (.int (Int32.ofInt 0))).set 1 (.int (Int32.ofInt (-1)))))))) := by
  have hcls : jcN 12 = (jyN 280).cls := by decide +kernel
  have cn0 : (Int32.ofInt 0).toInt = 0 := by decide
  have cn1 : (Int32.ofInt 1).toInt = 1 := by decide
  have cn2 : (Int32.ofInt (-1)).toInt = -1 := by decide
  refine jCal_of (by decide +kernel) (show 4 ≤ jmx 280 by decide +kernel) ?_
  show J l g 280 3 0 [some (.ref (g.2.2 + (b1 + 0))), some (.int x1), some (.int x2), some (.int x3)] [] h 0 0 _
  refine j_aload_n (k4 := 0) (dQ (by decide +kernel)) rfl ?_
  refine j_iconst (n := 0) (dQ (by decide +kernel)) ?_
  refine j_put (own := 12) (i := 94) (ci := 12) (f := 0) (ty := .int) (dQ (by decide +kernel)) hcls (by decide +kernel) hm rfl (by decide +kernel) (by rw [lm]; decide) (by decide +kernel) (by decide +kernel) rfl rfl ?_
  have n1 : (fsm.set 0 (.int (Int32.ofInt 0))).length = 42 := by rw [List.length_set]; exact lm
  have f2 : (fsm.set 0 (.int (Int32.ofInt 0)))[2]? = some (.ref (g.2.2 + (b1 + 1))) := by
    rw [List.getElem?_set_ne (by decide)]
    exact pm2
  have f3 : (fsm.set 0 (.int (Int32.ofInt 0)))[0]? = some (.int (Int32.ofInt 0)) := List.getElem?_set_self (by rw [lm]; decide)
  have k4 : (h.set (b1 + 0) (.inr (12, (fsm.set 0 (.int (Int32.ofInt 0))))))[b1 + 0]? = some (.inr (12, (fsm.set 0 (.int (Int32.ofInt 0))))) := List.getElem?_set_self (List.getElem?_eq_some_iff.mp hm).1
  refine j_iload_n (k4 := 2) (dQ (by decide +kernel)) rfl ?_
  refine x_i2l (dQ (by decide +kernel)) (fun r5 hr5 => ?_)
  refine j_ldc2 (own := 12) (i := 163) (v := -1) hcls (by decide +kernel) (by decide +kernel) ?_
  have hq6 : (-1 : Int64).toInt = -1 := by decide
  refine j_ldc2 (own := 12) (i := 108) (v := 11) hcls (by decide +kernel) (by decide +kernel) ?_
  have hq7 : (11 : Int64).toInt = 11 := by decide
  refine j_cS (own := 12) (i := 100) (y2 := 205) (d2 := 1) (mc := 0) (ms := 0) (kc := 0) (ks := 0) (As := [.long r5, .long (-1 : Int64), .long (11 : Int64)]) (st := []) (dQ (by decide +kernel)) hcls (by decide +kernel) (by decide) (by decide +kernel) (show 3 = jnp 205 by decide +kernel) (by decide) (show 0 ≤ 8 by decide) (xm_in_1 (by omega) (by omega)) (fun v hv9 hq => ?_)
  obtain ⟨rfl, rfl⟩ := hq
  refine j_if_eq (off := 10) (tgt := 26) (dQ (by decide +kernel)) (by decide) (fun q => absurd (congrArg Int32.toInt q) (by rw [i32_z]; omega)) (fun _ => ?_)
  refine j_iload_n (k4 := 3) (dQ (by decide +kernel)) rfl ?_
  refine j_cS (own := 12) (i := 288) (y2 := 238) (d2 := 2) (mc := 0) (ms := 0) (kc := 0) (ks := 0) (As := [.int x3]) (st := []) (dQ (by decide +kernel)) hcls (by decide +kernel) (by decide) (by decide +kernel) (show 1 = jnp 238 by decide +kernel) (by decide) (show 0 ≤ 8 by decide) (xm_isMinute_0h (by omega)) (fun v hv11 hq => ?_)
  obtain ⟨rfl, rfl⟩ := hq
  refine j_if_ne (off := 9) (tgt := 32) (dQ (by decide +kernel)) (by decide) (fun q => absurd (i32_eq (show _ = (0 : Int32).toInt by rw [i32_z]; omega)) q) (fun _ => ?_)
  refine j_aload_n (k4 := 0) (dQ (by decide +kernel)) rfl ?_
  refine j_iconst (n := (-1)) (dQ (by decide +kernel)) ?_
  refine j_cV (own := 12) (i := 104) (y2 := 206) (d2 := 1) (mc := 0) (ms := 0) (kc := 0) (ks := 0) (a := b1 + 0) (As := [.int (Int32.ofInt (-1))]) (st := []) (dQ (by decide +kernel)) hcls (by decide +kernel) (by decide) (by decide +kernel) (show 1 = jnp 206 by decide +kernel) (by decide) (show 0 ≤ 8 by decide) k4 (fun r hr => by cases hr; decide +kernel) (xm_tellN k4 n1 (by omega)) (fun v hv13 hq => ?_)
  obtain ⟨rfl, rfl⟩ := hq
  have n14 : ((fsm.set 0 (.int (Int32.ofInt 0))).set 1 (.int (Int32.ofInt (-1)))).length = 42 := by rw [List.length_set]; exact n1
  have f15 : ((fsm.set 0 (.int (Int32.ofInt 0))).set 1 (.int (Int32.ofInt (-1))))[2]? = some (.ref (g.2.2 + (b1 + 1))) := by
    rw [List.getElem?_set_ne (by decide)]
    exact f2
  have f16 : ((fsm.set 0 (.int (Int32.ofInt 0))).set 1 (.int (Int32.ofInt (-1))))[0]? = some (.int (Int32.ofInt 0)) := by
    rw [List.getElem?_set_ne (by decide)]
    exact f3
  have k17 : ((h.set (b1 + 0) (.inr (12, (fsm.set 0 (.int (Int32.ofInt 0)))))).set (b1 + 0) (.inr (12, ((fsm.set 0 (.int (Int32.ofInt 0))).set 1 (.int (Int32.ofInt (-1)))))))[b1 + 0]? = some (.inr (12, ((fsm.set 0 (.int (Int32.ofInt 0))).set 1 (.int (Int32.ofInt (-1)))))) := List.getElem?_set_self (List.getElem?_eq_some_iff.mp k4).1
  exact j_ret (v := some (.int (Int32.ofInt (-1)))) ⟨by decide +kernel, Or.inl (by decide +kernel)⟩ ⟨rfl, rfl⟩ rfl
set_option maxRecDepth 8192 in
theorem xk_start_tln {b0 : Nat} {fsx : List Value} {x1 : Int32} {x2 : Int32} {x3 : Int32} (hx : h[b0 + 0]? = some (.inr (11, fsx))) (lx : fsx.length = 12) (px0 : fsx[0]? = some (.ref (g.2.2 + (b0 + 1)))) (v : x2.toInt = -1) (g3 : 0 ≤ x3.toInt ∧ x3.toInt ≤ 9999) (u : x1.toInt < 0) : jCal l g 130 2 [.ref (g.2.2 + (b0 + 0)), .int x1, .int x2, .int x3] h 0 0 (fun v h' => v = some (.int (Int32.ofInt (-2))) ∧ h' = (h.set (b0 + 0) (.inr (11, (fsx.set 7 (.int (Int32.ofInt (-2)))))))) := by
  have hcls : jcN 11 = (jyN 130).cls := by decide +kernel
  have cn0 : (Int32.ofInt (-1)).toInt = -1 := by decide
  have cn1 : (Int32.ofInt 1).toInt = 1 := by decide
  have cn2 : (Int32.ofInt (-2)).toInt = -2 := by decide
  refine jCal_of (by decide +kernel) (show 4 ≤ jmx 130 by decide +kernel) ?_
  show J l g 130 2 0 [some (.ref (g.2.2 + (b0 + 0))), some (.int x1), some (.int x2), some (.int x3)] [] h 0 0 _
  refine j_iload_n (k4 := 2) (dQ (by decide +kernel)) rfl ?_
  refine j_iconst (n := (-1)) (dQ (by decide +kernel)) ?_
  refine j_icmp_eq (off := 10) (tgt := 12) (dQ (by decide +kernel)) (by decide) (fun _ => ?_) (fun q => absurd (i32_eq (by omega)) q)
  refine j_iload_n (k4 := 3) (dQ (by decide +kernel)) rfl ?_
  refine j_cS (own := 11) (i := 63) (y2 := 21) (d2 := 1) (mc := 0) (ms := 0) (kc := 0) (ks := 0) (As := [.int x3]) (st := []) (dQ (by decide +kernel)) hcls (by decide +kernel) (by decide) (by decide +kernel) (show 1 = jnp 21 by decide +kernel) (by decide) (show 0 ≤ 8 by decide) (x_isMinute_1 (by omega) (by omega)) (fun v hv2 hq => ?_)
  obtain ⟨rfl, rfl⟩ := hq
  refine j_if_ne (off := 9) (tgt := 25) (dQ (by decide +kernel)) (by decide) (fun _ => ?_) (fun q => absurd (fun q => absurd (congrArg Int32.toInt q) (by rw [i32_z]; omega)) q)
  refine j_iload_n (k4 := 1) (dQ (by decide +kernel)) rfl ?_
  refine j_if_lt (off := 17) (tgt := 43) (dQ (by decide +kernel)) (by decide) (fun _ => ?_) (fun q => absurd (i32_lt.mpr (by rw [i32_z]; omega)) q)
  refine j_aload_n (k4 := 0) (dQ (by decide +kernel)) rfl ?_
  refine x_bi (n := (-2)) (dQ (by decide +kernel)) (by decide) ?_
  refine j_cV (own := 11) (i := 41) (y2 := 16) (d2 := 1) (mc := 0) (ms := 0) (kc := 0) (ks := 0) (a := b0 + 0) (As := [.int (Int32.ofInt (-2))]) (st := []) (dQ (by decide +kernel)) hcls (by decide +kernel) (by decide) (by decide +kernel) (show 1 = jnp 16 by decide +kernel) (by decide) (show 0 ≤ 8 by decide) hx (fun r hr => by cases hr; decide +kernel) (x_refuse hx lx) (fun v hv4 hq => ?_)
  obtain ⟨rfl, rfl⟩ := hq
  have n5 : (fsx.set 7 (.int (Int32.ofInt (-2)))).length = 12 := by rw [List.length_set]; exact lx
  have f6 : (fsx.set 7 (.int (Int32.ofInt (-2))))[0]? = some (.ref (g.2.2 + (b0 + 1))) := by
    rw [List.getElem?_set_ne (by decide)]
    exact px0
  have k7 : (h.set (b0 + 0) (.inr (11, (fsx.set 7 (.int (Int32.ofInt (-2)))))))[b0 + 0]? = some (.inr (11, (fsx.set 7 (.int (Int32.ofInt (-2)))))) := List.getElem?_set_self (List.getElem?_eq_some_iff.mp hx).1
  exact j_ret (v := some (.int (Int32.ofInt (-2)))) ⟨by decide +kernel, Or.inl (by decide +kernel)⟩ ⟨rfl, rfl⟩ rfl
set_option maxRecDepth 8192 in
theorem xk_start_thn {b0 : Nat} {fsx : List Value} {fss : List Value} {fsi : List Value} {x1 : Int32} {x2 : Int32} {x3 : Int32} {t : Int32} {n : Nat} (hx : h[b0 + 0]? = some (.inr (11, fsx))) (lx : fsx.length = 12) (px0 : fsx[0]? = some (.ref (g.2.2 + (b0 + 1)))) (hs : h[b0 + 1]? = some (.inr (7, fss))) (ls : fss.length = 20) (ps18 : fss[18]? = some (.ref (g.2.2 + (b0 + 37)))) (hi : h[b0 + 37]? = some (.inr (6, fsi))) (li : fsi.length = 8) (pi0 : fsi[0]? = some (.int t)) (v : x2.toInt = -1) (g3 : 0 ≤ x3.toInt ∧ x3.toInt ≤ 9999) (u : (n : Int) ≤ x1.toInt) (et : t.toInt = (n : Int)) (en : 0 ≤ n ∧ n ≤ 3) : jCal l g 130 2 [.ref (g.2.2 + (b0 + 0)), .int x1, .int x2, .int x3] h 0 0 (fun v h' => v = some (.int (Int32.ofInt (-2))) ∧ h' = (h.set (b0 + 0) (.inr (11, (fsx.set 7 (.int (Int32.ofInt (-2)))))))) := by
  have hcls : jcN 11 = (jyN 130).cls := by decide +kernel
  have cn0 : (Int32.ofInt (-1)).toInt = -1 := by decide
  have cn1 : (Int32.ofInt 1).toInt = 1 := by decide
  have cn2 : (Int32.ofInt (-2)).toInt = -2 := by decide
  refine jCal_of (by decide +kernel) (show 4 ≤ jmx 130 by decide +kernel) ?_
  show J l g 130 2 0 [some (.ref (g.2.2 + (b0 + 0))), some (.int x1), some (.int x2), some (.int x3)] [] h 0 0 _
  refine j_iload_n (k4 := 2) (dQ (by decide +kernel)) rfl ?_
  refine j_iconst (n := (-1)) (dQ (by decide +kernel)) ?_
  refine j_icmp_eq (off := 10) (tgt := 12) (dQ (by decide +kernel)) (by decide) (fun _ => ?_) (fun q => absurd (i32_eq (by omega)) q)
  refine j_iload_n (k4 := 3) (dQ (by decide +kernel)) rfl ?_
  refine j_cS (own := 11) (i := 63) (y2 := 21) (d2 := 1) (mc := 0) (ms := 0) (kc := 0) (ks := 0) (As := [.int x3]) (st := []) (dQ (by decide +kernel)) hcls (by decide +kernel) (by decide) (by decide +kernel) (show 1 = jnp 21 by decide +kernel) (by decide) (show 0 ≤ 8 by decide) (x_isMinute_1 (by omega) (by omega)) (fun v hv2 hq => ?_)
  obtain ⟨rfl, rfl⟩ := hq
  refine j_if_ne (off := 9) (tgt := 25) (dQ (by decide +kernel)) (by decide) (fun _ => ?_) (fun q => absurd (fun q => absurd (congrArg Int32.toInt q) (by rw [i32_z]; omega)) q)
  refine j_iload_n (k4 := 1) (dQ (by decide +kernel)) rfl ?_
  refine j_if_lt (off := 17) (tgt := 43) (dQ (by decide +kernel)) (by decide) (fun q => absurd (i32_lt.mp q) (by rw [i32_z]; omega)) (fun _ => ?_)
  refine j_iload_n (k4 := 1) (dQ (by decide +kernel)) rfl ?_
  refine j_aload_n (k4 := 0) (dQ (by decide +kernel)) rfl ?_
  refine j_get (own := 11) (i := 10) (ci := 11) (f := 0) (dQ (by decide +kernel)) hcls (by decide +kernel) hx (fun r hr => by cases hr; decide +kernel) px0 ?_
  refine j_get (own := 11) (i := 239) (ci := 7) (f := 18) (dQ (by decide +kernel)) hcls (by decide +kernel) hs (fun r hr => by cases hr; decide +kernel) ps18 ?_
  refine j_get (own := 11) (i := 248) (ci := 6) (f := 0) (dQ (by decide +kernel)) hcls (by decide +kernel) hi (fun r hr => by cases hr; decide +kernel) pi0 ?_
  refine j_icmp_lt (off := 10) (tgt := 50) (dQ (by decide +kernel)) (by decide) (fun q => absurd (i32_lt.mp q) (by omega)) (fun _ => ?_)
  refine j_aload_n (k4 := 0) (dQ (by decide +kernel)) rfl ?_
  refine x_bi (n := (-2)) (dQ (by decide +kernel)) (by decide) ?_
  refine j_cV (own := 11) (i := 41) (y2 := 16) (d2 := 1) (mc := 0) (ms := 0) (kc := 0) (ks := 0) (a := b0 + 0) (As := [.int (Int32.ofInt (-2))]) (st := []) (dQ (by decide +kernel)) hcls (by decide +kernel) (by decide) (by decide +kernel) (show 1 = jnp 16 by decide +kernel) (by decide) (show 0 ≤ 8 by decide) hx (fun r hr => by cases hr; decide +kernel) (x_refuse hx lx) (fun v hv4 hq => ?_)
  obtain ⟨rfl, rfl⟩ := hq
  have n5 : (fsx.set 7 (.int (Int32.ofInt (-2)))).length = 12 := by rw [List.length_set]; exact lx
  have f6 : (fsx.set 7 (.int (Int32.ofInt (-2))))[0]? = some (.ref (g.2.2 + (b0 + 1))) := by
    rw [List.getElem?_set_ne (by decide)]
    exact px0
  have k7 : (h.set (b0 + 0) (.inr (11, (fsx.set 7 (.int (Int32.ofInt (-2)))))))[b0 + 0]? = some (.inr (11, (fsx.set 7 (.int (Int32.ofInt (-2)))))) := List.getElem?_set_self (List.getElem?_eq_some_iff.mp hx).1
  have k8 : (h.set (b0 + 0) (.inr (11, (fsx.set 7 (.int (Int32.ofInt (-2)))))))[b0 + 1]? = some (.inr (7, fss)) := by
    rw [List.getElem?_set_ne (by omega)]
    exact hs
  have k9 : (h.set (b0 + 0) (.inr (11, (fsx.set 7 (.int (Int32.ofInt (-2)))))))[b0 + 37]? = some (.inr (6, fsi)) := by
    rw [List.getElem?_set_ne (by omega)]
    exact hi
  exact j_ret (v := some (.int (Int32.ofInt (-2)))) ⟨by decide +kernel, Or.inl (by decide +kernel)⟩ ⟨rfl, rfl⟩ rfl
set_option maxRecDepth 8192 in
theorem xk_start_tlp {b0 : Nat} {fsx : List Value} {x1 : Int32} {x2 : Int32} {x3 : Int32} (hx : h[b0 + 0]? = some (.inr (11, fsx))) (lx : fsx.length = 12) (px0 : fsx[0]? = some (.ref (g.2.2 + (b0 + 1)))) (g2 : 0 ≤ x2.toInt ∧ x2.toInt ≤ 11) (g3 : 0 ≤ x3.toInt ∧ x3.toInt ≤ 9999) (u : x1.toInt < 0) : jCal l g 130 2 [.ref (g.2.2 + (b0 + 0)), .int x1, .int x2, .int x3] h 0 0 (fun v h' => v = some (.int (Int32.ofInt (-2))) ∧ h' = (h.set (b0 + 0) (.inr (11, (fsx.set 7 (.int (Int32.ofInt (-2)))))))) := by
  have hcls : jcN 11 = (jyN 130).cls := by decide +kernel
  have cn0 : (Int32.ofInt (-1)).toInt = -1 := by decide
  have cn1 : (Int32.ofInt 1).toInt = 1 := by decide
  have cn2 : (Int32.ofInt (-2)).toInt = -2 := by decide
  refine jCal_of (by decide +kernel) (show 4 ≤ jmx 130 by decide +kernel) ?_
  show J l g 130 2 0 [some (.ref (g.2.2 + (b0 + 0))), some (.int x1), some (.int x2), some (.int x3)] [] h 0 0 _
  refine j_iload_n (k4 := 2) (dQ (by decide +kernel)) rfl ?_
  refine j_iconst (n := (-1)) (dQ (by decide +kernel)) ?_
  refine j_icmp_eq (off := 10) (tgt := 12) (dQ (by decide +kernel)) (by decide) (fun q => absurd (congrArg Int32.toInt q) (by omega)) (fun _ => ?_)
  refine j_iload_n (k4 := 2) (dQ (by decide +kernel)) rfl ?_
  refine j_cS (own := 11) (i := 34) (y2 := 14) (d2 := 1) (mc := 0) (ms := 0) (kc := 0) (ks := 0) (As := [.int x2]) (st := []) (dQ (by decide +kernel)) hcls (by decide +kernel) (by decide) (by decide +kernel) (show 1 = jnp 14 by decide +kernel) (by decide) (show 0 ≤ 8 by decide) (x_isBerth_1 (by omega) (by omega)) (fun v hv2 hq => ?_)
  obtain ⟨rfl, rfl⟩ := hq
  refine j_if_eq (off := 10) (tgt := 19) (dQ (by decide +kernel)) (by decide) (fun q => absurd (congrArg Int32.toInt q) (by rw [i32_z]; omega)) (fun _ => ?_)
  refine j_iload_n (k4 := 3) (dQ (by decide +kernel)) rfl ?_
  refine j_cS (own := 11) (i := 63) (y2 := 21) (d2 := 1) (mc := 0) (ms := 0) (kc := 0) (ks := 0) (As := [.int x3]) (st := []) (dQ (by decide +kernel)) hcls (by decide +kernel) (by decide) (by decide +kernel) (show 1 = jnp 21 by decide +kernel) (by decide) (show 0 ≤ 8 by decide) (x_isMinute_1 (by omega) (by omega)) (fun v hv4 hq => ?_)
  obtain ⟨rfl, rfl⟩ := hq
  refine j_if_ne (off := 9) (tgt := 25) (dQ (by decide +kernel)) (by decide) (fun _ => ?_) (fun q => absurd (fun q => absurd (congrArg Int32.toInt q) (by rw [i32_z]; omega)) q)
  refine j_iload_n (k4 := 1) (dQ (by decide +kernel)) rfl ?_
  refine j_if_lt (off := 17) (tgt := 43) (dQ (by decide +kernel)) (by decide) (fun _ => ?_) (fun q => absurd (i32_lt.mpr (by rw [i32_z]; omega)) q)
  refine j_aload_n (k4 := 0) (dQ (by decide +kernel)) rfl ?_
  refine x_bi (n := (-2)) (dQ (by decide +kernel)) (by decide) ?_
  refine j_cV (own := 11) (i := 41) (y2 := 16) (d2 := 1) (mc := 0) (ms := 0) (kc := 0) (ks := 0) (a := b0 + 0) (As := [.int (Int32.ofInt (-2))]) (st := []) (dQ (by decide +kernel)) hcls (by decide +kernel) (by decide) (by decide +kernel) (show 1 = jnp 16 by decide +kernel) (by decide) (show 0 ≤ 8 by decide) hx (fun r hr => by cases hr; decide +kernel) (x_refuse hx lx) (fun v hv6 hq => ?_)
  obtain ⟨rfl, rfl⟩ := hq
  have n7 : (fsx.set 7 (.int (Int32.ofInt (-2)))).length = 12 := by rw [List.length_set]; exact lx
  have f8 : (fsx.set 7 (.int (Int32.ofInt (-2))))[0]? = some (.ref (g.2.2 + (b0 + 1))) := by
    rw [List.getElem?_set_ne (by decide)]
    exact px0
  have k9 : (h.set (b0 + 0) (.inr (11, (fsx.set 7 (.int (Int32.ofInt (-2)))))))[b0 + 0]? = some (.inr (11, (fsx.set 7 (.int (Int32.ofInt (-2)))))) := List.getElem?_set_self (List.getElem?_eq_some_iff.mp hx).1
  exact j_ret (v := some (.int (Int32.ofInt (-2)))) ⟨by decide +kernel, Or.inl (by decide +kernel)⟩ ⟨rfl, rfl⟩ rfl
set_option maxRecDepth 8192 in
theorem xk_start_thp {b0 : Nat} {fsx : List Value} {fss : List Value} {fsi : List Value} {x1 : Int32} {x2 : Int32} {x3 : Int32} {t : Int32} {n : Nat} (hx : h[b0 + 0]? = some (.inr (11, fsx))) (lx : fsx.length = 12) (px0 : fsx[0]? = some (.ref (g.2.2 + (b0 + 1)))) (hs : h[b0 + 1]? = some (.inr (7, fss))) (ls : fss.length = 20) (ps18 : fss[18]? = some (.ref (g.2.2 + (b0 + 37)))) (hi : h[b0 + 37]? = some (.inr (6, fsi))) (li : fsi.length = 8) (pi0 : fsi[0]? = some (.int t)) (g2 : 0 ≤ x2.toInt ∧ x2.toInt ≤ 11) (g3 : 0 ≤ x3.toInt ∧ x3.toInt ≤ 9999) (u : (n : Int) ≤ x1.toInt) (et : t.toInt = (n : Int)) (en : 0 ≤ n ∧ n ≤ 3) : jCal l g 130 2 [.ref (g.2.2 + (b0 + 0)), .int x1, .int x2, .int x3] h 0 0 (fun v h' => v = some (.int (Int32.ofInt (-2))) ∧ h' = (h.set (b0 + 0) (.inr (11, (fsx.set 7 (.int (Int32.ofInt (-2)))))))) := by
  have hcls : jcN 11 = (jyN 130).cls := by decide +kernel
  have cn0 : (Int32.ofInt (-1)).toInt = -1 := by decide
  have cn1 : (Int32.ofInt 1).toInt = 1 := by decide
  have cn2 : (Int32.ofInt (-2)).toInt = -2 := by decide
  refine jCal_of (by decide +kernel) (show 4 ≤ jmx 130 by decide +kernel) ?_
  show J l g 130 2 0 [some (.ref (g.2.2 + (b0 + 0))), some (.int x1), some (.int x2), some (.int x3)] [] h 0 0 _
  refine j_iload_n (k4 := 2) (dQ (by decide +kernel)) rfl ?_
  refine j_iconst (n := (-1)) (dQ (by decide +kernel)) ?_
  refine j_icmp_eq (off := 10) (tgt := 12) (dQ (by decide +kernel)) (by decide) (fun q => absurd (congrArg Int32.toInt q) (by omega)) (fun _ => ?_)
  refine j_iload_n (k4 := 2) (dQ (by decide +kernel)) rfl ?_
  refine j_cS (own := 11) (i := 34) (y2 := 14) (d2 := 1) (mc := 0) (ms := 0) (kc := 0) (ks := 0) (As := [.int x2]) (st := []) (dQ (by decide +kernel)) hcls (by decide +kernel) (by decide) (by decide +kernel) (show 1 = jnp 14 by decide +kernel) (by decide) (show 0 ≤ 8 by decide) (x_isBerth_1 (by omega) (by omega)) (fun v hv2 hq => ?_)
  obtain ⟨rfl, rfl⟩ := hq
  refine j_if_eq (off := 10) (tgt := 19) (dQ (by decide +kernel)) (by decide) (fun q => absurd (congrArg Int32.toInt q) (by rw [i32_z]; omega)) (fun _ => ?_)
  refine j_iload_n (k4 := 3) (dQ (by decide +kernel)) rfl ?_
  refine j_cS (own := 11) (i := 63) (y2 := 21) (d2 := 1) (mc := 0) (ms := 0) (kc := 0) (ks := 0) (As := [.int x3]) (st := []) (dQ (by decide +kernel)) hcls (by decide +kernel) (by decide) (by decide +kernel) (show 1 = jnp 21 by decide +kernel) (by decide) (show 0 ≤ 8 by decide) (x_isMinute_1 (by omega) (by omega)) (fun v hv4 hq => ?_)
  obtain ⟨rfl, rfl⟩ := hq
  refine j_if_ne (off := 9) (tgt := 25) (dQ (by decide +kernel)) (by decide) (fun _ => ?_) (fun q => absurd (fun q => absurd (congrArg Int32.toInt q) (by rw [i32_z]; omega)) q)
  refine j_iload_n (k4 := 1) (dQ (by decide +kernel)) rfl ?_
  refine j_if_lt (off := 17) (tgt := 43) (dQ (by decide +kernel)) (by decide) (fun q => absurd (i32_lt.mp q) (by rw [i32_z]; omega)) (fun _ => ?_)
  refine j_iload_n (k4 := 1) (dQ (by decide +kernel)) rfl ?_
  refine j_aload_n (k4 := 0) (dQ (by decide +kernel)) rfl ?_
  refine j_get (own := 11) (i := 10) (ci := 11) (f := 0) (dQ (by decide +kernel)) hcls (by decide +kernel) hx (fun r hr => by cases hr; decide +kernel) px0 ?_
  refine j_get (own := 11) (i := 239) (ci := 7) (f := 18) (dQ (by decide +kernel)) hcls (by decide +kernel) hs (fun r hr => by cases hr; decide +kernel) ps18 ?_
  refine j_get (own := 11) (i := 248) (ci := 6) (f := 0) (dQ (by decide +kernel)) hcls (by decide +kernel) hi (fun r hr => by cases hr; decide +kernel) pi0 ?_
  refine j_icmp_lt (off := 10) (tgt := 50) (dQ (by decide +kernel)) (by decide) (fun q => absurd (i32_lt.mp q) (by omega)) (fun _ => ?_)
  refine j_aload_n (k4 := 0) (dQ (by decide +kernel)) rfl ?_
  refine x_bi (n := (-2)) (dQ (by decide +kernel)) (by decide) ?_
  refine j_cV (own := 11) (i := 41) (y2 := 16) (d2 := 1) (mc := 0) (ms := 0) (kc := 0) (ks := 0) (a := b0 + 0) (As := [.int (Int32.ofInt (-2))]) (st := []) (dQ (by decide +kernel)) hcls (by decide +kernel) (by decide) (by decide +kernel) (show 1 = jnp 16 by decide +kernel) (by decide) (show 0 ≤ 8 by decide) hx (fun r hr => by cases hr; decide +kernel) (x_refuse hx lx) (fun v hv6 hq => ?_)
  obtain ⟨rfl, rfl⟩ := hq
  have n7 : (fsx.set 7 (.int (Int32.ofInt (-2)))).length = 12 := by rw [List.length_set]; exact lx
  have f8 : (fsx.set 7 (.int (Int32.ofInt (-2))))[0]? = some (.ref (g.2.2 + (b0 + 1))) := by
    rw [List.getElem?_set_ne (by decide)]
    exact px0
  have k9 : (h.set (b0 + 0) (.inr (11, (fsx.set 7 (.int (Int32.ofInt (-2)))))))[b0 + 0]? = some (.inr (11, (fsx.set 7 (.int (Int32.ofInt (-2)))))) := List.getElem?_set_self (List.getElem?_eq_some_iff.mp hx).1
  have k10 : (h.set (b0 + 0) (.inr (11, (fsx.set 7 (.int (Int32.ofInt (-2)))))))[b0 + 1]? = some (.inr (7, fss)) := by
    rw [List.getElem?_set_ne (by omega)]
    exact hs
  have k11 : (h.set (b0 + 0) (.inr (11, (fsx.set 7 (.int (Int32.ofInt (-2)))))))[b0 + 37]? = some (.inr (6, fsi)) := by
    rw [List.getElem?_set_ne (by omega)]
    exact hi
  exact j_ret (v := some (.int (Int32.ofInt (-2)))) ⟨by decide +kernel, Or.inl (by decide +kernel)⟩ ⟨rfl, rfl⟩ rfl
set_option maxRecDepth 8192 in
theorem xr_start_tl {b1 : Nat} {fsm : List Value} {fr : Nat → Int32} {x1 : Int32} {x2 : Int32} {x3 : Int32} {t : Int32} {n : Nat} (hm : h[b1 + 0]? = some (.inr (12, fsm))) (lm : fsm.length = 42) (pm2 : fsm[2]? = some (.ref (g.2.2 + (b1 + 1)))) (hr : h[b1 + 1]? = some (.inl (0, 5270, fr))) (g2 : -1 ≤ x2.toInt ∧ x2.toInt ≤ 11) (g3 : 0 ≤ x3.toInt ∧ x3.toInt ≤ 9999) (u : x1.toInt < 0) (et : t.toInt = (n : Int)) (en : 0 ≤ n ∧ n ≤ 3) (qt : fr 3 = t) : jCal l g 280 3 [.ref (g.2.2 + (b1 + 0)), .int x1, .int x2, .int x3] h 0 0 (fun v h' => v = some (.int (Int32.ofInt (-2))) ∧ h' = ((h.set (b1 + 0) (.inr (12, (fsm.set 0 (.int (Int32.ofInt 0)))))).set (b1 + 0) (.inr (12, ((fsm.set 0 (.int (Int32.ofInt 0))).set 1 (.int (Int32.ofInt (-2)))))))) := by
  have hcls : jcN 12 = (jyN 280).cls := by decide +kernel
  have cn0 : (Int32.ofInt 0).toInt = 0 := by decide
  have cn1 : (Int32.ofInt 1).toInt = 1 := by decide
  have cn2 : (Int32.ofInt 3).toInt = 3 := by decide
  have cn3 : (Int32.ofInt (-2)).toInt = -2 := by decide
  refine jCal_of (by decide +kernel) (show 4 ≤ jmx 280 by decide +kernel) ?_
  show J l g 280 3 0 [some (.ref (g.2.2 + (b1 + 0))), some (.int x1), some (.int x2), some (.int x3)] [] h 0 0 _
  refine j_aload_n (k4 := 0) (dQ (by decide +kernel)) rfl ?_
  refine j_iconst (n := 0) (dQ (by decide +kernel)) ?_
  refine j_put (own := 12) (i := 94) (ci := 12) (f := 0) (ty := .int) (dQ (by decide +kernel)) hcls (by decide +kernel) hm rfl (by decide +kernel) (by rw [lm]; decide) (by decide +kernel) (by decide +kernel) rfl rfl ?_
  have n1 : (fsm.set 0 (.int (Int32.ofInt 0))).length = 42 := by rw [List.length_set]; exact lm
  have f2 : (fsm.set 0 (.int (Int32.ofInt 0)))[2]? = some (.ref (g.2.2 + (b1 + 1))) := by
    rw [List.getElem?_set_ne (by decide)]
    exact pm2
  have f3 : (fsm.set 0 (.int (Int32.ofInt 0)))[0]? = some (.int (Int32.ofInt 0)) := List.getElem?_set_self (by rw [lm]; decide)
  have k4 : (h.set (b1 + 0) (.inr (12, (fsm.set 0 (.int (Int32.ofInt 0))))))[b1 + 0]? = some (.inr (12, (fsm.set 0 (.int (Int32.ofInt 0))))) := List.getElem?_set_self (List.getElem?_eq_some_iff.mp hm).1
  have k5 : (h.set (b1 + 0) (.inr (12, (fsm.set 0 (.int (Int32.ofInt 0))))))[b1 + 1]? = some (.inl (0, 5270, fr)) := by
    rw [List.getElem?_set_ne (by omega)]
    exact hr
  refine j_iload_n (k4 := 2) (dQ (by decide +kernel)) rfl ?_
  refine x_i2l (dQ (by decide +kernel)) (fun r6 hr6 => ?_)
  refine j_ldc2 (own := 12) (i := 163) (v := -1) hcls (by decide +kernel) (by decide +kernel) ?_
  have hq7 : (-1 : Int64).toInt = -1 := by decide
  refine j_ldc2 (own := 12) (i := 108) (v := 11) hcls (by decide +kernel) (by decide +kernel) ?_
  have hq8 : (11 : Int64).toInt = 11 := by decide
  refine j_cS (own := 12) (i := 100) (y2 := 205) (d2 := 1) (mc := 0) (ms := 0) (kc := 0) (ks := 0) (As := [.long r6, .long (-1 : Int64), .long (11 : Int64)]) (st := []) (dQ (by decide +kernel)) hcls (by decide +kernel) (by decide) (by decide +kernel) (show 3 = jnp 205 by decide +kernel) (by decide) (show 0 ≤ 8 by decide) (xm_in_1 (by omega) (by omega)) (fun v hv10 hq => ?_)
  obtain ⟨rfl, rfl⟩ := hq
  refine j_if_eq (off := 10) (tgt := 26) (dQ (by decide +kernel)) (by decide) (fun q => absurd (congrArg Int32.toInt q) (by rw [i32_z]; omega)) (fun _ => ?_)
  refine j_iload_n (k4 := 3) (dQ (by decide +kernel)) rfl ?_
  refine j_cS (own := 12) (i := 288) (y2 := 238) (d2 := 2) (mc := 0) (ms := 0) (kc := 0) (ks := 0) (As := [.int x3]) (st := []) (dQ (by decide +kernel)) hcls (by decide +kernel) (by decide) (by decide +kernel) (show 1 = jnp 238 by decide +kernel) (by decide) (show 0 ≤ 8 by decide) (xm_isMinute_1 (by omega) (by omega)) (fun v hv12 hq => ?_)
  obtain ⟨rfl, rfl⟩ := hq
  refine j_if_ne (off := 9) (tgt := 32) (dQ (by decide +kernel)) (by decide) (fun _ => ?_) (fun q => absurd (fun q => absurd (congrArg Int32.toInt q) (by rw [i32_z]; omega)) q)
  refine j_iload_n (k4 := 1) (dQ (by decide +kernel)) rfl ?_
  refine x_i2l (dQ (by decide +kernel)) (fun r13 hr13 => ?_)
  refine j_lconst (n := 0) (dQ (by decide +kernel)) ?_
  have hq14 : (Int64.ofNat ((0 : Fin 2) : Nat)).toInt = 0 := by decide
  refine j_aload_n (k4 := 0) (dQ (by decide +kernel)) rfl ?_
  refine j_get (own := 12) (i := 7) (ci := 12) (f := 2) (dQ (by decide +kernel)) hcls (by decide +kernel) k4 (fun r hr => by cases hr; decide +kernel) f2 ?_
  refine j_iconst (n := 3) (dQ (by decide +kernel)) ?_
  refine x_aldv (v := t) 3 (dQ (by decide +kernel)) k5 (by omega) (by omega) (by rw [qt]) ?_
  refine x_i2l (dQ (by decide +kernel)) (fun r15 hr15 => ?_)
  refine j_lconst (n := 1) (dQ (by decide +kernel)) ?_
  have hq16 : (Int64.ofNat ((1 : Fin 2) : Nat)).toInt = 1 := by decide
  refine x_lsub (dQ (by decide +kernel)) (by omega) (fun r17 hr17 => ?_)
  refine j_cS (own := 12) (i := 100) (y2 := 205) (d2 := 1) (mc := 0) (ms := 0) (kc := 0) (ks := 0) (As := [.long r13, .long (Int64.ofNat ((0 : Fin 2) : Nat)), .long r17]) (st := []) (dQ (by decide +kernel)) hcls (by decide +kernel) (by decide) (by decide +kernel) (show 3 = jnp 205 by decide +kernel) (by decide) (show 0 ≤ 8 by decide) (xm_in_0l (by omega)) (fun v hv19 hq => ?_)
  obtain ⟨rfl, rfl⟩ := hq
  refine j_if_ne (off := 10) (tgt := 57) (dQ (by decide +kernel)) (by decide) (fun q => absurd (i32_eq (show _ = (0 : Int32).toInt by rw [i32_z]; omega)) q) (fun _ => ?_)
  refine j_aload_n (k4 := 0) (dQ (by decide +kernel)) rfl ?_
  refine x_bi (n := (-2)) (dQ (by decide +kernel)) (by decide) ?_
  refine j_cV (own := 12) (i := 104) (y2 := 206) (d2 := 1) (mc := 0) (ms := 0) (kc := 0) (ks := 0) (a := b1 + 0) (As := [.int (Int32.ofInt (-2))]) (st := []) (dQ (by decide +kernel)) hcls (by decide +kernel) (by decide) (by decide +kernel) (show 1 = jnp 206 by decide +kernel) (by decide) (show 0 ≤ 8 by decide) k4 (fun r hr => by cases hr; decide +kernel) (xm_tellN k4 n1 (by omega)) (fun v hv21 hq => ?_)
  obtain ⟨rfl, rfl⟩ := hq
  have n22 : ((fsm.set 0 (.int (Int32.ofInt 0))).set 1 (.int (Int32.ofInt (-2)))).length = 42 := by rw [List.length_set]; exact n1
  have f23 : ((fsm.set 0 (.int (Int32.ofInt 0))).set 1 (.int (Int32.ofInt (-2))))[2]? = some (.ref (g.2.2 + (b1 + 1))) := by
    rw [List.getElem?_set_ne (by decide)]
    exact f2
  have f24 : ((fsm.set 0 (.int (Int32.ofInt 0))).set 1 (.int (Int32.ofInt (-2))))[0]? = some (.int (Int32.ofInt 0)) := by
    rw [List.getElem?_set_ne (by decide)]
    exact f3
  have k25 : ((h.set (b1 + 0) (.inr (12, (fsm.set 0 (.int (Int32.ofInt 0)))))).set (b1 + 0) (.inr (12, ((fsm.set 0 (.int (Int32.ofInt 0))).set 1 (.int (Int32.ofInt (-2)))))))[b1 + 0]? = some (.inr (12, ((fsm.set 0 (.int (Int32.ofInt 0))).set 1 (.int (Int32.ofInt (-2)))))) := List.getElem?_set_self (List.getElem?_eq_some_iff.mp k4).1
  have k26 : ((h.set (b1 + 0) (.inr (12, (fsm.set 0 (.int (Int32.ofInt 0)))))).set (b1 + 0) (.inr (12, ((fsm.set 0 (.int (Int32.ofInt 0))).set 1 (.int (Int32.ofInt (-2)))))))[b1 + 1]? = some (.inl (0, 5270, fr)) := by
    rw [List.getElem?_set_ne (by omega)]
    exact k5
  exact j_ret (v := some (.int (Int32.ofInt (-2)))) ⟨by decide +kernel, Or.inl (by decide +kernel)⟩ ⟨rfl, rfl⟩ rfl
set_option maxRecDepth 8192 in
theorem xr_start_th {b1 : Nat} {fsm : List Value} {fr : Nat → Int32} {x1 : Int32} {x2 : Int32} {x3 : Int32} {t : Int32} {n : Nat} (hm : h[b1 + 0]? = some (.inr (12, fsm))) (lm : fsm.length = 42) (pm2 : fsm[2]? = some (.ref (g.2.2 + (b1 + 1)))) (hr : h[b1 + 1]? = some (.inl (0, 5270, fr))) (g2 : -1 ≤ x2.toInt ∧ x2.toInt ≤ 11) (g3 : 0 ≤ x3.toInt ∧ x3.toInt ≤ 9999) (u : (n : Int) ≤ x1.toInt) (et : t.toInt = (n : Int)) (en : 0 ≤ n ∧ n ≤ 3) (qt : fr 3 = t) : jCal l g 280 3 [.ref (g.2.2 + (b1 + 0)), .int x1, .int x2, .int x3] h 0 0 (fun v h' => v = some (.int (Int32.ofInt (-2))) ∧ h' = ((h.set (b1 + 0) (.inr (12, (fsm.set 0 (.int (Int32.ofInt 0)))))).set (b1 + 0) (.inr (12, ((fsm.set 0 (.int (Int32.ofInt 0))).set 1 (.int (Int32.ofInt (-2)))))))) := by
  have hcls : jcN 12 = (jyN 280).cls := by decide +kernel
  have cn0 : (Int32.ofInt 0).toInt = 0 := by decide
  have cn1 : (Int32.ofInt 1).toInt = 1 := by decide
  have cn2 : (Int32.ofInt 3).toInt = 3 := by decide
  have cn3 : (Int32.ofInt (-2)).toInt = -2 := by decide
  refine jCal_of (by decide +kernel) (show 4 ≤ jmx 280 by decide +kernel) ?_
  show J l g 280 3 0 [some (.ref (g.2.2 + (b1 + 0))), some (.int x1), some (.int x2), some (.int x3)] [] h 0 0 _
  refine j_aload_n (k4 := 0) (dQ (by decide +kernel)) rfl ?_
  refine j_iconst (n := 0) (dQ (by decide +kernel)) ?_
  refine j_put (own := 12) (i := 94) (ci := 12) (f := 0) (ty := .int) (dQ (by decide +kernel)) hcls (by decide +kernel) hm rfl (by decide +kernel) (by rw [lm]; decide) (by decide +kernel) (by decide +kernel) rfl rfl ?_
  have n1 : (fsm.set 0 (.int (Int32.ofInt 0))).length = 42 := by rw [List.length_set]; exact lm
  have f2 : (fsm.set 0 (.int (Int32.ofInt 0)))[2]? = some (.ref (g.2.2 + (b1 + 1))) := by
    rw [List.getElem?_set_ne (by decide)]
    exact pm2
  have f3 : (fsm.set 0 (.int (Int32.ofInt 0)))[0]? = some (.int (Int32.ofInt 0)) := List.getElem?_set_self (by rw [lm]; decide)
  have k4 : (h.set (b1 + 0) (.inr (12, (fsm.set 0 (.int (Int32.ofInt 0))))))[b1 + 0]? = some (.inr (12, (fsm.set 0 (.int (Int32.ofInt 0))))) := List.getElem?_set_self (List.getElem?_eq_some_iff.mp hm).1
  have k5 : (h.set (b1 + 0) (.inr (12, (fsm.set 0 (.int (Int32.ofInt 0))))))[b1 + 1]? = some (.inl (0, 5270, fr)) := by
    rw [List.getElem?_set_ne (by omega)]
    exact hr
  refine j_iload_n (k4 := 2) (dQ (by decide +kernel)) rfl ?_
  refine x_i2l (dQ (by decide +kernel)) (fun r6 hr6 => ?_)
  refine j_ldc2 (own := 12) (i := 163) (v := -1) hcls (by decide +kernel) (by decide +kernel) ?_
  have hq7 : (-1 : Int64).toInt = -1 := by decide
  refine j_ldc2 (own := 12) (i := 108) (v := 11) hcls (by decide +kernel) (by decide +kernel) ?_
  have hq8 : (11 : Int64).toInt = 11 := by decide
  refine j_cS (own := 12) (i := 100) (y2 := 205) (d2 := 1) (mc := 0) (ms := 0) (kc := 0) (ks := 0) (As := [.long r6, .long (-1 : Int64), .long (11 : Int64)]) (st := []) (dQ (by decide +kernel)) hcls (by decide +kernel) (by decide) (by decide +kernel) (show 3 = jnp 205 by decide +kernel) (by decide) (show 0 ≤ 8 by decide) (xm_in_1 (by omega) (by omega)) (fun v hv10 hq => ?_)
  obtain ⟨rfl, rfl⟩ := hq
  refine j_if_eq (off := 10) (tgt := 26) (dQ (by decide +kernel)) (by decide) (fun q => absurd (congrArg Int32.toInt q) (by rw [i32_z]; omega)) (fun _ => ?_)
  refine j_iload_n (k4 := 3) (dQ (by decide +kernel)) rfl ?_
  refine j_cS (own := 12) (i := 288) (y2 := 238) (d2 := 2) (mc := 0) (ms := 0) (kc := 0) (ks := 0) (As := [.int x3]) (st := []) (dQ (by decide +kernel)) hcls (by decide +kernel) (by decide) (by decide +kernel) (show 1 = jnp 238 by decide +kernel) (by decide) (show 0 ≤ 8 by decide) (xm_isMinute_1 (by omega) (by omega)) (fun v hv12 hq => ?_)
  obtain ⟨rfl, rfl⟩ := hq
  refine j_if_ne (off := 9) (tgt := 32) (dQ (by decide +kernel)) (by decide) (fun _ => ?_) (fun q => absurd (fun q => absurd (congrArg Int32.toInt q) (by rw [i32_z]; omega)) q)
  refine j_iload_n (k4 := 1) (dQ (by decide +kernel)) rfl ?_
  refine x_i2l (dQ (by decide +kernel)) (fun r13 hr13 => ?_)
  refine j_lconst (n := 0) (dQ (by decide +kernel)) ?_
  have hq14 : (Int64.ofNat ((0 : Fin 2) : Nat)).toInt = 0 := by decide
  refine j_aload_n (k4 := 0) (dQ (by decide +kernel)) rfl ?_
  refine j_get (own := 12) (i := 7) (ci := 12) (f := 2) (dQ (by decide +kernel)) hcls (by decide +kernel) k4 (fun r hr => by cases hr; decide +kernel) f2 ?_
  refine j_iconst (n := 3) (dQ (by decide +kernel)) ?_
  refine x_aldv (v := t) 3 (dQ (by decide +kernel)) k5 (by omega) (by omega) (by rw [qt]) ?_
  refine x_i2l (dQ (by decide +kernel)) (fun r15 hr15 => ?_)
  refine j_lconst (n := 1) (dQ (by decide +kernel)) ?_
  have hq16 : (Int64.ofNat ((1 : Fin 2) : Nat)).toInt = 1 := by decide
  refine x_lsub (dQ (by decide +kernel)) (by omega) (fun r17 hr17 => ?_)
  refine j_cS (own := 12) (i := 100) (y2 := 205) (d2 := 1) (mc := 0) (ms := 0) (kc := 0) (ks := 0) (As := [.long r13, .long (Int64.ofNat ((0 : Fin 2) : Nat)), .long r17]) (st := []) (dQ (by decide +kernel)) hcls (by decide +kernel) (by decide) (by decide +kernel) (show 3 = jnp 205 by decide +kernel) (by decide) (show 0 ≤ 8 by decide) (xm_in_0h (by omega) (by omega)) (fun v hv19 hq => ?_)
  obtain ⟨rfl, rfl⟩ := hq
  refine j_if_ne (off := 10) (tgt := 57) (dQ (by decide +kernel)) (by decide) (fun q => absurd (i32_eq (show _ = (0 : Int32).toInt by rw [i32_z]; omega)) q) (fun _ => ?_)
  refine j_aload_n (k4 := 0) (dQ (by decide +kernel)) rfl ?_
  refine x_bi (n := (-2)) (dQ (by decide +kernel)) (by decide) ?_
  refine j_cV (own := 12) (i := 104) (y2 := 206) (d2 := 1) (mc := 0) (ms := 0) (kc := 0) (ks := 0) (a := b1 + 0) (As := [.int (Int32.ofInt (-2))]) (st := []) (dQ (by decide +kernel)) hcls (by decide +kernel) (by decide) (by decide +kernel) (show 1 = jnp 206 by decide +kernel) (by decide) (show 0 ≤ 8 by decide) k4 (fun r hr => by cases hr; decide +kernel) (xm_tellN k4 n1 (by omega)) (fun v hv21 hq => ?_)
  obtain ⟨rfl, rfl⟩ := hq
  have n22 : ((fsm.set 0 (.int (Int32.ofInt 0))).set 1 (.int (Int32.ofInt (-2)))).length = 42 := by rw [List.length_set]; exact n1
  have f23 : ((fsm.set 0 (.int (Int32.ofInt 0))).set 1 (.int (Int32.ofInt (-2))))[2]? = some (.ref (g.2.2 + (b1 + 1))) := by
    rw [List.getElem?_set_ne (by decide)]
    exact f2
  have f24 : ((fsm.set 0 (.int (Int32.ofInt 0))).set 1 (.int (Int32.ofInt (-2))))[0]? = some (.int (Int32.ofInt 0)) := by
    rw [List.getElem?_set_ne (by decide)]
    exact f3
  have k25 : ((h.set (b1 + 0) (.inr (12, (fsm.set 0 (.int (Int32.ofInt 0)))))).set (b1 + 0) (.inr (12, ((fsm.set 0 (.int (Int32.ofInt 0))).set 1 (.int (Int32.ofInt (-2)))))))[b1 + 0]? = some (.inr (12, ((fsm.set 0 (.int (Int32.ofInt 0))).set 1 (.int (Int32.ofInt (-2)))))) := List.getElem?_set_self (List.getElem?_eq_some_iff.mp k4).1
  have k26 : ((h.set (b1 + 0) (.inr (12, (fsm.set 0 (.int (Int32.ofInt 0)))))).set (b1 + 0) (.inr (12, ((fsm.set 0 (.int (Int32.ofInt 0))).set 1 (.int (Int32.ofInt (-2)))))))[b1 + 1]? = some (.inl (0, 5270, fr)) := by
    rw [List.getElem?_set_ne (by omega)]
    exact k5
  exact j_ret (v := some (.int (Int32.ofInt (-2)))) ⟨by decide +kernel, Or.inl (by decide +kernel)⟩ ⟨rfl, rfl⟩ rfl
set_option maxRecDepth 8192 in
theorem xk_start_okn {b0 : Nat} {fsx : List Value} {fss : List Value} {fsi : List Value} {fb : Nat → Int32} {fc : Nat → Int32} {x1 : Int32} {x2 : Int32} {x3 : Int32} {t : Int32} {n : Nat} {c : Nat} (hx : h[b0 + 0]? = some (.inr (11, fsx))) (lx : fsx.length = 12) (px0 : fsx[0]? = some (.ref (g.2.2 + (b0 + 1)))) (hs : h[b0 + 1]? = some (.inr (7, fss))) (ls : fss.length = 20) (ps18 : fss[18]? = some (.ref (g.2.2 + (b0 + 37)))) (hi : h[b0 + 37]? = some (.inr (6, fsi))) (li : fsi.length = 8) (pi0 : fsi[0]? = some (.int t)) (pi2 : fsi[2]? = some (.ref (g.2.2 + (b0 + 39)))) (pi3 : fsi[3]? = some (.ref (g.2.2 + (b0 + 40)))) (hb : h[b0 + 39]? = some (.inl (0, 3, fb))) (hc : h[b0 + 40]? = some (.inl (0, 3, fc))) (v : x2.toInt = -1) (g3 : 0 ≤ x3.toInt ∧ x3.toInt ≤ 9999) (e1 : x1.toInt = (c : Int)) (g1 : c < n) (et : t.toInt = (n : Int)) (en : 1 ≤ n ∧ n ≤ 3) {a : Nat} (ua : ∀ o, o < 62 → a + 0 ≠ b0 + o) (hM : MEN g h a fsx) : jCal l g 130 2 [.ref (g.2.2 + (b0 + 0)), .int x1, .int x2, .int x3] h 0 0 (fun v h' => ∃ hv16, FgM (a + 0) ((h.set (b0 + 39) (.inl (0, 3, (upd fb c x2)))).set (b0 + 40) (.inl (0, 3, (upd fc c x3)))) hv16 ∧ v = some (.int (Int32.ofInt 0)) ∧ h' = (hv16.set (b0 + 0) (.inr (11, (fsx.set 7 (.int (Int32.ofInt 0))))))) := by
  have hcls : jcN 11 = (jyN 130).cls := by decide +kernel
  have cn0 : (Int32.ofInt (-1)).toInt = -1 := by decide
  have cn1 : (Int32.ofInt 1).toInt = 1 := by decide
  have cn2 : (Int32.ofInt 0).toInt = 0 := by decide
  refine jCal_of (by decide +kernel) (show 4 ≤ jmx 130 by decide +kernel) ?_
  show J l g 130 2 0 [some (.ref (g.2.2 + (b0 + 0))), some (.int x1), some (.int x2), some (.int x3)] [] h 0 0 _
  refine j_iload_n (k4 := 2) (dQ (by decide +kernel)) rfl ?_
  refine j_iconst (n := (-1)) (dQ (by decide +kernel)) ?_
  refine j_icmp_eq (off := 10) (tgt := 12) (dQ (by decide +kernel)) (by decide) (fun _ => ?_) (fun q => absurd (i32_eq (by omega)) q)
  refine j_iload_n (k4 := 3) (dQ (by decide +kernel)) rfl ?_
  refine j_cS (own := 11) (i := 63) (y2 := 21) (d2 := 1) (mc := 0) (ms := 0) (kc := 0) (ks := 0) (As := [.int x3]) (st := []) (dQ (by decide +kernel)) hcls (by decide +kernel) (by decide) (by decide +kernel) (show 1 = jnp 21 by decide +kernel) (by decide) (show 0 ≤ 8 by decide) (x_isMinute_1 (by omega) (by omega)) (fun v hv2 hq => ?_)
  obtain ⟨rfl, rfl⟩ := hq
  refine j_if_ne (off := 9) (tgt := 25) (dQ (by decide +kernel)) (by decide) (fun _ => ?_) (fun q => absurd (fun q => absurd (congrArg Int32.toInt q) (by rw [i32_z]; omega)) q)
  refine j_iload_n (k4 := 1) (dQ (by decide +kernel)) rfl ?_
  refine j_if_lt (off := 17) (tgt := 43) (dQ (by decide +kernel)) (by decide) (fun q => absurd (i32_lt.mp q) (by rw [i32_z]; omega)) (fun _ => ?_)
  refine j_iload_n (k4 := 1) (dQ (by decide +kernel)) rfl ?_
  refine j_aload_n (k4 := 0) (dQ (by decide +kernel)) rfl ?_
  refine j_get (own := 11) (i := 10) (ci := 11) (f := 0) (dQ (by decide +kernel)) hcls (by decide +kernel) hx (fun r hr => by cases hr; decide +kernel) px0 ?_
  refine j_get (own := 11) (i := 239) (ci := 7) (f := 18) (dQ (by decide +kernel)) hcls (by decide +kernel) hs (fun r hr => by cases hr; decide +kernel) ps18 ?_
  refine j_get (own := 11) (i := 248) (ci := 6) (f := 0) (dQ (by decide +kernel)) hcls (by decide +kernel) hi (fun r hr => by cases hr; decide +kernel) pi0 ?_
  refine j_icmp_lt (off := 10) (tgt := 50) (dQ (by decide +kernel)) (by decide) (fun _ => ?_) (fun q => absurd (i32_lt.mpr (by omega)) q)
  refine j_aload_n (k4 := 0) (dQ (by decide +kernel)) rfl ?_
  refine j_get (own := 11) (i := 10) (ci := 11) (f := 0) (dQ (by decide +kernel)) hcls (by decide +kernel) hx (fun r hr => by cases hr; decide +kernel) px0 ?_
  refine j_get (own := 11) (i := 239) (ci := 7) (f := 18) (dQ (by decide +kernel)) hcls (by decide +kernel) hs (fun r hr => by cases hr; decide +kernel) ps18 ?_
  refine j_get (own := 11) (i := 251) (ci := 6) (f := 2) (dQ (by decide +kernel)) hcls (by decide +kernel) hi (fun r hr => by cases hr; decide +kernel) pi2 ?_
  refine j_iload_n (k4 := 1) (dQ (by decide +kernel)) rfl ?_
  refine j_iload_n (k4 := 2) (dQ (by decide +kernel)) rfl ?_
  refine x_ast c (dQ (by decide +kernel)) hb (by omega) (by omega) ?_
  have k3 : (h.set (b0 + 39) (.inl (0, 3, (upd fb c x2))))[b0 + 0]? = some (.inr (11, fsx)) := by
    rw [List.getElem?_set_ne (by omega)]
    exact hx
  have k4 : (h.set (b0 + 39) (.inl (0, 3, (upd fb c x2))))[b0 + 1]? = some (.inr (7, fss)) := by
    rw [List.getElem?_set_ne (by omega)]
    exact hs
  have k5 : (h.set (b0 + 39) (.inl (0, 3, (upd fb c x2))))[b0 + 37]? = some (.inr (6, fsi)) := by
    rw [List.getElem?_set_ne (by omega)]
    exact hi
  have k6 : (h.set (b0 + 39) (.inl (0, 3, (upd fb c x2))))[b0 + 39]? = some (.inl (0, 3, (upd fb c x2))) := List.getElem?_set_self (List.getElem?_eq_some_iff.mp hb).1
  have k7 : (h.set (b0 + 39) (.inl (0, 3, (upd fb c x2))))[b0 + 40]? = some (.inl (0, 3, fc)) := by
    rw [List.getElem?_set_ne (by omega)]
    exact hc
  have M8 : MEN g (h.set (b0 + 39) (.inl (0, 3, (upd fb c x2)))) a fsx := (hM.set (Ne.symm (ua 39 (by decide))))
  refine j_aload_n (k4 := 0) (dQ (by decide +kernel)) rfl ?_
  refine j_get (own := 11) (i := 10) (ci := 11) (f := 0) (dQ (by decide +kernel)) hcls (by decide +kernel) k3 (fun r hr => by cases hr; decide +kernel) px0 ?_
  refine j_get (own := 11) (i := 239) (ci := 7) (f := 18) (dQ (by decide +kernel)) hcls (by decide +kernel) k4 (fun r hr => by cases hr; decide +kernel) ps18 ?_
  refine j_get (own := 11) (i := 254) (ci := 6) (f := 3) (dQ (by decide +kernel)) hcls (by decide +kernel) k5 (fun r hr => by cases hr; decide +kernel) pi3 ?_
  refine j_iload_n (k4 := 1) (dQ (by decide +kernel)) rfl ?_
  refine j_iload_n (k4 := 3) (dQ (by decide +kernel)) rfl ?_
  refine x_ast c (dQ (by decide +kernel)) k7 (by omega) (by omega) ?_
  have k9 : ((h.set (b0 + 39) (.inl (0, 3, (upd fb c x2)))).set (b0 + 40) (.inl (0, 3, (upd fc c x3))))[b0 + 0]? = some (.inr (11, fsx)) := by
    rw [List.getElem?_set_ne (by omega)]
    exact k3
  have k10 : ((h.set (b0 + 39) (.inl (0, 3, (upd fb c x2)))).set (b0 + 40) (.inl (0, 3, (upd fc c x3))))[b0 + 1]? = some (.inr (7, fss)) := by
    rw [List.getElem?_set_ne (by omega)]
    exact k4
  have k11 : ((h.set (b0 + 39) (.inl (0, 3, (upd fb c x2)))).set (b0 + 40) (.inl (0, 3, (upd fc c x3))))[b0 + 37]? = some (.inr (6, fsi)) := by
    rw [List.getElem?_set_ne (by omega)]
    exact k5
  have k12 : ((h.set (b0 + 39) (.inl (0, 3, (upd fb c x2)))).set (b0 + 40) (.inl (0, 3, (upd fc c x3))))[b0 + 39]? = some (.inl (0, 3, (upd fb c x2))) := by
    rw [List.getElem?_set_ne (by omega)]
    exact k6
  have k13 : ((h.set (b0 + 39) (.inl (0, 3, (upd fb c x2)))).set (b0 + 40) (.inl (0, 3, (upd fc c x3))))[b0 + 40]? = some (.inl (0, 3, (upd fc c x3))) := List.getElem?_set_self (List.getElem?_eq_some_iff.mp k7).1
  have M14 : MEN g ((h.set (b0 + 39) (.inl (0, 3, (upd fb c x2)))).set (b0 + 40) (.inl (0, 3, (upd fc c x3)))) a fsx := (M8.set (Ne.symm (ua 40 (by decide))))
  refine j_aload_n (k4 := 0) (dQ (by decide +kernel)) rfl ?_
  refine j_cV (own := 11) (i := 235) (y2 := 127) (d2 := 1) (mc := 0) (ms := 0) (kc := 0) (ks := 0) (a := b0 + 0) (As := []) (st := []) (dQ (by decide +kernel)) hcls (by decide +kernel) (by decide) (by decide +kernel) (show 0 = jnp 127 by decide +kernel) (by decide) (show 0 ≤ 8 by decide) k9 (fun r hr => by cases hr; decide +kernel) (x_forget k9 M14) (fun v hv16 hq => ?_)
  obtain ⟨rfl, F17⟩ := hq
  have k18 : hv16[b0 + 0]? = some (.inr (11, fsx)) := (F17 _ (Ne.symm (ua 0 (by decide)))).trans k9
  have k19 : hv16[b0 + 1]? = some (.inr (7, fss)) := (F17 _ (Ne.symm (ua 1 (by decide)))).trans k10
  have k20 : hv16[b0 + 37]? = some (.inr (6, fsi)) := (F17 _ (Ne.symm (ua 37 (by decide)))).trans k11
  have k21 : hv16[b0 + 39]? = some (.inl (0, 3, (upd fb c x2))) := (F17 _ (Ne.symm (ua 39 (by decide)))).trans k12
  have k22 : hv16[b0 + 40]? = some (.inl (0, 3, (upd fc c x3))) := (F17 _ (Ne.symm (ua 40 (by decide)))).trans k13
  refine j_aload_n (k4 := 0) (dQ (by decide +kernel)) rfl ?_
  refine j_iconst (n := 0) (dQ (by decide +kernel)) ?_
  refine j_cV (own := 11) (i := 48) (y2 := 17) (d2 := 1) (mc := 0) (ms := 0) (kc := 0) (ks := 0) (a := b0 + 0) (As := [.int (Int32.ofInt 0)]) (st := []) (dQ (by decide +kernel)) hcls (by decide +kernel) (by decide) (by decide +kernel) (show 1 = jnp 17 by decide +kernel) (by decide) (show 0 ≤ 8 by decide) k18 (fun r hr => by cases hr; decide +kernel) (x_allow k18 lx) (fun v hv24 hq => ?_)
  obtain ⟨rfl, rfl⟩ := hq
  have n25 : (fsx.set 7 (.int (Int32.ofInt 0))).length = 12 := by rw [List.length_set]; exact lx
  have f26 : (fsx.set 7 (.int (Int32.ofInt 0)))[0]? = some (.ref (g.2.2 + (b0 + 1))) := by
    rw [List.getElem?_set_ne (by decide)]
    exact px0
  have k27 : (hv16.set (b0 + 0) (.inr (11, (fsx.set 7 (.int (Int32.ofInt 0))))))[b0 + 0]? = some (.inr (11, (fsx.set 7 (.int (Int32.ofInt 0))))) := List.getElem?_set_self (List.getElem?_eq_some_iff.mp k18).1
  have k28 : (hv16.set (b0 + 0) (.inr (11, (fsx.set 7 (.int (Int32.ofInt 0))))))[b0 + 1]? = some (.inr (7, fss)) := by
    rw [List.getElem?_set_ne (by omega)]
    exact k19
  have k29 : (hv16.set (b0 + 0) (.inr (11, (fsx.set 7 (.int (Int32.ofInt 0))))))[b0 + 37]? = some (.inr (6, fsi)) := by
    rw [List.getElem?_set_ne (by omega)]
    exact k20
  have k30 : (hv16.set (b0 + 0) (.inr (11, (fsx.set 7 (.int (Int32.ofInt 0))))))[b0 + 39]? = some (.inl (0, 3, (upd fb c x2))) := by
    rw [List.getElem?_set_ne (by omega)]
    exact k21
  have k31 : (hv16.set (b0 + 0) (.inr (11, (fsx.set 7 (.int (Int32.ofInt 0))))))[b0 + 40]? = some (.inl (0, 3, (upd fc c x3))) := by
    rw [List.getElem?_set_ne (by omega)]
    exact k22
  exact j_ret (v := some (.int (Int32.ofInt 0))) ⟨by decide +kernel, Or.inl (by decide +kernel)⟩ ⟨hv16, F17, rfl, rfl⟩ rfl
set_option maxRecDepth 8192 in
theorem xk_start_okp {b0 : Nat} {fsx : List Value} {fss : List Value} {fsi : List Value} {fb : Nat → Int32} {fc : Nat → Int32} {x1 : Int32} {x2 : Int32} {x3 : Int32} {t : Int32} {n : Nat} {c : Nat} (hx : h[b0 + 0]? = some (.inr (11, fsx))) (lx : fsx.length = 12) (px0 : fsx[0]? = some (.ref (g.2.2 + (b0 + 1)))) (hs : h[b0 + 1]? = some (.inr (7, fss))) (ls : fss.length = 20) (ps18 : fss[18]? = some (.ref (g.2.2 + (b0 + 37)))) (hi : h[b0 + 37]? = some (.inr (6, fsi))) (li : fsi.length = 8) (pi0 : fsi[0]? = some (.int t)) (pi2 : fsi[2]? = some (.ref (g.2.2 + (b0 + 39)))) (pi3 : fsi[3]? = some (.ref (g.2.2 + (b0 + 40)))) (hb : h[b0 + 39]? = some (.inl (0, 3, fb))) (hc : h[b0 + 40]? = some (.inl (0, 3, fc))) (g2 : 0 ≤ x2.toInt ∧ x2.toInt ≤ 11) (g3 : 0 ≤ x3.toInt ∧ x3.toInt ≤ 9999) (e1 : x1.toInt = (c : Int)) (g1 : c < n) (et : t.toInt = (n : Int)) (en : 1 ≤ n ∧ n ≤ 3) {a : Nat} (ua : ∀ o, o < 62 → a + 0 ≠ b0 + o) (hM : MEN g h a fsx) : jCal l g 130 2 [.ref (g.2.2 + (b0 + 0)), .int x1, .int x2, .int x3] h 0 0 (fun v h' => ∃ hv18, FgM (a + 0) ((h.set (b0 + 39) (.inl (0, 3, (upd fb c x2)))).set (b0 + 40) (.inl (0, 3, (upd fc c x3)))) hv18 ∧ v = some (.int (Int32.ofInt 0)) ∧ h' = (hv18.set (b0 + 0) (.inr (11, (fsx.set 7 (.int (Int32.ofInt 0))))))) := by
  have hcls : jcN 11 = (jyN 130).cls := by decide +kernel
  have cn0 : (Int32.ofInt (-1)).toInt = -1 := by decide
  have cn1 : (Int32.ofInt 1).toInt = 1 := by decide
  have cn2 : (Int32.ofInt 0).toInt = 0 := by decide
  refine jCal_of (by decide +kernel) (show 4 ≤ jmx 130 by decide +kernel) ?_
  show J l g 130 2 0 [some (.ref (g.2.2 + (b0 + 0))), some (.int x1), some (.int x2), some (.int x3)] [] h 0 0 _
  refine j_iload_n (k4 := 2) (dQ (by decide +kernel)) rfl ?_
  refine j_iconst (n := (-1)) (dQ (by decide +kernel)) ?_
  refine j_icmp_eq (off := 10) (tgt := 12) (dQ (by decide +kernel)) (by decide) (fun q => absurd (congrArg Int32.toInt q) (by omega)) (fun _ => ?_)
  refine j_iload_n (k4 := 2) (dQ (by decide +kernel)) rfl ?_
  refine j_cS (own := 11) (i := 34) (y2 := 14) (d2 := 1) (mc := 0) (ms := 0) (kc := 0) (ks := 0) (As := [.int x2]) (st := []) (dQ (by decide +kernel)) hcls (by decide +kernel) (by decide) (by decide +kernel) (show 1 = jnp 14 by decide +kernel) (by decide) (show 0 ≤ 8 by decide) (x_isBerth_1 (by omega) (by omega)) (fun v hv2 hq => ?_)
  obtain ⟨rfl, rfl⟩ := hq
  refine j_if_eq (off := 10) (tgt := 19) (dQ (by decide +kernel)) (by decide) (fun q => absurd (congrArg Int32.toInt q) (by rw [i32_z]; omega)) (fun _ => ?_)
  refine j_iload_n (k4 := 3) (dQ (by decide +kernel)) rfl ?_
  refine j_cS (own := 11) (i := 63) (y2 := 21) (d2 := 1) (mc := 0) (ms := 0) (kc := 0) (ks := 0) (As := [.int x3]) (st := []) (dQ (by decide +kernel)) hcls (by decide +kernel) (by decide) (by decide +kernel) (show 1 = jnp 21 by decide +kernel) (by decide) (show 0 ≤ 8 by decide) (x_isMinute_1 (by omega) (by omega)) (fun v hv4 hq => ?_)
  obtain ⟨rfl, rfl⟩ := hq
  refine j_if_ne (off := 9) (tgt := 25) (dQ (by decide +kernel)) (by decide) (fun _ => ?_) (fun q => absurd (fun q => absurd (congrArg Int32.toInt q) (by rw [i32_z]; omega)) q)
  refine j_iload_n (k4 := 1) (dQ (by decide +kernel)) rfl ?_
  refine j_if_lt (off := 17) (tgt := 43) (dQ (by decide +kernel)) (by decide) (fun q => absurd (i32_lt.mp q) (by rw [i32_z]; omega)) (fun _ => ?_)
  refine j_iload_n (k4 := 1) (dQ (by decide +kernel)) rfl ?_
  refine j_aload_n (k4 := 0) (dQ (by decide +kernel)) rfl ?_
  refine j_get (own := 11) (i := 10) (ci := 11) (f := 0) (dQ (by decide +kernel)) hcls (by decide +kernel) hx (fun r hr => by cases hr; decide +kernel) px0 ?_
  refine j_get (own := 11) (i := 239) (ci := 7) (f := 18) (dQ (by decide +kernel)) hcls (by decide +kernel) hs (fun r hr => by cases hr; decide +kernel) ps18 ?_
  refine j_get (own := 11) (i := 248) (ci := 6) (f := 0) (dQ (by decide +kernel)) hcls (by decide +kernel) hi (fun r hr => by cases hr; decide +kernel) pi0 ?_
  refine j_icmp_lt (off := 10) (tgt := 50) (dQ (by decide +kernel)) (by decide) (fun _ => ?_) (fun q => absurd (i32_lt.mpr (by omega)) q)
  refine j_aload_n (k4 := 0) (dQ (by decide +kernel)) rfl ?_
  refine j_get (own := 11) (i := 10) (ci := 11) (f := 0) (dQ (by decide +kernel)) hcls (by decide +kernel) hx (fun r hr => by cases hr; decide +kernel) px0 ?_
  refine j_get (own := 11) (i := 239) (ci := 7) (f := 18) (dQ (by decide +kernel)) hcls (by decide +kernel) hs (fun r hr => by cases hr; decide +kernel) ps18 ?_
  refine j_get (own := 11) (i := 251) (ci := 6) (f := 2) (dQ (by decide +kernel)) hcls (by decide +kernel) hi (fun r hr => by cases hr; decide +kernel) pi2 ?_
  refine j_iload_n (k4 := 1) (dQ (by decide +kernel)) rfl ?_
  refine j_iload_n (k4 := 2) (dQ (by decide +kernel)) rfl ?_
  refine x_ast c (dQ (by decide +kernel)) hb (by omega) (by omega) ?_
  have k5 : (h.set (b0 + 39) (.inl (0, 3, (upd fb c x2))))[b0 + 0]? = some (.inr (11, fsx)) := by
    rw [List.getElem?_set_ne (by omega)]
    exact hx
  have k6 : (h.set (b0 + 39) (.inl (0, 3, (upd fb c x2))))[b0 + 1]? = some (.inr (7, fss)) := by
    rw [List.getElem?_set_ne (by omega)]
    exact hs
  have k7 : (h.set (b0 + 39) (.inl (0, 3, (upd fb c x2))))[b0 + 37]? = some (.inr (6, fsi)) := by
    rw [List.getElem?_set_ne (by omega)]
    exact hi
  have k8 : (h.set (b0 + 39) (.inl (0, 3, (upd fb c x2))))[b0 + 39]? = some (.inl (0, 3, (upd fb c x2))) := List.getElem?_set_self (List.getElem?_eq_some_iff.mp hb).1
  have k9 : (h.set (b0 + 39) (.inl (0, 3, (upd fb c x2))))[b0 + 40]? = some (.inl (0, 3, fc)) := by
    rw [List.getElem?_set_ne (by omega)]
    exact hc
  have M10 : MEN g (h.set (b0 + 39) (.inl (0, 3, (upd fb c x2)))) a fsx := (hM.set (Ne.symm (ua 39 (by decide))))
  refine j_aload_n (k4 := 0) (dQ (by decide +kernel)) rfl ?_
  refine j_get (own := 11) (i := 10) (ci := 11) (f := 0) (dQ (by decide +kernel)) hcls (by decide +kernel) k5 (fun r hr => by cases hr; decide +kernel) px0 ?_
  refine j_get (own := 11) (i := 239) (ci := 7) (f := 18) (dQ (by decide +kernel)) hcls (by decide +kernel) k6 (fun r hr => by cases hr; decide +kernel) ps18 ?_
  refine j_get (own := 11) (i := 254) (ci := 6) (f := 3) (dQ (by decide +kernel)) hcls (by decide +kernel) k7 (fun r hr => by cases hr; decide +kernel) pi3 ?_
  refine j_iload_n (k4 := 1) (dQ (by decide +kernel)) rfl ?_
  refine j_iload_n (k4 := 3) (dQ (by decide +kernel)) rfl ?_
  refine x_ast c (dQ (by decide +kernel)) k9 (by omega) (by omega) ?_
  have k11 : ((h.set (b0 + 39) (.inl (0, 3, (upd fb c x2)))).set (b0 + 40) (.inl (0, 3, (upd fc c x3))))[b0 + 0]? = some (.inr (11, fsx)) := by
    rw [List.getElem?_set_ne (by omega)]
    exact k5
  have k12 : ((h.set (b0 + 39) (.inl (0, 3, (upd fb c x2)))).set (b0 + 40) (.inl (0, 3, (upd fc c x3))))[b0 + 1]? = some (.inr (7, fss)) := by
    rw [List.getElem?_set_ne (by omega)]
    exact k6
  have k13 : ((h.set (b0 + 39) (.inl (0, 3, (upd fb c x2)))).set (b0 + 40) (.inl (0, 3, (upd fc c x3))))[b0 + 37]? = some (.inr (6, fsi)) := by
    rw [List.getElem?_set_ne (by omega)]
    exact k7
  have k14 : ((h.set (b0 + 39) (.inl (0, 3, (upd fb c x2)))).set (b0 + 40) (.inl (0, 3, (upd fc c x3))))[b0 + 39]? = some (.inl (0, 3, (upd fb c x2))) := by
    rw [List.getElem?_set_ne (by omega)]
    exact k8
  have k15 : ((h.set (b0 + 39) (.inl (0, 3, (upd fb c x2)))).set (b0 + 40) (.inl (0, 3, (upd fc c x3))))[b0 + 40]? = some (.inl (0, 3, (upd fc c x3))) := List.getElem?_set_self (List.getElem?_eq_some_iff.mp k9).1
  have M16 : MEN g ((h.set (b0 + 39) (.inl (0, 3, (upd fb c x2)))).set (b0 + 40) (.inl (0, 3, (upd fc c x3)))) a fsx := (M10.set (Ne.symm (ua 40 (by decide))))
  refine j_aload_n (k4 := 0) (dQ (by decide +kernel)) rfl ?_
  refine j_cV (own := 11) (i := 235) (y2 := 127) (d2 := 1) (mc := 0) (ms := 0) (kc := 0) (ks := 0) (a := b0 + 0) (As := []) (st := []) (dQ (by decide +kernel)) hcls (by decide +kernel) (by decide) (by decide +kernel) (show 0 = jnp 127 by decide +kernel) (by decide) (show 0 ≤ 8 by decide) k11 (fun r hr => by cases hr; decide +kernel) (x_forget k11 M16) (fun v hv18 hq => ?_)
  obtain ⟨rfl, F19⟩ := hq
  have k20 : hv18[b0 + 0]? = some (.inr (11, fsx)) := (F19 _ (Ne.symm (ua 0 (by decide)))).trans k11
  have k21 : hv18[b0 + 1]? = some (.inr (7, fss)) := (F19 _ (Ne.symm (ua 1 (by decide)))).trans k12
  have k22 : hv18[b0 + 37]? = some (.inr (6, fsi)) := (F19 _ (Ne.symm (ua 37 (by decide)))).trans k13
  have k23 : hv18[b0 + 39]? = some (.inl (0, 3, (upd fb c x2))) := (F19 _ (Ne.symm (ua 39 (by decide)))).trans k14
  have k24 : hv18[b0 + 40]? = some (.inl (0, 3, (upd fc c x3))) := (F19 _ (Ne.symm (ua 40 (by decide)))).trans k15
  refine j_aload_n (k4 := 0) (dQ (by decide +kernel)) rfl ?_
  refine j_iconst (n := 0) (dQ (by decide +kernel)) ?_
  refine j_cV (own := 11) (i := 48) (y2 := 17) (d2 := 1) (mc := 0) (ms := 0) (kc := 0) (ks := 0) (a := b0 + 0) (As := [.int (Int32.ofInt 0)]) (st := []) (dQ (by decide +kernel)) hcls (by decide +kernel) (by decide) (by decide +kernel) (show 1 = jnp 17 by decide +kernel) (by decide) (show 0 ≤ 8 by decide) k20 (fun r hr => by cases hr; decide +kernel) (x_allow k20 lx) (fun v hv26 hq => ?_)
  obtain ⟨rfl, rfl⟩ := hq
  have n27 : (fsx.set 7 (.int (Int32.ofInt 0))).length = 12 := by rw [List.length_set]; exact lx
  have f28 : (fsx.set 7 (.int (Int32.ofInt 0)))[0]? = some (.ref (g.2.2 + (b0 + 1))) := by
    rw [List.getElem?_set_ne (by decide)]
    exact px0
  have k29 : (hv18.set (b0 + 0) (.inr (11, (fsx.set 7 (.int (Int32.ofInt 0))))))[b0 + 0]? = some (.inr (11, (fsx.set 7 (.int (Int32.ofInt 0))))) := List.getElem?_set_self (List.getElem?_eq_some_iff.mp k20).1
  have k30 : (hv18.set (b0 + 0) (.inr (11, (fsx.set 7 (.int (Int32.ofInt 0))))))[b0 + 1]? = some (.inr (7, fss)) := by
    rw [List.getElem?_set_ne (by omega)]
    exact k21
  have k31 : (hv18.set (b0 + 0) (.inr (11, (fsx.set 7 (.int (Int32.ofInt 0))))))[b0 + 37]? = some (.inr (6, fsi)) := by
    rw [List.getElem?_set_ne (by omega)]
    exact k22
  have k32 : (hv18.set (b0 + 0) (.inr (11, (fsx.set 7 (.int (Int32.ofInt 0))))))[b0 + 39]? = some (.inl (0, 3, (upd fb c x2))) := by
    rw [List.getElem?_set_ne (by omega)]
    exact k23
  have k33 : (hv18.set (b0 + 0) (.inr (11, (fsx.set 7 (.int (Int32.ofInt 0))))))[b0 + 40]? = some (.inl (0, 3, (upd fc c x3))) := by
    rw [List.getElem?_set_ne (by omega)]
    exact k24
  exact j_ret (v := some (.int (Int32.ofInt 0))) ⟨by decide +kernel, Or.inl (by decide +kernel)⟩ ⟨hv18, F19, rfl, rfl⟩ rfl
set_option maxRecDepth 8192 in
theorem xr_start_ok {b1 : Nat} {fsm : List Value} {fr : Nat → Int32} {x1 : Int32} {x2 : Int32} {x3 : Int32} {t : Int32} {n : Nat} {c : Nat} (hm : h[b1 + 0]? = some (.inr (12, fsm))) (lm : fsm.length = 42) (pm2 : fsm[2]? = some (.ref (g.2.2 + (b1 + 1)))) (hr : h[b1 + 1]? = some (.inl (0, 5270, fr))) (g2 : -1 ≤ x2.toInt ∧ x2.toInt ≤ 11) (g3 : 0 ≤ x3.toInt ∧ x3.toInt ≤ 9999) (e1 : x1.toInt = (c : Int)) (g1 : c < n) (et : t.toInt = (n : Int)) (en : 1 ≤ n ∧ n ≤ 3) (qt : fr 3 = t) : jCal l g 280 3 [.ref (g.2.2 + (b1 + 0)), .int x1, .int x2, .int x3] h 0 0 (fun v h' => v = some (.int (Int32.ofInt 0)) ∧ h' = ((((h.set (b1 + 0) (.inr (12, (fsm.set 0 (.int (Int32.ofInt 0)))))).set (b1 + 1) (.inl (0, 5270, (upd fr (5024 + (2 * c)) x2)))).set (b1 + 1) (.inl (0, 5270, (upd (upd fr (5024 + (2 * c)) x2) ((5024 + (2 * c)) + 1) x3)))).set (b1 + 0) (.inr (12, ((fsm.set 0 (.int (Int32.ofInt 0))).set 1 (.int (Int32.ofInt 0))))))) := by
  have hcls : jcN 12 = (jyN 280).cls := by decide +kernel
  have cn0 : (Int32.ofInt 0).toInt = 0 := by decide
  have cn1 : (Int32.ofInt 1).toInt = 1 := by decide
  have cn2 : (Int32.ofInt 3).toInt = 3 := by decide
  have cn3 : (Int32.ofInt 5024).toInt = 5024 := by decide
  have cn4 : (Int32.ofInt 2).toInt = 2 := by decide
  refine jCal_of (by decide +kernel) (show 4 ≤ jmx 280 by decide +kernel) ?_
  show J l g 280 3 0 [some (.ref (g.2.2 + (b1 + 0))), some (.int x1), some (.int x2), some (.int x3)] [] h 0 0 _
  refine j_aload_n (k4 := 0) (dQ (by decide +kernel)) rfl ?_
  refine j_iconst (n := 0) (dQ (by decide +kernel)) ?_
  refine j_put (own := 12) (i := 94) (ci := 12) (f := 0) (ty := .int) (dQ (by decide +kernel)) hcls (by decide +kernel) hm rfl (by decide +kernel) (by rw [lm]; decide) (by decide +kernel) (by decide +kernel) rfl rfl ?_
  have n1 : (fsm.set 0 (.int (Int32.ofInt 0))).length = 42 := by rw [List.length_set]; exact lm
  have f2 : (fsm.set 0 (.int (Int32.ofInt 0)))[2]? = some (.ref (g.2.2 + (b1 + 1))) := by
    rw [List.getElem?_set_ne (by decide)]
    exact pm2
  have f3 : (fsm.set 0 (.int (Int32.ofInt 0)))[0]? = some (.int (Int32.ofInt 0)) := List.getElem?_set_self (by rw [lm]; decide)
  have k4 : (h.set (b1 + 0) (.inr (12, (fsm.set 0 (.int (Int32.ofInt 0))))))[b1 + 0]? = some (.inr (12, (fsm.set 0 (.int (Int32.ofInt 0))))) := List.getElem?_set_self (List.getElem?_eq_some_iff.mp hm).1
  have k5 : (h.set (b1 + 0) (.inr (12, (fsm.set 0 (.int (Int32.ofInt 0))))))[b1 + 1]? = some (.inl (0, 5270, fr)) := by
    rw [List.getElem?_set_ne (by omega)]
    exact hr
  refine j_iload_n (k4 := 2) (dQ (by decide +kernel)) rfl ?_
  refine x_i2l (dQ (by decide +kernel)) (fun r6 hr6 => ?_)
  refine j_ldc2 (own := 12) (i := 163) (v := -1) hcls (by decide +kernel) (by decide +kernel) ?_
  have hq7 : (-1 : Int64).toInt = -1 := by decide
  refine j_ldc2 (own := 12) (i := 108) (v := 11) hcls (by decide +kernel) (by decide +kernel) ?_
  have hq8 : (11 : Int64).toInt = 11 := by decide
  refine j_cS (own := 12) (i := 100) (y2 := 205) (d2 := 1) (mc := 0) (ms := 0) (kc := 0) (ks := 0) (As := [.long r6, .long (-1 : Int64), .long (11 : Int64)]) (st := []) (dQ (by decide +kernel)) hcls (by decide +kernel) (by decide) (by decide +kernel) (show 3 = jnp 205 by decide +kernel) (by decide) (show 0 ≤ 8 by decide) (xm_in_1 (by omega) (by omega)) (fun v hv10 hq => ?_)
  obtain ⟨rfl, rfl⟩ := hq
  refine j_if_eq (off := 10) (tgt := 26) (dQ (by decide +kernel)) (by decide) (fun q => absurd (congrArg Int32.toInt q) (by rw [i32_z]; omega)) (fun _ => ?_)
  refine j_iload_n (k4 := 3) (dQ (by decide +kernel)) rfl ?_
  refine j_cS (own := 12) (i := 288) (y2 := 238) (d2 := 2) (mc := 0) (ms := 0) (kc := 0) (ks := 0) (As := [.int x3]) (st := []) (dQ (by decide +kernel)) hcls (by decide +kernel) (by decide) (by decide +kernel) (show 1 = jnp 238 by decide +kernel) (by decide) (show 0 ≤ 8 by decide) (xm_isMinute_1 (by omega) (by omega)) (fun v hv12 hq => ?_)
  obtain ⟨rfl, rfl⟩ := hq
  refine j_if_ne (off := 9) (tgt := 32) (dQ (by decide +kernel)) (by decide) (fun _ => ?_) (fun q => absurd (fun q => absurd (congrArg Int32.toInt q) (by rw [i32_z]; omega)) q)
  refine j_iload_n (k4 := 1) (dQ (by decide +kernel)) rfl ?_
  refine x_i2l (dQ (by decide +kernel)) (fun r13 hr13 => ?_)
  refine j_lconst (n := 0) (dQ (by decide +kernel)) ?_
  have hq14 : (Int64.ofNat ((0 : Fin 2) : Nat)).toInt = 0 := by decide
  refine j_aload_n (k4 := 0) (dQ (by decide +kernel)) rfl ?_
  refine j_get (own := 12) (i := 7) (ci := 12) (f := 2) (dQ (by decide +kernel)) hcls (by decide +kernel) k4 (fun r hr => by cases hr; decide +kernel) f2 ?_
  refine j_iconst (n := 3) (dQ (by decide +kernel)) ?_
  refine x_aldv (v := t) 3 (dQ (by decide +kernel)) k5 (by omega) (by omega) (by rw [qt]) ?_
  refine x_i2l (dQ (by decide +kernel)) (fun r15 hr15 => ?_)
  refine j_lconst (n := 1) (dQ (by decide +kernel)) ?_
  have hq16 : (Int64.ofNat ((1 : Fin 2) : Nat)).toInt = 1 := by decide
  refine x_lsub (dQ (by decide +kernel)) (by omega) (fun r17 hr17 => ?_)
  refine j_cS (own := 12) (i := 100) (y2 := 205) (d2 := 1) (mc := 0) (ms := 0) (kc := 0) (ks := 0) (As := [.long r13, .long (Int64.ofNat ((0 : Fin 2) : Nat)), .long r17]) (st := []) (dQ (by decide +kernel)) hcls (by decide +kernel) (by decide) (by decide +kernel) (show 3 = jnp 205 by decide +kernel) (by decide) (show 0 ≤ 8 by decide) (xm_in_1 (by omega) (by omega)) (fun v hv19 hq => ?_)
  obtain ⟨rfl, rfl⟩ := hq
  refine j_if_ne (off := 10) (tgt := 57) (dQ (by decide +kernel)) (by decide) (fun _ => ?_) (fun q => absurd (fun q => absurd (congrArg Int32.toInt q) (by rw [i32_z]; omega)) q)
  refine j_aload_n (k4 := 0) (dQ (by decide +kernel)) rfl ?_
  refine j_get (own := 12) (i := 7) (ci := 12) (f := 2) (dQ (by decide +kernel)) hcls (by decide +kernel) k4 (fun r hr => by cases hr; decide +kernel) f2 ?_
  refine x_si (n := 5024) (dQ (by decide +kernel)) (by decide) ?_
  refine j_iconst (n := 2) (dQ (by decide +kernel)) ?_
  refine j_iload_n (k4 := 1) (dQ (by decide +kernel)) rfl ?_
  refine x_mul (z := 2 * x1.toInt) (dQ (by decide +kernel)) (by rw [cn4]) (by omega) (fun r20 hr20 => ?_)
  refine x_add (dQ (by decide +kernel)) (by omega) (fun r21 hr21 => ?_)
  refine j_iload_n (k4 := 2) (dQ (by decide +kernel)) rfl ?_
  refine x_ast (5024 + (2 * c)) (dQ (by decide +kernel)) k5 (by omega) (by omega) ?_
  have k22 : ((h.set (b1 + 0) (.inr (12, (fsm.set 0 (.int (Int32.ofInt 0)))))).set (b1 + 1) (.inl (0, 5270, (upd fr (5024 + (2 * c)) x2))))[b1 + 0]? = some (.inr (12, (fsm.set 0 (.int (Int32.ofInt 0))))) := by
    rw [List.getElem?_set_ne (by omega)]
    exact k4
  have k23 : ((h.set (b1 + 0) (.inr (12, (fsm.set 0 (.int (Int32.ofInt 0)))))).set (b1 + 1) (.inl (0, 5270, (upd fr (5024 + (2 * c)) x2))))[b1 + 1]? = some (.inl (0, 5270, (upd fr (5024 + (2 * c)) x2))) := List.getElem?_set_self (List.getElem?_eq_some_iff.mp k5).1
  refine j_aload_n (k4 := 0) (dQ (by decide +kernel)) rfl ?_
  refine j_get (own := 12) (i := 7) (ci := 12) (f := 2) (dQ (by decide +kernel)) hcls (by decide +kernel) k22 (fun r hr => by cases hr; decide +kernel) f2 ?_
  refine x_si (n := 5024) (dQ (by decide +kernel)) (by decide) ?_
  refine j_iconst (n := 2) (dQ (by decide +kernel)) ?_
  refine j_iload_n (k4 := 1) (dQ (by decide +kernel)) rfl ?_
  refine x_mul (z := 2 * x1.toInt) (dQ (by decide +kernel)) (by rw [cn4]) (by omega) (fun r24 hr24 => ?_)
  refine x_add (dQ (by decide +kernel)) (by omega) (fun r25 hr25 => ?_)
  refine j_iconst (n := 1) (dQ (by decide +kernel)) ?_
  refine x_add (dQ (by decide +kernel)) (by omega) (fun r26 hr26 => ?_)
  refine j_iload_n (k4 := 3) (dQ (by decide +kernel)) rfl ?_
  refine x_ast ((5024 + (2 * c)) + 1) (dQ (by decide +kernel)) k23 (by omega) (by omega) ?_
  have k27 : (((h.set (b1 + 0) (.inr (12, (fsm.set 0 (.int (Int32.ofInt 0)))))).set (b1 + 1) (.inl (0, 5270, (upd fr (5024 + (2 * c)) x2)))).set (b1 + 1) (.inl (0, 5270, (upd (upd fr (5024 + (2 * c)) x2) ((5024 + (2 * c)) + 1) x3))))[b1 + 0]? = some (.inr (12, (fsm.set 0 (.int (Int32.ofInt 0))))) := by
    rw [List.getElem?_set_ne (by omega)]
    exact k22
  have k28 : (((h.set (b1 + 0) (.inr (12, (fsm.set 0 (.int (Int32.ofInt 0)))))).set (b1 + 1) (.inl (0, 5270, (upd fr (5024 + (2 * c)) x2)))).set (b1 + 1) (.inl (0, 5270, (upd (upd fr (5024 + (2 * c)) x2) ((5024 + (2 * c)) + 1) x3))))[b1 + 1]? = some (.inl (0, 5270, (upd (upd fr (5024 + (2 * c)) x2) ((5024 + (2 * c)) + 1) x3))) := List.getElem?_set_self (List.getElem?_eq_some_iff.mp k23).1
  refine j_aload_n (k4 := 0) (dQ (by decide +kernel)) rfl ?_
  refine j_iconst (n := 0) (dQ (by decide +kernel)) ?_
  refine j_cV (own := 12) (i := 104) (y2 := 206) (d2 := 1) (mc := 0) (ms := 0) (kc := 0) (ks := 0) (a := b1 + 0) (As := [.int (Int32.ofInt 0)]) (st := []) (dQ (by decide +kernel)) hcls (by decide +kernel) (by decide) (by decide +kernel) (show 1 = jnp 206 by decide +kernel) (by decide) (show 0 ≤ 8 by decide) k27 (fun r hr => by cases hr; decide +kernel) (xm_tellP k27 n1 (by omega)) (fun v hv30 hq => ?_)
  obtain ⟨rfl, rfl⟩ := hq
  have n31 : ((fsm.set 0 (.int (Int32.ofInt 0))).set 1 (.int (Int32.ofInt 0))).length = 42 := by rw [List.length_set]; exact n1
  have f32 : ((fsm.set 0 (.int (Int32.ofInt 0))).set 1 (.int (Int32.ofInt 0)))[2]? = some (.ref (g.2.2 + (b1 + 1))) := by
    rw [List.getElem?_set_ne (by decide)]
    exact f2
  have f33 : ((fsm.set 0 (.int (Int32.ofInt 0))).set 1 (.int (Int32.ofInt 0)))[0]? = some (.int (Int32.ofInt 0)) := by
    rw [List.getElem?_set_ne (by decide)]
    exact f3
  have k34 : ((((h.set (b1 + 0) (.inr (12, (fsm.set 0 (.int (Int32.ofInt 0)))))).set (b1 + 1) (.inl (0, 5270, (upd fr (5024 + (2 * c)) x2)))).set (b1 + 1) (.inl (0, 5270, (upd (upd fr (5024 + (2 * c)) x2) ((5024 + (2 * c)) + 1) x3)))).set (b1 + 0) (.inr (12, ((fsm.set 0 (.int (Int32.ofInt 0))).set 1 (.int (Int32.ofInt 0))))))[b1 + 0]? = some (.inr (12, ((fsm.set 0 (.int (Int32.ofInt 0))).set 1 (.int (Int32.ofInt 0))))) := List.getElem?_set_self (List.getElem?_eq_some_iff.mp k27).1
  have k35 : ((((h.set (b1 + 0) (.inr (12, (fsm.set 0 (.int (Int32.ofInt 0)))))).set (b1 + 1) (.inl (0, 5270, (upd fr (5024 + (2 * c)) x2)))).set (b1 + 1) (.inl (0, 5270, (upd (upd fr (5024 + (2 * c)) x2) ((5024 + (2 * c)) + 1) x3)))).set (b1 + 0) (.inr (12, ((fsm.set 0 (.int (Int32.ofInt 0))).set 1 (.int (Int32.ofInt 0))))))[b1 + 1]? = some (.inl (0, 5270, (upd (upd fr (5024 + (2 * c)) x2) ((5024 + (2 * c)) + 1) x3))) := by
    rw [List.getElem?_set_ne (by omega)]
    exact k28
  exact j_ret (v := some (.int (Int32.ofInt 0))) ⟨by decide +kernel, Or.inl (by decide +kernel)⟩ ⟨rfl, rfl⟩ rfl
set_option maxRecDepth 8192 in
theorem xk_see_0l {b0 : Nat} {fsx : List Value} {x1 : Int32} {x2 : Int32} {x3 : Int32} (hx : h[b0 + 0]? = some (.inr (11, fsx))) (lx : fsx.length = 12) (px0 : fsx[0]? = some (.ref (g.2.2 + (b0 + 1)))) (u : x1.toInt < 0) : jCal l g 131 2 [.ref (g.2.2 + (b0 + 0)), .int x1, .int x2, .int x3] h 0 0 (fun v h' => v = some (.int (Int32.ofInt (-1))) ∧ h' = (h.set (b0 + 0) (.inr (11, (fsx.set 7 (.int (Int32.ofInt (-1)))))))) := by
  have hcls : jcN 11 = (jyN 131).cls := by decide +kernel
  have cn0 : (Int32.ofInt 0).toInt = 0 := by decide
  have cn1 : (Int32.ofInt (-1)).toInt = -1 := by decide
  refine jCal_of (by decide +kernel) (show 4 ≤ jmx 131 by decide +kernel) ?_
  show J l g 131 2 0 [some (.ref (g.2.2 + (b0 + 0))), some (.int x1), some (.int x2), some (.int x3), none] [] h 0 0 _
  refine j_iload_n (k4 := 1) (dQ (by decide +kernel)) rfl ?_
  refine j_cS (own := 11) (i := 63) (y2 := 21) (d2 := 1) (mc := 0) (ms := 0) (kc := 0) (ks := 0) (As := [.int x1]) (st := []) (dQ (by decide +kernel)) hcls (by decide +kernel) (by decide) (by decide +kernel) (show 1 = jnp 21 by decide +kernel) (by decide) (show 0 ≤ 8 by decide) (x_isMinute_0l (by omega)) (fun v hv2 hq => ?_)
  obtain ⟨rfl, rfl⟩ := hq
  refine j_if_eq (off := 21) (tgt := 25) (dQ (by decide +kernel)) (by decide) (fun _ => ?_) (fun q => absurd (i32_eq (show _ = (0 : Int32).toInt by rw [i32_z]; omega)) q)
  refine j_aload_n (k4 := 0) (dQ (by decide +kernel)) rfl ?_
  refine j_iconst (n := (-1)) (dQ (by decide +kernel)) ?_
  refine j_cV (own := 11) (i := 41) (y2 := 16) (d2 := 1) (mc := 0) (ms := 0) (kc := 0) (ks := 0) (a := b0 + 0) (As := [.int (Int32.ofInt (-1))]) (st := []) (dQ (by decide +kernel)) hcls (by decide +kernel) (by decide) (by decide +kernel) (show 1 = jnp 16 by decide +kernel) (by decide) (show 0 ≤ 8 by decide) hx (fun r hr => by cases hr; decide +kernel) (x_refuse hx lx) (fun v hv4 hq => ?_)
  obtain ⟨rfl, rfl⟩ := hq
  have n5 : (fsx.set 7 (.int (Int32.ofInt (-1)))).length = 12 := by rw [List.length_set]; exact lx
  have f6 : (fsx.set 7 (.int (Int32.ofInt (-1))))[0]? = some (.ref (g.2.2 + (b0 + 1))) := by
    rw [List.getElem?_set_ne (by decide)]
    exact px0
  have k7 : (h.set (b0 + 0) (.inr (11, (fsx.set 7 (.int (Int32.ofInt (-1)))))))[b0 + 0]? = some (.inr (11, (fsx.set 7 (.int (Int32.ofInt (-1)))))) := List.getElem?_set_self (List.getElem?_eq_some_iff.mp hx).1
  exact j_ret (v := some (.int (Int32.ofInt (-1)))) ⟨by decide +kernel, Or.inl (by decide +kernel)⟩ ⟨rfl, rfl⟩ rfl
set_option maxRecDepth 8192 in
theorem xr_see_0l {b1 : Nat} {fsm : List Value} {x1 : Int32} {x2 : Int32} {x3 : Int32} (hm : h[b1 + 0]? = some (.inr (12, fsm))) (lm : fsm.length = 42) (pm2 : fsm[2]? = some (.ref (g.2.2 + (b1 + 1)))) (u : x1.toInt < 0) : jCal l g 281 3 [.ref (g.2.2 + (b1 + 0)), .int x1, .int x2, .int x3] h 0 0 (fun v h' => v = some (.int (Int32.ofInt (-1))) ∧ h' = ((h.set (b1 + 0) (.inr (12, (fsm.set 0 (.int (Int32.ofInt 0)))))).set (b1 + 0) (.inr (12, ((fsm.set 0 (.int (Int32.ofInt 0))).set 1 (.int (Int32.ofInt (-1)))))))) := by
  have hcls : jcN 12 = (jyN 281).cls := by decide +kernel
  have cn0 : (Int32.ofInt 0).toInt = 0 := by decide
  have cn1 : (Int32.ofInt (-1)).toInt = -1 := by decide
  refine jCal_of (by decide +kernel) (show 4 ≤ jmx 281 by decide +kernel) ?_
  show J l g 281 3 0 [some (.ref (g.2.2 + (b1 + 0))), some (.int x1), some (.int x2), some (.int x3), none] [] h 0 0 _
  refine j_aload_n (k4 := 0) (dQ (by decide +kernel)) rfl ?_
  refine j_iconst (n := 0) (dQ (by decide +kernel)) ?_
  refine j_put (own := 12) (i := 94) (ci := 12) (f := 0) (ty := .int) (dQ (by decide +kernel)) hcls (by decide +kernel) hm rfl (by decide +kernel) (by rw [lm]; decide) (by decide +kernel) (by decide +kernel) rfl rfl ?_
  have n1 : (fsm.set 0 (.int (Int32.ofInt 0))).length = 42 := by rw [List.length_set]; exact lm
  have f2 : (fsm.set 0 (.int (Int32.ofInt 0)))[2]? = some (.ref (g.2.2 + (b1 + 1))) := by
    rw [List.getElem?_set_ne (by decide)]
    exact pm2
  have f3 : (fsm.set 0 (.int (Int32.ofInt 0)))[0]? = some (.int (Int32.ofInt 0)) := List.getElem?_set_self (by rw [lm]; decide)
  have k4 : (h.set (b1 + 0) (.inr (12, (fsm.set 0 (.int (Int32.ofInt 0))))))[b1 + 0]? = some (.inr (12, (fsm.set 0 (.int (Int32.ofInt 0))))) := List.getElem?_set_self (List.getElem?_eq_some_iff.mp hm).1
  refine j_iload_n (k4 := 1) (dQ (by decide +kernel)) rfl ?_
  refine j_cS (own := 12) (i := 288) (y2 := 238) (d2 := 2) (mc := 0) (ms := 0) (kc := 0) (ks := 0) (As := [.int x1]) (st := []) (dQ (by decide +kernel)) hcls (by decide +kernel) (by decide) (by decide +kernel) (show 1 = jnp 238 by decide +kernel) (by decide) (show 0 ≤ 8 by decide) (xm_isMinute_0l (by omega)) (fun v hv6 hq => ?_)
  obtain ⟨rfl, rfl⟩ := hq
  refine j_if_eq (off := 22) (tgt := 31) (dQ (by decide +kernel)) (by decide) (fun _ => ?_) (fun q => absurd (i32_eq (show _ = (0 : Int32).toInt by rw [i32_z]; omega)) q)
  refine j_aload_n (k4 := 0) (dQ (by decide +kernel)) rfl ?_
  refine j_iconst (n := (-1)) (dQ (by decide +kernel)) ?_
  refine j_cV (own := 12) (i := 104) (y2 := 206) (d2 := 1) (mc := 0) (ms := 0) (kc := 0) (ks := 0) (a := b1 + 0) (As := [.int (Int32.ofInt (-1))]) (st := []) (dQ (by decide +kernel)) hcls (by decide +kernel) (by decide) (by decide +kernel) (show 1 = jnp 206 by decide +kernel) (by decide) (show 0 ≤ 8 by decide) k4 (fun r hr => by cases hr; decide +kernel) (xm_tellN k4 n1 (by omega)) (fun v hv8 hq => ?_)
  obtain ⟨rfl, rfl⟩ := hq
  have n9 : ((fsm.set 0 (.int (Int32.ofInt 0))).set 1 (.int (Int32.ofInt (-1)))).length = 42 := by rw [List.length_set]; exact n1
  have f10 : ((fsm.set 0 (.int (Int32.ofInt 0))).set 1 (.int (Int32.ofInt (-1))))[2]? = some (.ref (g.2.2 + (b1 + 1))) := by
    rw [List.getElem?_set_ne (by decide)]
    exact f2
  have f11 : ((fsm.set 0 (.int (Int32.ofInt 0))).set 1 (.int (Int32.ofInt (-1))))[0]? = some (.int (Int32.ofInt 0)) := by
    rw [List.getElem?_set_ne (by decide)]
    exact f3
  have k12 : ((h.set (b1 + 0) (.inr (12, (fsm.set 0 (.int (Int32.ofInt 0)))))).set (b1 + 0) (.inr (12, ((fsm.set 0 (.int (Int32.ofInt 0))).set 1 (.int (Int32.ofInt (-1)))))))[b1 + 0]? = some (.inr (12, ((fsm.set 0 (.int (Int32.ofInt 0))).set 1 (.int (Int32.ofInt (-1)))))) := List.getElem?_set_self (List.getElem?_eq_some_iff.mp k4).1
  exact j_ret (v := some (.int (Int32.ofInt (-1)))) ⟨by decide +kernel, Or.inl (by decide +kernel)⟩ ⟨rfl, rfl⟩ rfl
set_option maxRecDepth 8192 in
theorem xk_see_0h {b0 : Nat} {fsx : List Value} {x1 : Int32} {x2 : Int32} {x3 : Int32} (hx : h[b0 + 0]? = some (.inr (11, fsx))) (lx : fsx.length = 12) (px0 : fsx[0]? = some (.ref (g.2.2 + (b0 + 1)))) (u : 9999 < x1.toInt) : jCal l g 131 2 [.ref (g.2.2 + (b0 + 0)), .int x1, .int x2, .int x3] h 0 0 (fun v h' => v = some (.int (Int32.ofInt (-1))) ∧ h' = (h.set (b0 + 0) (.inr (11, (fsx.set 7 (.int (Int32.ofInt (-1)))))))) := by
  have hcls : jcN 11 = (jyN 131).cls := by decide +kernel
  have cn0 : (Int32.ofInt 0).toInt = 0 := by decide
  have cn1 : (Int32.ofInt (-1)).toInt = -1 := by decide
  refine jCal_of (by decide +kernel) (show 4 ≤ jmx 131 by decide +kernel) ?_
  show J l g 131 2 0 [some (.ref (g.2.2 + (b0 + 0))), some (.int x1), some (.int x2), some (.int x3), none] [] h 0 0 _
  refine j_iload_n (k4 := 1) (dQ (by decide +kernel)) rfl ?_
  refine j_cS (own := 11) (i := 63) (y2 := 21) (d2 := 1) (mc := 0) (ms := 0) (kc := 0) (ks := 0) (As := [.int x1]) (st := []) (dQ (by decide +kernel)) hcls (by decide +kernel) (by decide) (by decide +kernel) (show 1 = jnp 21 by decide +kernel) (by decide) (show 0 ≤ 8 by decide) (x_isMinute_0h (by omega)) (fun v hv2 hq => ?_)
  obtain ⟨rfl, rfl⟩ := hq
  refine j_if_eq (off := 21) (tgt := 25) (dQ (by decide +kernel)) (by decide) (fun _ => ?_) (fun q => absurd (i32_eq (show _ = (0 : Int32).toInt by rw [i32_z]; omega)) q)
  refine j_aload_n (k4 := 0) (dQ (by decide +kernel)) rfl ?_
  refine j_iconst (n := (-1)) (dQ (by decide +kernel)) ?_
  refine j_cV (own := 11) (i := 41) (y2 := 16) (d2 := 1) (mc := 0) (ms := 0) (kc := 0) (ks := 0) (a := b0 + 0) (As := [.int (Int32.ofInt (-1))]) (st := []) (dQ (by decide +kernel)) hcls (by decide +kernel) (by decide) (by decide +kernel) (show 1 = jnp 16 by decide +kernel) (by decide) (show 0 ≤ 8 by decide) hx (fun r hr => by cases hr; decide +kernel) (x_refuse hx lx) (fun v hv4 hq => ?_)
  obtain ⟨rfl, rfl⟩ := hq
  have n5 : (fsx.set 7 (.int (Int32.ofInt (-1)))).length = 12 := by rw [List.length_set]; exact lx
  have f6 : (fsx.set 7 (.int (Int32.ofInt (-1))))[0]? = some (.ref (g.2.2 + (b0 + 1))) := by
    rw [List.getElem?_set_ne (by decide)]
    exact px0
  have k7 : (h.set (b0 + 0) (.inr (11, (fsx.set 7 (.int (Int32.ofInt (-1)))))))[b0 + 0]? = some (.inr (11, (fsx.set 7 (.int (Int32.ofInt (-1)))))) := List.getElem?_set_self (List.getElem?_eq_some_iff.mp hx).1
  exact j_ret (v := some (.int (Int32.ofInt (-1)))) ⟨by decide +kernel, Or.inl (by decide +kernel)⟩ ⟨rfl, rfl⟩ rfl
set_option maxRecDepth 8192 in
theorem xr_see_0h {b1 : Nat} {fsm : List Value} {x1 : Int32} {x2 : Int32} {x3 : Int32} (hm : h[b1 + 0]? = some (.inr (12, fsm))) (lm : fsm.length = 42) (pm2 : fsm[2]? = some (.ref (g.2.2 + (b1 + 1)))) (u : 9999 < x1.toInt) : jCal l g 281 3 [.ref (g.2.2 + (b1 + 0)), .int x1, .int x2, .int x3] h 0 0 (fun v h' => v = some (.int (Int32.ofInt (-1))) ∧ h' = ((h.set (b1 + 0) (.inr (12, (fsm.set 0 (.int (Int32.ofInt 0)))))).set (b1 + 0) (.inr (12, ((fsm.set 0 (.int (Int32.ofInt 0))).set 1 (.int (Int32.ofInt (-1)))))))) := by
  have hcls : jcN 12 = (jyN 281).cls := by decide +kernel
  have cn0 : (Int32.ofInt 0).toInt = 0 := by decide
  have cn1 : (Int32.ofInt (-1)).toInt = -1 := by decide
  refine jCal_of (by decide +kernel) (show 4 ≤ jmx 281 by decide +kernel) ?_
  show J l g 281 3 0 [some (.ref (g.2.2 + (b1 + 0))), some (.int x1), some (.int x2), some (.int x3), none] [] h 0 0 _
  refine j_aload_n (k4 := 0) (dQ (by decide +kernel)) rfl ?_
  refine j_iconst (n := 0) (dQ (by decide +kernel)) ?_
  refine j_put (own := 12) (i := 94) (ci := 12) (f := 0) (ty := .int) (dQ (by decide +kernel)) hcls (by decide +kernel) hm rfl (by decide +kernel) (by rw [lm]; decide) (by decide +kernel) (by decide +kernel) rfl rfl ?_
  have n1 : (fsm.set 0 (.int (Int32.ofInt 0))).length = 42 := by rw [List.length_set]; exact lm
  have f2 : (fsm.set 0 (.int (Int32.ofInt 0)))[2]? = some (.ref (g.2.2 + (b1 + 1))) := by
    rw [List.getElem?_set_ne (by decide)]
    exact pm2
  have f3 : (fsm.set 0 (.int (Int32.ofInt 0)))[0]? = some (.int (Int32.ofInt 0)) := List.getElem?_set_self (by rw [lm]; decide)
  have k4 : (h.set (b1 + 0) (.inr (12, (fsm.set 0 (.int (Int32.ofInt 0))))))[b1 + 0]? = some (.inr (12, (fsm.set 0 (.int (Int32.ofInt 0))))) := List.getElem?_set_self (List.getElem?_eq_some_iff.mp hm).1
  refine j_iload_n (k4 := 1) (dQ (by decide +kernel)) rfl ?_
  refine j_cS (own := 12) (i := 288) (y2 := 238) (d2 := 2) (mc := 0) (ms := 0) (kc := 0) (ks := 0) (As := [.int x1]) (st := []) (dQ (by decide +kernel)) hcls (by decide +kernel) (by decide) (by decide +kernel) (show 1 = jnp 238 by decide +kernel) (by decide) (show 0 ≤ 8 by decide) (xm_isMinute_0h (by omega)) (fun v hv6 hq => ?_)
  obtain ⟨rfl, rfl⟩ := hq
  refine j_if_eq (off := 22) (tgt := 31) (dQ (by decide +kernel)) (by decide) (fun _ => ?_) (fun q => absurd (i32_eq (show _ = (0 : Int32).toInt by rw [i32_z]; omega)) q)
  refine j_aload_n (k4 := 0) (dQ (by decide +kernel)) rfl ?_
  refine j_iconst (n := (-1)) (dQ (by decide +kernel)) ?_
  refine j_cV (own := 12) (i := 104) (y2 := 206) (d2 := 1) (mc := 0) (ms := 0) (kc := 0) (ks := 0) (a := b1 + 0) (As := [.int (Int32.ofInt (-1))]) (st := []) (dQ (by decide +kernel)) hcls (by decide +kernel) (by decide) (by decide +kernel) (show 1 = jnp 206 by decide +kernel) (by decide) (show 0 ≤ 8 by decide) k4 (fun r hr => by cases hr; decide +kernel) (xm_tellN k4 n1 (by omega)) (fun v hv8 hq => ?_)
  obtain ⟨rfl, rfl⟩ := hq
  have n9 : ((fsm.set 0 (.int (Int32.ofInt 0))).set 1 (.int (Int32.ofInt (-1)))).length = 42 := by rw [List.length_set]; exact n1
  have f10 : ((fsm.set 0 (.int (Int32.ofInt 0))).set 1 (.int (Int32.ofInt (-1))))[2]? = some (.ref (g.2.2 + (b1 + 1))) := by
    rw [List.getElem?_set_ne (by decide)]
    exact f2
  have f11 : ((fsm.set 0 (.int (Int32.ofInt 0))).set 1 (.int (Int32.ofInt (-1))))[0]? = some (.int (Int32.ofInt 0)) := by
    rw [List.getElem?_set_ne (by decide)]
    exact f3
  have k12 : ((h.set (b1 + 0) (.inr (12, (fsm.set 0 (.int (Int32.ofInt 0)))))).set (b1 + 0) (.inr (12, ((fsm.set 0 (.int (Int32.ofInt 0))).set 1 (.int (Int32.ofInt (-1)))))))[b1 + 0]? = some (.inr (12, ((fsm.set 0 (.int (Int32.ofInt 0))).set 1 (.int (Int32.ofInt (-1)))))) := List.getElem?_set_self (List.getElem?_eq_some_iff.mp k4).1
  exact j_ret (v := some (.int (Int32.ofInt (-1)))) ⟨by decide +kernel, Or.inl (by decide +kernel)⟩ ⟨rfl, rfl⟩ rfl
set_option maxRecDepth 8192 in
theorem xk_see_1l {b0 : Nat} {fsx : List Value} {x1 : Int32} {x2 : Int32} {x3 : Int32} (hx : h[b0 + 0]? = some (.inr (11, fsx))) (lx : fsx.length = 12) (px0 : fsx[0]? = some (.ref (g.2.2 + (b0 + 1)))) (g1 : 0 ≤ x1.toInt ∧ x1.toInt ≤ 9999) (u : x2.toInt < 0) : jCal l g 131 2 [.ref (g.2.2 + (b0 + 0)), .int x1, .int x2, .int x3] h 0 0 (fun v h' => v = some (.int (Int32.ofInt (-1))) ∧ h' = (h.set (b0 + 0) (.inr (11, (fsx.set 7 (.int (Int32.ofInt (-1)))))))) := by
  have hcls : jcN 11 = (jyN 131).cls := by decide +kernel
  have cn0 : (Int32.ofInt 1).toInt = 1 := by decide
  have cn1 : (Int32.ofInt 0).toInt = 0 := by decide
  have cn2 : (Int32.ofInt (-1)).toInt = -1 := by decide
  refine jCal_of (by decide +kernel) (show 4 ≤ jmx 131 by decide +kernel) ?_
  show J l g 131 2 0 [some (.ref (g.2.2 + (b0 + 0))), some (.int x1), some (.int x2), some (.int x3), none] [] h 0 0 _
  refine j_iload_n (k4 := 1) (dQ (by decide +kernel)) rfl ?_
  refine j_cS (own := 11) (i := 63) (y2 := 21) (d2 := 1) (mc := 0) (ms := 0) (kc := 0) (ks := 0) (As := [.int x1]) (st := []) (dQ (by decide +kernel)) hcls (by decide +kernel) (by decide) (by decide +kernel) (show 1 = jnp 21 by decide +kernel) (by decide) (show 0 ≤ 8 by decide) (x_isMinute_1 (by omega) (by omega)) (fun v hv2 hq => ?_)
  obtain ⟨rfl, rfl⟩ := hq
  refine j_if_eq (off := 21) (tgt := 25) (dQ (by decide +kernel)) (by decide) (fun q => absurd (congrArg Int32.toInt q) (by rw [i32_z]; omega)) (fun _ => ?_)
  refine j_iload_n (k4 := 2) (dQ (by decide +kernel)) rfl ?_
  refine j_cS (own := 11) (i := 34) (y2 := 14) (d2 := 1) (mc := 0) (ms := 0) (kc := 0) (ks := 0) (As := [.int x2]) (st := []) (dQ (by decide +kernel)) hcls (by decide +kernel) (by decide) (by decide +kernel) (show 1 = jnp 14 by decide +kernel) (by decide) (show 0 ≤ 8 by decide) (x_isBerth_0l (by omega)) (fun v hv4 hq => ?_)
  obtain ⟨rfl, rfl⟩ := hq
  refine j_if_eq (off := 14) (tgt := 25) (dQ (by decide +kernel)) (by decide) (fun _ => ?_) (fun q => absurd (i32_eq (show _ = (0 : Int32).toInt by rw [i32_z]; omega)) q)
  refine j_aload_n (k4 := 0) (dQ (by decide +kernel)) rfl ?_
  refine j_iconst (n := (-1)) (dQ (by decide +kernel)) ?_
  refine j_cV (own := 11) (i := 41) (y2 := 16) (d2 := 1) (mc := 0) (ms := 0) (kc := 0) (ks := 0) (a := b0 + 0) (As := [.int (Int32.ofInt (-1))]) (st := []) (dQ (by decide +kernel)) hcls (by decide +kernel) (by decide) (by decide +kernel) (show 1 = jnp 16 by decide +kernel) (by decide) (show 0 ≤ 8 by decide) hx (fun r hr => by cases hr; decide +kernel) (x_refuse hx lx) (fun v hv6 hq => ?_)
  obtain ⟨rfl, rfl⟩ := hq
  have n7 : (fsx.set 7 (.int (Int32.ofInt (-1)))).length = 12 := by rw [List.length_set]; exact lx
  have f8 : (fsx.set 7 (.int (Int32.ofInt (-1))))[0]? = some (.ref (g.2.2 + (b0 + 1))) := by
    rw [List.getElem?_set_ne (by decide)]
    exact px0
  have k9 : (h.set (b0 + 0) (.inr (11, (fsx.set 7 (.int (Int32.ofInt (-1)))))))[b0 + 0]? = some (.inr (11, (fsx.set 7 (.int (Int32.ofInt (-1)))))) := List.getElem?_set_self (List.getElem?_eq_some_iff.mp hx).1
  exact j_ret (v := some (.int (Int32.ofInt (-1)))) ⟨by decide +kernel, Or.inl (by decide +kernel)⟩ ⟨rfl, rfl⟩ rfl
set_option maxRecDepth 8192 in
theorem xr_see_1l {b1 : Nat} {fsm : List Value} {x1 : Int32} {x2 : Int32} {x3 : Int32} (hm : h[b1 + 0]? = some (.inr (12, fsm))) (lm : fsm.length = 42) (pm2 : fsm[2]? = some (.ref (g.2.2 + (b1 + 1)))) (g1 : 0 ≤ x1.toInt ∧ x1.toInt ≤ 9999) (u : x2.toInt < 0) : jCal l g 281 3 [.ref (g.2.2 + (b1 + 0)), .int x1, .int x2, .int x3] h 0 0 (fun v h' => v = some (.int (Int32.ofInt (-1))) ∧ h' = ((h.set (b1 + 0) (.inr (12, (fsm.set 0 (.int (Int32.ofInt 0)))))).set (b1 + 0) (.inr (12, ((fsm.set 0 (.int (Int32.ofInt 0))).set 1 (.int (Int32.ofInt (-1)))))))) := by
  have hcls : jcN 12 = (jyN 281).cls := by decide +kernel
  have cn0 : (Int32.ofInt 0).toInt = 0 := by decide
  have cn1 : (Int32.ofInt 1).toInt = 1 := by decide
  have cn2 : (Int32.ofInt (-1)).toInt = -1 := by decide
  refine jCal_of (by decide +kernel) (show 4 ≤ jmx 281 by decide +kernel) ?_
  show J l g 281 3 0 [some (.ref (g.2.2 + (b1 + 0))), some (.int x1), some (.int x2), some (.int x3), none] [] h 0 0 _
  refine j_aload_n (k4 := 0) (dQ (by decide +kernel)) rfl ?_
  refine j_iconst (n := 0) (dQ (by decide +kernel)) ?_
  refine j_put (own := 12) (i := 94) (ci := 12) (f := 0) (ty := .int) (dQ (by decide +kernel)) hcls (by decide +kernel) hm rfl (by decide +kernel) (by rw [lm]; decide) (by decide +kernel) (by decide +kernel) rfl rfl ?_
  have n1 : (fsm.set 0 (.int (Int32.ofInt 0))).length = 42 := by rw [List.length_set]; exact lm
  have f2 : (fsm.set 0 (.int (Int32.ofInt 0)))[2]? = some (.ref (g.2.2 + (b1 + 1))) := by
    rw [List.getElem?_set_ne (by decide)]
    exact pm2
  have f3 : (fsm.set 0 (.int (Int32.ofInt 0)))[0]? = some (.int (Int32.ofInt 0)) := List.getElem?_set_self (by rw [lm]; decide)
  have k4 : (h.set (b1 + 0) (.inr (12, (fsm.set 0 (.int (Int32.ofInt 0))))))[b1 + 0]? = some (.inr (12, (fsm.set 0 (.int (Int32.ofInt 0))))) := List.getElem?_set_self (List.getElem?_eq_some_iff.mp hm).1
  refine j_iload_n (k4 := 1) (dQ (by decide +kernel)) rfl ?_
  refine j_cS (own := 12) (i := 288) (y2 := 238) (d2 := 2) (mc := 0) (ms := 0) (kc := 0) (ks := 0) (As := [.int x1]) (st := []) (dQ (by decide +kernel)) hcls (by decide +kernel) (by decide) (by decide +kernel) (show 1 = jnp 238 by decide +kernel) (by decide) (show 0 ≤ 8 by decide) (xm_isMinute_1 (by omega) (by omega)) (fun v hv6 hq => ?_)
  obtain ⟨rfl, rfl⟩ := hq
  refine j_if_eq (off := 22) (tgt := 31) (dQ (by decide +kernel)) (by decide) (fun q => absurd (congrArg Int32.toInt q) (by rw [i32_z]; omega)) (fun _ => ?_)
  refine j_iload_n (k4 := 2) (dQ (by decide +kernel)) rfl ?_
  refine j_cS (own := 12) (i := 285) (y2 := 235) (d2 := 2) (mc := 0) (ms := 0) (kc := 0) (ks := 0) (As := [.int x2]) (st := []) (dQ (by decide +kernel)) hcls (by decide +kernel) (by decide) (by decide +kernel) (show 1 = jnp 235 by decide +kernel) (by decide) (show 0 ≤ 8 by decide) (xm_isBerth_0l (by omega)) (fun v hv8 hq => ?_)
  obtain ⟨rfl, rfl⟩ := hq
  refine j_if_eq (off := 15) (tgt := 31) (dQ (by decide +kernel)) (by decide) (fun _ => ?_) (fun q => absurd (i32_eq (show _ = (0 : Int32).toInt by rw [i32_z]; omega)) q)
  refine j_aload_n (k4 := 0) (dQ (by decide +kernel)) rfl ?_
  refine j_iconst (n := (-1)) (dQ (by decide +kernel)) ?_
  refine j_cV (own := 12) (i := 104) (y2 := 206) (d2 := 1) (mc := 0) (ms := 0) (kc := 0) (ks := 0) (a := b1 + 0) (As := [.int (Int32.ofInt (-1))]) (st := []) (dQ (by decide +kernel)) hcls (by decide +kernel) (by decide) (by decide +kernel) (show 1 = jnp 206 by decide +kernel) (by decide) (show 0 ≤ 8 by decide) k4 (fun r hr => by cases hr; decide +kernel) (xm_tellN k4 n1 (by omega)) (fun v hv10 hq => ?_)
  obtain ⟨rfl, rfl⟩ := hq
  have n11 : ((fsm.set 0 (.int (Int32.ofInt 0))).set 1 (.int (Int32.ofInt (-1)))).length = 42 := by rw [List.length_set]; exact n1
  have f12 : ((fsm.set 0 (.int (Int32.ofInt 0))).set 1 (.int (Int32.ofInt (-1))))[2]? = some (.ref (g.2.2 + (b1 + 1))) := by
    rw [List.getElem?_set_ne (by decide)]
    exact f2
  have f13 : ((fsm.set 0 (.int (Int32.ofInt 0))).set 1 (.int (Int32.ofInt (-1))))[0]? = some (.int (Int32.ofInt 0)) := by
    rw [List.getElem?_set_ne (by decide)]
    exact f3
  have k14 : ((h.set (b1 + 0) (.inr (12, (fsm.set 0 (.int (Int32.ofInt 0)))))).set (b1 + 0) (.inr (12, ((fsm.set 0 (.int (Int32.ofInt 0))).set 1 (.int (Int32.ofInt (-1)))))))[b1 + 0]? = some (.inr (12, ((fsm.set 0 (.int (Int32.ofInt 0))).set 1 (.int (Int32.ofInt (-1)))))) := List.getElem?_set_self (List.getElem?_eq_some_iff.mp k4).1
  exact j_ret (v := some (.int (Int32.ofInt (-1)))) ⟨by decide +kernel, Or.inl (by decide +kernel)⟩ ⟨rfl, rfl⟩ rfl
set_option maxRecDepth 8192 in
theorem xk_see_1h {b0 : Nat} {fsx : List Value} {x1 : Int32} {x2 : Int32} {x3 : Int32} (hx : h[b0 + 0]? = some (.inr (11, fsx))) (lx : fsx.length = 12) (px0 : fsx[0]? = some (.ref (g.2.2 + (b0 + 1)))) (g1 : 0 ≤ x1.toInt ∧ x1.toInt ≤ 9999) (u : 11 < x2.toInt) : jCal l g 131 2 [.ref (g.2.2 + (b0 + 0)), .int x1, .int x2, .int x3] h 0 0 (fun v h' => v = some (.int (Int32.ofInt (-1))) ∧ h' = (h.set (b0 + 0) (.inr (11, (fsx.set 7 (.int (Int32.ofInt (-1)))))))) := by
  have hcls : jcN 11 = (jyN 131).cls := by decide +kernel
  have cn0 : (Int32.ofInt 1).toInt = 1 := by decide
  have cn1 : (Int32.ofInt 0).toInt = 0 := by decide
  have cn2 : (Int32.ofInt (-1)).toInt = -1 := by decide
  refine jCal_of (by decide +kernel) (show 4 ≤ jmx 131 by decide +kernel) ?_
  show J l g 131 2 0 [some (.ref (g.2.2 + (b0 + 0))), some (.int x1), some (.int x2), some (.int x3), none] [] h 0 0 _
  refine j_iload_n (k4 := 1) (dQ (by decide +kernel)) rfl ?_
  refine j_cS (own := 11) (i := 63) (y2 := 21) (d2 := 1) (mc := 0) (ms := 0) (kc := 0) (ks := 0) (As := [.int x1]) (st := []) (dQ (by decide +kernel)) hcls (by decide +kernel) (by decide) (by decide +kernel) (show 1 = jnp 21 by decide +kernel) (by decide) (show 0 ≤ 8 by decide) (x_isMinute_1 (by omega) (by omega)) (fun v hv2 hq => ?_)
  obtain ⟨rfl, rfl⟩ := hq
  refine j_if_eq (off := 21) (tgt := 25) (dQ (by decide +kernel)) (by decide) (fun q => absurd (congrArg Int32.toInt q) (by rw [i32_z]; omega)) (fun _ => ?_)
  refine j_iload_n (k4 := 2) (dQ (by decide +kernel)) rfl ?_
  refine j_cS (own := 11) (i := 34) (y2 := 14) (d2 := 1) (mc := 0) (ms := 0) (kc := 0) (ks := 0) (As := [.int x2]) (st := []) (dQ (by decide +kernel)) hcls (by decide +kernel) (by decide) (by decide +kernel) (show 1 = jnp 14 by decide +kernel) (by decide) (show 0 ≤ 8 by decide) (x_isBerth_0h (by omega)) (fun v hv4 hq => ?_)
  obtain ⟨rfl, rfl⟩ := hq
  refine j_if_eq (off := 14) (tgt := 25) (dQ (by decide +kernel)) (by decide) (fun _ => ?_) (fun q => absurd (i32_eq (show _ = (0 : Int32).toInt by rw [i32_z]; omega)) q)
  refine j_aload_n (k4 := 0) (dQ (by decide +kernel)) rfl ?_
  refine j_iconst (n := (-1)) (dQ (by decide +kernel)) ?_
  refine j_cV (own := 11) (i := 41) (y2 := 16) (d2 := 1) (mc := 0) (ms := 0) (kc := 0) (ks := 0) (a := b0 + 0) (As := [.int (Int32.ofInt (-1))]) (st := []) (dQ (by decide +kernel)) hcls (by decide +kernel) (by decide) (by decide +kernel) (show 1 = jnp 16 by decide +kernel) (by decide) (show 0 ≤ 8 by decide) hx (fun r hr => by cases hr; decide +kernel) (x_refuse hx lx) (fun v hv6 hq => ?_)
  obtain ⟨rfl, rfl⟩ := hq
  have n7 : (fsx.set 7 (.int (Int32.ofInt (-1)))).length = 12 := by rw [List.length_set]; exact lx
  have f8 : (fsx.set 7 (.int (Int32.ofInt (-1))))[0]? = some (.ref (g.2.2 + (b0 + 1))) := by
    rw [List.getElem?_set_ne (by decide)]
    exact px0
  have k9 : (h.set (b0 + 0) (.inr (11, (fsx.set 7 (.int (Int32.ofInt (-1)))))))[b0 + 0]? = some (.inr (11, (fsx.set 7 (.int (Int32.ofInt (-1)))))) := List.getElem?_set_self (List.getElem?_eq_some_iff.mp hx).1
  exact j_ret (v := some (.int (Int32.ofInt (-1)))) ⟨by decide +kernel, Or.inl (by decide +kernel)⟩ ⟨rfl, rfl⟩ rfl
set_option maxRecDepth 8192 in
theorem xr_see_1h {b1 : Nat} {fsm : List Value} {x1 : Int32} {x2 : Int32} {x3 : Int32} (hm : h[b1 + 0]? = some (.inr (12, fsm))) (lm : fsm.length = 42) (pm2 : fsm[2]? = some (.ref (g.2.2 + (b1 + 1)))) (g1 : 0 ≤ x1.toInt ∧ x1.toInt ≤ 9999) (u : 11 < x2.toInt) : jCal l g 281 3 [.ref (g.2.2 + (b1 + 0)), .int x1, .int x2, .int x3] h 0 0 (fun v h' => v = some (.int (Int32.ofInt (-1))) ∧ h' = ((h.set (b1 + 0) (.inr (12, (fsm.set 0 (.int (Int32.ofInt 0)))))).set (b1 + 0) (.inr (12, ((fsm.set 0 (.int (Int32.ofInt 0))).set 1 (.int (Int32.ofInt (-1)))))))) := by
  have hcls : jcN 12 = (jyN 281).cls := by decide +kernel
  have cn0 : (Int32.ofInt 0).toInt = 0 := by decide
  have cn1 : (Int32.ofInt 1).toInt = 1 := by decide
  have cn2 : (Int32.ofInt (-1)).toInt = -1 := by decide
  refine jCal_of (by decide +kernel) (show 4 ≤ jmx 281 by decide +kernel) ?_
  show J l g 281 3 0 [some (.ref (g.2.2 + (b1 + 0))), some (.int x1), some (.int x2), some (.int x3), none] [] h 0 0 _
  refine j_aload_n (k4 := 0) (dQ (by decide +kernel)) rfl ?_
  refine j_iconst (n := 0) (dQ (by decide +kernel)) ?_
  refine j_put (own := 12) (i := 94) (ci := 12) (f := 0) (ty := .int) (dQ (by decide +kernel)) hcls (by decide +kernel) hm rfl (by decide +kernel) (by rw [lm]; decide) (by decide +kernel) (by decide +kernel) rfl rfl ?_
  have n1 : (fsm.set 0 (.int (Int32.ofInt 0))).length = 42 := by rw [List.length_set]; exact lm
  have f2 : (fsm.set 0 (.int (Int32.ofInt 0)))[2]? = some (.ref (g.2.2 + (b1 + 1))) := by
    rw [List.getElem?_set_ne (by decide)]
    exact pm2
  have f3 : (fsm.set 0 (.int (Int32.ofInt 0)))[0]? = some (.int (Int32.ofInt 0)) := List.getElem?_set_self (by rw [lm]; decide)
  have k4 : (h.set (b1 + 0) (.inr (12, (fsm.set 0 (.int (Int32.ofInt 0))))))[b1 + 0]? = some (.inr (12, (fsm.set 0 (.int (Int32.ofInt 0))))) := List.getElem?_set_self (List.getElem?_eq_some_iff.mp hm).1
  refine j_iload_n (k4 := 1) (dQ (by decide +kernel)) rfl ?_
  refine j_cS (own := 12) (i := 288) (y2 := 238) (d2 := 2) (mc := 0) (ms := 0) (kc := 0) (ks := 0) (As := [.int x1]) (st := []) (dQ (by decide +kernel)) hcls (by decide +kernel) (by decide) (by decide +kernel) (show 1 = jnp 238 by decide +kernel) (by decide) (show 0 ≤ 8 by decide) (xm_isMinute_1 (by omega) (by omega)) (fun v hv6 hq => ?_)
  obtain ⟨rfl, rfl⟩ := hq
  refine j_if_eq (off := 22) (tgt := 31) (dQ (by decide +kernel)) (by decide) (fun q => absurd (congrArg Int32.toInt q) (by rw [i32_z]; omega)) (fun _ => ?_)
  refine j_iload_n (k4 := 2) (dQ (by decide +kernel)) rfl ?_
  refine j_cS (own := 12) (i := 285) (y2 := 235) (d2 := 2) (mc := 0) (ms := 0) (kc := 0) (ks := 0) (As := [.int x2]) (st := []) (dQ (by decide +kernel)) hcls (by decide +kernel) (by decide) (by decide +kernel) (show 1 = jnp 235 by decide +kernel) (by decide) (show 0 ≤ 8 by decide) (xm_isBerth_0h (by omega)) (fun v hv8 hq => ?_)
  obtain ⟨rfl, rfl⟩ := hq
  refine j_if_eq (off := 15) (tgt := 31) (dQ (by decide +kernel)) (by decide) (fun _ => ?_) (fun q => absurd (i32_eq (show _ = (0 : Int32).toInt by rw [i32_z]; omega)) q)
  refine j_aload_n (k4 := 0) (dQ (by decide +kernel)) rfl ?_
  refine j_iconst (n := (-1)) (dQ (by decide +kernel)) ?_
  refine j_cV (own := 12) (i := 104) (y2 := 206) (d2 := 1) (mc := 0) (ms := 0) (kc := 0) (ks := 0) (a := b1 + 0) (As := [.int (Int32.ofInt (-1))]) (st := []) (dQ (by decide +kernel)) hcls (by decide +kernel) (by decide) (by decide +kernel) (show 1 = jnp 206 by decide +kernel) (by decide) (show 0 ≤ 8 by decide) k4 (fun r hr => by cases hr; decide +kernel) (xm_tellN k4 n1 (by omega)) (fun v hv10 hq => ?_)
  obtain ⟨rfl, rfl⟩ := hq
  have n11 : ((fsm.set 0 (.int (Int32.ofInt 0))).set 1 (.int (Int32.ofInt (-1)))).length = 42 := by rw [List.length_set]; exact n1
  have f12 : ((fsm.set 0 (.int (Int32.ofInt 0))).set 1 (.int (Int32.ofInt (-1))))[2]? = some (.ref (g.2.2 + (b1 + 1))) := by
    rw [List.getElem?_set_ne (by decide)]
    exact f2
  have f13 : ((fsm.set 0 (.int (Int32.ofInt 0))).set 1 (.int (Int32.ofInt (-1))))[0]? = some (.int (Int32.ofInt 0)) := by
    rw [List.getElem?_set_ne (by decide)]
    exact f3
  have k14 : ((h.set (b1 + 0) (.inr (12, (fsm.set 0 (.int (Int32.ofInt 0)))))).set (b1 + 0) (.inr (12, ((fsm.set 0 (.int (Int32.ofInt 0))).set 1 (.int (Int32.ofInt (-1)))))))[b1 + 0]? = some (.inr (12, ((fsm.set 0 (.int (Int32.ofInt 0))).set 1 (.int (Int32.ofInt (-1)))))) := List.getElem?_set_self (List.getElem?_eq_some_iff.mp k4).1
  exact j_ret (v := some (.int (Int32.ofInt (-1)))) ⟨by decide +kernel, Or.inl (by decide +kernel)⟩ ⟨rfl, rfl⟩ rfl
set_option maxRecDepth 8192 in
theorem xk_see_2l {b0 : Nat} {fsx : List Value} {x1 : Int32} {x2 : Int32} {x3 : Int32} (hx : h[b0 + 0]? = some (.inr (11, fsx))) (lx : fsx.length = 12) (px0 : fsx[0]? = some (.ref (g.2.2 + (b0 + 1)))) (g1 : 0 ≤ x1.toInt ∧ x1.toInt ≤ 9999) (g2 : 0 ≤ x2.toInt ∧ x2.toInt ≤ 11) (u : x3.toInt < 0) : jCal l g 131 2 [.ref (g.2.2 + (b0 + 0)), .int x1, .int x2, .int x3] h 0 0 (fun v h' => v = some (.int (Int32.ofInt (-1))) ∧ h' = (h.set (b0 + 0) (.inr (11, (fsx.set 7 (.int (Int32.ofInt (-1)))))))) := by
  have hcls : jcN 11 = (jyN 131).cls := by decide +kernel
  have cn0 : (Int32.ofInt 1).toInt = 1 := by decide
  have cn1 : (Int32.ofInt 0).toInt = 0 := by decide
  have cn2 : (Int32.ofInt (-1)).toInt = -1 := by decide
  refine jCal_of (by decide +kernel) (show 4 ≤ jmx 131 by decide +kernel) ?_
  show J l g 131 2 0 [some (.ref (g.2.2 + (b0 + 0))), some (.int x1), some (.int x2), some (.int x3), none] [] h 0 0 _
  refine j_iload_n (k4 := 1) (dQ (by decide +kernel)) rfl ?_
  refine j_cS (own := 11) (i := 63) (y2 := 21) (d2 := 1) (mc := 0) (ms := 0) (kc := 0) (ks := 0) (As := [.int x1]) (st := []) (dQ (by decide +kernel)) hcls (by decide +kernel) (by decide) (by decide +kernel) (show 1 = jnp 21 by decide +kernel) (by decide) (show 0 ≤ 8 by decide) (x_isMinute_1 (by omega) (by omega)) (fun v hv2 hq => ?_)
  obtain ⟨rfl, rfl⟩ := hq
  refine j_if_eq (off := 21) (tgt := 25) (dQ (by decide +kernel)) (by decide) (fun q => absurd (congrArg Int32.toInt q) (by rw [i32_z]; omega)) (fun _ => ?_)
  refine j_iload_n (k4 := 2) (dQ (by decide +kernel)) rfl ?_
  refine j_cS (own := 11) (i := 34) (y2 := 14) (d2 := 1) (mc := 0) (ms := 0) (kc := 0) (ks := 0) (As := [.int x2]) (st := []) (dQ (by decide +kernel)) hcls (by decide +kernel) (by decide) (by decide +kernel) (show 1 = jnp 14 by decide +kernel) (by decide) (show 0 ≤ 8 by decide) (x_isBerth_1 (by omega) (by omega)) (fun v hv4 hq => ?_)
  obtain ⟨rfl, rfl⟩ := hq
  refine j_if_eq (off := 14) (tgt := 25) (dQ (by decide +kernel)) (by decide) (fun q => absurd (congrArg Int32.toInt q) (by rw [i32_z]; omega)) (fun _ => ?_)
  refine j_iload_n (k4 := 3) (dQ (by decide +kernel)) rfl ?_
  refine j_if_eq (off := 16) (tgt := 31) (dQ (by decide +kernel)) (by decide) (fun q => absurd (congrArg Int32.toInt q) (by rw [i32_z]; omega)) (fun _ => ?_)
  refine j_iload_n (k4 := 3) (dQ (by decide +kernel)) rfl ?_
  refine j_cS (own := 11) (i := 73) (y2 := 34) (d2 := 1) (mc := 0) (ms := 0) (kc := 0) (ks := 0) (As := [.int x3]) (st := []) (dQ (by decide +kernel)) hcls (by decide +kernel) (by decide) (by decide +kernel) (show 1 = jnp 34 by decide +kernel) (by decide) (show 0 ≤ 8 by decide) (x_isName_0l (by omega)) (fun v hv6 hq => ?_)
  obtain ⟨rfl, rfl⟩ := hq
  refine j_if_ne (off := 9) (tgt := 31) (dQ (by decide +kernel)) (by decide) (fun q => absurd (i32_eq (show _ = (0 : Int32).toInt by rw [i32_z]; omega)) q) (fun _ => ?_)
  refine j_aload_n (k4 := 0) (dQ (by decide +kernel)) rfl ?_
  refine j_iconst (n := (-1)) (dQ (by decide +kernel)) ?_
  refine j_cV (own := 11) (i := 41) (y2 := 16) (d2 := 1) (mc := 0) (ms := 0) (kc := 0) (ks := 0) (a := b0 + 0) (As := [.int (Int32.ofInt (-1))]) (st := []) (dQ (by decide +kernel)) hcls (by decide +kernel) (by decide) (by decide +kernel) (show 1 = jnp 16 by decide +kernel) (by decide) (show 0 ≤ 8 by decide) hx (fun r hr => by cases hr; decide +kernel) (x_refuse hx lx) (fun v hv8 hq => ?_)
  obtain ⟨rfl, rfl⟩ := hq
  have n9 : (fsx.set 7 (.int (Int32.ofInt (-1)))).length = 12 := by rw [List.length_set]; exact lx
  have f10 : (fsx.set 7 (.int (Int32.ofInt (-1))))[0]? = some (.ref (g.2.2 + (b0 + 1))) := by
    rw [List.getElem?_set_ne (by decide)]
    exact px0
  have k11 : (h.set (b0 + 0) (.inr (11, (fsx.set 7 (.int (Int32.ofInt (-1)))))))[b0 + 0]? = some (.inr (11, (fsx.set 7 (.int (Int32.ofInt (-1)))))) := List.getElem?_set_self (List.getElem?_eq_some_iff.mp hx).1
  exact j_ret (v := some (.int (Int32.ofInt (-1)))) ⟨by decide +kernel, Or.inl (by decide +kernel)⟩ ⟨rfl, rfl⟩ rfl
set_option maxRecDepth 8192 in
theorem xr_see_2l {b1 : Nat} {fsm : List Value} {x1 : Int32} {x2 : Int32} {x3 : Int32} (hm : h[b1 + 0]? = some (.inr (12, fsm))) (lm : fsm.length = 42) (pm2 : fsm[2]? = some (.ref (g.2.2 + (b1 + 1)))) (g1 : 0 ≤ x1.toInt ∧ x1.toInt ≤ 9999) (g2 : 0 ≤ x2.toInt ∧ x2.toInt ≤ 11) (u : x3.toInt < 0) : jCal l g 281 3 [.ref (g.2.2 + (b1 + 0)), .int x1, .int x2, .int x3] h 0 0 (fun v h' => v = some (.int (Int32.ofInt (-1))) ∧ h' = ((h.set (b1 + 0) (.inr (12, (fsm.set 0 (.int (Int32.ofInt 0)))))).set (b1 + 0) (.inr (12, ((fsm.set 0 (.int (Int32.ofInt 0))).set 1 (.int (Int32.ofInt (-1)))))))) := by
  have hcls : jcN 12 = (jyN 281).cls := by decide +kernel
  have cn0 : (Int32.ofInt 0).toInt = 0 := by decide
  have cn1 : (Int32.ofInt 1).toInt = 1 := by decide
  have cn2 : (Int32.ofInt (-1)).toInt = -1 := by decide
  refine jCal_of (by decide +kernel) (show 4 ≤ jmx 281 by decide +kernel) ?_
  show J l g 281 3 0 [some (.ref (g.2.2 + (b1 + 0))), some (.int x1), some (.int x2), some (.int x3), none] [] h 0 0 _
  refine j_aload_n (k4 := 0) (dQ (by decide +kernel)) rfl ?_
  refine j_iconst (n := 0) (dQ (by decide +kernel)) ?_
  refine j_put (own := 12) (i := 94) (ci := 12) (f := 0) (ty := .int) (dQ (by decide +kernel)) hcls (by decide +kernel) hm rfl (by decide +kernel) (by rw [lm]; decide) (by decide +kernel) (by decide +kernel) rfl rfl ?_
  have n1 : (fsm.set 0 (.int (Int32.ofInt 0))).length = 42 := by rw [List.length_set]; exact lm
  have f2 : (fsm.set 0 (.int (Int32.ofInt 0)))[2]? = some (.ref (g.2.2 + (b1 + 1))) := by
    rw [List.getElem?_set_ne (by decide)]
    exact pm2
  have f3 : (fsm.set 0 (.int (Int32.ofInt 0)))[0]? = some (.int (Int32.ofInt 0)) := List.getElem?_set_self (by rw [lm]; decide)
  have k4 : (h.set (b1 + 0) (.inr (12, (fsm.set 0 (.int (Int32.ofInt 0))))))[b1 + 0]? = some (.inr (12, (fsm.set 0 (.int (Int32.ofInt 0))))) := List.getElem?_set_self (List.getElem?_eq_some_iff.mp hm).1
  refine j_iload_n (k4 := 1) (dQ (by decide +kernel)) rfl ?_
  refine j_cS (own := 12) (i := 288) (y2 := 238) (d2 := 2) (mc := 0) (ms := 0) (kc := 0) (ks := 0) (As := [.int x1]) (st := []) (dQ (by decide +kernel)) hcls (by decide +kernel) (by decide) (by decide +kernel) (show 1 = jnp 238 by decide +kernel) (by decide) (show 0 ≤ 8 by decide) (xm_isMinute_1 (by omega) (by omega)) (fun v hv6 hq => ?_)
  obtain ⟨rfl, rfl⟩ := hq
  refine j_if_eq (off := 22) (tgt := 31) (dQ (by decide +kernel)) (by decide) (fun q => absurd (congrArg Int32.toInt q) (by rw [i32_z]; omega)) (fun _ => ?_)
  refine j_iload_n (k4 := 2) (dQ (by decide +kernel)) rfl ?_
  refine j_cS (own := 12) (i := 285) (y2 := 235) (d2 := 2) (mc := 0) (ms := 0) (kc := 0) (ks := 0) (As := [.int x2]) (st := []) (dQ (by decide +kernel)) hcls (by decide +kernel) (by decide) (by decide +kernel) (show 1 = jnp 235 by decide +kernel) (by decide) (show 0 ≤ 8 by decide) (xm_isBerth_1 (by omega) (by omega)) (fun v hv8 hq => ?_)
  obtain ⟨rfl, rfl⟩ := hq
  refine j_if_eq (off := 15) (tgt := 31) (dQ (by decide +kernel)) (by decide) (fun q => absurd (congrArg Int32.toInt q) (by rw [i32_z]; omega)) (fun _ => ?_)
  refine j_iload_n (k4 := 3) (dQ (by decide +kernel)) rfl ?_
  refine x_i2l (dQ (by decide +kernel)) (fun r9 hr9 => ?_)
  refine j_lconst (n := 0) (dQ (by decide +kernel)) ?_
  have hq10 : (Int64.ofNat ((0 : Fin 2) : Nat)).toInt = 0 := by decide
  refine j_ldc2 (own := 12) (i := 114) (v := 999) hcls (by decide +kernel) (by decide +kernel) ?_
  have hq11 : (999 : Int64).toInt = 999 := by decide
  refine j_cS (own := 12) (i := 100) (y2 := 205) (d2 := 1) (mc := 0) (ms := 0) (kc := 0) (ks := 0) (As := [.long r9, .long (Int64.ofNat ((0 : Fin 2) : Nat)), .long (999 : Int64)]) (st := []) (dQ (by decide +kernel)) hcls (by decide +kernel) (by decide) (by decide +kernel) (show 3 = jnp 205 by decide +kernel) (by decide) (show 0 ≤ 8 by decide) (xm_in_0l (by omega)) (fun v hv13 hq => ?_)
  obtain ⟨rfl, rfl⟩ := hq
  refine j_if_ne (off := 9) (tgt := 37) (dQ (by decide +kernel)) (by decide) (fun q => absurd (i32_eq (show _ = (0 : Int32).toInt by rw [i32_z]; omega)) q) (fun _ => ?_)
  refine j_aload_n (k4 := 0) (dQ (by decide +kernel)) rfl ?_
  refine j_iconst (n := (-1)) (dQ (by decide +kernel)) ?_
  refine j_cV (own := 12) (i := 104) (y2 := 206) (d2 := 1) (mc := 0) (ms := 0) (kc := 0) (ks := 0) (a := b1 + 0) (As := [.int (Int32.ofInt (-1))]) (st := []) (dQ (by decide +kernel)) hcls (by decide +kernel) (by decide) (by decide +kernel) (show 1 = jnp 206 by decide +kernel) (by decide) (show 0 ≤ 8 by decide) k4 (fun r hr => by cases hr; decide +kernel) (xm_tellN k4 n1 (by omega)) (fun v hv15 hq => ?_)
  obtain ⟨rfl, rfl⟩ := hq
  have n16 : ((fsm.set 0 (.int (Int32.ofInt 0))).set 1 (.int (Int32.ofInt (-1)))).length = 42 := by rw [List.length_set]; exact n1
  have f17 : ((fsm.set 0 (.int (Int32.ofInt 0))).set 1 (.int (Int32.ofInt (-1))))[2]? = some (.ref (g.2.2 + (b1 + 1))) := by
    rw [List.getElem?_set_ne (by decide)]
    exact f2
  have f18 : ((fsm.set 0 (.int (Int32.ofInt 0))).set 1 (.int (Int32.ofInt (-1))))[0]? = some (.int (Int32.ofInt 0)) := by
    rw [List.getElem?_set_ne (by decide)]
    exact f3
  have k19 : ((h.set (b1 + 0) (.inr (12, (fsm.set 0 (.int (Int32.ofInt 0)))))).set (b1 + 0) (.inr (12, ((fsm.set 0 (.int (Int32.ofInt 0))).set 1 (.int (Int32.ofInt (-1)))))))[b1 + 0]? = some (.inr (12, ((fsm.set 0 (.int (Int32.ofInt 0))).set 1 (.int (Int32.ofInt (-1)))))) := List.getElem?_set_self (List.getElem?_eq_some_iff.mp k4).1
  exact j_ret (v := some (.int (Int32.ofInt (-1)))) ⟨by decide +kernel, Or.inl (by decide +kernel)⟩ ⟨rfl, rfl⟩ rfl
set_option maxRecDepth 8192 in
theorem xk_see_2h {b0 : Nat} {fsx : List Value} {x1 : Int32} {x2 : Int32} {x3 : Int32} (hx : h[b0 + 0]? = some (.inr (11, fsx))) (lx : fsx.length = 12) (px0 : fsx[0]? = some (.ref (g.2.2 + (b0 + 1)))) (g1 : 0 ≤ x1.toInt ∧ x1.toInt ≤ 9999) (g2 : 0 ≤ x2.toInt ∧ x2.toInt ≤ 11) (u : 999 < x3.toInt) : jCal l g 131 2 [.ref (g.2.2 + (b0 + 0)), .int x1, .int x2, .int x3] h 0 0 (fun v h' => v = some (.int (Int32.ofInt (-1))) ∧ h' = (h.set (b0 + 0) (.inr (11, (fsx.set 7 (.int (Int32.ofInt (-1)))))))) := by
  have hcls : jcN 11 = (jyN 131).cls := by decide +kernel
  have cn0 : (Int32.ofInt 1).toInt = 1 := by decide
  have cn1 : (Int32.ofInt 0).toInt = 0 := by decide
  have cn2 : (Int32.ofInt (-1)).toInt = -1 := by decide
  refine jCal_of (by decide +kernel) (show 4 ≤ jmx 131 by decide +kernel) ?_
  show J l g 131 2 0 [some (.ref (g.2.2 + (b0 + 0))), some (.int x1), some (.int x2), some (.int x3), none] [] h 0 0 _
  refine j_iload_n (k4 := 1) (dQ (by decide +kernel)) rfl ?_
  refine j_cS (own := 11) (i := 63) (y2 := 21) (d2 := 1) (mc := 0) (ms := 0) (kc := 0) (ks := 0) (As := [.int x1]) (st := []) (dQ (by decide +kernel)) hcls (by decide +kernel) (by decide) (by decide +kernel) (show 1 = jnp 21 by decide +kernel) (by decide) (show 0 ≤ 8 by decide) (x_isMinute_1 (by omega) (by omega)) (fun v hv2 hq => ?_)
  obtain ⟨rfl, rfl⟩ := hq
  refine j_if_eq (off := 21) (tgt := 25) (dQ (by decide +kernel)) (by decide) (fun q => absurd (congrArg Int32.toInt q) (by rw [i32_z]; omega)) (fun _ => ?_)
  refine j_iload_n (k4 := 2) (dQ (by decide +kernel)) rfl ?_
  refine j_cS (own := 11) (i := 34) (y2 := 14) (d2 := 1) (mc := 0) (ms := 0) (kc := 0) (ks := 0) (As := [.int x2]) (st := []) (dQ (by decide +kernel)) hcls (by decide +kernel) (by decide) (by decide +kernel) (show 1 = jnp 14 by decide +kernel) (by decide) (show 0 ≤ 8 by decide) (x_isBerth_1 (by omega) (by omega)) (fun v hv4 hq => ?_)
  obtain ⟨rfl, rfl⟩ := hq
  refine j_if_eq (off := 14) (tgt := 25) (dQ (by decide +kernel)) (by decide) (fun q => absurd (congrArg Int32.toInt q) (by rw [i32_z]; omega)) (fun _ => ?_)
  refine j_iload_n (k4 := 3) (dQ (by decide +kernel)) rfl ?_
  refine j_if_eq (off := 16) (tgt := 31) (dQ (by decide +kernel)) (by decide) (fun q => absurd (congrArg Int32.toInt q) (by rw [i32_z]; omega)) (fun _ => ?_)
  refine j_iload_n (k4 := 3) (dQ (by decide +kernel)) rfl ?_
  refine j_cS (own := 11) (i := 73) (y2 := 34) (d2 := 1) (mc := 0) (ms := 0) (kc := 0) (ks := 0) (As := [.int x3]) (st := []) (dQ (by decide +kernel)) hcls (by decide +kernel) (by decide) (by decide +kernel) (show 1 = jnp 34 by decide +kernel) (by decide) (show 0 ≤ 8 by decide) (x_isName_0h (by omega)) (fun v hv6 hq => ?_)
  obtain ⟨rfl, rfl⟩ := hq
  refine j_if_ne (off := 9) (tgt := 31) (dQ (by decide +kernel)) (by decide) (fun q => absurd (i32_eq (show _ = (0 : Int32).toInt by rw [i32_z]; omega)) q) (fun _ => ?_)
  refine j_aload_n (k4 := 0) (dQ (by decide +kernel)) rfl ?_
  refine j_iconst (n := (-1)) (dQ (by decide +kernel)) ?_
  refine j_cV (own := 11) (i := 41) (y2 := 16) (d2 := 1) (mc := 0) (ms := 0) (kc := 0) (ks := 0) (a := b0 + 0) (As := [.int (Int32.ofInt (-1))]) (st := []) (dQ (by decide +kernel)) hcls (by decide +kernel) (by decide) (by decide +kernel) (show 1 = jnp 16 by decide +kernel) (by decide) (show 0 ≤ 8 by decide) hx (fun r hr => by cases hr; decide +kernel) (x_refuse hx lx) (fun v hv8 hq => ?_)
  obtain ⟨rfl, rfl⟩ := hq
  have n9 : (fsx.set 7 (.int (Int32.ofInt (-1)))).length = 12 := by rw [List.length_set]; exact lx
  have f10 : (fsx.set 7 (.int (Int32.ofInt (-1))))[0]? = some (.ref (g.2.2 + (b0 + 1))) := by
    rw [List.getElem?_set_ne (by decide)]
    exact px0
  have k11 : (h.set (b0 + 0) (.inr (11, (fsx.set 7 (.int (Int32.ofInt (-1)))))))[b0 + 0]? = some (.inr (11, (fsx.set 7 (.int (Int32.ofInt (-1)))))) := List.getElem?_set_self (List.getElem?_eq_some_iff.mp hx).1
  exact j_ret (v := some (.int (Int32.ofInt (-1)))) ⟨by decide +kernel, Or.inl (by decide +kernel)⟩ ⟨rfl, rfl⟩ rfl
set_option maxRecDepth 8192 in
theorem xr_see_2h {b1 : Nat} {fsm : List Value} {x1 : Int32} {x2 : Int32} {x3 : Int32} (hm : h[b1 + 0]? = some (.inr (12, fsm))) (lm : fsm.length = 42) (pm2 : fsm[2]? = some (.ref (g.2.2 + (b1 + 1)))) (g1 : 0 ≤ x1.toInt ∧ x1.toInt ≤ 9999) (g2 : 0 ≤ x2.toInt ∧ x2.toInt ≤ 11) (u : 999 < x3.toInt) : jCal l g 281 3 [.ref (g.2.2 + (b1 + 0)), .int x1, .int x2, .int x3] h 0 0 (fun v h' => v = some (.int (Int32.ofInt (-1))) ∧ h' = ((h.set (b1 + 0) (.inr (12, (fsm.set 0 (.int (Int32.ofInt 0)))))).set (b1 + 0) (.inr (12, ((fsm.set 0 (.int (Int32.ofInt 0))).set 1 (.int (Int32.ofInt (-1)))))))) := by
  have hcls : jcN 12 = (jyN 281).cls := by decide +kernel
  have cn0 : (Int32.ofInt 0).toInt = 0 := by decide
  have cn1 : (Int32.ofInt 1).toInt = 1 := by decide
  have cn2 : (Int32.ofInt (-1)).toInt = -1 := by decide
  refine jCal_of (by decide +kernel) (show 4 ≤ jmx 281 by decide +kernel) ?_
  show J l g 281 3 0 [some (.ref (g.2.2 + (b1 + 0))), some (.int x1), some (.int x2), some (.int x3), none] [] h 0 0 _
  refine j_aload_n (k4 := 0) (dQ (by decide +kernel)) rfl ?_
  refine j_iconst (n := 0) (dQ (by decide +kernel)) ?_
  refine j_put (own := 12) (i := 94) (ci := 12) (f := 0) (ty := .int) (dQ (by decide +kernel)) hcls (by decide +kernel) hm rfl (by decide +kernel) (by rw [lm]; decide) (by decide +kernel) (by decide +kernel) rfl rfl ?_
  have n1 : (fsm.set 0 (.int (Int32.ofInt 0))).length = 42 := by rw [List.length_set]; exact lm
  have f2 : (fsm.set 0 (.int (Int32.ofInt 0)))[2]? = some (.ref (g.2.2 + (b1 + 1))) := by
    rw [List.getElem?_set_ne (by decide)]
    exact pm2
  have f3 : (fsm.set 0 (.int (Int32.ofInt 0)))[0]? = some (.int (Int32.ofInt 0)) := List.getElem?_set_self (by rw [lm]; decide)
  have k4 : (h.set (b1 + 0) (.inr (12, (fsm.set 0 (.int (Int32.ofInt 0))))))[b1 + 0]? = some (.inr (12, (fsm.set 0 (.int (Int32.ofInt 0))))) := List.getElem?_set_self (List.getElem?_eq_some_iff.mp hm).1
  refine j_iload_n (k4 := 1) (dQ (by decide +kernel)) rfl ?_
  refine j_cS (own := 12) (i := 288) (y2 := 238) (d2 := 2) (mc := 0) (ms := 0) (kc := 0) (ks := 0) (As := [.int x1]) (st := []) (dQ (by decide +kernel)) hcls (by decide +kernel) (by decide) (by decide +kernel) (show 1 = jnp 238 by decide +kernel) (by decide) (show 0 ≤ 8 by decide) (xm_isMinute_1 (by omega) (by omega)) (fun v hv6 hq => ?_)
  obtain ⟨rfl, rfl⟩ := hq
  refine j_if_eq (off := 22) (tgt := 31) (dQ (by decide +kernel)) (by decide) (fun q => absurd (congrArg Int32.toInt q) (by rw [i32_z]; omega)) (fun _ => ?_)
  refine j_iload_n (k4 := 2) (dQ (by decide +kernel)) rfl ?_
  refine j_cS (own := 12) (i := 285) (y2 := 235) (d2 := 2) (mc := 0) (ms := 0) (kc := 0) (ks := 0) (As := [.int x2]) (st := []) (dQ (by decide +kernel)) hcls (by decide +kernel) (by decide) (by decide +kernel) (show 1 = jnp 235 by decide +kernel) (by decide) (show 0 ≤ 8 by decide) (xm_isBerth_1 (by omega) (by omega)) (fun v hv8 hq => ?_)
  obtain ⟨rfl, rfl⟩ := hq
  refine j_if_eq (off := 15) (tgt := 31) (dQ (by decide +kernel)) (by decide) (fun q => absurd (congrArg Int32.toInt q) (by rw [i32_z]; omega)) (fun _ => ?_)
  refine j_iload_n (k4 := 3) (dQ (by decide +kernel)) rfl ?_
  refine x_i2l (dQ (by decide +kernel)) (fun r9 hr9 => ?_)
  refine j_lconst (n := 0) (dQ (by decide +kernel)) ?_
  have hq10 : (Int64.ofNat ((0 : Fin 2) : Nat)).toInt = 0 := by decide
  refine j_ldc2 (own := 12) (i := 114) (v := 999) hcls (by decide +kernel) (by decide +kernel) ?_
  have hq11 : (999 : Int64).toInt = 999 := by decide
  refine j_cS (own := 12) (i := 100) (y2 := 205) (d2 := 1) (mc := 0) (ms := 0) (kc := 0) (ks := 0) (As := [.long r9, .long (Int64.ofNat ((0 : Fin 2) : Nat)), .long (999 : Int64)]) (st := []) (dQ (by decide +kernel)) hcls (by decide +kernel) (by decide) (by decide +kernel) (show 3 = jnp 205 by decide +kernel) (by decide) (show 0 ≤ 8 by decide) (xm_in_0h (by omega) (by omega)) (fun v hv13 hq => ?_)
  obtain ⟨rfl, rfl⟩ := hq
  refine j_if_ne (off := 9) (tgt := 37) (dQ (by decide +kernel)) (by decide) (fun q => absurd (i32_eq (show _ = (0 : Int32).toInt by rw [i32_z]; omega)) q) (fun _ => ?_)
  refine j_aload_n (k4 := 0) (dQ (by decide +kernel)) rfl ?_
  refine j_iconst (n := (-1)) (dQ (by decide +kernel)) ?_
  refine j_cV (own := 12) (i := 104) (y2 := 206) (d2 := 1) (mc := 0) (ms := 0) (kc := 0) (ks := 0) (a := b1 + 0) (As := [.int (Int32.ofInt (-1))]) (st := []) (dQ (by decide +kernel)) hcls (by decide +kernel) (by decide) (by decide +kernel) (show 1 = jnp 206 by decide +kernel) (by decide) (show 0 ≤ 8 by decide) k4 (fun r hr => by cases hr; decide +kernel) (xm_tellN k4 n1 (by omega)) (fun v hv15 hq => ?_)
  obtain ⟨rfl, rfl⟩ := hq
  have n16 : ((fsm.set 0 (.int (Int32.ofInt 0))).set 1 (.int (Int32.ofInt (-1)))).length = 42 := by rw [List.length_set]; exact n1
  have f17 : ((fsm.set 0 (.int (Int32.ofInt 0))).set 1 (.int (Int32.ofInt (-1))))[2]? = some (.ref (g.2.2 + (b1 + 1))) := by
    rw [List.getElem?_set_ne (by decide)]
    exact f2
  have f18 : ((fsm.set 0 (.int (Int32.ofInt 0))).set 1 (.int (Int32.ofInt (-1))))[0]? = some (.int (Int32.ofInt 0)) := by
    rw [List.getElem?_set_ne (by decide)]
    exact f3
  have k19 : ((h.set (b1 + 0) (.inr (12, (fsm.set 0 (.int (Int32.ofInt 0)))))).set (b1 + 0) (.inr (12, ((fsm.set 0 (.int (Int32.ofInt 0))).set 1 (.int (Int32.ofInt (-1)))))))[b1 + 0]? = some (.inr (12, ((fsm.set 0 (.int (Int32.ofInt 0))).set 1 (.int (Int32.ofInt (-1)))))) := List.getElem?_set_self (List.getElem?_eq_some_iff.mp k4).1
  exact j_ret (v := some (.int (Int32.ofInt (-1)))) ⟨by decide +kernel, Or.inl (by decide +kernel)⟩ ⟨rfl, rfl⟩ rfl
set_option maxRecDepth 8192 in
theorem xk_see_oldz {b0 : Nat} {fsx : List Value} {fss : List Value} {fsi : List Value} {fa : Nat → Int32} {fb : Nat → Int32} {fc : Nat → Int32} {x1 : Int32} {x2 : Int32} {x3 : Int32} {t : Int32} {n : Nat} (hx : h[b0 + 0]? = some (.inr (11, fsx))) (lx : fsx.length = 12) (px0 : fsx[0]? = some (.ref (g.2.2 + (b0 + 1)))) (hs : h[b0 + 1]? = some (.inr (7, fss))) (ls : fss.length = 20) (ps18 : fss[18]? = some (.ref (g.2.2 + (b0 + 37)))) (hi : h[b0 + 37]? = some (.inr (6, fsi))) (li : fsi.length = 8) (pi4 : fsi[4]? = some (.int t)) (pi5 : fsi[5]? = some (.ref (g.2.2 + (b0 + 41)))) (pi6 : fsi[6]? = some (.ref (g.2.2 + (b0 + 42)))) (pi7 : fsi[7]? = some (.ref (g.2.2 + (b0 + 43)))) (ha : h[b0 + 41]? = some (.inl (0, 16, fa))) (hb : h[b0 + 42]? = some (.inl (0, 16, fb))) (hc : h[b0 + 43]? = some (.inl (0, 16, fc))) (g1 : 0 ≤ x1.toInt ∧ x1.toInt ≤ 9999) (g2 : 0 ≤ x2.toInt ∧ x2.toInt ≤ 11) (v : x3.toInt = 0) (u : x1.toInt < (fa (n - 1)).toInt) (et : t.toInt = (n : Int)) (en : 1 ≤ n ∧ n ≤ 16) : jCal l g 131 2 [.ref (g.2.2 + (b0 + 0)), .int x1, .int x2, .int x3] h 0 0 (fun v h' => v = some (.int (Int32.ofInt (-3))) ∧ h' = (h.set (b0 + 0) (.inr (11, (fsx.set 7 (.int (Int32.ofInt (-3)))))))) := by
  have hcls : jcN 11 = (jyN 131).cls := by decide +kernel
  have cn0 : (Int32.ofInt 1).toInt = 1 := by decide
  have cn1 : (Int32.ofInt (-3)).toInt = -3 := by decide
  refine jCal_of (by decide +kernel) (show 4 ≤ jmx 131 by decide +kernel) ?_
  show J l g 131 2 0 [some (.ref (g.2.2 + (b0 + 0))), some (.int x1), some (.int x2), some (.int x3), none] [] h 0 0 _
  refine j_iload_n (k4 := 1) (dQ (by decide +kernel)) rfl ?_
  refine j_cS (own := 11) (i := 63) (y2 := 21) (d2 := 1) (mc := 0) (ms := 0) (kc := 0) (ks := 0) (As := [.int x1]) (st := []) (dQ (by decide +kernel)) hcls (by decide +kernel) (by decide) (by decide +kernel) (show 1 = jnp 21 by decide +kernel) (by decide) (show 0 ≤ 8 by decide) (x_isMinute_1 (by omega) (by omega)) (fun v hv2 hq => ?_)
  obtain ⟨rfl, rfl⟩ := hq
  refine j_if_eq (off := 21) (tgt := 25) (dQ (by decide +kernel)) (by decide) (fun q => absurd (congrArg Int32.toInt q) (by rw [i32_z]; omega)) (fun _ => ?_)
  refine j_iload_n (k4 := 2) (dQ (by decide +kernel)) rfl ?_
  refine j_cS (own := 11) (i := 34) (y2 := 14) (d2 := 1) (mc := 0) (ms := 0) (kc := 0) (ks := 0) (As := [.int x2]) (st := []) (dQ (by decide +kernel)) hcls (by decide +kernel) (by decide) (by decide +kernel) (show 1 = jnp 14 by decide +kernel) (by decide) (show 0 ≤ 8 by decide) (x_isBerth_1 (by omega) (by omega)) (fun v hv4 hq => ?_)
  obtain ⟨rfl, rfl⟩ := hq
  refine j_if_eq (off := 14) (tgt := 25) (dQ (by decide +kernel)) (by decide) (fun q => absurd (congrArg Int32.toInt q) (by rw [i32_z]; omega)) (fun _ => ?_)
  refine j_iload_n (k4 := 3) (dQ (by decide +kernel)) rfl ?_
  refine j_if_eq (off := 16) (tgt := 31) (dQ (by decide +kernel)) (by decide) (fun _ => ?_) (fun q => absurd (i32_eq (show _ = (0 : Int32).toInt by rw [i32_z]; omega)) q)
  refine j_iload_n (k4 := 1) (dQ (by decide +kernel)) rfl ?_
  refine j_aload_n (k4 := 0) (dQ (by decide +kernel)) rfl ?_
  refine j_get (own := 11) (i := 10) (ci := 11) (f := 0) (dQ (by decide +kernel)) hcls (by decide +kernel) hx (fun r hr => by cases hr; decide +kernel) px0 ?_
  refine j_get (own := 11) (i := 239) (ci := 7) (f := 18) (dQ (by decide +kernel)) hcls (by decide +kernel) hs (fun r hr => by cases hr; decide +kernel) ps18 ?_
  refine j_cV (own := 11) (i := 257) (y2 := 132) (d2 := 1) (mc := 0) (ms := 0) (kc := 0) (ks := 0) (a := b0 + 37) (As := []) (st := [.int x1]) (dQ (by decide +kernel)) hcls (by decide +kernel) (by decide) (by decide +kernel) (show 0 = jnp 132 by decide +kernel) (by decide) (show 1 ≤ 8 by decide) hi (fun r hr => by cases hr; decide +kernel) (xs_latest hi li pi4 pi5 ha (by omega) (by omega)) (fun v hv6 hq => ?_)
  obtain ⟨rfl, rfl⟩ := hq
  have k7 : h[b0 + 0]? = some (.inr (11, fsx)) := by exact hx
  have k8 : h[b0 + 1]? = some (.inr (7, fss)) := by exact hs
  have k9 : h[b0 + 37]? = some (.inr (6, fsi)) := by exact hi
  have k10 : h[b0 + 41]? = some (.inl (0, 16, fa)) := by exact ha
  have k11 : h[b0 + 42]? = some (.inl (0, 16, fb)) := by exact hb
  have k12 : h[b0 + 43]? = some (.inl (0, 16, fc)) := by exact hc
  refine j_icmp_ge (off := 10) (tgt := 52) (dQ (by decide +kernel)) (by decide) (fun q => absurd (i32_le.mp q) (by omega)) (fun _ => ?_)
  refine j_aload_n (k4 := 0) (dQ (by decide +kernel)) rfl ?_
  refine x_bi (n := (-3)) (dQ (by decide +kernel)) (by decide) ?_
  refine j_cV (own := 11) (i := 41) (y2 := 16) (d2 := 1) (mc := 0) (ms := 0) (kc := 0) (ks := 0) (a := b0 + 0) (As := [.int (Int32.ofInt (-3))]) (st := []) (dQ (by decide +kernel)) hcls (by decide +kernel) (by decide) (by decide +kernel) (show 1 = jnp 16 by decide +kernel) (by decide) (show 0 ≤ 8 by decide) k7 (fun r hr => by cases hr; decide +kernel) (x_refuse k7 lx) (fun v hv14 hq => ?_)
  obtain ⟨rfl, rfl⟩ := hq
  have n15 : (fsx.set 7 (.int (Int32.ofInt (-3)))).length = 12 := by rw [List.length_set]; exact lx
  have f16 : (fsx.set 7 (.int (Int32.ofInt (-3))))[0]? = some (.ref (g.2.2 + (b0 + 1))) := by
    rw [List.getElem?_set_ne (by decide)]
    exact px0
  have k17 : (h.set (b0 + 0) (.inr (11, (fsx.set 7 (.int (Int32.ofInt (-3)))))))[b0 + 0]? = some (.inr (11, (fsx.set 7 (.int (Int32.ofInt (-3)))))) := List.getElem?_set_self (List.getElem?_eq_some_iff.mp k7).1
  have k18 : (h.set (b0 + 0) (.inr (11, (fsx.set 7 (.int (Int32.ofInt (-3)))))))[b0 + 1]? = some (.inr (7, fss)) := by
    rw [List.getElem?_set_ne (by omega)]
    exact k8
  have k19 : (h.set (b0 + 0) (.inr (11, (fsx.set 7 (.int (Int32.ofInt (-3)))))))[b0 + 37]? = some (.inr (6, fsi)) := by
    rw [List.getElem?_set_ne (by omega)]
    exact k9
  have k20 : (h.set (b0 + 0) (.inr (11, (fsx.set 7 (.int (Int32.ofInt (-3)))))))[b0 + 41]? = some (.inl (0, 16, fa)) := by
    rw [List.getElem?_set_ne (by omega)]
    exact k10
  have k21 : (h.set (b0 + 0) (.inr (11, (fsx.set 7 (.int (Int32.ofInt (-3)))))))[b0 + 42]? = some (.inl (0, 16, fb)) := by
    rw [List.getElem?_set_ne (by omega)]
    exact k11
  have k22 : (h.set (b0 + 0) (.inr (11, (fsx.set 7 (.int (Int32.ofInt (-3)))))))[b0 + 43]? = some (.inl (0, 16, fc)) := by
    rw [List.getElem?_set_ne (by omega)]
    exact k12
  exact j_ret (v := some (.int (Int32.ofInt (-3)))) ⟨by decide +kernel, Or.inl (by decide +kernel)⟩ ⟨rfl, rfl⟩ rfl
set_option maxRecDepth 8192 in
theorem xk_see_fullz {b0 : Nat} {fsx : List Value} {fss : List Value} {fsi : List Value} {fa : Nat → Int32} {fb : Nat → Int32} {fc : Nat → Int32} {x1 : Int32} {x2 : Int32} {x3 : Int32} {t : Int32} {n : Nat} (hx : h[b0 + 0]? = some (.inr (11, fsx))) (lx : fsx.length = 12) (px0 : fsx[0]? = some (.ref (g.2.2 + (b0 + 1)))) (hs : h[b0 + 1]? = some (.inr (7, fss))) (ls : fss.length = 20) (ps18 : fss[18]? = some (.ref (g.2.2 + (b0 + 37)))) (hi : h[b0 + 37]? = some (.inr (6, fsi))) (li : fsi.length = 8) (pi4 : fsi[4]? = some (.int t)) (pi5 : fsi[5]? = some (.ref (g.2.2 + (b0 + 41)))) (pi6 : fsi[6]? = some (.ref (g.2.2 + (b0 + 42)))) (pi7 : fsi[7]? = some (.ref (g.2.2 + (b0 + 43)))) (ha : h[b0 + 41]? = some (.inl (0, 16, fa))) (hb : h[b0 + 42]? = some (.inl (0, 16, fb))) (hc : h[b0 + 43]? = some (.inl (0, 16, fc))) (g1 : 0 ≤ x1.toInt ∧ x1.toInt ≤ 9999) (g2 : 0 ≤ x2.toInt ∧ x2.toInt ≤ 11) (v : x3.toInt = 0) (u : (fa (n - 1)).toInt ≤ x1.toInt) (et : t.toInt = (n : Int)) (en : 16 ≤ n ∧ n ≤ 16) : jCal l g 131 2 [.ref (g.2.2 + (b0 + 0)), .int x1, .int x2, .int x3] h 0 0 (fun v h' => v = some (.int (Int32.ofInt (-5))) ∧ h' = (h.set (b0 + 0) (.inr (11, (fsx.set 7 (.int (Int32.ofInt (-5)))))))) := by
  have hcls : jcN 11 = (jyN 131).cls := by decide +kernel
  have cn0 : (Int32.ofInt 1).toInt = 1 := by decide
  have cn1 : (Int32.ofInt (-1)).toInt = -1 := by decide
  have cn2 : (Int32.ofInt (-5)).toInt = -5 := by decide
  refine jCal_of (by decide +kernel) (show 4 ≤ jmx 131 by decide +kernel) ?_
  show J l g 131 2 0 [some (.ref (g.2.2 + (b0 + 0))), some (.int x1), some (.int x2), some (.int x3), none] [] h 0 0 _
  refine j_iload_n (k4 := 1) (dQ (by decide +kernel)) rfl ?_
  refine j_cS (own := 11) (i := 63) (y2 := 21) (d2 := 1) (mc := 0) (ms := 0) (kc := 0) (ks := 0) (As := [.int x1]) (st := []) (dQ (by decide +kernel)) hcls (by decide +kernel) (by decide) (by decide +kernel) (show 1 = jnp 21 by decide +kernel) (by decide) (show 0 ≤ 8 by decide) (x_isMinute_1 (by omega) (by omega)) (fun v hv2 hq => ?_)
  obtain ⟨rfl, rfl⟩ := hq
  refine j_if_eq (off := 21) (tgt := 25) (dQ (by decide +kernel)) (by decide) (fun q => absurd (congrArg Int32.toInt q) (by rw [i32_z]; omega)) (fun _ => ?_)
  refine j_iload_n (k4 := 2) (dQ (by decide +kernel)) rfl ?_
  refine j_cS (own := 11) (i := 34) (y2 := 14) (d2 := 1) (mc := 0) (ms := 0) (kc := 0) (ks := 0) (As := [.int x2]) (st := []) (dQ (by decide +kernel)) hcls (by decide +kernel) (by decide) (by decide +kernel) (show 1 = jnp 14 by decide +kernel) (by decide) (show 0 ≤ 8 by decide) (x_isBerth_1 (by omega) (by omega)) (fun v hv4 hq => ?_)
  obtain ⟨rfl, rfl⟩ := hq
  refine j_if_eq (off := 14) (tgt := 25) (dQ (by decide +kernel)) (by decide) (fun q => absurd (congrArg Int32.toInt q) (by rw [i32_z]; omega)) (fun _ => ?_)
  refine j_iload_n (k4 := 3) (dQ (by decide +kernel)) rfl ?_
  refine j_if_eq (off := 16) (tgt := 31) (dQ (by decide +kernel)) (by decide) (fun _ => ?_) (fun q => absurd (i32_eq (show _ = (0 : Int32).toInt by rw [i32_z]; omega)) q)
  refine j_iload_n (k4 := 1) (dQ (by decide +kernel)) rfl ?_
  refine j_aload_n (k4 := 0) (dQ (by decide +kernel)) rfl ?_
  refine j_get (own := 11) (i := 10) (ci := 11) (f := 0) (dQ (by decide +kernel)) hcls (by decide +kernel) hx (fun r hr => by cases hr; decide +kernel) px0 ?_
  refine j_get (own := 11) (i := 239) (ci := 7) (f := 18) (dQ (by decide +kernel)) hcls (by decide +kernel) hs (fun r hr => by cases hr; decide +kernel) ps18 ?_
  refine j_cV (own := 11) (i := 257) (y2 := 132) (d2 := 1) (mc := 0) (ms := 0) (kc := 0) (ks := 0) (a := b0 + 37) (As := []) (st := [.int x1]) (dQ (by decide +kernel)) hcls (by decide +kernel) (by decide) (by decide +kernel) (show 0 = jnp 132 by decide +kernel) (by decide) (show 1 ≤ 8 by decide) hi (fun r hr => by cases hr; decide +kernel) (xs_latest hi li pi4 pi5 ha (by omega) (by omega)) (fun v hv6 hq => ?_)
  obtain ⟨rfl, rfl⟩ := hq
  have k7 : h[b0 + 0]? = some (.inr (11, fsx)) := by exact hx
  have k8 : h[b0 + 1]? = some (.inr (7, fss)) := by exact hs
  have k9 : h[b0 + 37]? = some (.inr (6, fsi)) := by exact hi
  have k10 : h[b0 + 41]? = some (.inl (0, 16, fa)) := by exact ha
  have k11 : h[b0 + 42]? = some (.inl (0, 16, fb)) := by exact hb
  have k12 : h[b0 + 43]? = some (.inl (0, 16, fc)) := by exact hc
  refine j_icmp_ge (off := 10) (tgt := 52) (dQ (by decide +kernel)) (by decide) (fun _ => ?_) (fun q => absurd (i32_le.mpr (by omega)) q)
  refine j_aload_n (k4 := 0) (dQ (by decide +kernel)) rfl ?_
  refine j_get (own := 11) (i := 10) (ci := 11) (f := 0) (dQ (by decide +kernel)) hcls (by decide +kernel) k7 (fun r hr => by cases hr; decide +kernel) px0 ?_
  refine j_get (own := 11) (i := 239) (ci := 7) (f := 18) (dQ (by decide +kernel)) hcls (by decide +kernel) k8 (fun r hr => by cases hr; decide +kernel) ps18 ?_
  refine j_iload_n (k4 := 1) (dQ (by decide +kernel)) rfl ?_
  refine j_iload_n (k4 := 2) (dQ (by decide +kernel)) rfl ?_
  refine j_iload_n (k4 := 3) (dQ (by decide +kernel)) rfl ?_
  refine j_cV (own := 11) (i := 260) (y2 := 133) (d2 := 1) (mc := 0) (ms := 0) (kc := 0) (ks := 0) (a := b0 + 37) (As := [.int x1, .int x2, .int x3]) (st := []) (dQ (by decide +kernel)) hcls (by decide +kernel) (by decide) (by decide +kernel) (show 3 = jnp 133 by decide +kernel) (by decide) (show 0 ≤ 8 by decide) k9 (fun r hr => by cases hr; decide +kernel) (xs_addSeenF k9 li pi4 (by omega) (by omega)) (fun v hv14 hq => ?_)
  obtain ⟨rfl, rfl⟩ := hq
  have k15 : h[b0 + 0]? = some (.inr (11, fsx)) := by exact k7
  have k16 : h[b0 + 1]? = some (.inr (7, fss)) := by exact k8
  have k17 : h[b0 + 37]? = some (.inr (6, fsi)) := by exact k9
  have k18 : h[b0 + 41]? = some (.inl (0, 16, fa)) := by exact k10
  have k19 : h[b0 + 42]? = some (.inl (0, 16, fb)) := by exact k11
  have k20 : h[b0 + 43]? = some (.inl (0, 16, fc)) := by exact k12
  refine j_istore (i := 4) (dQ (by decide +kernel)) (by decide +kernel) ?_
  refine j_iload (i := 4) (dQ (by decide +kernel)) rfl ?_
  refine j_iconst (n := (-1)) (dQ (by decide +kernel)) ?_
  refine j_icmp_ne (off := 10) (tgt := 80) (dQ (by decide +kernel)) (by decide) (fun q => absurd (i32_eq (by omega)) q) (fun _ => ?_)
  refine j_aload_n (k4 := 0) (dQ (by decide +kernel)) rfl ?_
  refine x_bi (n := (-5)) (dQ (by decide +kernel)) (by decide) ?_
  refine j_cV (own := 11) (i := 41) (y2 := 16) (d2 := 1) (mc := 0) (ms := 0) (kc := 0) (ks := 0) (a := b0 + 0) (As := [.int (Int32.ofInt (-5))]) (st := []) (dQ (by decide +kernel)) hcls (by decide +kernel) (by decide) (by decide +kernel) (show 1 = jnp 16 by decide +kernel) (by decide) (show 0 ≤ 8 by decide) k15 (fun r hr => by cases hr; decide +kernel) (x_refuse k15 lx) (fun v hv22 hq => ?_)
  obtain ⟨rfl, rfl⟩ := hq
  have n23 : (fsx.set 7 (.int (Int32.ofInt (-5)))).length = 12 := by rw [List.length_set]; exact lx
  have f24 : (fsx.set 7 (.int (Int32.ofInt (-5))))[0]? = some (.ref (g.2.2 + (b0 + 1))) := by
    rw [List.getElem?_set_ne (by decide)]
    exact px0
  have k25 : (h.set (b0 + 0) (.inr (11, (fsx.set 7 (.int (Int32.ofInt (-5)))))))[b0 + 0]? = some (.inr (11, (fsx.set 7 (.int (Int32.ofInt (-5)))))) := List.getElem?_set_self (List.getElem?_eq_some_iff.mp k15).1
  have k26 : (h.set (b0 + 0) (.inr (11, (fsx.set 7 (.int (Int32.ofInt (-5)))))))[b0 + 1]? = some (.inr (7, fss)) := by
    rw [List.getElem?_set_ne (by omega)]
    exact k16
  have k27 : (h.set (b0 + 0) (.inr (11, (fsx.set 7 (.int (Int32.ofInt (-5)))))))[b0 + 37]? = some (.inr (6, fsi)) := by
    rw [List.getElem?_set_ne (by omega)]
    exact k17
  have k28 : (h.set (b0 + 0) (.inr (11, (fsx.set 7 (.int (Int32.ofInt (-5)))))))[b0 + 41]? = some (.inl (0, 16, fa)) := by
    rw [List.getElem?_set_ne (by omega)]
    exact k18
  have k29 : (h.set (b0 + 0) (.inr (11, (fsx.set 7 (.int (Int32.ofInt (-5)))))))[b0 + 42]? = some (.inl (0, 16, fb)) := by
    rw [List.getElem?_set_ne (by omega)]
    exact k19
  have k30 : (h.set (b0 + 0) (.inr (11, (fsx.set 7 (.int (Int32.ofInt (-5)))))))[b0 + 43]? = some (.inl (0, 16, fc)) := by
    rw [List.getElem?_set_ne (by omega)]
    exact k20
  exact j_ret (v := some (.int (Int32.ofInt (-5)))) ⟨by decide +kernel, Or.inl (by decide +kernel)⟩ ⟨rfl, rfl⟩ rfl
set_option maxRecDepth 8192 in
theorem xk_see_okzz {b0 : Nat} {fsx : List Value} {fss : List Value} {fsi : List Value} {fa : Nat → Int32} {fb : Nat → Int32} {fc : Nat → Int32} {x1 : Int32} {x2 : Int32} {x3 : Int32} {t : Int32} {n : Nat} (hx : h[b0 + 0]? = some (.inr (11, fsx))) (lx : fsx.length = 12) (px0 : fsx[0]? = some (.ref (g.2.2 + (b0 + 1)))) (hs : h[b0 + 1]? = some (.inr (7, fss))) (ls : fss.length = 20) (ps18 : fss[18]? = some (.ref (g.2.2 + (b0 + 37)))) (hi : h[b0 + 37]? = some (.inr (6, fsi))) (li : fsi.length = 8) (pi4 : fsi[4]? = some (.int t)) (pi5 : fsi[5]? = some (.ref (g.2.2 + (b0 + 41)))) (pi6 : fsi[6]? = some (.ref (g.2.2 + (b0 + 42)))) (pi7 : fsi[7]? = some (.ref (g.2.2 + (b0 + 43)))) (ha : h[b0 + 41]? = some (.inl (0, 16, fa))) (hb : h[b0 + 42]? = some (.inl (0, 16, fb))) (hc : h[b0 + 43]? = some (.inl (0, 16, fc))) (g1 : 0 ≤ x1.toInt ∧ x1.toInt ≤ 9999) (g2 : 0 ≤ x2.toInt ∧ x2.toInt ≤ 11) (v : x3.toInt = 0) (et : t.toInt = (n : Int)) (en : 0 ≤ n ∧ n ≤ 0) {a : Nat} (ua : ∀ o, o < 62 → a + 0 ≠ b0 + o) (hM : MEN g h a fsx) : jCal l g 131 2 [.ref (g.2.2 + (b0 + 0)), .int x1, .int x2, .int x3] h 0 0 (fun v h' => ∃ r15 : Int32, r15.toInt = ((((n + 1) - 1) : Nat) : Int) ∧ ∃ r14 : Int32, r14.toInt = (((n + 1) : Nat) : Int) ∧ ∃ hv31, FgM (a + 0) ((((h.set (b0 + 41) (.inl (0, 16, (upd fa n x1)))).set (b0 + 42) (.inl (0, 16, (upd fb n x2)))).set (b0 + 43) (.inl (0, 16, (upd fc n x3)))).set (b0 + 37) (.inr (6, (fsi.set 4 (.int r14))))) hv31 ∧ v = some (.int r15) ∧ h' = (hv31.set (b0 + 0) (.inr (11, (fsx.set 7 (.int (Int32.ofInt 0))))))) := by
  have hcls : jcN 11 = (jyN 131).cls := by decide +kernel
  have cn0 : (Int32.ofInt 1).toInt = 1 := by decide
  have cn1 : (Int32.ofInt 0).toInt = 0 := by decide
  have cn2 : (Int32.ofInt (-1)).toInt = -1 := by decide
  refine jCal_of (by decide +kernel) (show 4 ≤ jmx 131 by decide +kernel) ?_
  show J l g 131 2 0 [some (.ref (g.2.2 + (b0 + 0))), some (.int x1), some (.int x2), some (.int x3), none] [] h 0 0 _
  refine j_iload_n (k4 := 1) (dQ (by decide +kernel)) rfl ?_
  refine j_cS (own := 11) (i := 63) (y2 := 21) (d2 := 1) (mc := 0) (ms := 0) (kc := 0) (ks := 0) (As := [.int x1]) (st := []) (dQ (by decide +kernel)) hcls (by decide +kernel) (by decide) (by decide +kernel) (show 1 = jnp 21 by decide +kernel) (by decide) (show 0 ≤ 8 by decide) (x_isMinute_1 (by omega) (by omega)) (fun v hv2 hq => ?_)
  obtain ⟨rfl, rfl⟩ := hq
  refine j_if_eq (off := 21) (tgt := 25) (dQ (by decide +kernel)) (by decide) (fun q => absurd (congrArg Int32.toInt q) (by rw [i32_z]; omega)) (fun _ => ?_)
  refine j_iload_n (k4 := 2) (dQ (by decide +kernel)) rfl ?_
  refine j_cS (own := 11) (i := 34) (y2 := 14) (d2 := 1) (mc := 0) (ms := 0) (kc := 0) (ks := 0) (As := [.int x2]) (st := []) (dQ (by decide +kernel)) hcls (by decide +kernel) (by decide) (by decide +kernel) (show 1 = jnp 14 by decide +kernel) (by decide) (show 0 ≤ 8 by decide) (x_isBerth_1 (by omega) (by omega)) (fun v hv4 hq => ?_)
  obtain ⟨rfl, rfl⟩ := hq
  refine j_if_eq (off := 14) (tgt := 25) (dQ (by decide +kernel)) (by decide) (fun q => absurd (congrArg Int32.toInt q) (by rw [i32_z]; omega)) (fun _ => ?_)
  refine j_iload_n (k4 := 3) (dQ (by decide +kernel)) rfl ?_
  refine j_if_eq (off := 16) (tgt := 31) (dQ (by decide +kernel)) (by decide) (fun _ => ?_) (fun q => absurd (i32_eq (show _ = (0 : Int32).toInt by rw [i32_z]; omega)) q)
  refine j_iload_n (k4 := 1) (dQ (by decide +kernel)) rfl ?_
  refine j_aload_n (k4 := 0) (dQ (by decide +kernel)) rfl ?_
  refine j_get (own := 11) (i := 10) (ci := 11) (f := 0) (dQ (by decide +kernel)) hcls (by decide +kernel) hx (fun r hr => by cases hr; decide +kernel) px0 ?_
  refine j_get (own := 11) (i := 239) (ci := 7) (f := 18) (dQ (by decide +kernel)) hcls (by decide +kernel) hs (fun r hr => by cases hr; decide +kernel) ps18 ?_
  refine j_cV (own := 11) (i := 257) (y2 := 132) (d2 := 1) (mc := 0) (ms := 0) (kc := 0) (ks := 0) (a := b0 + 37) (As := []) (st := [.int x1]) (dQ (by decide +kernel)) hcls (by decide +kernel) (by decide) (by decide +kernel) (show 0 = jnp 132 by decide +kernel) (by decide) (show 1 ≤ 8 by decide) hi (fun r hr => by cases hr; decide +kernel) (xs_latest0 hi li pi4 (by omega) (by omega)) (fun v hv6 hq => ?_)
  obtain ⟨rfl, rfl⟩ := hq
  have k7 : h[b0 + 0]? = some (.inr (11, fsx)) := by exact hx
  have k8 : h[b0 + 1]? = some (.inr (7, fss)) := by exact hs
  have k9 : h[b0 + 37]? = some (.inr (6, fsi)) := by exact hi
  have k10 : h[b0 + 41]? = some (.inl (0, 16, fa)) := by exact ha
  have k11 : h[b0 + 42]? = some (.inl (0, 16, fb)) := by exact hb
  have k12 : h[b0 + 43]? = some (.inl (0, 16, fc)) := by exact hc
  have M13 : MEN g h a fsx := hM
  refine j_icmp_ge (off := 10) (tgt := 52) (dQ (by decide +kernel)) (by decide) (fun _ => ?_) (fun q => absurd (i32_le.mpr (by omega)) q)
  refine j_aload_n (k4 := 0) (dQ (by decide +kernel)) rfl ?_
  refine j_get (own := 11) (i := 10) (ci := 11) (f := 0) (dQ (by decide +kernel)) hcls (by decide +kernel) k7 (fun r hr => by cases hr; decide +kernel) px0 ?_
  refine j_get (own := 11) (i := 239) (ci := 7) (f := 18) (dQ (by decide +kernel)) hcls (by decide +kernel) k8 (fun r hr => by cases hr; decide +kernel) ps18 ?_
  refine j_iload_n (k4 := 1) (dQ (by decide +kernel)) rfl ?_
  refine j_iload_n (k4 := 2) (dQ (by decide +kernel)) rfl ?_
  refine j_iload_n (k4 := 3) (dQ (by decide +kernel)) rfl ?_
  refine j_cV (own := 11) (i := 260) (y2 := 133) (d2 := 1) (mc := 0) (ms := 0) (kc := 0) (ks := 0) (a := b0 + 37) (As := [.int x1, .int x2, .int x3]) (st := []) (dQ (by decide +kernel)) hcls (by decide +kernel) (by decide) (by decide +kernel) (show 3 = jnp 133 by decide +kernel) (by decide) (show 0 ≤ 8 by decide) k9 (fun r hr => by cases hr; decide +kernel) (xs_addSeen k9 li pi4 pi5 pi6 pi7 k10 k11 k12 (by omega) (by omega)) (fun v hv17 hq => ?_)
  obtain ⟨r14, hr14, r15, hr15, rfl, rfl⟩ := hq
  have k18 : ((((h.set (b0 + 41) (.inl (0, 16, (upd fa n x1)))).set (b0 + 42) (.inl (0, 16, (upd fb n x2)))).set (b0 + 43) (.inl (0, 16, (upd fc n x3)))).set (b0 + 37) (.inr (6, (fsi.set 4 (.int r14)))))[b0 + 0]? = some (.inr (11, fsx)) := by rw [List.getElem?_set_ne (by omega), List.getElem?_set_ne (by omega), List.getElem?_set_ne (by omega), List.getElem?_set_ne (by omega)]; exact k7
  have k19 : ((((h.set (b0 + 41) (.inl (0, 16, (upd fa n x1)))).set (b0 + 42) (.inl (0, 16, (upd fb n x2)))).set (b0 + 43) (.inl (0, 16, (upd fc n x3)))).set (b0 + 37) (.inr (6, (fsi.set 4 (.int r14)))))[b0 + 1]? = some (.inr (7, fss)) := by rw [List.getElem?_set_ne (by omega), List.getElem?_set_ne (by omega), List.getElem?_set_ne (by omega), List.getElem?_set_ne (by omega)]; exact k8
  have n21 : (fsi.set 4 (.int r14)).length = 8 := by rw [List.length_set]; exact li
  have f22 : (fsi.set 4 (.int r14))[5]? = some (.ref (g.2.2 + (b0 + 41))) := by rw [List.getElem?_set_ne (by decide)]; exact pi5
  have f23 : (fsi.set 4 (.int r14))[6]? = some (.ref (g.2.2 + (b0 + 42))) := by rw [List.getElem?_set_ne (by decide)]; exact pi6
  have f24 : (fsi.set 4 (.int r14))[7]? = some (.ref (g.2.2 + (b0 + 43))) := by rw [List.getElem?_set_ne (by decide)]; exact pi7
  have f25 : (fsi.set 4 (.int r14))[4]? = some (.int r14) := List.getElem?_set_self (by rw [li]; decide)
  have k20 : ((((h.set (b0 + 41) (.inl (0, 16, (upd fa n x1)))).set (b0 + 42) (.inl (0, 16, (upd fb n x2)))).set (b0 + 43) (.inl (0, 16, (upd fc n x3)))).set (b0 + 37) (.inr (6, (fsi.set 4 (.int r14)))))[b0 + 37]? = some (.inr (6, (fsi.set 4 (.int r14)))) := by exact List.getElem?_set_self (by first | exact (List.getElem?_eq_some_iff.mp k9).1 | (simp only [List.length_set]; exact (List.getElem?_eq_some_iff.mp k9).1))
  have k26 : ((((h.set (b0 + 41) (.inl (0, 16, (upd fa n x1)))).set (b0 + 42) (.inl (0, 16, (upd fb n x2)))).set (b0 + 43) (.inl (0, 16, (upd fc n x3)))).set (b0 + 37) (.inr (6, (fsi.set 4 (.int r14)))))[b0 + 41]? = some (.inl (0, 16, (upd fa n x1))) := by rw [List.getElem?_set_ne (by omega), List.getElem?_set_ne (by omega), List.getElem?_set_ne (by omega)]; exact List.getElem?_set_self (by first | exact (List.getElem?_eq_some_iff.mp k10).1 | (simp only [List.length_set]; exact (List.getElem?_eq_some_iff.mp k10).1))
  have k27 : ((((h.set (b0 + 41) (.inl (0, 16, (upd fa n x1)))).set (b0 + 42) (.inl (0, 16, (upd fb n x2)))).set (b0 + 43) (.inl (0, 16, (upd fc n x3)))).set (b0 + 37) (.inr (6, (fsi.set 4 (.int r14)))))[b0 + 42]? = some (.inl (0, 16, (upd fb n x2))) := by rw [List.getElem?_set_ne (by omega), List.getElem?_set_ne (by omega)]; exact List.getElem?_set_self (by first | exact (List.getElem?_eq_some_iff.mp k11).1 | (simp only [List.length_set]; exact (List.getElem?_eq_some_iff.mp k11).1))
  have k28 : ((((h.set (b0 + 41) (.inl (0, 16, (upd fa n x1)))).set (b0 + 42) (.inl (0, 16, (upd fb n x2)))).set (b0 + 43) (.inl (0, 16, (upd fc n x3)))).set (b0 + 37) (.inr (6, (fsi.set 4 (.int r14)))))[b0 + 43]? = some (.inl (0, 16, (upd fc n x3))) := by rw [List.getElem?_set_ne (by omega)]; exact List.getElem?_set_self (by first | exact (List.getElem?_eq_some_iff.mp k12).1 | (simp only [List.length_set]; exact (List.getElem?_eq_some_iff.mp k12).1))
  have M29 : MEN g ((((h.set (b0 + 41) (.inl (0, 16, (upd fa n x1)))).set (b0 + 42) (.inl (0, 16, (upd fb n x2)))).set (b0 + 43) (.inl (0, 16, (upd fc n x3)))).set (b0 + 37) (.inr (6, (fsi.set 4 (.int r14))))) a fsx := ((((M13.set (Ne.symm (ua 41 (by decide)))).set (Ne.symm (ua 42 (by decide)))).set (Ne.symm (ua 43 (by decide)))).set (Ne.symm (ua 37 (by decide))))
  refine j_istore (i := 4) (dQ (by decide +kernel)) (by decide +kernel) ?_
  refine j_iload (i := 4) (dQ (by decide +kernel)) rfl ?_
  refine j_iconst (n := (-1)) (dQ (by decide +kernel)) ?_
  refine j_icmp_ne (off := 10) (tgt := 80) (dQ (by decide +kernel)) (by decide) (fun _ => ?_) (fun q => absurd (fun q => absurd (congrArg Int32.toInt q) (by omega)) q)
  refine j_aload_n (k4 := 0) (dQ (by decide +kernel)) rfl ?_
  refine j_cV (own := 11) (i := 235) (y2 := 127) (d2 := 1) (mc := 0) (ms := 0) (kc := 0) (ks := 0) (a := b0 + 0) (As := []) (st := []) (dQ (by decide +kernel)) hcls (by decide +kernel) (by decide) (by decide +kernel) (show 0 = jnp 127 by decide +kernel) (by decide) (show 0 ≤ 8 by decide) k18 (fun r hr => by cases hr; decide +kernel) (x_forget k18 M29) (fun v hv31 hq => ?_)
  obtain ⟨rfl, F32⟩ := hq
  have k33 : hv31[b0 + 0]? = some (.inr (11, fsx)) := (F32 _ (Ne.symm (ua 0 (by decide)))).trans k18
  have k34 : hv31[b0 + 1]? = some (.inr (7, fss)) := (F32 _ (Ne.symm (ua 1 (by decide)))).trans k19
  have k35 : hv31[b0 + 37]? = some (.inr (6, (fsi.set 4 (.int r14)))) := (F32 _ (Ne.symm (ua 37 (by decide)))).trans k20
  have k36 : hv31[b0 + 41]? = some (.inl (0, 16, (upd fa n x1))) := (F32 _ (Ne.symm (ua 41 (by decide)))).trans k26
  have k37 : hv31[b0 + 42]? = some (.inl (0, 16, (upd fb n x2))) := (F32 _ (Ne.symm (ua 42 (by decide)))).trans k27
  have k38 : hv31[b0 + 43]? = some (.inl (0, 16, (upd fc n x3))) := (F32 _ (Ne.symm (ua 43 (by decide)))).trans k28
  refine j_aload_n (k4 := 0) (dQ (by decide +kernel)) rfl ?_
  refine j_iload (i := 4) (dQ (by decide +kernel)) rfl ?_
  refine j_cV (own := 11) (i := 48) (y2 := 17) (d2 := 1) (mc := 0) (ms := 0) (kc := 0) (ks := 0) (a := b0 + 0) (As := [.int r15]) (st := []) (dQ (by decide +kernel)) hcls (by decide +kernel) (by decide) (by decide +kernel) (show 1 = jnp 17 by decide +kernel) (by decide) (show 0 ≤ 8 by decide) k33 (fun r hr => by cases hr; decide +kernel) (x_allow k33 lx) (fun v hv40 hq => ?_)
  obtain ⟨rfl, rfl⟩ := hq
  have n41 : (fsx.set 7 (.int (Int32.ofInt 0))).length = 12 := by rw [List.length_set]; exact lx
  have f42 : (fsx.set 7 (.int (Int32.ofInt 0)))[0]? = some (.ref (g.2.2 + (b0 + 1))) := by
    rw [List.getElem?_set_ne (by decide)]
    exact px0
  have k43 : (hv31.set (b0 + 0) (.inr (11, (fsx.set 7 (.int (Int32.ofInt 0))))))[b0 + 0]? = some (.inr (11, (fsx.set 7 (.int (Int32.ofInt 0))))) := List.getElem?_set_self (List.getElem?_eq_some_iff.mp k33).1
  have k44 : (hv31.set (b0 + 0) (.inr (11, (fsx.set 7 (.int (Int32.ofInt 0))))))[b0 + 1]? = some (.inr (7, fss)) := by
    rw [List.getElem?_set_ne (by omega)]
    exact k34
  have k45 : (hv31.set (b0 + 0) (.inr (11, (fsx.set 7 (.int (Int32.ofInt 0))))))[b0 + 37]? = some (.inr (6, (fsi.set 4 (.int r14)))) := by
    rw [List.getElem?_set_ne (by omega)]
    exact k35
  have k46 : (hv31.set (b0 + 0) (.inr (11, (fsx.set 7 (.int (Int32.ofInt 0))))))[b0 + 41]? = some (.inl (0, 16, (upd fa n x1))) := by
    rw [List.getElem?_set_ne (by omega)]
    exact k36
  have k47 : (hv31.set (b0 + 0) (.inr (11, (fsx.set 7 (.int (Int32.ofInt 0))))))[b0 + 42]? = some (.inl (0, 16, (upd fb n x2))) := by
    rw [List.getElem?_set_ne (by omega)]
    exact k37
  have k48 : (hv31.set (b0 + 0) (.inr (11, (fsx.set 7 (.int (Int32.ofInt 0))))))[b0 + 43]? = some (.inl (0, 16, (upd fc n x3))) := by
    rw [List.getElem?_set_ne (by omega)]
    exact k38
  exact j_ret (v := some (.int r15)) ⟨by decide +kernel, Or.inl (by decide +kernel)⟩ ⟨r15, by omega, r14, by omega, hv31, F32, rfl, rfl⟩ rfl
set_option maxRecDepth 8192 in
theorem xk_see_okz {b0 : Nat} {fsx : List Value} {fss : List Value} {fsi : List Value} {fa : Nat → Int32} {fb : Nat → Int32} {fc : Nat → Int32} {x1 : Int32} {x2 : Int32} {x3 : Int32} {t : Int32} {n : Nat} (hx : h[b0 + 0]? = some (.inr (11, fsx))) (lx : fsx.length = 12) (px0 : fsx[0]? = some (.ref (g.2.2 + (b0 + 1)))) (hs : h[b0 + 1]? = some (.inr (7, fss))) (ls : fss.length = 20) (ps18 : fss[18]? = some (.ref (g.2.2 + (b0 + 37)))) (hi : h[b0 + 37]? = some (.inr (6, fsi))) (li : fsi.length = 8) (pi4 : fsi[4]? = some (.int t)) (pi5 : fsi[5]? = some (.ref (g.2.2 + (b0 + 41)))) (pi6 : fsi[6]? = some (.ref (g.2.2 + (b0 + 42)))) (pi7 : fsi[7]? = some (.ref (g.2.2 + (b0 + 43)))) (ha : h[b0 + 41]? = some (.inl (0, 16, fa))) (hb : h[b0 + 42]? = some (.inl (0, 16, fb))) (hc : h[b0 + 43]? = some (.inl (0, 16, fc))) (g1 : 0 ≤ x1.toInt ∧ x1.toInt ≤ 9999) (g2 : 0 ≤ x2.toInt ∧ x2.toInt ≤ 11) (v : x3.toInt = 0) (u : (fa (n - 1)).toInt ≤ x1.toInt) (et : t.toInt = (n : Int)) (en : 1 ≤ n ∧ n ≤ 15) {a : Nat} (ua : ∀ o, o < 62 → a + 0 ≠ b0 + o) (hM : MEN g h a fsx) : jCal l g 131 2 [.ref (g.2.2 + (b0 + 0)), .int x1, .int x2, .int x3] h 0 0 (fun v h' => ∃ r15 : Int32, r15.toInt = ((((n + 1) - 1) : Nat) : Int) ∧ ∃ r14 : Int32, r14.toInt = (((n + 1) : Nat) : Int) ∧ ∃ hv31, FgM (a + 0) ((((h.set (b0 + 41) (.inl (0, 16, (upd fa n x1)))).set (b0 + 42) (.inl (0, 16, (upd fb n x2)))).set (b0 + 43) (.inl (0, 16, (upd fc n x3)))).set (b0 + 37) (.inr (6, (fsi.set 4 (.int r14))))) hv31 ∧ v = some (.int r15) ∧ h' = (hv31.set (b0 + 0) (.inr (11, (fsx.set 7 (.int (Int32.ofInt 0))))))) := by
  have hcls : jcN 11 = (jyN 131).cls := by decide +kernel
  have cn0 : (Int32.ofInt 1).toInt = 1 := by decide
  have cn1 : (Int32.ofInt (-1)).toInt = -1 := by decide
  have cn2 : (Int32.ofInt 0).toInt = 0 := by decide
  refine jCal_of (by decide +kernel) (show 4 ≤ jmx 131 by decide +kernel) ?_
  show J l g 131 2 0 [some (.ref (g.2.2 + (b0 + 0))), some (.int x1), some (.int x2), some (.int x3), none] [] h 0 0 _
  refine j_iload_n (k4 := 1) (dQ (by decide +kernel)) rfl ?_
  refine j_cS (own := 11) (i := 63) (y2 := 21) (d2 := 1) (mc := 0) (ms := 0) (kc := 0) (ks := 0) (As := [.int x1]) (st := []) (dQ (by decide +kernel)) hcls (by decide +kernel) (by decide) (by decide +kernel) (show 1 = jnp 21 by decide +kernel) (by decide) (show 0 ≤ 8 by decide) (x_isMinute_1 (by omega) (by omega)) (fun v hv2 hq => ?_)
  obtain ⟨rfl, rfl⟩ := hq
  refine j_if_eq (off := 21) (tgt := 25) (dQ (by decide +kernel)) (by decide) (fun q => absurd (congrArg Int32.toInt q) (by rw [i32_z]; omega)) (fun _ => ?_)
  refine j_iload_n (k4 := 2) (dQ (by decide +kernel)) rfl ?_
  refine j_cS (own := 11) (i := 34) (y2 := 14) (d2 := 1) (mc := 0) (ms := 0) (kc := 0) (ks := 0) (As := [.int x2]) (st := []) (dQ (by decide +kernel)) hcls (by decide +kernel) (by decide) (by decide +kernel) (show 1 = jnp 14 by decide +kernel) (by decide) (show 0 ≤ 8 by decide) (x_isBerth_1 (by omega) (by omega)) (fun v hv4 hq => ?_)
  obtain ⟨rfl, rfl⟩ := hq
  refine j_if_eq (off := 14) (tgt := 25) (dQ (by decide +kernel)) (by decide) (fun q => absurd (congrArg Int32.toInt q) (by rw [i32_z]; omega)) (fun _ => ?_)
  refine j_iload_n (k4 := 3) (dQ (by decide +kernel)) rfl ?_
  refine j_if_eq (off := 16) (tgt := 31) (dQ (by decide +kernel)) (by decide) (fun _ => ?_) (fun q => absurd (i32_eq (show _ = (0 : Int32).toInt by rw [i32_z]; omega)) q)
  refine j_iload_n (k4 := 1) (dQ (by decide +kernel)) rfl ?_
  refine j_aload_n (k4 := 0) (dQ (by decide +kernel)) rfl ?_
  refine j_get (own := 11) (i := 10) (ci := 11) (f := 0) (dQ (by decide +kernel)) hcls (by decide +kernel) hx (fun r hr => by cases hr; decide +kernel) px0 ?_
  refine j_get (own := 11) (i := 239) (ci := 7) (f := 18) (dQ (by decide +kernel)) hcls (by decide +kernel) hs (fun r hr => by cases hr; decide +kernel) ps18 ?_
  refine j_cV (own := 11) (i := 257) (y2 := 132) (d2 := 1) (mc := 0) (ms := 0) (kc := 0) (ks := 0) (a := b0 + 37) (As := []) (st := [.int x1]) (dQ (by decide +kernel)) hcls (by decide +kernel) (by decide) (by decide +kernel) (show 0 = jnp 132 by decide +kernel) (by decide) (show 1 ≤ 8 by decide) hi (fun r hr => by cases hr; decide +kernel) (xs_latest hi li pi4 pi5 ha (by omega) (by omega)) (fun v hv6 hq => ?_)
  obtain ⟨rfl, rfl⟩ := hq
  have k7 : h[b0 + 0]? = some (.inr (11, fsx)) := by exact hx
  have k8 : h[b0 + 1]? = some (.inr (7, fss)) := by exact hs
  have k9 : h[b0 + 37]? = some (.inr (6, fsi)) := by exact hi
  have k10 : h[b0 + 41]? = some (.inl (0, 16, fa)) := by exact ha
  have k11 : h[b0 + 42]? = some (.inl (0, 16, fb)) := by exact hb
  have k12 : h[b0 + 43]? = some (.inl (0, 16, fc)) := by exact hc
  have M13 : MEN g h a fsx := hM
  refine j_icmp_ge (off := 10) (tgt := 52) (dQ (by decide +kernel)) (by decide) (fun _ => ?_) (fun q => absurd (i32_le.mpr (by omega)) q)
  refine j_aload_n (k4 := 0) (dQ (by decide +kernel)) rfl ?_
  refine j_get (own := 11) (i := 10) (ci := 11) (f := 0) (dQ (by decide +kernel)) hcls (by decide +kernel) k7 (fun r hr => by cases hr; decide +kernel) px0 ?_
  refine j_get (own := 11) (i := 239) (ci := 7) (f := 18) (dQ (by decide +kernel)) hcls (by decide +kernel) k8 (fun r hr => by cases hr; decide +kernel) ps18 ?_
  refine j_iload_n (k4 := 1) (dQ (by decide +kernel)) rfl ?_
  refine j_iload_n (k4 := 2) (dQ (by decide +kernel)) rfl ?_
  refine j_iload_n (k4 := 3) (dQ (by decide +kernel)) rfl ?_
  refine j_cV (own := 11) (i := 260) (y2 := 133) (d2 := 1) (mc := 0) (ms := 0) (kc := 0) (ks := 0) (a := b0 + 37) (As := [.int x1, .int x2, .int x3]) (st := []) (dQ (by decide +kernel)) hcls (by decide +kernel) (by decide) (by decide +kernel) (show 3 = jnp 133 by decide +kernel) (by decide) (show 0 ≤ 8 by decide) k9 (fun r hr => by cases hr; decide +kernel) (xs_addSeen k9 li pi4 pi5 pi6 pi7 k10 k11 k12 (by omega) (by omega)) (fun v hv17 hq => ?_)
  obtain ⟨r14, hr14, r15, hr15, rfl, rfl⟩ := hq
  have k18 : ((((h.set (b0 + 41) (.inl (0, 16, (upd fa n x1)))).set (b0 + 42) (.inl (0, 16, (upd fb n x2)))).set (b0 + 43) (.inl (0, 16, (upd fc n x3)))).set (b0 + 37) (.inr (6, (fsi.set 4 (.int r14)))))[b0 + 0]? = some (.inr (11, fsx)) := by rw [List.getElem?_set_ne (by omega), List.getElem?_set_ne (by omega), List.getElem?_set_ne (by omega), List.getElem?_set_ne (by omega)]; exact k7
  have k19 : ((((h.set (b0 + 41) (.inl (0, 16, (upd fa n x1)))).set (b0 + 42) (.inl (0, 16, (upd fb n x2)))).set (b0 + 43) (.inl (0, 16, (upd fc n x3)))).set (b0 + 37) (.inr (6, (fsi.set 4 (.int r14)))))[b0 + 1]? = some (.inr (7, fss)) := by rw [List.getElem?_set_ne (by omega), List.getElem?_set_ne (by omega), List.getElem?_set_ne (by omega), List.getElem?_set_ne (by omega)]; exact k8
  have n21 : (fsi.set 4 (.int r14)).length = 8 := by rw [List.length_set]; exact li
  have f22 : (fsi.set 4 (.int r14))[5]? = some (.ref (g.2.2 + (b0 + 41))) := by rw [List.getElem?_set_ne (by decide)]; exact pi5
  have f23 : (fsi.set 4 (.int r14))[6]? = some (.ref (g.2.2 + (b0 + 42))) := by rw [List.getElem?_set_ne (by decide)]; exact pi6
  have f24 : (fsi.set 4 (.int r14))[7]? = some (.ref (g.2.2 + (b0 + 43))) := by rw [List.getElem?_set_ne (by decide)]; exact pi7
  have f25 : (fsi.set 4 (.int r14))[4]? = some (.int r14) := List.getElem?_set_self (by rw [li]; decide)
  have k20 : ((((h.set (b0 + 41) (.inl (0, 16, (upd fa n x1)))).set (b0 + 42) (.inl (0, 16, (upd fb n x2)))).set (b0 + 43) (.inl (0, 16, (upd fc n x3)))).set (b0 + 37) (.inr (6, (fsi.set 4 (.int r14)))))[b0 + 37]? = some (.inr (6, (fsi.set 4 (.int r14)))) := by exact List.getElem?_set_self (by first | exact (List.getElem?_eq_some_iff.mp k9).1 | (simp only [List.length_set]; exact (List.getElem?_eq_some_iff.mp k9).1))
  have k26 : ((((h.set (b0 + 41) (.inl (0, 16, (upd fa n x1)))).set (b0 + 42) (.inl (0, 16, (upd fb n x2)))).set (b0 + 43) (.inl (0, 16, (upd fc n x3)))).set (b0 + 37) (.inr (6, (fsi.set 4 (.int r14)))))[b0 + 41]? = some (.inl (0, 16, (upd fa n x1))) := by rw [List.getElem?_set_ne (by omega), List.getElem?_set_ne (by omega), List.getElem?_set_ne (by omega)]; exact List.getElem?_set_self (by first | exact (List.getElem?_eq_some_iff.mp k10).1 | (simp only [List.length_set]; exact (List.getElem?_eq_some_iff.mp k10).1))
  have k27 : ((((h.set (b0 + 41) (.inl (0, 16, (upd fa n x1)))).set (b0 + 42) (.inl (0, 16, (upd fb n x2)))).set (b0 + 43) (.inl (0, 16, (upd fc n x3)))).set (b0 + 37) (.inr (6, (fsi.set 4 (.int r14)))))[b0 + 42]? = some (.inl (0, 16, (upd fb n x2))) := by rw [List.getElem?_set_ne (by omega), List.getElem?_set_ne (by omega)]; exact List.getElem?_set_self (by first | exact (List.getElem?_eq_some_iff.mp k11).1 | (simp only [List.length_set]; exact (List.getElem?_eq_some_iff.mp k11).1))
  have k28 : ((((h.set (b0 + 41) (.inl (0, 16, (upd fa n x1)))).set (b0 + 42) (.inl (0, 16, (upd fb n x2)))).set (b0 + 43) (.inl (0, 16, (upd fc n x3)))).set (b0 + 37) (.inr (6, (fsi.set 4 (.int r14)))))[b0 + 43]? = some (.inl (0, 16, (upd fc n x3))) := by rw [List.getElem?_set_ne (by omega)]; exact List.getElem?_set_self (by first | exact (List.getElem?_eq_some_iff.mp k12).1 | (simp only [List.length_set]; exact (List.getElem?_eq_some_iff.mp k12).1))
  have M29 : MEN g ((((h.set (b0 + 41) (.inl (0, 16, (upd fa n x1)))).set (b0 + 42) (.inl (0, 16, (upd fb n x2)))).set (b0 + 43) (.inl (0, 16, (upd fc n x3)))).set (b0 + 37) (.inr (6, (fsi.set 4 (.int r14))))) a fsx := ((((M13.set (Ne.symm (ua 41 (by decide)))).set (Ne.symm (ua 42 (by decide)))).set (Ne.symm (ua 43 (by decide)))).set (Ne.symm (ua 37 (by decide))))
  refine j_istore (i := 4) (dQ (by decide +kernel)) (by decide +kernel) ?_
  refine j_iload (i := 4) (dQ (by decide +kernel)) rfl ?_
  refine j_iconst (n := (-1)) (dQ (by decide +kernel)) ?_
  refine j_icmp_ne (off := 10) (tgt := 80) (dQ (by decide +kernel)) (by decide) (fun _ => ?_) (fun q => absurd (fun q => absurd (congrArg Int32.toInt q) (by omega)) q)
  refine j_aload_n (k4 := 0) (dQ (by decide +kernel)) rfl ?_
  refine j_cV (own := 11) (i := 235) (y2 := 127) (d2 := 1) (mc := 0) (ms := 0) (kc := 0) (ks := 0) (a := b0 + 0) (As := []) (st := []) (dQ (by decide +kernel)) hcls (by decide +kernel) (by decide) (by decide +kernel) (show 0 = jnp 127 by decide +kernel) (by decide) (show 0 ≤ 8 by decide) k18 (fun r hr => by cases hr; decide +kernel) (x_forget k18 M29) (fun v hv31 hq => ?_)
  obtain ⟨rfl, F32⟩ := hq
  have k33 : hv31[b0 + 0]? = some (.inr (11, fsx)) := (F32 _ (Ne.symm (ua 0 (by decide)))).trans k18
  have k34 : hv31[b0 + 1]? = some (.inr (7, fss)) := (F32 _ (Ne.symm (ua 1 (by decide)))).trans k19
  have k35 : hv31[b0 + 37]? = some (.inr (6, (fsi.set 4 (.int r14)))) := (F32 _ (Ne.symm (ua 37 (by decide)))).trans k20
  have k36 : hv31[b0 + 41]? = some (.inl (0, 16, (upd fa n x1))) := (F32 _ (Ne.symm (ua 41 (by decide)))).trans k26
  have k37 : hv31[b0 + 42]? = some (.inl (0, 16, (upd fb n x2))) := (F32 _ (Ne.symm (ua 42 (by decide)))).trans k27
  have k38 : hv31[b0 + 43]? = some (.inl (0, 16, (upd fc n x3))) := (F32 _ (Ne.symm (ua 43 (by decide)))).trans k28
  refine j_aload_n (k4 := 0) (dQ (by decide +kernel)) rfl ?_
  refine j_iload (i := 4) (dQ (by decide +kernel)) rfl ?_
  refine j_cV (own := 11) (i := 48) (y2 := 17) (d2 := 1) (mc := 0) (ms := 0) (kc := 0) (ks := 0) (a := b0 + 0) (As := [.int r15]) (st := []) (dQ (by decide +kernel)) hcls (by decide +kernel) (by decide) (by decide +kernel) (show 1 = jnp 17 by decide +kernel) (by decide) (show 0 ≤ 8 by decide) k33 (fun r hr => by cases hr; decide +kernel) (x_allow k33 lx) (fun v hv40 hq => ?_)
  obtain ⟨rfl, rfl⟩ := hq
  have n41 : (fsx.set 7 (.int (Int32.ofInt 0))).length = 12 := by rw [List.length_set]; exact lx
  have f42 : (fsx.set 7 (.int (Int32.ofInt 0)))[0]? = some (.ref (g.2.2 + (b0 + 1))) := by
    rw [List.getElem?_set_ne (by decide)]
    exact px0
  have k43 : (hv31.set (b0 + 0) (.inr (11, (fsx.set 7 (.int (Int32.ofInt 0))))))[b0 + 0]? = some (.inr (11, (fsx.set 7 (.int (Int32.ofInt 0))))) := List.getElem?_set_self (List.getElem?_eq_some_iff.mp k33).1
  have k44 : (hv31.set (b0 + 0) (.inr (11, (fsx.set 7 (.int (Int32.ofInt 0))))))[b0 + 1]? = some (.inr (7, fss)) := by
    rw [List.getElem?_set_ne (by omega)]
    exact k34
  have k45 : (hv31.set (b0 + 0) (.inr (11, (fsx.set 7 (.int (Int32.ofInt 0))))))[b0 + 37]? = some (.inr (6, (fsi.set 4 (.int r14)))) := by
    rw [List.getElem?_set_ne (by omega)]
    exact k35
  have k46 : (hv31.set (b0 + 0) (.inr (11, (fsx.set 7 (.int (Int32.ofInt 0))))))[b0 + 41]? = some (.inl (0, 16, (upd fa n x1))) := by
    rw [List.getElem?_set_ne (by omega)]
    exact k36
  have k47 : (hv31.set (b0 + 0) (.inr (11, (fsx.set 7 (.int (Int32.ofInt 0))))))[b0 + 42]? = some (.inl (0, 16, (upd fb n x2))) := by
    rw [List.getElem?_set_ne (by omega)]
    exact k37
  have k48 : (hv31.set (b0 + 0) (.inr (11, (fsx.set 7 (.int (Int32.ofInt 0))))))[b0 + 43]? = some (.inl (0, 16, (upd fc n x3))) := by
    rw [List.getElem?_set_ne (by omega)]
    exact k38
  exact j_ret (v := some (.int r15)) ⟨by decide +kernel, Or.inl (by decide +kernel)⟩ ⟨r15, by omega, r14, by omega, hv31, F32, rfl, rfl⟩ rfl
set_option maxRecDepth 8192 in
theorem xk_see_oldp {b0 : Nat} {fsx : List Value} {fss : List Value} {fsi : List Value} {fa : Nat → Int32} {fb : Nat → Int32} {fc : Nat → Int32} {x1 : Int32} {x2 : Int32} {x3 : Int32} {t : Int32} {n : Nat} (hx : h[b0 + 0]? = some (.inr (11, fsx))) (lx : fsx.length = 12) (px0 : fsx[0]? = some (.ref (g.2.2 + (b0 + 1)))) (hs : h[b0 + 1]? = some (.inr (7, fss))) (ls : fss.length = 20) (ps18 : fss[18]? = some (.ref (g.2.2 + (b0 + 37)))) (hi : h[b0 + 37]? = some (.inr (6, fsi))) (li : fsi.length = 8) (pi4 : fsi[4]? = some (.int t)) (pi5 : fsi[5]? = some (.ref (g.2.2 + (b0 + 41)))) (pi6 : fsi[6]? = some (.ref (g.2.2 + (b0 + 42)))) (pi7 : fsi[7]? = some (.ref (g.2.2 + (b0 + 43)))) (ha : h[b0 + 41]? = some (.inl (0, 16, fa))) (hb : h[b0 + 42]? = some (.inl (0, 16, fb))) (hc : h[b0 + 43]? = some (.inl (0, 16, fc))) (g1 : 0 ≤ x1.toInt ∧ x1.toInt ≤ 9999) (g2 : 0 ≤ x2.toInt ∧ x2.toInt ≤ 11) (g3 : 1 ≤ x3.toInt ∧ x3.toInt ≤ 999) (u : x1.toInt < (fa (n - 1)).toInt) (et : t.toInt = (n : Int)) (en : 1 ≤ n ∧ n ≤ 16) : jCal l g 131 2 [.ref (g.2.2 + (b0 + 0)), .int x1, .int x2, .int x3] h 0 0 (fun v h' => v = some (.int (Int32.ofInt (-3))) ∧ h' = (h.set (b0 + 0) (.inr (11, (fsx.set 7 (.int (Int32.ofInt (-3)))))))) := by
  have hcls : jcN 11 = (jyN 131).cls := by decide +kernel
  have cn0 : (Int32.ofInt 1).toInt = 1 := by decide
  have cn1 : (Int32.ofInt (-3)).toInt = -3 := by decide
  refine jCal_of (by decide +kernel) (show 4 ≤ jmx 131 by decide +kernel) ?_
  show J l g 131 2 0 [some (.ref (g.2.2 + (b0 + 0))), some (.int x1), some (.int x2), some (.int x3), none] [] h 0 0 _
  refine j_iload_n (k4 := 1) (dQ (by decide +kernel)) rfl ?_
  refine j_cS (own := 11) (i := 63) (y2 := 21) (d2 := 1) (mc := 0) (ms := 0) (kc := 0) (ks := 0) (As := [.int x1]) (st := []) (dQ (by decide +kernel)) hcls (by decide +kernel) (by decide) (by decide +kernel) (show 1 = jnp 21 by decide +kernel) (by decide) (show 0 ≤ 8 by decide) (x_isMinute_1 (by omega) (by omega)) (fun v hv2 hq => ?_)
  obtain ⟨rfl, rfl⟩ := hq
  refine j_if_eq (off := 21) (tgt := 25) (dQ (by decide +kernel)) (by decide) (fun q => absurd (congrArg Int32.toInt q) (by rw [i32_z]; omega)) (fun _ => ?_)
  refine j_iload_n (k4 := 2) (dQ (by decide +kernel)) rfl ?_
  refine j_cS (own := 11) (i := 34) (y2 := 14) (d2 := 1) (mc := 0) (ms := 0) (kc := 0) (ks := 0) (As := [.int x2]) (st := []) (dQ (by decide +kernel)) hcls (by decide +kernel) (by decide) (by decide +kernel) (show 1 = jnp 14 by decide +kernel) (by decide) (show 0 ≤ 8 by decide) (x_isBerth_1 (by omega) (by omega)) (fun v hv4 hq => ?_)
  obtain ⟨rfl, rfl⟩ := hq
  refine j_if_eq (off := 14) (tgt := 25) (dQ (by decide +kernel)) (by decide) (fun q => absurd (congrArg Int32.toInt q) (by rw [i32_z]; omega)) (fun _ => ?_)
  refine j_iload_n (k4 := 3) (dQ (by decide +kernel)) rfl ?_
  refine j_if_eq (off := 16) (tgt := 31) (dQ (by decide +kernel)) (by decide) (fun q => absurd (congrArg Int32.toInt q) (by rw [i32_z]; omega)) (fun _ => ?_)
  refine j_iload_n (k4 := 3) (dQ (by decide +kernel)) rfl ?_
  refine j_cS (own := 11) (i := 73) (y2 := 34) (d2 := 1) (mc := 0) (ms := 0) (kc := 0) (ks := 0) (As := [.int x3]) (st := []) (dQ (by decide +kernel)) hcls (by decide +kernel) (by decide) (by decide +kernel) (show 1 = jnp 34 by decide +kernel) (by decide) (show 0 ≤ 8 by decide) (x_isName_1 (by omega) (by omega)) (fun v hv6 hq => ?_)
  obtain ⟨rfl, rfl⟩ := hq
  refine j_if_ne (off := 9) (tgt := 31) (dQ (by decide +kernel)) (by decide) (fun _ => ?_) (fun q => absurd (fun q => absurd (congrArg Int32.toInt q) (by rw [i32_z]; omega)) q)
  refine j_iload_n (k4 := 1) (dQ (by decide +kernel)) rfl ?_
  refine j_aload_n (k4 := 0) (dQ (by decide +kernel)) rfl ?_
  refine j_get (own := 11) (i := 10) (ci := 11) (f := 0) (dQ (by decide +kernel)) hcls (by decide +kernel) hx (fun r hr => by cases hr; decide +kernel) px0 ?_
  refine j_get (own := 11) (i := 239) (ci := 7) (f := 18) (dQ (by decide +kernel)) hcls (by decide +kernel) hs (fun r hr => by cases hr; decide +kernel) ps18 ?_
  refine j_cV (own := 11) (i := 257) (y2 := 132) (d2 := 1) (mc := 0) (ms := 0) (kc := 0) (ks := 0) (a := b0 + 37) (As := []) (st := [.int x1]) (dQ (by decide +kernel)) hcls (by decide +kernel) (by decide) (by decide +kernel) (show 0 = jnp 132 by decide +kernel) (by decide) (show 1 ≤ 8 by decide) hi (fun r hr => by cases hr; decide +kernel) (xs_latest hi li pi4 pi5 ha (by omega) (by omega)) (fun v hv8 hq => ?_)
  obtain ⟨rfl, rfl⟩ := hq
  have k9 : h[b0 + 0]? = some (.inr (11, fsx)) := by exact hx
  have k10 : h[b0 + 1]? = some (.inr (7, fss)) := by exact hs
  have k11 : h[b0 + 37]? = some (.inr (6, fsi)) := by exact hi
  have k12 : h[b0 + 41]? = some (.inl (0, 16, fa)) := by exact ha
  have k13 : h[b0 + 42]? = some (.inl (0, 16, fb)) := by exact hb
  have k14 : h[b0 + 43]? = some (.inl (0, 16, fc)) := by exact hc
  refine j_icmp_ge (off := 10) (tgt := 52) (dQ (by decide +kernel)) (by decide) (fun q => absurd (i32_le.mp q) (by omega)) (fun _ => ?_)
  refine j_aload_n (k4 := 0) (dQ (by decide +kernel)) rfl ?_
  refine x_bi (n := (-3)) (dQ (by decide +kernel)) (by decide) ?_
  refine j_cV (own := 11) (i := 41) (y2 := 16) (d2 := 1) (mc := 0) (ms := 0) (kc := 0) (ks := 0) (a := b0 + 0) (As := [.int (Int32.ofInt (-3))]) (st := []) (dQ (by decide +kernel)) hcls (by decide +kernel) (by decide) (by decide +kernel) (show 1 = jnp 16 by decide +kernel) (by decide) (show 0 ≤ 8 by decide) k9 (fun r hr => by cases hr; decide +kernel) (x_refuse k9 lx) (fun v hv16 hq => ?_)
  obtain ⟨rfl, rfl⟩ := hq
  have n17 : (fsx.set 7 (.int (Int32.ofInt (-3)))).length = 12 := by rw [List.length_set]; exact lx
  have f18 : (fsx.set 7 (.int (Int32.ofInt (-3))))[0]? = some (.ref (g.2.2 + (b0 + 1))) := by
    rw [List.getElem?_set_ne (by decide)]
    exact px0
  have k19 : (h.set (b0 + 0) (.inr (11, (fsx.set 7 (.int (Int32.ofInt (-3)))))))[b0 + 0]? = some (.inr (11, (fsx.set 7 (.int (Int32.ofInt (-3)))))) := List.getElem?_set_self (List.getElem?_eq_some_iff.mp k9).1
  have k20 : (h.set (b0 + 0) (.inr (11, (fsx.set 7 (.int (Int32.ofInt (-3)))))))[b0 + 1]? = some (.inr (7, fss)) := by
    rw [List.getElem?_set_ne (by omega)]
    exact k10
  have k21 : (h.set (b0 + 0) (.inr (11, (fsx.set 7 (.int (Int32.ofInt (-3)))))))[b0 + 37]? = some (.inr (6, fsi)) := by
    rw [List.getElem?_set_ne (by omega)]
    exact k11
  have k22 : (h.set (b0 + 0) (.inr (11, (fsx.set 7 (.int (Int32.ofInt (-3)))))))[b0 + 41]? = some (.inl (0, 16, fa)) := by
    rw [List.getElem?_set_ne (by omega)]
    exact k12
  have k23 : (h.set (b0 + 0) (.inr (11, (fsx.set 7 (.int (Int32.ofInt (-3)))))))[b0 + 42]? = some (.inl (0, 16, fb)) := by
    rw [List.getElem?_set_ne (by omega)]
    exact k13
  have k24 : (h.set (b0 + 0) (.inr (11, (fsx.set 7 (.int (Int32.ofInt (-3)))))))[b0 + 43]? = some (.inl (0, 16, fc)) := by
    rw [List.getElem?_set_ne (by omega)]
    exact k14
  exact j_ret (v := some (.int (Int32.ofInt (-3)))) ⟨by decide +kernel, Or.inl (by decide +kernel)⟩ ⟨rfl, rfl⟩ rfl
set_option maxRecDepth 8192 in
theorem xk_see_fullp {b0 : Nat} {fsx : List Value} {fss : List Value} {fsi : List Value} {fa : Nat → Int32} {fb : Nat → Int32} {fc : Nat → Int32} {x1 : Int32} {x2 : Int32} {x3 : Int32} {t : Int32} {n : Nat} (hx : h[b0 + 0]? = some (.inr (11, fsx))) (lx : fsx.length = 12) (px0 : fsx[0]? = some (.ref (g.2.2 + (b0 + 1)))) (hs : h[b0 + 1]? = some (.inr (7, fss))) (ls : fss.length = 20) (ps18 : fss[18]? = some (.ref (g.2.2 + (b0 + 37)))) (hi : h[b0 + 37]? = some (.inr (6, fsi))) (li : fsi.length = 8) (pi4 : fsi[4]? = some (.int t)) (pi5 : fsi[5]? = some (.ref (g.2.2 + (b0 + 41)))) (pi6 : fsi[6]? = some (.ref (g.2.2 + (b0 + 42)))) (pi7 : fsi[7]? = some (.ref (g.2.2 + (b0 + 43)))) (ha : h[b0 + 41]? = some (.inl (0, 16, fa))) (hb : h[b0 + 42]? = some (.inl (0, 16, fb))) (hc : h[b0 + 43]? = some (.inl (0, 16, fc))) (g1 : 0 ≤ x1.toInt ∧ x1.toInt ≤ 9999) (g2 : 0 ≤ x2.toInt ∧ x2.toInt ≤ 11) (g3 : 1 ≤ x3.toInt ∧ x3.toInt ≤ 999) (u : (fa (n - 1)).toInt ≤ x1.toInt) (et : t.toInt = (n : Int)) (en : 16 ≤ n ∧ n ≤ 16) : jCal l g 131 2 [.ref (g.2.2 + (b0 + 0)), .int x1, .int x2, .int x3] h 0 0 (fun v h' => v = some (.int (Int32.ofInt (-5))) ∧ h' = (h.set (b0 + 0) (.inr (11, (fsx.set 7 (.int (Int32.ofInt (-5)))))))) := by
  have hcls : jcN 11 = (jyN 131).cls := by decide +kernel
  have cn0 : (Int32.ofInt 1).toInt = 1 := by decide
  have cn1 : (Int32.ofInt (-1)).toInt = -1 := by decide
  have cn2 : (Int32.ofInt (-5)).toInt = -5 := by decide
  refine jCal_of (by decide +kernel) (show 4 ≤ jmx 131 by decide +kernel) ?_
  show J l g 131 2 0 [some (.ref (g.2.2 + (b0 + 0))), some (.int x1), some (.int x2), some (.int x3), none] [] h 0 0 _
  refine j_iload_n (k4 := 1) (dQ (by decide +kernel)) rfl ?_
  refine j_cS (own := 11) (i := 63) (y2 := 21) (d2 := 1) (mc := 0) (ms := 0) (kc := 0) (ks := 0) (As := [.int x1]) (st := []) (dQ (by decide +kernel)) hcls (by decide +kernel) (by decide) (by decide +kernel) (show 1 = jnp 21 by decide +kernel) (by decide) (show 0 ≤ 8 by decide) (x_isMinute_1 (by omega) (by omega)) (fun v hv2 hq => ?_)
  obtain ⟨rfl, rfl⟩ := hq
  refine j_if_eq (off := 21) (tgt := 25) (dQ (by decide +kernel)) (by decide) (fun q => absurd (congrArg Int32.toInt q) (by rw [i32_z]; omega)) (fun _ => ?_)
  refine j_iload_n (k4 := 2) (dQ (by decide +kernel)) rfl ?_
  refine j_cS (own := 11) (i := 34) (y2 := 14) (d2 := 1) (mc := 0) (ms := 0) (kc := 0) (ks := 0) (As := [.int x2]) (st := []) (dQ (by decide +kernel)) hcls (by decide +kernel) (by decide) (by decide +kernel) (show 1 = jnp 14 by decide +kernel) (by decide) (show 0 ≤ 8 by decide) (x_isBerth_1 (by omega) (by omega)) (fun v hv4 hq => ?_)
  obtain ⟨rfl, rfl⟩ := hq
  refine j_if_eq (off := 14) (tgt := 25) (dQ (by decide +kernel)) (by decide) (fun q => absurd (congrArg Int32.toInt q) (by rw [i32_z]; omega)) (fun _ => ?_)
  refine j_iload_n (k4 := 3) (dQ (by decide +kernel)) rfl ?_
  refine j_if_eq (off := 16) (tgt := 31) (dQ (by decide +kernel)) (by decide) (fun q => absurd (congrArg Int32.toInt q) (by rw [i32_z]; omega)) (fun _ => ?_)
  refine j_iload_n (k4 := 3) (dQ (by decide +kernel)) rfl ?_
  refine j_cS (own := 11) (i := 73) (y2 := 34) (d2 := 1) (mc := 0) (ms := 0) (kc := 0) (ks := 0) (As := [.int x3]) (st := []) (dQ (by decide +kernel)) hcls (by decide +kernel) (by decide) (by decide +kernel) (show 1 = jnp 34 by decide +kernel) (by decide) (show 0 ≤ 8 by decide) (x_isName_1 (by omega) (by omega)) (fun v hv6 hq => ?_)
  obtain ⟨rfl, rfl⟩ := hq
  refine j_if_ne (off := 9) (tgt := 31) (dQ (by decide +kernel)) (by decide) (fun _ => ?_) (fun q => absurd (fun q => absurd (congrArg Int32.toInt q) (by rw [i32_z]; omega)) q)
  refine j_iload_n (k4 := 1) (dQ (by decide +kernel)) rfl ?_
  refine j_aload_n (k4 := 0) (dQ (by decide +kernel)) rfl ?_
  refine j_get (own := 11) (i := 10) (ci := 11) (f := 0) (dQ (by decide +kernel)) hcls (by decide +kernel) hx (fun r hr => by cases hr; decide +kernel) px0 ?_
  refine j_get (own := 11) (i := 239) (ci := 7) (f := 18) (dQ (by decide +kernel)) hcls (by decide +kernel) hs (fun r hr => by cases hr; decide +kernel) ps18 ?_
  refine j_cV (own := 11) (i := 257) (y2 := 132) (d2 := 1) (mc := 0) (ms := 0) (kc := 0) (ks := 0) (a := b0 + 37) (As := []) (st := [.int x1]) (dQ (by decide +kernel)) hcls (by decide +kernel) (by decide) (by decide +kernel) (show 0 = jnp 132 by decide +kernel) (by decide) (show 1 ≤ 8 by decide) hi (fun r hr => by cases hr; decide +kernel) (xs_latest hi li pi4 pi5 ha (by omega) (by omega)) (fun v hv8 hq => ?_)
  obtain ⟨rfl, rfl⟩ := hq
  have k9 : h[b0 + 0]? = some (.inr (11, fsx)) := by exact hx
  have k10 : h[b0 + 1]? = some (.inr (7, fss)) := by exact hs
  have k11 : h[b0 + 37]? = some (.inr (6, fsi)) := by exact hi
  have k12 : h[b0 + 41]? = some (.inl (0, 16, fa)) := by exact ha
  have k13 : h[b0 + 42]? = some (.inl (0, 16, fb)) := by exact hb
  have k14 : h[b0 + 43]? = some (.inl (0, 16, fc)) := by exact hc
  refine j_icmp_ge (off := 10) (tgt := 52) (dQ (by decide +kernel)) (by decide) (fun _ => ?_) (fun q => absurd (i32_le.mpr (by omega)) q)
  refine j_aload_n (k4 := 0) (dQ (by decide +kernel)) rfl ?_
  refine j_get (own := 11) (i := 10) (ci := 11) (f := 0) (dQ (by decide +kernel)) hcls (by decide +kernel) k9 (fun r hr => by cases hr; decide +kernel) px0 ?_
  refine j_get (own := 11) (i := 239) (ci := 7) (f := 18) (dQ (by decide +kernel)) hcls (by decide +kernel) k10 (fun r hr => by cases hr; decide +kernel) ps18 ?_
  refine j_iload_n (k4 := 1) (dQ (by decide +kernel)) rfl ?_
  refine j_iload_n (k4 := 2) (dQ (by decide +kernel)) rfl ?_
  refine j_iload_n (k4 := 3) (dQ (by decide +kernel)) rfl ?_
  refine j_cV (own := 11) (i := 260) (y2 := 133) (d2 := 1) (mc := 0) (ms := 0) (kc := 0) (ks := 0) (a := b0 + 37) (As := [.int x1, .int x2, .int x3]) (st := []) (dQ (by decide +kernel)) hcls (by decide +kernel) (by decide) (by decide +kernel) (show 3 = jnp 133 by decide +kernel) (by decide) (show 0 ≤ 8 by decide) k11 (fun r hr => by cases hr; decide +kernel) (xs_addSeenF k11 li pi4 (by omega) (by omega)) (fun v hv16 hq => ?_)
  obtain ⟨rfl, rfl⟩ := hq
  have k17 : h[b0 + 0]? = some (.inr (11, fsx)) := by exact k9
  have k18 : h[b0 + 1]? = some (.inr (7, fss)) := by exact k10
  have k19 : h[b0 + 37]? = some (.inr (6, fsi)) := by exact k11
  have k20 : h[b0 + 41]? = some (.inl (0, 16, fa)) := by exact k12
  have k21 : h[b0 + 42]? = some (.inl (0, 16, fb)) := by exact k13
  have k22 : h[b0 + 43]? = some (.inl (0, 16, fc)) := by exact k14
  refine j_istore (i := 4) (dQ (by decide +kernel)) (by decide +kernel) ?_
  refine j_iload (i := 4) (dQ (by decide +kernel)) rfl ?_
  refine j_iconst (n := (-1)) (dQ (by decide +kernel)) ?_
  refine j_icmp_ne (off := 10) (tgt := 80) (dQ (by decide +kernel)) (by decide) (fun q => absurd (i32_eq (by omega)) q) (fun _ => ?_)
  refine j_aload_n (k4 := 0) (dQ (by decide +kernel)) rfl ?_
  refine x_bi (n := (-5)) (dQ (by decide +kernel)) (by decide) ?_
  refine j_cV (own := 11) (i := 41) (y2 := 16) (d2 := 1) (mc := 0) (ms := 0) (kc := 0) (ks := 0) (a := b0 + 0) (As := [.int (Int32.ofInt (-5))]) (st := []) (dQ (by decide +kernel)) hcls (by decide +kernel) (by decide) (by decide +kernel) (show 1 = jnp 16 by decide +kernel) (by decide) (show 0 ≤ 8 by decide) k17 (fun r hr => by cases hr; decide +kernel) (x_refuse k17 lx) (fun v hv24 hq => ?_)
  obtain ⟨rfl, rfl⟩ := hq
  have n25 : (fsx.set 7 (.int (Int32.ofInt (-5)))).length = 12 := by rw [List.length_set]; exact lx
  have f26 : (fsx.set 7 (.int (Int32.ofInt (-5))))[0]? = some (.ref (g.2.2 + (b0 + 1))) := by
    rw [List.getElem?_set_ne (by decide)]
    exact px0
  have k27 : (h.set (b0 + 0) (.inr (11, (fsx.set 7 (.int (Int32.ofInt (-5)))))))[b0 + 0]? = some (.inr (11, (fsx.set 7 (.int (Int32.ofInt (-5)))))) := List.getElem?_set_self (List.getElem?_eq_some_iff.mp k17).1
  have k28 : (h.set (b0 + 0) (.inr (11, (fsx.set 7 (.int (Int32.ofInt (-5)))))))[b0 + 1]? = some (.inr (7, fss)) := by
    rw [List.getElem?_set_ne (by omega)]
    exact k18
  have k29 : (h.set (b0 + 0) (.inr (11, (fsx.set 7 (.int (Int32.ofInt (-5)))))))[b0 + 37]? = some (.inr (6, fsi)) := by
    rw [List.getElem?_set_ne (by omega)]
    exact k19
  have k30 : (h.set (b0 + 0) (.inr (11, (fsx.set 7 (.int (Int32.ofInt (-5)))))))[b0 + 41]? = some (.inl (0, 16, fa)) := by
    rw [List.getElem?_set_ne (by omega)]
    exact k20
  have k31 : (h.set (b0 + 0) (.inr (11, (fsx.set 7 (.int (Int32.ofInt (-5)))))))[b0 + 42]? = some (.inl (0, 16, fb)) := by
    rw [List.getElem?_set_ne (by omega)]
    exact k21
  have k32 : (h.set (b0 + 0) (.inr (11, (fsx.set 7 (.int (Int32.ofInt (-5)))))))[b0 + 43]? = some (.inl (0, 16, fc)) := by
    rw [List.getElem?_set_ne (by omega)]
    exact k22
  exact j_ret (v := some (.int (Int32.ofInt (-5)))) ⟨by decide +kernel, Or.inl (by decide +kernel)⟩ ⟨rfl, rfl⟩ rfl
set_option maxRecDepth 8192 in
theorem xk_see_okzp {b0 : Nat} {fsx : List Value} {fss : List Value} {fsi : List Value} {fa : Nat → Int32} {fb : Nat → Int32} {fc : Nat → Int32} {x1 : Int32} {x2 : Int32} {x3 : Int32} {t : Int32} {n : Nat} (hx : h[b0 + 0]? = some (.inr (11, fsx))) (lx : fsx.length = 12) (px0 : fsx[0]? = some (.ref (g.2.2 + (b0 + 1)))) (hs : h[b0 + 1]? = some (.inr (7, fss))) (ls : fss.length = 20) (ps18 : fss[18]? = some (.ref (g.2.2 + (b0 + 37)))) (hi : h[b0 + 37]? = some (.inr (6, fsi))) (li : fsi.length = 8) (pi4 : fsi[4]? = some (.int t)) (pi5 : fsi[5]? = some (.ref (g.2.2 + (b0 + 41)))) (pi6 : fsi[6]? = some (.ref (g.2.2 + (b0 + 42)))) (pi7 : fsi[7]? = some (.ref (g.2.2 + (b0 + 43)))) (ha : h[b0 + 41]? = some (.inl (0, 16, fa))) (hb : h[b0 + 42]? = some (.inl (0, 16, fb))) (hc : h[b0 + 43]? = some (.inl (0, 16, fc))) (g1 : 0 ≤ x1.toInt ∧ x1.toInt ≤ 9999) (g2 : 0 ≤ x2.toInt ∧ x2.toInt ≤ 11) (g3 : 1 ≤ x3.toInt ∧ x3.toInt ≤ 999) (et : t.toInt = (n : Int)) (en : 0 ≤ n ∧ n ≤ 0) {a : Nat} (ua : ∀ o, o < 62 → a + 0 ≠ b0 + o) (hM : MEN g h a fsx) : jCal l g 131 2 [.ref (g.2.2 + (b0 + 0)), .int x1, .int x2, .int x3] h 0 0 (fun v h' => ∃ r17 : Int32, r17.toInt = ((((n + 1) - 1) : Nat) : Int) ∧ ∃ r16 : Int32, r16.toInt = (((n + 1) : Nat) : Int) ∧ ∃ hv33, FgM (a + 0) ((((h.set (b0 + 41) (.inl (0, 16, (upd fa n x1)))).set (b0 + 42) (.inl (0, 16, (upd fb n x2)))).set (b0 + 43) (.inl (0, 16, (upd fc n x3)))).set (b0 + 37) (.inr (6, (fsi.set 4 (.int r16))))) hv33 ∧ v = some (.int r17) ∧ h' = (hv33.set (b0 + 0) (.inr (11, (fsx.set 7 (.int (Int32.ofInt 0))))))) := by
  have hcls : jcN 11 = (jyN 131).cls := by decide +kernel
  have cn0 : (Int32.ofInt 1).toInt = 1 := by decide
  have cn1 : (Int32.ofInt 0).toInt = 0 := by decide
  have cn2 : (Int32.ofInt (-1)).toInt = -1 := by decide
  refine jCal_of (by decide +kernel) (show 4 ≤ jmx 131 by decide +kernel) ?_
  show J l g 131 2 0 [some (.ref (g.2.2 + (b0 + 0))), some (.int x1), some (.int x2), some (.int x3), none] [] h 0 0 _
  refine j_iload_n (k4 := 1) (dQ (by decide +kernel)) rfl ?_
  refine j_cS (own := 11) (i := 63) (y2 := 21) (d2 := 1) (mc := 0) (ms := 0) (kc := 0) (ks := 0) (As := [.int x1]) (st := []) (dQ (by decide +kernel)) hcls (by decide +kernel) (by decide) (by decide +kernel) (show 1 = jnp 21 by decide +kernel) (by decide) (show 0 ≤ 8 by decide) (x_isMinute_1 (by omega) (by omega)) (fun v hv2 hq => ?_)
  obtain ⟨rfl, rfl⟩ := hq
  refine j_if_eq (off := 21) (tgt := 25) (dQ (by decide +kernel)) (by decide) (fun q => absurd (congrArg Int32.toInt q) (by rw [i32_z]; omega)) (fun _ => ?_)
  refine j_iload_n (k4 := 2) (dQ (by decide +kernel)) rfl ?_
  refine j_cS (own := 11) (i := 34) (y2 := 14) (d2 := 1) (mc := 0) (ms := 0) (kc := 0) (ks := 0) (As := [.int x2]) (st := []) (dQ (by decide +kernel)) hcls (by decide +kernel) (by decide) (by decide +kernel) (show 1 = jnp 14 by decide +kernel) (by decide) (show 0 ≤ 8 by decide) (x_isBerth_1 (by omega) (by omega)) (fun v hv4 hq => ?_)
  obtain ⟨rfl, rfl⟩ := hq
  refine j_if_eq (off := 14) (tgt := 25) (dQ (by decide +kernel)) (by decide) (fun q => absurd (congrArg Int32.toInt q) (by rw [i32_z]; omega)) (fun _ => ?_)
  refine j_iload_n (k4 := 3) (dQ (by decide +kernel)) rfl ?_
  refine j_if_eq (off := 16) (tgt := 31) (dQ (by decide +kernel)) (by decide) (fun q => absurd (congrArg Int32.toInt q) (by rw [i32_z]; omega)) (fun _ => ?_)
  refine j_iload_n (k4 := 3) (dQ (by decide +kernel)) rfl ?_
  refine j_cS (own := 11) (i := 73) (y2 := 34) (d2 := 1) (mc := 0) (ms := 0) (kc := 0) (ks := 0) (As := [.int x3]) (st := []) (dQ (by decide +kernel)) hcls (by decide +kernel) (by decide) (by decide +kernel) (show 1 = jnp 34 by decide +kernel) (by decide) (show 0 ≤ 8 by decide) (x_isName_1 (by omega) (by omega)) (fun v hv6 hq => ?_)
  obtain ⟨rfl, rfl⟩ := hq
  refine j_if_ne (off := 9) (tgt := 31) (dQ (by decide +kernel)) (by decide) (fun _ => ?_) (fun q => absurd (fun q => absurd (congrArg Int32.toInt q) (by rw [i32_z]; omega)) q)
  refine j_iload_n (k4 := 1) (dQ (by decide +kernel)) rfl ?_
  refine j_aload_n (k4 := 0) (dQ (by decide +kernel)) rfl ?_
  refine j_get (own := 11) (i := 10) (ci := 11) (f := 0) (dQ (by decide +kernel)) hcls (by decide +kernel) hx (fun r hr => by cases hr; decide +kernel) px0 ?_
  refine j_get (own := 11) (i := 239) (ci := 7) (f := 18) (dQ (by decide +kernel)) hcls (by decide +kernel) hs (fun r hr => by cases hr; decide +kernel) ps18 ?_
  refine j_cV (own := 11) (i := 257) (y2 := 132) (d2 := 1) (mc := 0) (ms := 0) (kc := 0) (ks := 0) (a := b0 + 37) (As := []) (st := [.int x1]) (dQ (by decide +kernel)) hcls (by decide +kernel) (by decide) (by decide +kernel) (show 0 = jnp 132 by decide +kernel) (by decide) (show 1 ≤ 8 by decide) hi (fun r hr => by cases hr; decide +kernel) (xs_latest0 hi li pi4 (by omega) (by omega)) (fun v hv8 hq => ?_)
  obtain ⟨rfl, rfl⟩ := hq
  have k9 : h[b0 + 0]? = some (.inr (11, fsx)) := by exact hx
  have k10 : h[b0 + 1]? = some (.inr (7, fss)) := by exact hs
  have k11 : h[b0 + 37]? = some (.inr (6, fsi)) := by exact hi
  have k12 : h[b0 + 41]? = some (.inl (0, 16, fa)) := by exact ha
  have k13 : h[b0 + 42]? = some (.inl (0, 16, fb)) := by exact hb
  have k14 : h[b0 + 43]? = some (.inl (0, 16, fc)) := by exact hc
  have M15 : MEN g h a fsx := hM
  refine j_icmp_ge (off := 10) (tgt := 52) (dQ (by decide +kernel)) (by decide) (fun _ => ?_) (fun q => absurd (i32_le.mpr (by omega)) q)
  refine j_aload_n (k4 := 0) (dQ (by decide +kernel)) rfl ?_
  refine j_get (own := 11) (i := 10) (ci := 11) (f := 0) (dQ (by decide +kernel)) hcls (by decide +kernel) k9 (fun r hr => by cases hr; decide +kernel) px0 ?_
  refine j_get (own := 11) (i := 239) (ci := 7) (f := 18) (dQ (by decide +kernel)) hcls (by decide +kernel) k10 (fun r hr => by cases hr; decide +kernel) ps18 ?_
  refine j_iload_n (k4 := 1) (dQ (by decide +kernel)) rfl ?_
  refine j_iload_n (k4 := 2) (dQ (by decide +kernel)) rfl ?_
  refine j_iload_n (k4 := 3) (dQ (by decide +kernel)) rfl ?_
  refine j_cV (own := 11) (i := 260) (y2 := 133) (d2 := 1) (mc := 0) (ms := 0) (kc := 0) (ks := 0) (a := b0 + 37) (As := [.int x1, .int x2, .int x3]) (st := []) (dQ (by decide +kernel)) hcls (by decide +kernel) (by decide) (by decide +kernel) (show 3 = jnp 133 by decide +kernel) (by decide) (show 0 ≤ 8 by decide) k11 (fun r hr => by cases hr; decide +kernel) (xs_addSeen k11 li pi4 pi5 pi6 pi7 k12 k13 k14 (by omega) (by omega)) (fun v hv19 hq => ?_)
  obtain ⟨r16, hr16, r17, hr17, rfl, rfl⟩ := hq
  have k20 : ((((h.set (b0 + 41) (.inl (0, 16, (upd fa n x1)))).set (b0 + 42) (.inl (0, 16, (upd fb n x2)))).set (b0 + 43) (.inl (0, 16, (upd fc n x3)))).set (b0 + 37) (.inr (6, (fsi.set 4 (.int r16)))))[b0 + 0]? = some (.inr (11, fsx)) := by rw [List.getElem?_set_ne (by omega), List.getElem?_set_ne (by omega), List.getElem?_set_ne (by omega), List.getElem?_set_ne (by omega)]; exact k9
  have k21 : ((((h.set (b0 + 41) (.inl (0, 16, (upd fa n x1)))).set (b0 + 42) (.inl (0, 16, (upd fb n x2)))).set (b0 + 43) (.inl (0, 16, (upd fc n x3)))).set (b0 + 37) (.inr (6, (fsi.set 4 (.int r16)))))[b0 + 1]? = some (.inr (7, fss)) := by rw [List.getElem?_set_ne (by omega), List.getElem?_set_ne (by omega), List.getElem?_set_ne (by omega), List.getElem?_set_ne (by omega)]; exact k10
  have n23 : (fsi.set 4 (.int r16)).length = 8 := by rw [List.length_set]; exact li
  have f24 : (fsi.set 4 (.int r16))[5]? = some (.ref (g.2.2 + (b0 + 41))) := by rw [List.getElem?_set_ne (by decide)]; exact pi5
  have f25 : (fsi.set 4 (.int r16))[6]? = some (.ref (g.2.2 + (b0 + 42))) := by rw [List.getElem?_set_ne (by decide)]; exact pi6
  have f26 : (fsi.set 4 (.int r16))[7]? = some (.ref (g.2.2 + (b0 + 43))) := by rw [List.getElem?_set_ne (by decide)]; exact pi7
  have f27 : (fsi.set 4 (.int r16))[4]? = some (.int r16) := List.getElem?_set_self (by rw [li]; decide)
  have k22 : ((((h.set (b0 + 41) (.inl (0, 16, (upd fa n x1)))).set (b0 + 42) (.inl (0, 16, (upd fb n x2)))).set (b0 + 43) (.inl (0, 16, (upd fc n x3)))).set (b0 + 37) (.inr (6, (fsi.set 4 (.int r16)))))[b0 + 37]? = some (.inr (6, (fsi.set 4 (.int r16)))) := by exact List.getElem?_set_self (by first | exact (List.getElem?_eq_some_iff.mp k11).1 | (simp only [List.length_set]; exact (List.getElem?_eq_some_iff.mp k11).1))
  have k28 : ((((h.set (b0 + 41) (.inl (0, 16, (upd fa n x1)))).set (b0 + 42) (.inl (0, 16, (upd fb n x2)))).set (b0 + 43) (.inl (0, 16, (upd fc n x3)))).set (b0 + 37) (.inr (6, (fsi.set 4 (.int r16)))))[b0 + 41]? = some (.inl (0, 16, (upd fa n x1))) := by rw [List.getElem?_set_ne (by omega), List.getElem?_set_ne (by omega), List.getElem?_set_ne (by omega)]; exact List.getElem?_set_self (by first | exact (List.getElem?_eq_some_iff.mp k12).1 | (simp only [List.length_set]; exact (List.getElem?_eq_some_iff.mp k12).1))
  have k29 : ((((h.set (b0 + 41) (.inl (0, 16, (upd fa n x1)))).set (b0 + 42) (.inl (0, 16, (upd fb n x2)))).set (b0 + 43) (.inl (0, 16, (upd fc n x3)))).set (b0 + 37) (.inr (6, (fsi.set 4 (.int r16)))))[b0 + 42]? = some (.inl (0, 16, (upd fb n x2))) := by rw [List.getElem?_set_ne (by omega), List.getElem?_set_ne (by omega)]; exact List.getElem?_set_self (by first | exact (List.getElem?_eq_some_iff.mp k13).1 | (simp only [List.length_set]; exact (List.getElem?_eq_some_iff.mp k13).1))
  have k30 : ((((h.set (b0 + 41) (.inl (0, 16, (upd fa n x1)))).set (b0 + 42) (.inl (0, 16, (upd fb n x2)))).set (b0 + 43) (.inl (0, 16, (upd fc n x3)))).set (b0 + 37) (.inr (6, (fsi.set 4 (.int r16)))))[b0 + 43]? = some (.inl (0, 16, (upd fc n x3))) := by rw [List.getElem?_set_ne (by omega)]; exact List.getElem?_set_self (by first | exact (List.getElem?_eq_some_iff.mp k14).1 | (simp only [List.length_set]; exact (List.getElem?_eq_some_iff.mp k14).1))
  have M31 : MEN g ((((h.set (b0 + 41) (.inl (0, 16, (upd fa n x1)))).set (b0 + 42) (.inl (0, 16, (upd fb n x2)))).set (b0 + 43) (.inl (0, 16, (upd fc n x3)))).set (b0 + 37) (.inr (6, (fsi.set 4 (.int r16))))) a fsx := ((((M15.set (Ne.symm (ua 41 (by decide)))).set (Ne.symm (ua 42 (by decide)))).set (Ne.symm (ua 43 (by decide)))).set (Ne.symm (ua 37 (by decide))))
  refine j_istore (i := 4) (dQ (by decide +kernel)) (by decide +kernel) ?_
  refine j_iload (i := 4) (dQ (by decide +kernel)) rfl ?_
  refine j_iconst (n := (-1)) (dQ (by decide +kernel)) ?_
  refine j_icmp_ne (off := 10) (tgt := 80) (dQ (by decide +kernel)) (by decide) (fun _ => ?_) (fun q => absurd (fun q => absurd (congrArg Int32.toInt q) (by omega)) q)
  refine j_aload_n (k4 := 0) (dQ (by decide +kernel)) rfl ?_
  refine j_cV (own := 11) (i := 235) (y2 := 127) (d2 := 1) (mc := 0) (ms := 0) (kc := 0) (ks := 0) (a := b0 + 0) (As := []) (st := []) (dQ (by decide +kernel)) hcls (by decide +kernel) (by decide) (by decide +kernel) (show 0 = jnp 127 by decide +kernel) (by decide) (show 0 ≤ 8 by decide) k20 (fun r hr => by cases hr; decide +kernel) (x_forget k20 M31) (fun v hv33 hq => ?_)
  obtain ⟨rfl, F34⟩ := hq
  have k35 : hv33[b0 + 0]? = some (.inr (11, fsx)) := (F34 _ (Ne.symm (ua 0 (by decide)))).trans k20
  have k36 : hv33[b0 + 1]? = some (.inr (7, fss)) := (F34 _ (Ne.symm (ua 1 (by decide)))).trans k21
  have k37 : hv33[b0 + 37]? = some (.inr (6, (fsi.set 4 (.int r16)))) := (F34 _ (Ne.symm (ua 37 (by decide)))).trans k22
  have k38 : hv33[b0 + 41]? = some (.inl (0, 16, (upd fa n x1))) := (F34 _ (Ne.symm (ua 41 (by decide)))).trans k28
  have k39 : hv33[b0 + 42]? = some (.inl (0, 16, (upd fb n x2))) := (F34 _ (Ne.symm (ua 42 (by decide)))).trans k29
  have k40 : hv33[b0 + 43]? = some (.inl (0, 16, (upd fc n x3))) := (F34 _ (Ne.symm (ua 43 (by decide)))).trans k30
  refine j_aload_n (k4 := 0) (dQ (by decide +kernel)) rfl ?_
  refine j_iload (i := 4) (dQ (by decide +kernel)) rfl ?_
  refine j_cV (own := 11) (i := 48) (y2 := 17) (d2 := 1) (mc := 0) (ms := 0) (kc := 0) (ks := 0) (a := b0 + 0) (As := [.int r17]) (st := []) (dQ (by decide +kernel)) hcls (by decide +kernel) (by decide) (by decide +kernel) (show 1 = jnp 17 by decide +kernel) (by decide) (show 0 ≤ 8 by decide) k35 (fun r hr => by cases hr; decide +kernel) (x_allow k35 lx) (fun v hv42 hq => ?_)
  obtain ⟨rfl, rfl⟩ := hq
  have n43 : (fsx.set 7 (.int (Int32.ofInt 0))).length = 12 := by rw [List.length_set]; exact lx
  have f44 : (fsx.set 7 (.int (Int32.ofInt 0)))[0]? = some (.ref (g.2.2 + (b0 + 1))) := by
    rw [List.getElem?_set_ne (by decide)]
    exact px0
  have k45 : (hv33.set (b0 + 0) (.inr (11, (fsx.set 7 (.int (Int32.ofInt 0))))))[b0 + 0]? = some (.inr (11, (fsx.set 7 (.int (Int32.ofInt 0))))) := List.getElem?_set_self (List.getElem?_eq_some_iff.mp k35).1
  have k46 : (hv33.set (b0 + 0) (.inr (11, (fsx.set 7 (.int (Int32.ofInt 0))))))[b0 + 1]? = some (.inr (7, fss)) := by
    rw [List.getElem?_set_ne (by omega)]
    exact k36
  have k47 : (hv33.set (b0 + 0) (.inr (11, (fsx.set 7 (.int (Int32.ofInt 0))))))[b0 + 37]? = some (.inr (6, (fsi.set 4 (.int r16)))) := by
    rw [List.getElem?_set_ne (by omega)]
    exact k37
  have k48 : (hv33.set (b0 + 0) (.inr (11, (fsx.set 7 (.int (Int32.ofInt 0))))))[b0 + 41]? = some (.inl (0, 16, (upd fa n x1))) := by
    rw [List.getElem?_set_ne (by omega)]
    exact k38
  have k49 : (hv33.set (b0 + 0) (.inr (11, (fsx.set 7 (.int (Int32.ofInt 0))))))[b0 + 42]? = some (.inl (0, 16, (upd fb n x2))) := by
    rw [List.getElem?_set_ne (by omega)]
    exact k39
  have k50 : (hv33.set (b0 + 0) (.inr (11, (fsx.set 7 (.int (Int32.ofInt 0))))))[b0 + 43]? = some (.inl (0, 16, (upd fc n x3))) := by
    rw [List.getElem?_set_ne (by omega)]
    exact k40
  exact j_ret (v := some (.int r17)) ⟨by decide +kernel, Or.inl (by decide +kernel)⟩ ⟨r17, by omega, r16, by omega, hv33, F34, rfl, rfl⟩ rfl
set_option maxRecDepth 8192 in
theorem xk_see_okp {b0 : Nat} {fsx : List Value} {fss : List Value} {fsi : List Value} {fa : Nat → Int32} {fb : Nat → Int32} {fc : Nat → Int32} {x1 : Int32} {x2 : Int32} {x3 : Int32} {t : Int32} {n : Nat} (hx : h[b0 + 0]? = some (.inr (11, fsx))) (lx : fsx.length = 12) (px0 : fsx[0]? = some (.ref (g.2.2 + (b0 + 1)))) (hs : h[b0 + 1]? = some (.inr (7, fss))) (ls : fss.length = 20) (ps18 : fss[18]? = some (.ref (g.2.2 + (b0 + 37)))) (hi : h[b0 + 37]? = some (.inr (6, fsi))) (li : fsi.length = 8) (pi4 : fsi[4]? = some (.int t)) (pi5 : fsi[5]? = some (.ref (g.2.2 + (b0 + 41)))) (pi6 : fsi[6]? = some (.ref (g.2.2 + (b0 + 42)))) (pi7 : fsi[7]? = some (.ref (g.2.2 + (b0 + 43)))) (ha : h[b0 + 41]? = some (.inl (0, 16, fa))) (hb : h[b0 + 42]? = some (.inl (0, 16, fb))) (hc : h[b0 + 43]? = some (.inl (0, 16, fc))) (g1 : 0 ≤ x1.toInt ∧ x1.toInt ≤ 9999) (g2 : 0 ≤ x2.toInt ∧ x2.toInt ≤ 11) (g3 : 1 ≤ x3.toInt ∧ x3.toInt ≤ 999) (u : (fa (n - 1)).toInt ≤ x1.toInt) (et : t.toInt = (n : Int)) (en : 1 ≤ n ∧ n ≤ 15) {a : Nat} (ua : ∀ o, o < 62 → a + 0 ≠ b0 + o) (hM : MEN g h a fsx) : jCal l g 131 2 [.ref (g.2.2 + (b0 + 0)), .int x1, .int x2, .int x3] h 0 0 (fun v h' => ∃ r17 : Int32, r17.toInt = ((((n + 1) - 1) : Nat) : Int) ∧ ∃ r16 : Int32, r16.toInt = (((n + 1) : Nat) : Int) ∧ ∃ hv33, FgM (a + 0) ((((h.set (b0 + 41) (.inl (0, 16, (upd fa n x1)))).set (b0 + 42) (.inl (0, 16, (upd fb n x2)))).set (b0 + 43) (.inl (0, 16, (upd fc n x3)))).set (b0 + 37) (.inr (6, (fsi.set 4 (.int r16))))) hv33 ∧ v = some (.int r17) ∧ h' = (hv33.set (b0 + 0) (.inr (11, (fsx.set 7 (.int (Int32.ofInt 0))))))) := by
  have hcls : jcN 11 = (jyN 131).cls := by decide +kernel
  have cn0 : (Int32.ofInt 1).toInt = 1 := by decide
  have cn1 : (Int32.ofInt (-1)).toInt = -1 := by decide
  have cn2 : (Int32.ofInt 0).toInt = 0 := by decide
  refine jCal_of (by decide +kernel) (show 4 ≤ jmx 131 by decide +kernel) ?_
  show J l g 131 2 0 [some (.ref (g.2.2 + (b0 + 0))), some (.int x1), some (.int x2), some (.int x3), none] [] h 0 0 _
  refine j_iload_n (k4 := 1) (dQ (by decide +kernel)) rfl ?_
  refine j_cS (own := 11) (i := 63) (y2 := 21) (d2 := 1) (mc := 0) (ms := 0) (kc := 0) (ks := 0) (As := [.int x1]) (st := []) (dQ (by decide +kernel)) hcls (by decide +kernel) (by decide) (by decide +kernel) (show 1 = jnp 21 by decide +kernel) (by decide) (show 0 ≤ 8 by decide) (x_isMinute_1 (by omega) (by omega)) (fun v hv2 hq => ?_)
  obtain ⟨rfl, rfl⟩ := hq
  refine j_if_eq (off := 21) (tgt := 25) (dQ (by decide +kernel)) (by decide) (fun q => absurd (congrArg Int32.toInt q) (by rw [i32_z]; omega)) (fun _ => ?_)
  refine j_iload_n (k4 := 2) (dQ (by decide +kernel)) rfl ?_
  refine j_cS (own := 11) (i := 34) (y2 := 14) (d2 := 1) (mc := 0) (ms := 0) (kc := 0) (ks := 0) (As := [.int x2]) (st := []) (dQ (by decide +kernel)) hcls (by decide +kernel) (by decide) (by decide +kernel) (show 1 = jnp 14 by decide +kernel) (by decide) (show 0 ≤ 8 by decide) (x_isBerth_1 (by omega) (by omega)) (fun v hv4 hq => ?_)
  obtain ⟨rfl, rfl⟩ := hq
  refine j_if_eq (off := 14) (tgt := 25) (dQ (by decide +kernel)) (by decide) (fun q => absurd (congrArg Int32.toInt q) (by rw [i32_z]; omega)) (fun _ => ?_)
  refine j_iload_n (k4 := 3) (dQ (by decide +kernel)) rfl ?_
  refine j_if_eq (off := 16) (tgt := 31) (dQ (by decide +kernel)) (by decide) (fun q => absurd (congrArg Int32.toInt q) (by rw [i32_z]; omega)) (fun _ => ?_)
  refine j_iload_n (k4 := 3) (dQ (by decide +kernel)) rfl ?_
  refine j_cS (own := 11) (i := 73) (y2 := 34) (d2 := 1) (mc := 0) (ms := 0) (kc := 0) (ks := 0) (As := [.int x3]) (st := []) (dQ (by decide +kernel)) hcls (by decide +kernel) (by decide) (by decide +kernel) (show 1 = jnp 34 by decide +kernel) (by decide) (show 0 ≤ 8 by decide) (x_isName_1 (by omega) (by omega)) (fun v hv6 hq => ?_)
  obtain ⟨rfl, rfl⟩ := hq
  refine j_if_ne (off := 9) (tgt := 31) (dQ (by decide +kernel)) (by decide) (fun _ => ?_) (fun q => absurd (fun q => absurd (congrArg Int32.toInt q) (by rw [i32_z]; omega)) q)
  refine j_iload_n (k4 := 1) (dQ (by decide +kernel)) rfl ?_
  refine j_aload_n (k4 := 0) (dQ (by decide +kernel)) rfl ?_
  refine j_get (own := 11) (i := 10) (ci := 11) (f := 0) (dQ (by decide +kernel)) hcls (by decide +kernel) hx (fun r hr => by cases hr; decide +kernel) px0 ?_
  refine j_get (own := 11) (i := 239) (ci := 7) (f := 18) (dQ (by decide +kernel)) hcls (by decide +kernel) hs (fun r hr => by cases hr; decide +kernel) ps18 ?_
  refine j_cV (own := 11) (i := 257) (y2 := 132) (d2 := 1) (mc := 0) (ms := 0) (kc := 0) (ks := 0) (a := b0 + 37) (As := []) (st := [.int x1]) (dQ (by decide +kernel)) hcls (by decide +kernel) (by decide) (by decide +kernel) (show 0 = jnp 132 by decide +kernel) (by decide) (show 1 ≤ 8 by decide) hi (fun r hr => by cases hr; decide +kernel) (xs_latest hi li pi4 pi5 ha (by omega) (by omega)) (fun v hv8 hq => ?_)
  obtain ⟨rfl, rfl⟩ := hq
  have k9 : h[b0 + 0]? = some (.inr (11, fsx)) := by exact hx
  have k10 : h[b0 + 1]? = some (.inr (7, fss)) := by exact hs
  have k11 : h[b0 + 37]? = some (.inr (6, fsi)) := by exact hi
  have k12 : h[b0 + 41]? = some (.inl (0, 16, fa)) := by exact ha
  have k13 : h[b0 + 42]? = some (.inl (0, 16, fb)) := by exact hb
  have k14 : h[b0 + 43]? = some (.inl (0, 16, fc)) := by exact hc
  have M15 : MEN g h a fsx := hM
  refine j_icmp_ge (off := 10) (tgt := 52) (dQ (by decide +kernel)) (by decide) (fun _ => ?_) (fun q => absurd (i32_le.mpr (by omega)) q)
  refine j_aload_n (k4 := 0) (dQ (by decide +kernel)) rfl ?_
  refine j_get (own := 11) (i := 10) (ci := 11) (f := 0) (dQ (by decide +kernel)) hcls (by decide +kernel) k9 (fun r hr => by cases hr; decide +kernel) px0 ?_
  refine j_get (own := 11) (i := 239) (ci := 7) (f := 18) (dQ (by decide +kernel)) hcls (by decide +kernel) k10 (fun r hr => by cases hr; decide +kernel) ps18 ?_
  refine j_iload_n (k4 := 1) (dQ (by decide +kernel)) rfl ?_
  refine j_iload_n (k4 := 2) (dQ (by decide +kernel)) rfl ?_
  refine j_iload_n (k4 := 3) (dQ (by decide +kernel)) rfl ?_
  refine j_cV (own := 11) (i := 260) (y2 := 133) (d2 := 1) (mc := 0) (ms := 0) (kc := 0) (ks := 0) (a := b0 + 37) (As := [.int x1, .int x2, .int x3]) (st := []) (dQ (by decide +kernel)) hcls (by decide +kernel) (by decide) (by decide +kernel) (show 3 = jnp 133 by decide +kernel) (by decide) (show 0 ≤ 8 by decide) k11 (fun r hr => by cases hr; decide +kernel) (xs_addSeen k11 li pi4 pi5 pi6 pi7 k12 k13 k14 (by omega) (by omega)) (fun v hv19 hq => ?_)
  obtain ⟨r16, hr16, r17, hr17, rfl, rfl⟩ := hq
  have k20 : ((((h.set (b0 + 41) (.inl (0, 16, (upd fa n x1)))).set (b0 + 42) (.inl (0, 16, (upd fb n x2)))).set (b0 + 43) (.inl (0, 16, (upd fc n x3)))).set (b0 + 37) (.inr (6, (fsi.set 4 (.int r16)))))[b0 + 0]? = some (.inr (11, fsx)) := by rw [List.getElem?_set_ne (by omega), List.getElem?_set_ne (by omega), List.getElem?_set_ne (by omega), List.getElem?_set_ne (by omega)]; exact k9
  have k21 : ((((h.set (b0 + 41) (.inl (0, 16, (upd fa n x1)))).set (b0 + 42) (.inl (0, 16, (upd fb n x2)))).set (b0 + 43) (.inl (0, 16, (upd fc n x3)))).set (b0 + 37) (.inr (6, (fsi.set 4 (.int r16)))))[b0 + 1]? = some (.inr (7, fss)) := by rw [List.getElem?_set_ne (by omega), List.getElem?_set_ne (by omega), List.getElem?_set_ne (by omega), List.getElem?_set_ne (by omega)]; exact k10
  have n23 : (fsi.set 4 (.int r16)).length = 8 := by rw [List.length_set]; exact li
  have f24 : (fsi.set 4 (.int r16))[5]? = some (.ref (g.2.2 + (b0 + 41))) := by rw [List.getElem?_set_ne (by decide)]; exact pi5
  have f25 : (fsi.set 4 (.int r16))[6]? = some (.ref (g.2.2 + (b0 + 42))) := by rw [List.getElem?_set_ne (by decide)]; exact pi6
  have f26 : (fsi.set 4 (.int r16))[7]? = some (.ref (g.2.2 + (b0 + 43))) := by rw [List.getElem?_set_ne (by decide)]; exact pi7
  have f27 : (fsi.set 4 (.int r16))[4]? = some (.int r16) := List.getElem?_set_self (by rw [li]; decide)
  have k22 : ((((h.set (b0 + 41) (.inl (0, 16, (upd fa n x1)))).set (b0 + 42) (.inl (0, 16, (upd fb n x2)))).set (b0 + 43) (.inl (0, 16, (upd fc n x3)))).set (b0 + 37) (.inr (6, (fsi.set 4 (.int r16)))))[b0 + 37]? = some (.inr (6, (fsi.set 4 (.int r16)))) := by exact List.getElem?_set_self (by first | exact (List.getElem?_eq_some_iff.mp k11).1 | (simp only [List.length_set]; exact (List.getElem?_eq_some_iff.mp k11).1))
  have k28 : ((((h.set (b0 + 41) (.inl (0, 16, (upd fa n x1)))).set (b0 + 42) (.inl (0, 16, (upd fb n x2)))).set (b0 + 43) (.inl (0, 16, (upd fc n x3)))).set (b0 + 37) (.inr (6, (fsi.set 4 (.int r16)))))[b0 + 41]? = some (.inl (0, 16, (upd fa n x1))) := by rw [List.getElem?_set_ne (by omega), List.getElem?_set_ne (by omega), List.getElem?_set_ne (by omega)]; exact List.getElem?_set_self (by first | exact (List.getElem?_eq_some_iff.mp k12).1 | (simp only [List.length_set]; exact (List.getElem?_eq_some_iff.mp k12).1))
  have k29 : ((((h.set (b0 + 41) (.inl (0, 16, (upd fa n x1)))).set (b0 + 42) (.inl (0, 16, (upd fb n x2)))).set (b0 + 43) (.inl (0, 16, (upd fc n x3)))).set (b0 + 37) (.inr (6, (fsi.set 4 (.int r16)))))[b0 + 42]? = some (.inl (0, 16, (upd fb n x2))) := by rw [List.getElem?_set_ne (by omega), List.getElem?_set_ne (by omega)]; exact List.getElem?_set_self (by first | exact (List.getElem?_eq_some_iff.mp k13).1 | (simp only [List.length_set]; exact (List.getElem?_eq_some_iff.mp k13).1))
  have k30 : ((((h.set (b0 + 41) (.inl (0, 16, (upd fa n x1)))).set (b0 + 42) (.inl (0, 16, (upd fb n x2)))).set (b0 + 43) (.inl (0, 16, (upd fc n x3)))).set (b0 + 37) (.inr (6, (fsi.set 4 (.int r16)))))[b0 + 43]? = some (.inl (0, 16, (upd fc n x3))) := by rw [List.getElem?_set_ne (by omega)]; exact List.getElem?_set_self (by first | exact (List.getElem?_eq_some_iff.mp k14).1 | (simp only [List.length_set]; exact (List.getElem?_eq_some_iff.mp k14).1))
  have M31 : MEN g ((((h.set (b0 + 41) (.inl (0, 16, (upd fa n x1)))).set (b0 + 42) (.inl (0, 16, (upd fb n x2)))).set (b0 + 43) (.inl (0, 16, (upd fc n x3)))).set (b0 + 37) (.inr (6, (fsi.set 4 (.int r16))))) a fsx := ((((M15.set (Ne.symm (ua 41 (by decide)))).set (Ne.symm (ua 42 (by decide)))).set (Ne.symm (ua 43 (by decide)))).set (Ne.symm (ua 37 (by decide))))
  refine j_istore (i := 4) (dQ (by decide +kernel)) (by decide +kernel) ?_
  refine j_iload (i := 4) (dQ (by decide +kernel)) rfl ?_
  refine j_iconst (n := (-1)) (dQ (by decide +kernel)) ?_
  refine j_icmp_ne (off := 10) (tgt := 80) (dQ (by decide +kernel)) (by decide) (fun _ => ?_) (fun q => absurd (fun q => absurd (congrArg Int32.toInt q) (by omega)) q)
  refine j_aload_n (k4 := 0) (dQ (by decide +kernel)) rfl ?_
  refine j_cV (own := 11) (i := 235) (y2 := 127) (d2 := 1) (mc := 0) (ms := 0) (kc := 0) (ks := 0) (a := b0 + 0) (As := []) (st := []) (dQ (by decide +kernel)) hcls (by decide +kernel) (by decide) (by decide +kernel) (show 0 = jnp 127 by decide +kernel) (by decide) (show 0 ≤ 8 by decide) k20 (fun r hr => by cases hr; decide +kernel) (x_forget k20 M31) (fun v hv33 hq => ?_)
  obtain ⟨rfl, F34⟩ := hq
  have k35 : hv33[b0 + 0]? = some (.inr (11, fsx)) := (F34 _ (Ne.symm (ua 0 (by decide)))).trans k20
  have k36 : hv33[b0 + 1]? = some (.inr (7, fss)) := (F34 _ (Ne.symm (ua 1 (by decide)))).trans k21
  have k37 : hv33[b0 + 37]? = some (.inr (6, (fsi.set 4 (.int r16)))) := (F34 _ (Ne.symm (ua 37 (by decide)))).trans k22
  have k38 : hv33[b0 + 41]? = some (.inl (0, 16, (upd fa n x1))) := (F34 _ (Ne.symm (ua 41 (by decide)))).trans k28
  have k39 : hv33[b0 + 42]? = some (.inl (0, 16, (upd fb n x2))) := (F34 _ (Ne.symm (ua 42 (by decide)))).trans k29
  have k40 : hv33[b0 + 43]? = some (.inl (0, 16, (upd fc n x3))) := (F34 _ (Ne.symm (ua 43 (by decide)))).trans k30
  refine j_aload_n (k4 := 0) (dQ (by decide +kernel)) rfl ?_
  refine j_iload (i := 4) (dQ (by decide +kernel)) rfl ?_
  refine j_cV (own := 11) (i := 48) (y2 := 17) (d2 := 1) (mc := 0) (ms := 0) (kc := 0) (ks := 0) (a := b0 + 0) (As := [.int r17]) (st := []) (dQ (by decide +kernel)) hcls (by decide +kernel) (by decide) (by decide +kernel) (show 1 = jnp 17 by decide +kernel) (by decide) (show 0 ≤ 8 by decide) k35 (fun r hr => by cases hr; decide +kernel) (x_allow k35 lx) (fun v hv42 hq => ?_)
  obtain ⟨rfl, rfl⟩ := hq
  have n43 : (fsx.set 7 (.int (Int32.ofInt 0))).length = 12 := by rw [List.length_set]; exact lx
  have f44 : (fsx.set 7 (.int (Int32.ofInt 0)))[0]? = some (.ref (g.2.2 + (b0 + 1))) := by
    rw [List.getElem?_set_ne (by decide)]
    exact px0
  have k45 : (hv33.set (b0 + 0) (.inr (11, (fsx.set 7 (.int (Int32.ofInt 0))))))[b0 + 0]? = some (.inr (11, (fsx.set 7 (.int (Int32.ofInt 0))))) := List.getElem?_set_self (List.getElem?_eq_some_iff.mp k35).1
  have k46 : (hv33.set (b0 + 0) (.inr (11, (fsx.set 7 (.int (Int32.ofInt 0))))))[b0 + 1]? = some (.inr (7, fss)) := by
    rw [List.getElem?_set_ne (by omega)]
    exact k36
  have k47 : (hv33.set (b0 + 0) (.inr (11, (fsx.set 7 (.int (Int32.ofInt 0))))))[b0 + 37]? = some (.inr (6, (fsi.set 4 (.int r16)))) := by
    rw [List.getElem?_set_ne (by omega)]
    exact k37
  have k48 : (hv33.set (b0 + 0) (.inr (11, (fsx.set 7 (.int (Int32.ofInt 0))))))[b0 + 41]? = some (.inl (0, 16, (upd fa n x1))) := by
    rw [List.getElem?_set_ne (by omega)]
    exact k38
  have k49 : (hv33.set (b0 + 0) (.inr (11, (fsx.set 7 (.int (Int32.ofInt 0))))))[b0 + 42]? = some (.inl (0, 16, (upd fb n x2))) := by
    rw [List.getElem?_set_ne (by omega)]
    exact k39
  have k50 : (hv33.set (b0 + 0) (.inr (11, (fsx.set 7 (.int (Int32.ofInt 0))))))[b0 + 43]? = some (.inl (0, 16, (upd fc n x3))) := by
    rw [List.getElem?_set_ne (by omega)]
    exact k40
  exact j_ret (v := some (.int r17)) ⟨by decide +kernel, Or.inl (by decide +kernel)⟩ ⟨r17, by omega, r16, by omega, hv33, F34, rfl, rfl⟩ rfl
set_option maxRecDepth 8192 in
theorem xr_see_old {b1 : Nat} {fsm : List Value} {fr : Nat → Int32} {x1 : Int32} {x2 : Int32} {x3 : Int32} {t : Int32} {n : Nat} (hm : h[b1 + 0]? = some (.inr (12, fsm))) (lm : fsm.length = 42) (pm2 : fsm[2]? = some (.ref (g.2.2 + (b1 + 1)))) (hr : h[b1 + 1]? = some (.inl (0, 5270, fr))) (g1 : 0 ≤ x1.toInt ∧ x1.toInt ≤ 9999) (g2 : 0 ≤ x2.toInt ∧ x2.toInt ≤ 11) (g3 : 0 ≤ x3.toInt ∧ x3.toInt ≤ 999) (u : x1.toInt < (fr (456 + 3 * n - 3)).toInt) (et : t.toInt = (n : Int)) (en : 1 ≤ n ∧ n ≤ 16) (qt : fr 4 = t) : jCal l g 281 3 [.ref (g.2.2 + (b1 + 0)), .int x1, .int x2, .int x3] h 0 0 (fun v h' => v = some (.int (Int32.ofInt (-3))) ∧ h' = ((h.set (b1 + 0) (.inr (12, (fsm.set 0 (.int (Int32.ofInt 0)))))).set (b1 + 0) (.inr (12, ((fsm.set 0 (.int (Int32.ofInt 0))).set 1 (.int (Int32.ofInt (-3)))))))) := by
  have hcls : jcN 12 = (jyN 281).cls := by decide +kernel
  have cn0 : (Int32.ofInt 0).toInt = 0 := by decide
  have cn1 : (Int32.ofInt 1).toInt = 1 := by decide
  have cn2 : (Int32.ofInt 4).toInt = 4 := by decide
  have cn3 : (Int32.ofInt 456).toInt = 456 := by decide
  have cn4 : (Int32.ofInt 3).toInt = 3 := by decide
  have cn5 : (Int32.ofInt (-3)).toInt = -3 := by decide
  refine jCal_of (by decide +kernel) (show 4 ≤ jmx 281 by decide +kernel) ?_
  show J l g 281 3 0 [some (.ref (g.2.2 + (b1 + 0))), some (.int x1), some (.int x2), some (.int x3), none] [] h 0 0 _
  refine j_aload_n (k4 := 0) (dQ (by decide +kernel)) rfl ?_
  refine j_iconst (n := 0) (dQ (by decide +kernel)) ?_
  refine j_put (own := 12) (i := 94) (ci := 12) (f := 0) (ty := .int) (dQ (by decide +kernel)) hcls (by decide +kernel) hm rfl (by decide +kernel) (by rw [lm]; decide) (by decide +kernel) (by decide +kernel) rfl rfl ?_
  have n1 : (fsm.set 0 (.int (Int32.ofInt 0))).length = 42 := by rw [List.length_set]; exact lm
  have f2 : (fsm.set 0 (.int (Int32.ofInt 0)))[2]? = some (.ref (g.2.2 + (b1 + 1))) := by
    rw [List.getElem?_set_ne (by decide)]
    exact pm2
  have f3 : (fsm.set 0 (.int (Int32.ofInt 0)))[0]? = some (.int (Int32.ofInt 0)) := List.getElem?_set_self (by rw [lm]; decide)
  have k4 : (h.set (b1 + 0) (.inr (12, (fsm.set 0 (.int (Int32.ofInt 0))))))[b1 + 0]? = some (.inr (12, (fsm.set 0 (.int (Int32.ofInt 0))))) := List.getElem?_set_self (List.getElem?_eq_some_iff.mp hm).1
  have k5 : (h.set (b1 + 0) (.inr (12, (fsm.set 0 (.int (Int32.ofInt 0))))))[b1 + 1]? = some (.inl (0, 5270, fr)) := by
    rw [List.getElem?_set_ne (by omega)]
    exact hr
  refine j_iload_n (k4 := 1) (dQ (by decide +kernel)) rfl ?_
  refine j_cS (own := 12) (i := 288) (y2 := 238) (d2 := 2) (mc := 0) (ms := 0) (kc := 0) (ks := 0) (As := [.int x1]) (st := []) (dQ (by decide +kernel)) hcls (by decide +kernel) (by decide) (by decide +kernel) (show 1 = jnp 238 by decide +kernel) (by decide) (show 0 ≤ 8 by decide) (xm_isMinute_1 (by omega) (by omega)) (fun v hv7 hq => ?_)
  obtain ⟨rfl, rfl⟩ := hq
  refine j_if_eq (off := 22) (tgt := 31) (dQ (by decide +kernel)) (by decide) (fun q => absurd (congrArg Int32.toInt q) (by rw [i32_z]; omega)) (fun _ => ?_)
  refine j_iload_n (k4 := 2) (dQ (by decide +kernel)) rfl ?_
  refine j_cS (own := 12) (i := 285) (y2 := 235) (d2 := 2) (mc := 0) (ms := 0) (kc := 0) (ks := 0) (As := [.int x2]) (st := []) (dQ (by decide +kernel)) hcls (by decide +kernel) (by decide) (by decide +kernel) (show 1 = jnp 235 by decide +kernel) (by decide) (show 0 ≤ 8 by decide) (xm_isBerth_1 (by omega) (by omega)) (fun v hv9 hq => ?_)
  obtain ⟨rfl, rfl⟩ := hq
  refine j_if_eq (off := 15) (tgt := 31) (dQ (by decide +kernel)) (by decide) (fun q => absurd (congrArg Int32.toInt q) (by rw [i32_z]; omega)) (fun _ => ?_)
  refine j_iload_n (k4 := 3) (dQ (by decide +kernel)) rfl ?_
  refine x_i2l (dQ (by decide +kernel)) (fun r10 hr10 => ?_)
  refine j_lconst (n := 0) (dQ (by decide +kernel)) ?_
  have hq11 : (Int64.ofNat ((0 : Fin 2) : Nat)).toInt = 0 := by decide
  refine j_ldc2 (own := 12) (i := 114) (v := 999) hcls (by decide +kernel) (by decide +kernel) ?_
  have hq12 : (999 : Int64).toInt = 999 := by decide
  refine j_cS (own := 12) (i := 100) (y2 := 205) (d2 := 1) (mc := 0) (ms := 0) (kc := 0) (ks := 0) (As := [.long r10, .long (Int64.ofNat ((0 : Fin 2) : Nat)), .long (999 : Int64)]) (st := []) (dQ (by decide +kernel)) hcls (by decide +kernel) (by decide) (by decide +kernel) (show 3 = jnp 205 by decide +kernel) (by decide) (show 0 ≤ 8 by decide) (xm_in_1 (by omega) (by omega)) (fun v hv14 hq => ?_)
  obtain ⟨rfl, rfl⟩ := hq
  refine j_if_ne (off := 9) (tgt := 37) (dQ (by decide +kernel)) (by decide) (fun _ => ?_) (fun q => absurd (fun q => absurd (congrArg Int32.toInt q) (by rw [i32_z]; omega)) q)
  refine j_aload_n (k4 := 0) (dQ (by decide +kernel)) rfl ?_
  refine j_get (own := 12) (i := 7) (ci := 12) (f := 2) (dQ (by decide +kernel)) hcls (by decide +kernel) k4 (fun r hr => by cases hr; decide +kernel) f2 ?_
  refine j_iconst (n := 4) (dQ (by decide +kernel)) ?_
  refine x_aldv (v := t) 4 (dQ (by decide +kernel)) k5 (by omega) (by omega) (by rw [qt]) ?_
  refine j_istore (i := 4) (dQ (by decide +kernel)) (by decide +kernel) ?_
  refine j_iload (i := 4) (dQ (by decide +kernel)) rfl ?_
  refine j_if_le (off := 29) (tgt := 76) (dQ (by decide +kernel)) (by decide) (fun q => absurd (i32_le.mp q) (by rw [i32_z]; omega)) (fun _ => ?_)
  refine j_iload_n (k4 := 1) (dQ (by decide +kernel)) rfl ?_
  refine j_aload_n (k4 := 0) (dQ (by decide +kernel)) rfl ?_
  refine j_get (own := 12) (i := 7) (ci := 12) (f := 2) (dQ (by decide +kernel)) hcls (by decide +kernel) k4 (fun r hr => by cases hr; decide +kernel) f2 ?_
  refine x_si (n := 456) (dQ (by decide +kernel)) (by decide) ?_
  refine j_iconst (n := 3) (dQ (by decide +kernel)) ?_
  refine j_iload (i := 4) (dQ (by decide +kernel)) rfl ?_
  refine x_mul (z := 3 * t.toInt) (dQ (by decide +kernel)) (by rw [cn4]) (by omega) (fun r15 hr15 => ?_)
  refine x_add (dQ (by decide +kernel)) (by omega) (fun r16 hr16 => ?_)
  refine j_iconst (n := 3) (dQ (by decide +kernel)) ?_
  refine x_sub (dQ (by decide +kernel)) (by omega) (fun r17 hr17 => ?_)
  refine x_ald ((456 + (3 * n)) - 3) (dQ (by decide +kernel)) k5 (by omega) (by omega) ?_
  refine j_icmp_ge (off := 10) (tgt := 76) (dQ (by decide +kernel)) (by decide) (fun q => absurd (i32_le.mp q) (by omega)) (fun _ => ?_)
  refine j_aload_n (k4 := 0) (dQ (by decide +kernel)) rfl ?_
  refine x_bi (n := (-3)) (dQ (by decide +kernel)) (by decide) ?_
  refine j_cV (own := 12) (i := 104) (y2 := 206) (d2 := 1) (mc := 0) (ms := 0) (kc := 0) (ks := 0) (a := b1 + 0) (As := [.int (Int32.ofInt (-3))]) (st := []) (dQ (by decide +kernel)) hcls (by decide +kernel) (by decide) (by decide +kernel) (show 1 = jnp 206 by decide +kernel) (by decide) (show 0 ≤ 8 by decide) k4 (fun r hr => by cases hr; decide +kernel) (xm_tellN k4 n1 (by omega)) (fun v hv19 hq => ?_)
  obtain ⟨rfl, rfl⟩ := hq
  have n20 : ((fsm.set 0 (.int (Int32.ofInt 0))).set 1 (.int (Int32.ofInt (-3)))).length = 42 := by rw [List.length_set]; exact n1
  have f21 : ((fsm.set 0 (.int (Int32.ofInt 0))).set 1 (.int (Int32.ofInt (-3))))[2]? = some (.ref (g.2.2 + (b1 + 1))) := by
    rw [List.getElem?_set_ne (by decide)]
    exact f2
  have f22 : ((fsm.set 0 (.int (Int32.ofInt 0))).set 1 (.int (Int32.ofInt (-3))))[0]? = some (.int (Int32.ofInt 0)) := by
    rw [List.getElem?_set_ne (by decide)]
    exact f3
  have k23 : ((h.set (b1 + 0) (.inr (12, (fsm.set 0 (.int (Int32.ofInt 0)))))).set (b1 + 0) (.inr (12, ((fsm.set 0 (.int (Int32.ofInt 0))).set 1 (.int (Int32.ofInt (-3)))))))[b1 + 0]? = some (.inr (12, ((fsm.set 0 (.int (Int32.ofInt 0))).set 1 (.int (Int32.ofInt (-3)))))) := List.getElem?_set_self (List.getElem?_eq_some_iff.mp k4).1
  have k24 : ((h.set (b1 + 0) (.inr (12, (fsm.set 0 (.int (Int32.ofInt 0)))))).set (b1 + 0) (.inr (12, ((fsm.set 0 (.int (Int32.ofInt 0))).set 1 (.int (Int32.ofInt (-3)))))))[b1 + 1]? = some (.inl (0, 5270, fr)) := by
    rw [List.getElem?_set_ne (by omega)]
    exact k5
  exact j_ret (v := some (.int (Int32.ofInt (-3)))) ⟨by decide +kernel, Or.inl (by decide +kernel)⟩ ⟨rfl, rfl⟩ rfl
set_option maxRecDepth 8192 in
theorem xr_see_full {b1 : Nat} {fsm : List Value} {fr : Nat → Int32} {x1 : Int32} {x2 : Int32} {x3 : Int32} {t : Int32} {n : Nat} (hm : h[b1 + 0]? = some (.inr (12, fsm))) (lm : fsm.length = 42) (pm2 : fsm[2]? = some (.ref (g.2.2 + (b1 + 1)))) (hr : h[b1 + 1]? = some (.inl (0, 5270, fr))) (g1 : 0 ≤ x1.toInt ∧ x1.toInt ≤ 9999) (g2 : 0 ≤ x2.toInt ∧ x2.toInt ≤ 11) (g3 : 0 ≤ x3.toInt ∧ x3.toInt ≤ 999) (u : (fr (456 + 3 * n - 3)).toInt ≤ x1.toInt) (et : t.toInt = (n : Int)) (en : 16 ≤ n ∧ n ≤ 16) (qt : fr 4 = t) : jCal l g 281 3 [.ref (g.2.2 + (b1 + 0)), .int x1, .int x2, .int x3] h 0 0 (fun v h' => v = some (.int (Int32.ofInt (-5))) ∧ h' = ((h.set (b1 + 0) (.inr (12, (fsm.set 0 (.int (Int32.ofInt 0)))))).set (b1 + 0) (.inr (12, ((fsm.set 0 (.int (Int32.ofInt 0))).set 1 (.int (Int32.ofInt (-5)))))))) := by
  have hcls : jcN 12 = (jyN 281).cls := by decide +kernel
  have cn0 : (Int32.ofInt 0).toInt = 0 := by decide
  have cn1 : (Int32.ofInt 1).toInt = 1 := by decide
  have cn2 : (Int32.ofInt 4).toInt = 4 := by decide
  have cn3 : (Int32.ofInt 456).toInt = 456 := by decide
  have cn4 : (Int32.ofInt 3).toInt = 3 := by decide
  have cn5 : (Int32.ofInt 16).toInt = 16 := by decide
  have cn6 : (Int32.ofInt (-5)).toInt = -5 := by decide
  refine jCal_of (by decide +kernel) (show 4 ≤ jmx 281 by decide +kernel) ?_
  show J l g 281 3 0 [some (.ref (g.2.2 + (b1 + 0))), some (.int x1), some (.int x2), some (.int x3), none] [] h 0 0 _
  refine j_aload_n (k4 := 0) (dQ (by decide +kernel)) rfl ?_
  refine j_iconst (n := 0) (dQ (by decide +kernel)) ?_
  refine j_put (own := 12) (i := 94) (ci := 12) (f := 0) (ty := .int) (dQ (by decide +kernel)) hcls (by decide +kernel) hm rfl (by decide +kernel) (by rw [lm]; decide) (by decide +kernel) (by decide +kernel) rfl rfl ?_
  have n1 : (fsm.set 0 (.int (Int32.ofInt 0))).length = 42 := by rw [List.length_set]; exact lm
  have f2 : (fsm.set 0 (.int (Int32.ofInt 0)))[2]? = some (.ref (g.2.2 + (b1 + 1))) := by
    rw [List.getElem?_set_ne (by decide)]
    exact pm2
  have f3 : (fsm.set 0 (.int (Int32.ofInt 0)))[0]? = some (.int (Int32.ofInt 0)) := List.getElem?_set_self (by rw [lm]; decide)
  have k4 : (h.set (b1 + 0) (.inr (12, (fsm.set 0 (.int (Int32.ofInt 0))))))[b1 + 0]? = some (.inr (12, (fsm.set 0 (.int (Int32.ofInt 0))))) := List.getElem?_set_self (List.getElem?_eq_some_iff.mp hm).1
  have k5 : (h.set (b1 + 0) (.inr (12, (fsm.set 0 (.int (Int32.ofInt 0))))))[b1 + 1]? = some (.inl (0, 5270, fr)) := by
    rw [List.getElem?_set_ne (by omega)]
    exact hr
  refine j_iload_n (k4 := 1) (dQ (by decide +kernel)) rfl ?_
  refine j_cS (own := 12) (i := 288) (y2 := 238) (d2 := 2) (mc := 0) (ms := 0) (kc := 0) (ks := 0) (As := [.int x1]) (st := []) (dQ (by decide +kernel)) hcls (by decide +kernel) (by decide) (by decide +kernel) (show 1 = jnp 238 by decide +kernel) (by decide) (show 0 ≤ 8 by decide) (xm_isMinute_1 (by omega) (by omega)) (fun v hv7 hq => ?_)
  obtain ⟨rfl, rfl⟩ := hq
  refine j_if_eq (off := 22) (tgt := 31) (dQ (by decide +kernel)) (by decide) (fun q => absurd (congrArg Int32.toInt q) (by rw [i32_z]; omega)) (fun _ => ?_)
  refine j_iload_n (k4 := 2) (dQ (by decide +kernel)) rfl ?_
  refine j_cS (own := 12) (i := 285) (y2 := 235) (d2 := 2) (mc := 0) (ms := 0) (kc := 0) (ks := 0) (As := [.int x2]) (st := []) (dQ (by decide +kernel)) hcls (by decide +kernel) (by decide) (by decide +kernel) (show 1 = jnp 235 by decide +kernel) (by decide) (show 0 ≤ 8 by decide) (xm_isBerth_1 (by omega) (by omega)) (fun v hv9 hq => ?_)
  obtain ⟨rfl, rfl⟩ := hq
  refine j_if_eq (off := 15) (tgt := 31) (dQ (by decide +kernel)) (by decide) (fun q => absurd (congrArg Int32.toInt q) (by rw [i32_z]; omega)) (fun _ => ?_)
  refine j_iload_n (k4 := 3) (dQ (by decide +kernel)) rfl ?_
  refine x_i2l (dQ (by decide +kernel)) (fun r10 hr10 => ?_)
  refine j_lconst (n := 0) (dQ (by decide +kernel)) ?_
  have hq11 : (Int64.ofNat ((0 : Fin 2) : Nat)).toInt = 0 := by decide
  refine j_ldc2 (own := 12) (i := 114) (v := 999) hcls (by decide +kernel) (by decide +kernel) ?_
  have hq12 : (999 : Int64).toInt = 999 := by decide
  refine j_cS (own := 12) (i := 100) (y2 := 205) (d2 := 1) (mc := 0) (ms := 0) (kc := 0) (ks := 0) (As := [.long r10, .long (Int64.ofNat ((0 : Fin 2) : Nat)), .long (999 : Int64)]) (st := []) (dQ (by decide +kernel)) hcls (by decide +kernel) (by decide) (by decide +kernel) (show 3 = jnp 205 by decide +kernel) (by decide) (show 0 ≤ 8 by decide) (xm_in_1 (by omega) (by omega)) (fun v hv14 hq => ?_)
  obtain ⟨rfl, rfl⟩ := hq
  refine j_if_ne (off := 9) (tgt := 37) (dQ (by decide +kernel)) (by decide) (fun _ => ?_) (fun q => absurd (fun q => absurd (congrArg Int32.toInt q) (by rw [i32_z]; omega)) q)
  refine j_aload_n (k4 := 0) (dQ (by decide +kernel)) rfl ?_
  refine j_get (own := 12) (i := 7) (ci := 12) (f := 2) (dQ (by decide +kernel)) hcls (by decide +kernel) k4 (fun r hr => by cases hr; decide +kernel) f2 ?_
  refine j_iconst (n := 4) (dQ (by decide +kernel)) ?_
  refine x_aldv (v := t) 4 (dQ (by decide +kernel)) k5 (by omega) (by omega) (by rw [qt]) ?_
  refine j_istore (i := 4) (dQ (by decide +kernel)) (by decide +kernel) ?_
  refine j_iload (i := 4) (dQ (by decide +kernel)) rfl ?_
  refine j_if_le (off := 29) (tgt := 76) (dQ (by decide +kernel)) (by decide) (fun q => absurd (i32_le.mp q) (by rw [i32_z]; omega)) (fun _ => ?_)
  refine j_iload_n (k4 := 1) (dQ (by decide +kernel)) rfl ?_
  refine j_aload_n (k4 := 0) (dQ (by decide +kernel)) rfl ?_
  refine j_get (own := 12) (i := 7) (ci := 12) (f := 2) (dQ (by decide +kernel)) hcls (by decide +kernel) k4 (fun r hr => by cases hr; decide +kernel) f2 ?_
  refine x_si (n := 456) (dQ (by decide +kernel)) (by decide) ?_
  refine j_iconst (n := 3) (dQ (by decide +kernel)) ?_
  refine j_iload (i := 4) (dQ (by decide +kernel)) rfl ?_
  refine x_mul (z := 3 * t.toInt) (dQ (by decide +kernel)) (by rw [cn4]) (by omega) (fun r15 hr15 => ?_)
  refine x_add (dQ (by decide +kernel)) (by omega) (fun r16 hr16 => ?_)
  refine j_iconst (n := 3) (dQ (by decide +kernel)) ?_
  refine x_sub (dQ (by decide +kernel)) (by omega) (fun r17 hr17 => ?_)
  refine x_ald ((456 + (3 * n)) - 3) (dQ (by decide +kernel)) k5 (by omega) (by omega) ?_
  refine j_icmp_ge (off := 10) (tgt := 76) (dQ (by decide +kernel)) (by decide) (fun _ => ?_) (fun q => absurd (i32_le.mpr (by omega)) q)
  refine j_iload (i := 4) (dQ (by decide +kernel)) rfl ?_
  refine x_bi (n := 16) (dQ (by decide +kernel)) (by decide) ?_
  refine j_icmp_ne (off := 10) (tgt := 90) (dQ (by decide +kernel)) (by decide) (fun q => absurd (i32_eq (by omega)) q) (fun _ => ?_)
  refine j_aload_n (k4 := 0) (dQ (by decide +kernel)) rfl ?_
  refine x_bi (n := (-5)) (dQ (by decide +kernel)) (by decide) ?_
  refine j_cV (own := 12) (i := 104) (y2 := 206) (d2 := 1) (mc := 0) (ms := 0) (kc := 0) (ks := 0) (a := b1 + 0) (As := [.int (Int32.ofInt (-5))]) (st := []) (dQ (by decide +kernel)) hcls (by decide +kernel) (by decide) (by decide +kernel) (show 1 = jnp 206 by decide +kernel) (by decide) (show 0 ≤ 8 by decide) k4 (fun r hr => by cases hr; decide +kernel) (xm_tellN k4 n1 (by omega)) (fun v hv19 hq => ?_)
  obtain ⟨rfl, rfl⟩ := hq
  have n20 : ((fsm.set 0 (.int (Int32.ofInt 0))).set 1 (.int (Int32.ofInt (-5)))).length = 42 := by rw [List.length_set]; exact n1
  have f21 : ((fsm.set 0 (.int (Int32.ofInt 0))).set 1 (.int (Int32.ofInt (-5))))[2]? = some (.ref (g.2.2 + (b1 + 1))) := by
    rw [List.getElem?_set_ne (by decide)]
    exact f2
  have f22 : ((fsm.set 0 (.int (Int32.ofInt 0))).set 1 (.int (Int32.ofInt (-5))))[0]? = some (.int (Int32.ofInt 0)) := by
    rw [List.getElem?_set_ne (by decide)]
    exact f3
  have k23 : ((h.set (b1 + 0) (.inr (12, (fsm.set 0 (.int (Int32.ofInt 0)))))).set (b1 + 0) (.inr (12, ((fsm.set 0 (.int (Int32.ofInt 0))).set 1 (.int (Int32.ofInt (-5)))))))[b1 + 0]? = some (.inr (12, ((fsm.set 0 (.int (Int32.ofInt 0))).set 1 (.int (Int32.ofInt (-5)))))) := List.getElem?_set_self (List.getElem?_eq_some_iff.mp k4).1
  have k24 : ((h.set (b1 + 0) (.inr (12, (fsm.set 0 (.int (Int32.ofInt 0)))))).set (b1 + 0) (.inr (12, ((fsm.set 0 (.int (Int32.ofInt 0))).set 1 (.int (Int32.ofInt (-5)))))))[b1 + 1]? = some (.inl (0, 5270, fr)) := by
    rw [List.getElem?_set_ne (by omega)]
    exact k5
  exact j_ret (v := some (.int (Int32.ofInt (-5)))) ⟨by decide +kernel, Or.inl (by decide +kernel)⟩ ⟨rfl, rfl⟩ rfl
set_option maxRecDepth 8192 in
theorem xr_see_okz {b1 : Nat} {fsm : List Value} {fr : Nat → Int32} {x1 : Int32} {x2 : Int32} {x3 : Int32} {t : Int32} {n : Nat} (hm : h[b1 + 0]? = some (.inr (12, fsm))) (lm : fsm.length = 42) (pm2 : fsm[2]? = some (.ref (g.2.2 + (b1 + 1)))) (hr : h[b1 + 1]? = some (.inl (0, 5270, fr))) (g1 : 0 ≤ x1.toInt ∧ x1.toInt ≤ 9999) (g2 : 0 ≤ x2.toInt ∧ x2.toInt ≤ 11) (g3 : 0 ≤ x3.toInt ∧ x3.toInt ≤ 999) (et : t.toInt = (n : Int)) (en : 0 ≤ n ∧ n ≤ 0) (qt : fr 4 = t) : jCal l g 281 3 [.ref (g.2.2 + (b1 + 0)), .int x1, .int x2, .int x3] h 0 0 (fun v h' => ∃ r29 : Int32, r29.toInt = (((n + 1) : Nat) : Int) ∧ v = some (.int t) ∧ h' = ((((((h.set (b1 + 0) (.inr (12, (fsm.set 0 (.int (Int32.ofInt 0)))))).set (b1 + 1) (.inl (0, 5270, (upd fr (456 + (3 * n)) x1)))).set (b1 + 1) (.inl (0, 5270, (upd (upd fr (456 + (3 * n)) x1) ((456 + (3 * n)) + 1) x2)))).set (b1 + 1) (.inl (0, 5270, (upd (upd (upd fr (456 + (3 * n)) x1) ((456 + (3 * n)) + 1) x2) ((456 + (3 * n)) + 2) x3)))).set (b1 + 1) (.inl (0, 5270, (upd (upd (upd (upd fr (456 + (3 * n)) x1) ((456 + (3 * n)) + 1) x2) ((456 + (3 * n)) + 2) x3) 4 r29)))).set (b1 + 0) (.inr (12, ((fsm.set 0 (.int (Int32.ofInt 0))).set 1 (.int (Int32.ofInt 0))))))) := by
  have hcls : jcN 12 = (jyN 281).cls := by decide +kernel
  have cn0 : (Int32.ofInt 0).toInt = 0 := by decide
  have cn1 : (Int32.ofInt 1).toInt = 1 := by decide
  have cn2 : (Int32.ofInt 4).toInt = 4 := by decide
  have cn3 : (Int32.ofInt 16).toInt = 16 := by decide
  have cn4 : (Int32.ofInt 456).toInt = 456 := by decide
  have cn5 : (Int32.ofInt 3).toInt = 3 := by decide
  have cn6 : (Int32.ofInt 2).toInt = 2 := by decide
  refine jCal_of (by decide +kernel) (show 4 ≤ jmx 281 by decide +kernel) ?_
  show J l g 281 3 0 [some (.ref (g.2.2 + (b1 + 0))), some (.int x1), some (.int x2), some (.int x3), none] [] h 0 0 _
  refine j_aload_n (k4 := 0) (dQ (by decide +kernel)) rfl ?_
  refine j_iconst (n := 0) (dQ (by decide +kernel)) ?_
  refine j_put (own := 12) (i := 94) (ci := 12) (f := 0) (ty := .int) (dQ (by decide +kernel)) hcls (by decide +kernel) hm rfl (by decide +kernel) (by rw [lm]; decide) (by decide +kernel) (by decide +kernel) rfl rfl ?_
  have n1 : (fsm.set 0 (.int (Int32.ofInt 0))).length = 42 := by rw [List.length_set]; exact lm
  have f2 : (fsm.set 0 (.int (Int32.ofInt 0)))[2]? = some (.ref (g.2.2 + (b1 + 1))) := by
    rw [List.getElem?_set_ne (by decide)]
    exact pm2
  have f3 : (fsm.set 0 (.int (Int32.ofInt 0)))[0]? = some (.int (Int32.ofInt 0)) := List.getElem?_set_self (by rw [lm]; decide)
  have k4 : (h.set (b1 + 0) (.inr (12, (fsm.set 0 (.int (Int32.ofInt 0))))))[b1 + 0]? = some (.inr (12, (fsm.set 0 (.int (Int32.ofInt 0))))) := List.getElem?_set_self (List.getElem?_eq_some_iff.mp hm).1
  have k5 : (h.set (b1 + 0) (.inr (12, (fsm.set 0 (.int (Int32.ofInt 0))))))[b1 + 1]? = some (.inl (0, 5270, fr)) := by
    rw [List.getElem?_set_ne (by omega)]
    exact hr
  refine j_iload_n (k4 := 1) (dQ (by decide +kernel)) rfl ?_
  refine j_cS (own := 12) (i := 288) (y2 := 238) (d2 := 2) (mc := 0) (ms := 0) (kc := 0) (ks := 0) (As := [.int x1]) (st := []) (dQ (by decide +kernel)) hcls (by decide +kernel) (by decide) (by decide +kernel) (show 1 = jnp 238 by decide +kernel) (by decide) (show 0 ≤ 8 by decide) (xm_isMinute_1 (by omega) (by omega)) (fun v hv7 hq => ?_)
  obtain ⟨rfl, rfl⟩ := hq
  refine j_if_eq (off := 22) (tgt := 31) (dQ (by decide +kernel)) (by decide) (fun q => absurd (congrArg Int32.toInt q) (by rw [i32_z]; omega)) (fun _ => ?_)
  refine j_iload_n (k4 := 2) (dQ (by decide +kernel)) rfl ?_
  refine j_cS (own := 12) (i := 285) (y2 := 235) (d2 := 2) (mc := 0) (ms := 0) (kc := 0) (ks := 0) (As := [.int x2]) (st := []) (dQ (by decide +kernel)) hcls (by decide +kernel) (by decide) (by decide +kernel) (show 1 = jnp 235 by decide +kernel) (by decide) (show 0 ≤ 8 by decide) (xm_isBerth_1 (by omega) (by omega)) (fun v hv9 hq => ?_)
  obtain ⟨rfl, rfl⟩ := hq
  refine j_if_eq (off := 15) (tgt := 31) (dQ (by decide +kernel)) (by decide) (fun q => absurd (congrArg Int32.toInt q) (by rw [i32_z]; omega)) (fun _ => ?_)
  refine j_iload_n (k4 := 3) (dQ (by decide +kernel)) rfl ?_
  refine x_i2l (dQ (by decide +kernel)) (fun r10 hr10 => ?_)
  refine j_lconst (n := 0) (dQ (by decide +kernel)) ?_
  have hq11 : (Int64.ofNat ((0 : Fin 2) : Nat)).toInt = 0 := by decide
  refine j_ldc2 (own := 12) (i := 114) (v := 999) hcls (by decide +kernel) (by decide +kernel) ?_
  have hq12 : (999 : Int64).toInt = 999 := by decide
  refine j_cS (own := 12) (i := 100) (y2 := 205) (d2 := 1) (mc := 0) (ms := 0) (kc := 0) (ks := 0) (As := [.long r10, .long (Int64.ofNat ((0 : Fin 2) : Nat)), .long (999 : Int64)]) (st := []) (dQ (by decide +kernel)) hcls (by decide +kernel) (by decide) (by decide +kernel) (show 3 = jnp 205 by decide +kernel) (by decide) (show 0 ≤ 8 by decide) (xm_in_1 (by omega) (by omega)) (fun v hv14 hq => ?_)
  obtain ⟨rfl, rfl⟩ := hq
  refine j_if_ne (off := 9) (tgt := 37) (dQ (by decide +kernel)) (by decide) (fun _ => ?_) (fun q => absurd (fun q => absurd (congrArg Int32.toInt q) (by rw [i32_z]; omega)) q)
  refine j_aload_n (k4 := 0) (dQ (by decide +kernel)) rfl ?_
  refine j_get (own := 12) (i := 7) (ci := 12) (f := 2) (dQ (by decide +kernel)) hcls (by decide +kernel) k4 (fun r hr => by cases hr; decide +kernel) f2 ?_
  refine j_iconst (n := 4) (dQ (by decide +kernel)) ?_
  refine x_aldv (v := t) 4 (dQ (by decide +kernel)) k5 (by omega) (by omega) (by rw [qt]) ?_
  refine j_istore (i := 4) (dQ (by decide +kernel)) (by decide +kernel) ?_
  refine j_iload (i := 4) (dQ (by decide +kernel)) rfl ?_
  refine j_if_le (off := 29) (tgt := 76) (dQ (by decide +kernel)) (by decide) (fun _ => ?_) (fun q => absurd (i32_le.mpr (by rw [i32_z]; omega)) q)
  refine j_iload (i := 4) (dQ (by decide +kernel)) rfl ?_
  refine x_bi (n := 16) (dQ (by decide +kernel)) (by decide) ?_
  refine j_icmp_ne (off := 10) (tgt := 90) (dQ (by decide +kernel)) (by decide) (fun _ => ?_) (fun q => absurd (fun q => absurd (congrArg Int32.toInt q) (by omega)) q)
  refine j_aload_n (k4 := 0) (dQ (by decide +kernel)) rfl ?_
  refine j_get (own := 12) (i := 7) (ci := 12) (f := 2) (dQ (by decide +kernel)) hcls (by decide +kernel) k4 (fun r hr => by cases hr; decide +kernel) f2 ?_
  refine x_si (n := 456) (dQ (by decide +kernel)) (by decide) ?_
  refine j_iconst (n := 3) (dQ (by decide +kernel)) ?_
  refine j_iload (i := 4) (dQ (by decide +kernel)) rfl ?_
  refine x_mul (z := 3 * t.toInt) (dQ (by decide +kernel)) (by rw [cn5]) (by omega) (fun r15 hr15 => ?_)
  refine x_add (dQ (by decide +kernel)) (by omega) (fun r16 hr16 => ?_)
  refine j_iload_n (k4 := 1) (dQ (by decide +kernel)) rfl ?_
  refine x_ast (456 + (3 * n)) (dQ (by decide +kernel)) k5 (by omega) (by omega) ?_
  have k17 : ((h.set (b1 + 0) (.inr (12, (fsm.set 0 (.int (Int32.ofInt 0)))))).set (b1 + 1) (.inl (0, 5270, (upd fr (456 + (3 * n)) x1))))[b1 + 0]? = some (.inr (12, (fsm.set 0 (.int (Int32.ofInt 0))))) := by
    rw [List.getElem?_set_ne (by omega)]
    exact k4
  have k18 : ((h.set (b1 + 0) (.inr (12, (fsm.set 0 (.int (Int32.ofInt 0)))))).set (b1 + 1) (.inl (0, 5270, (upd fr (456 + (3 * n)) x1))))[b1 + 1]? = some (.inl (0, 5270, (upd fr (456 + (3 * n)) x1))) := List.getElem?_set_self (List.getElem?_eq_some_iff.mp k5).1
  refine j_aload_n (k4 := 0) (dQ (by decide +kernel)) rfl ?_
  refine j_get (own := 12) (i := 7) (ci := 12) (f := 2) (dQ (by decide +kernel)) hcls (by decide +kernel) k17 (fun r hr => by cases hr; decide +kernel) f2 ?_
  refine x_si (n := 456) (dQ (by decide +kernel)) (by decide) ?_
  refine j_iconst (n := 3) (dQ (by decide +kernel)) ?_
  refine j_iload (i := 4) (dQ (by decide +kernel)) rfl ?_
  refine x_mul (z := 3 * t.toInt) (dQ (by decide +kernel)) (by rw [cn5]) (by omega) (fun r19 hr19 => ?_)
  refine x_add (dQ (by decide +kernel)) (by omega) (fun r20 hr20 => ?_)
  refine j_iconst (n := 1) (dQ (by decide +kernel)) ?_
  refine x_add (dQ (by decide +kernel)) (by omega) (fun r21 hr21 => ?_)
  refine j_iload_n (k4 := 2) (dQ (by decide +kernel)) rfl ?_
  refine x_ast ((456 + (3 * n)) + 1) (dQ (by decide +kernel)) k18 (by omega) (by omega) ?_
  have k22 : (((h.set (b1 + 0) (.inr (12, (fsm.set 0 (.int (Int32.ofInt 0)))))).set (b1 + 1) (.inl (0, 5270, (upd fr (456 + (3 * n)) x1)))).set (b1 + 1) (.inl (0, 5270, (upd (upd fr (456 + (3 * n)) x1) ((456 + (3 * n)) + 1) x2))))[b1 + 0]? = some (.inr (12, (fsm.set 0 (.int (Int32.ofInt 0))))) := by
    rw [List.getElem?_set_ne (by omega)]
    exact k17
  have k23 : (((h.set (b1 + 0) (.inr (12, (fsm.set 0 (.int (Int32.ofInt 0)))))).set (b1 + 1) (.inl (0, 5270, (upd fr (456 + (3 * n)) x1)))).set (b1 + 1) (.inl (0, 5270, (upd (upd fr (456 + (3 * n)) x1) ((456 + (3 * n)) + 1) x2))))[b1 + 1]? = some (.inl (0, 5270, (upd (upd fr (456 + (3 * n)) x1) ((456 + (3 * n)) + 1) x2))) := List.getElem?_set_self (List.getElem?_eq_some_iff.mp k18).1
  refine j_aload_n (k4 := 0) (dQ (by decide +kernel)) rfl ?_
  refine j_get (own := 12) (i := 7) (ci := 12) (f := 2) (dQ (by decide +kernel)) hcls (by decide +kernel) k22 (fun r hr => by cases hr; decide +kernel) f2 ?_
  refine x_si (n := 456) (dQ (by decide +kernel)) (by decide) ?_
  refine j_iconst (n := 3) (dQ (by decide +kernel)) ?_
  refine j_iload (i := 4) (dQ (by decide +kernel)) rfl ?_
  refine x_mul (z := 3 * t.toInt) (dQ (by decide +kernel)) (by rw [cn5]) (by omega) (fun r24 hr24 => ?_)
  refine x_add (dQ (by decide +kernel)) (by omega) (fun r25 hr25 => ?_)
  refine j_iconst (n := 2) (dQ (by decide +kernel)) ?_
  refine x_add (dQ (by decide +kernel)) (by omega) (fun r26 hr26 => ?_)
  refine j_iload_n (k4 := 3) (dQ (by decide +kernel)) rfl ?_
  refine x_ast ((456 + (3 * n)) + 2) (dQ (by decide +kernel)) k23 (by omega) (by omega) ?_
  have k27 : ((((h.set (b1 + 0) (.inr (12, (fsm.set 0 (.int (Int32.ofInt 0)))))).set (b1 + 1) (.inl (0, 5270, (upd fr (456 + (3 * n)) x1)))).set (b1 + 1) (.inl (0, 5270, (upd (upd fr (456 + (3 * n)) x1) ((456 + (3 * n)) + 1) x2)))).set (b1 + 1) (.inl (0, 5270, (upd (upd (upd fr (456 + (3 * n)) x1) ((456 + (3 * n)) + 1) x2) ((456 + (3 * n)) + 2) x3))))[b1 + 0]? = some (.inr (12, (fsm.set 0 (.int (Int32.ofInt 0))))) := by
    rw [List.getElem?_set_ne (by omega)]
    exact k22
  have k28 : ((((h.set (b1 + 0) (.inr (12, (fsm.set 0 (.int (Int32.ofInt 0)))))).set (b1 + 1) (.inl (0, 5270, (upd fr (456 + (3 * n)) x1)))).set (b1 + 1) (.inl (0, 5270, (upd (upd fr (456 + (3 * n)) x1) ((456 + (3 * n)) + 1) x2)))).set (b1 + 1) (.inl (0, 5270, (upd (upd (upd fr (456 + (3 * n)) x1) ((456 + (3 * n)) + 1) x2) ((456 + (3 * n)) + 2) x3))))[b1 + 1]? = some (.inl (0, 5270, (upd (upd (upd fr (456 + (3 * n)) x1) ((456 + (3 * n)) + 1) x2) ((456 + (3 * n)) + 2) x3))) := List.getElem?_set_self (List.getElem?_eq_some_iff.mp k23).1
  refine j_aload_n (k4 := 0) (dQ (by decide +kernel)) rfl ?_
  refine j_get (own := 12) (i := 7) (ci := 12) (f := 2) (dQ (by decide +kernel)) hcls (by decide +kernel) k27 (fun r hr => by cases hr; decide +kernel) f2 ?_
  refine j_iconst (n := 4) (dQ (by decide +kernel)) ?_
  refine j_dup2 (dQ (by decide +kernel)) rfl rfl ?_
  refine x_aldv (v := t) 4 (dQ (by decide +kernel)) k28 (by omega) (by omega) (by rw [upd_ne (show 4 ≠ ((456 + (3 * n)) + 2) by omega), upd_ne (show 4 ≠ ((456 + (3 * n)) + 1) by omega), upd_ne (show 4 ≠ (456 + (3 * n)) by omega), qt]) ?_
  refine j_iconst (n := 1) (dQ (by decide +kernel)) ?_
  refine x_add (dQ (by decide +kernel)) (by omega) (fun r29 hr29 => ?_)
  refine x_ast 4 (dQ (by decide +kernel)) k28 (by omega) (by omega) ?_
  have k30 : (((((h.set (b1 + 0) (.inr (12, (fsm.set 0 (.int (Int32.ofInt 0)))))).set (b1 + 1) (.inl (0, 5270, (upd fr (456 + (3 * n)) x1)))).set (b1 + 1) (.inl (0, 5270, (upd (upd fr (456 + (3 * n)) x1) ((456 + (3 * n)) + 1) x2)))).set (b1 + 1) (.inl (0, 5270, (upd (upd (upd fr (456 + (3 * n)) x1) ((456 + (3 * n)) + 1) x2) ((456 + (3 * n)) + 2) x3)))).set (b1 + 1) (.inl (0, 5270, (upd (upd (upd (upd fr (456 + (3 * n)) x1) ((456 + (3 * n)) + 1) x2) ((456 + (3 * n)) + 2) x3) 4 r29))))[b1 + 0]? = some (.inr (12, (fsm.set 0 (.int (Int32.ofInt 0))))) := by
    rw [List.getElem?_set_ne (by omega)]
    exact k27
  have k31 : (((((h.set (b1 + 0) (.inr (12, (fsm.set 0 (.int (Int32.ofInt 0)))))).set (b1 + 1) (.inl (0, 5270, (upd fr (456 + (3 * n)) x1)))).set (b1 + 1) (.inl (0, 5270, (upd (upd fr (456 + (3 * n)) x1) ((456 + (3 * n)) + 1) x2)))).set (b1 + 1) (.inl (0, 5270, (upd (upd (upd fr (456 + (3 * n)) x1) ((456 + (3 * n)) + 1) x2) ((456 + (3 * n)) + 2) x3)))).set (b1 + 1) (.inl (0, 5270, (upd (upd (upd (upd fr (456 + (3 * n)) x1) ((456 + (3 * n)) + 1) x2) ((456 + (3 * n)) + 2) x3) 4 r29))))[b1 + 1]? = some (.inl (0, 5270, (upd (upd (upd (upd fr (456 + (3 * n)) x1) ((456 + (3 * n)) + 1) x2) ((456 + (3 * n)) + 2) x3) 4 r29))) := List.getElem?_set_self (List.getElem?_eq_some_iff.mp k28).1
  refine j_aload_n (k4 := 0) (dQ (by decide +kernel)) rfl ?_
  refine j_iload (i := 4) (dQ (by decide +kernel)) rfl ?_
  refine j_cV (own := 12) (i := 104) (y2 := 206) (d2 := 1) (mc := 0) (ms := 0) (kc := 0) (ks := 0) (a := b1 + 0) (As := [.int t]) (st := []) (dQ (by decide +kernel)) hcls (by decide +kernel) (by decide) (by decide +kernel) (show 1 = jnp 206 by decide +kernel) (by decide) (show 0 ≤ 8 by decide) k30 (fun r hr => by cases hr; decide +kernel) (xm_tellP k30 n1 (by omega)) (fun v hv33 hq => ?_)
  obtain ⟨rfl, rfl⟩ := hq
  have n34 : ((fsm.set 0 (.int (Int32.ofInt 0))).set 1 (.int (Int32.ofInt 0))).length = 42 := by rw [List.length_set]; exact n1
  have f35 : ((fsm.set 0 (.int (Int32.ofInt 0))).set 1 (.int (Int32.ofInt 0)))[2]? = some (.ref (g.2.2 + (b1 + 1))) := by
    rw [List.getElem?_set_ne (by decide)]
    exact f2
  have f36 : ((fsm.set 0 (.int (Int32.ofInt 0))).set 1 (.int (Int32.ofInt 0)))[0]? = some (.int (Int32.ofInt 0)) := by
    rw [List.getElem?_set_ne (by decide)]
    exact f3
  have k37 : ((((((h.set (b1 + 0) (.inr (12, (fsm.set 0 (.int (Int32.ofInt 0)))))).set (b1 + 1) (.inl (0, 5270, (upd fr (456 + (3 * n)) x1)))).set (b1 + 1) (.inl (0, 5270, (upd (upd fr (456 + (3 * n)) x1) ((456 + (3 * n)) + 1) x2)))).set (b1 + 1) (.inl (0, 5270, (upd (upd (upd fr (456 + (3 * n)) x1) ((456 + (3 * n)) + 1) x2) ((456 + (3 * n)) + 2) x3)))).set (b1 + 1) (.inl (0, 5270, (upd (upd (upd (upd fr (456 + (3 * n)) x1) ((456 + (3 * n)) + 1) x2) ((456 + (3 * n)) + 2) x3) 4 r29)))).set (b1 + 0) (.inr (12, ((fsm.set 0 (.int (Int32.ofInt 0))).set 1 (.int (Int32.ofInt 0))))))[b1 + 0]? = some (.inr (12, ((fsm.set 0 (.int (Int32.ofInt 0))).set 1 (.int (Int32.ofInt 0))))) := List.getElem?_set_self (List.getElem?_eq_some_iff.mp k30).1
  have k38 : ((((((h.set (b1 + 0) (.inr (12, (fsm.set 0 (.int (Int32.ofInt 0)))))).set (b1 + 1) (.inl (0, 5270, (upd fr (456 + (3 * n)) x1)))).set (b1 + 1) (.inl (0, 5270, (upd (upd fr (456 + (3 * n)) x1) ((456 + (3 * n)) + 1) x2)))).set (b1 + 1) (.inl (0, 5270, (upd (upd (upd fr (456 + (3 * n)) x1) ((456 + (3 * n)) + 1) x2) ((456 + (3 * n)) + 2) x3)))).set (b1 + 1) (.inl (0, 5270, (upd (upd (upd (upd fr (456 + (3 * n)) x1) ((456 + (3 * n)) + 1) x2) ((456 + (3 * n)) + 2) x3) 4 r29)))).set (b1 + 0) (.inr (12, ((fsm.set 0 (.int (Int32.ofInt 0))).set 1 (.int (Int32.ofInt 0))))))[b1 + 1]? = some (.inl (0, 5270, (upd (upd (upd (upd fr (456 + (3 * n)) x1) ((456 + (3 * n)) + 1) x2) ((456 + (3 * n)) + 2) x3) 4 r29))) := by
    rw [List.getElem?_set_ne (by omega)]
    exact k31
  exact j_ret (v := some (.int t)) ⟨by decide +kernel, Or.inl (by decide +kernel)⟩ ⟨r29, by omega, rfl, rfl⟩ rfl
set_option maxRecDepth 8192 in
theorem xr_see_ok {b1 : Nat} {fsm : List Value} {fr : Nat → Int32} {x1 : Int32} {x2 : Int32} {x3 : Int32} {t : Int32} {n : Nat} (hm : h[b1 + 0]? = some (.inr (12, fsm))) (lm : fsm.length = 42) (pm2 : fsm[2]? = some (.ref (g.2.2 + (b1 + 1)))) (hr : h[b1 + 1]? = some (.inl (0, 5270, fr))) (g1 : 0 ≤ x1.toInt ∧ x1.toInt ≤ 9999) (g2 : 0 ≤ x2.toInt ∧ x2.toInt ≤ 11) (g3 : 0 ≤ x3.toInt ∧ x3.toInt ≤ 999) (u : (fr (456 + 3 * n - 3)).toInt ≤ x1.toInt) (et : t.toInt = (n : Int)) (en : 1 ≤ n ∧ n ≤ 15) (qt : fr 4 = t) : jCal l g 281 3 [.ref (g.2.2 + (b1 + 0)), .int x1, .int x2, .int x3] h 0 0 (fun v h' => ∃ r32 : Int32, r32.toInt = (((n + 1) : Nat) : Int) ∧ v = some (.int t) ∧ h' = ((((((h.set (b1 + 0) (.inr (12, (fsm.set 0 (.int (Int32.ofInt 0)))))).set (b1 + 1) (.inl (0, 5270, (upd fr (456 + (3 * n)) x1)))).set (b1 + 1) (.inl (0, 5270, (upd (upd fr (456 + (3 * n)) x1) ((456 + (3 * n)) + 1) x2)))).set (b1 + 1) (.inl (0, 5270, (upd (upd (upd fr (456 + (3 * n)) x1) ((456 + (3 * n)) + 1) x2) ((456 + (3 * n)) + 2) x3)))).set (b1 + 1) (.inl (0, 5270, (upd (upd (upd (upd fr (456 + (3 * n)) x1) ((456 + (3 * n)) + 1) x2) ((456 + (3 * n)) + 2) x3) 4 r32)))).set (b1 + 0) (.inr (12, ((fsm.set 0 (.int (Int32.ofInt 0))).set 1 (.int (Int32.ofInt 0))))))) := by
  have hcls : jcN 12 = (jyN 281).cls := by decide +kernel
  have cn0 : (Int32.ofInt 0).toInt = 0 := by decide
  have cn1 : (Int32.ofInt 1).toInt = 1 := by decide
  have cn2 : (Int32.ofInt 4).toInt = 4 := by decide
  have cn3 : (Int32.ofInt 456).toInt = 456 := by decide
  have cn4 : (Int32.ofInt 3).toInt = 3 := by decide
  have cn5 : (Int32.ofInt 16).toInt = 16 := by decide
  have cn6 : (Int32.ofInt 2).toInt = 2 := by decide
  refine jCal_of (by decide +kernel) (show 4 ≤ jmx 281 by decide +kernel) ?_
  show J l g 281 3 0 [some (.ref (g.2.2 + (b1 + 0))), some (.int x1), some (.int x2), some (.int x3), none] [] h 0 0 _
  refine j_aload_n (k4 := 0) (dQ (by decide +kernel)) rfl ?_
  refine j_iconst (n := 0) (dQ (by decide +kernel)) ?_
  refine j_put (own := 12) (i := 94) (ci := 12) (f := 0) (ty := .int) (dQ (by decide +kernel)) hcls (by decide +kernel) hm rfl (by decide +kernel) (by rw [lm]; decide) (by decide +kernel) (by decide +kernel) rfl rfl ?_
  have n1 : (fsm.set 0 (.int (Int32.ofInt 0))).length = 42 := by rw [List.length_set]; exact lm
  have f2 : (fsm.set 0 (.int (Int32.ofInt 0)))[2]? = some (.ref (g.2.2 + (b1 + 1))) := by
    rw [List.getElem?_set_ne (by decide)]
    exact pm2
  have f3 : (fsm.set 0 (.int (Int32.ofInt 0)))[0]? = some (.int (Int32.ofInt 0)) := List.getElem?_set_self (by rw [lm]; decide)
  have k4 : (h.set (b1 + 0) (.inr (12, (fsm.set 0 (.int (Int32.ofInt 0))))))[b1 + 0]? = some (.inr (12, (fsm.set 0 (.int (Int32.ofInt 0))))) := List.getElem?_set_self (List.getElem?_eq_some_iff.mp hm).1
  have k5 : (h.set (b1 + 0) (.inr (12, (fsm.set 0 (.int (Int32.ofInt 0))))))[b1 + 1]? = some (.inl (0, 5270, fr)) := by
    rw [List.getElem?_set_ne (by omega)]
    exact hr
  refine j_iload_n (k4 := 1) (dQ (by decide +kernel)) rfl ?_
  refine j_cS (own := 12) (i := 288) (y2 := 238) (d2 := 2) (mc := 0) (ms := 0) (kc := 0) (ks := 0) (As := [.int x1]) (st := []) (dQ (by decide +kernel)) hcls (by decide +kernel) (by decide) (by decide +kernel) (show 1 = jnp 238 by decide +kernel) (by decide) (show 0 ≤ 8 by decide) (xm_isMinute_1 (by omega) (by omega)) (fun v hv7 hq => ?_)
  obtain ⟨rfl, rfl⟩ := hq
  refine j_if_eq (off := 22) (tgt := 31) (dQ (by decide +kernel)) (by decide) (fun q => absurd (congrArg Int32.toInt q) (by rw [i32_z]; omega)) (fun _ => ?_)
  refine j_iload_n (k4 := 2) (dQ (by decide +kernel)) rfl ?_
  refine j_cS (own := 12) (i := 285) (y2 := 235) (d2 := 2) (mc := 0) (ms := 0) (kc := 0) (ks := 0) (As := [.int x2]) (st := []) (dQ (by decide +kernel)) hcls (by decide +kernel) (by decide) (by decide +kernel) (show 1 = jnp 235 by decide +kernel) (by decide) (show 0 ≤ 8 by decide) (xm_isBerth_1 (by omega) (by omega)) (fun v hv9 hq => ?_)
  obtain ⟨rfl, rfl⟩ := hq
  refine j_if_eq (off := 15) (tgt := 31) (dQ (by decide +kernel)) (by decide) (fun q => absurd (congrArg Int32.toInt q) (by rw [i32_z]; omega)) (fun _ => ?_)
  refine j_iload_n (k4 := 3) (dQ (by decide +kernel)) rfl ?_
  refine x_i2l (dQ (by decide +kernel)) (fun r10 hr10 => ?_)
  refine j_lconst (n := 0) (dQ (by decide +kernel)) ?_
  have hq11 : (Int64.ofNat ((0 : Fin 2) : Nat)).toInt = 0 := by decide
  refine j_ldc2 (own := 12) (i := 114) (v := 999) hcls (by decide +kernel) (by decide +kernel) ?_
  have hq12 : (999 : Int64).toInt = 999 := by decide
  refine j_cS (own := 12) (i := 100) (y2 := 205) (d2 := 1) (mc := 0) (ms := 0) (kc := 0) (ks := 0) (As := [.long r10, .long (Int64.ofNat ((0 : Fin 2) : Nat)), .long (999 : Int64)]) (st := []) (dQ (by decide +kernel)) hcls (by decide +kernel) (by decide) (by decide +kernel) (show 3 = jnp 205 by decide +kernel) (by decide) (show 0 ≤ 8 by decide) (xm_in_1 (by omega) (by omega)) (fun v hv14 hq => ?_)
  obtain ⟨rfl, rfl⟩ := hq
  refine j_if_ne (off := 9) (tgt := 37) (dQ (by decide +kernel)) (by decide) (fun _ => ?_) (fun q => absurd (fun q => absurd (congrArg Int32.toInt q) (by rw [i32_z]; omega)) q)
  refine j_aload_n (k4 := 0) (dQ (by decide +kernel)) rfl ?_
  refine j_get (own := 12) (i := 7) (ci := 12) (f := 2) (dQ (by decide +kernel)) hcls (by decide +kernel) k4 (fun r hr => by cases hr; decide +kernel) f2 ?_
  refine j_iconst (n := 4) (dQ (by decide +kernel)) ?_
  refine x_aldv (v := t) 4 (dQ (by decide +kernel)) k5 (by omega) (by omega) (by rw [qt]) ?_
  refine j_istore (i := 4) (dQ (by decide +kernel)) (by decide +kernel) ?_
  refine j_iload (i := 4) (dQ (by decide +kernel)) rfl ?_
  refine j_if_le (off := 29) (tgt := 76) (dQ (by decide +kernel)) (by decide) (fun q => absurd (i32_le.mp q) (by rw [i32_z]; omega)) (fun _ => ?_)
  refine j_iload_n (k4 := 1) (dQ (by decide +kernel)) rfl ?_
  refine j_aload_n (k4 := 0) (dQ (by decide +kernel)) rfl ?_
  refine j_get (own := 12) (i := 7) (ci := 12) (f := 2) (dQ (by decide +kernel)) hcls (by decide +kernel) k4 (fun r hr => by cases hr; decide +kernel) f2 ?_
  refine x_si (n := 456) (dQ (by decide +kernel)) (by decide) ?_
  refine j_iconst (n := 3) (dQ (by decide +kernel)) ?_
  refine j_iload (i := 4) (dQ (by decide +kernel)) rfl ?_
  refine x_mul (z := 3 * t.toInt) (dQ (by decide +kernel)) (by rw [cn4]) (by omega) (fun r15 hr15 => ?_)
  refine x_add (dQ (by decide +kernel)) (by omega) (fun r16 hr16 => ?_)
  refine j_iconst (n := 3) (dQ (by decide +kernel)) ?_
  refine x_sub (dQ (by decide +kernel)) (by omega) (fun r17 hr17 => ?_)
  refine x_ald ((456 + (3 * n)) - 3) (dQ (by decide +kernel)) k5 (by omega) (by omega) ?_
  refine j_icmp_ge (off := 10) (tgt := 76) (dQ (by decide +kernel)) (by decide) (fun _ => ?_) (fun q => absurd (i32_le.mpr (by omega)) q)
  refine j_iload (i := 4) (dQ (by decide +kernel)) rfl ?_
  refine x_bi (n := 16) (dQ (by decide +kernel)) (by decide) ?_
  refine j_icmp_ne (off := 10) (tgt := 90) (dQ (by decide +kernel)) (by decide) (fun _ => ?_) (fun q => absurd (fun q => absurd (congrArg Int32.toInt q) (by omega)) q)
  refine j_aload_n (k4 := 0) (dQ (by decide +kernel)) rfl ?_
  refine j_get (own := 12) (i := 7) (ci := 12) (f := 2) (dQ (by decide +kernel)) hcls (by decide +kernel) k4 (fun r hr => by cases hr; decide +kernel) f2 ?_
  refine x_si (n := 456) (dQ (by decide +kernel)) (by decide) ?_
  refine j_iconst (n := 3) (dQ (by decide +kernel)) ?_
  refine j_iload (i := 4) (dQ (by decide +kernel)) rfl ?_
  refine x_mul (z := 3 * t.toInt) (dQ (by decide +kernel)) (by rw [cn4]) (by omega) (fun r18 hr18 => ?_)
  refine x_add (dQ (by decide +kernel)) (by omega) (fun r19 hr19 => ?_)
  refine j_iload_n (k4 := 1) (dQ (by decide +kernel)) rfl ?_
  refine x_ast (456 + (3 * n)) (dQ (by decide +kernel)) k5 (by omega) (by omega) ?_
  have k20 : ((h.set (b1 + 0) (.inr (12, (fsm.set 0 (.int (Int32.ofInt 0)))))).set (b1 + 1) (.inl (0, 5270, (upd fr (456 + (3 * n)) x1))))[b1 + 0]? = some (.inr (12, (fsm.set 0 (.int (Int32.ofInt 0))))) := by
    rw [List.getElem?_set_ne (by omega)]
    exact k4
  have k21 : ((h.set (b1 + 0) (.inr (12, (fsm.set 0 (.int (Int32.ofInt 0)))))).set (b1 + 1) (.inl (0, 5270, (upd fr (456 + (3 * n)) x1))))[b1 + 1]? = some (.inl (0, 5270, (upd fr (456 + (3 * n)) x1))) := List.getElem?_set_self (List.getElem?_eq_some_iff.mp k5).1
  refine j_aload_n (k4 := 0) (dQ (by decide +kernel)) rfl ?_
  refine j_get (own := 12) (i := 7) (ci := 12) (f := 2) (dQ (by decide +kernel)) hcls (by decide +kernel) k20 (fun r hr => by cases hr; decide +kernel) f2 ?_
  refine x_si (n := 456) (dQ (by decide +kernel)) (by decide) ?_
  refine j_iconst (n := 3) (dQ (by decide +kernel)) ?_
  refine j_iload (i := 4) (dQ (by decide +kernel)) rfl ?_
  refine x_mul (z := 3 * t.toInt) (dQ (by decide +kernel)) (by rw [cn4]) (by omega) (fun r22 hr22 => ?_)
  refine x_add (dQ (by decide +kernel)) (by omega) (fun r23 hr23 => ?_)
  refine j_iconst (n := 1) (dQ (by decide +kernel)) ?_
  refine x_add (dQ (by decide +kernel)) (by omega) (fun r24 hr24 => ?_)
  refine j_iload_n (k4 := 2) (dQ (by decide +kernel)) rfl ?_
  refine x_ast ((456 + (3 * n)) + 1) (dQ (by decide +kernel)) k21 (by omega) (by omega) ?_
  have k25 : (((h.set (b1 + 0) (.inr (12, (fsm.set 0 (.int (Int32.ofInt 0)))))).set (b1 + 1) (.inl (0, 5270, (upd fr (456 + (3 * n)) x1)))).set (b1 + 1) (.inl (0, 5270, (upd (upd fr (456 + (3 * n)) x1) ((456 + (3 * n)) + 1) x2))))[b1 + 0]? = some (.inr (12, (fsm.set 0 (.int (Int32.ofInt 0))))) := by
    rw [List.getElem?_set_ne (by omega)]
    exact k20
  have k26 : (((h.set (b1 + 0) (.inr (12, (fsm.set 0 (.int (Int32.ofInt 0)))))).set (b1 + 1) (.inl (0, 5270, (upd fr (456 + (3 * n)) x1)))).set (b1 + 1) (.inl (0, 5270, (upd (upd fr (456 + (3 * n)) x1) ((456 + (3 * n)) + 1) x2))))[b1 + 1]? = some (.inl (0, 5270, (upd (upd fr (456 + (3 * n)) x1) ((456 + (3 * n)) + 1) x2))) := List.getElem?_set_self (List.getElem?_eq_some_iff.mp k21).1
  refine j_aload_n (k4 := 0) (dQ (by decide +kernel)) rfl ?_
  refine j_get (own := 12) (i := 7) (ci := 12) (f := 2) (dQ (by decide +kernel)) hcls (by decide +kernel) k25 (fun r hr => by cases hr; decide +kernel) f2 ?_
  refine x_si (n := 456) (dQ (by decide +kernel)) (by decide) ?_
  refine j_iconst (n := 3) (dQ (by decide +kernel)) ?_
  refine j_iload (i := 4) (dQ (by decide +kernel)) rfl ?_
  refine x_mul (z := 3 * t.toInt) (dQ (by decide +kernel)) (by rw [cn4]) (by omega) (fun r27 hr27 => ?_)
  refine x_add (dQ (by decide +kernel)) (by omega) (fun r28 hr28 => ?_)
  refine j_iconst (n := 2) (dQ (by decide +kernel)) ?_
  refine x_add (dQ (by decide +kernel)) (by omega) (fun r29 hr29 => ?_)
  refine j_iload_n (k4 := 3) (dQ (by decide +kernel)) rfl ?_
  refine x_ast ((456 + (3 * n)) + 2) (dQ (by decide +kernel)) k26 (by omega) (by omega) ?_
  have k30 : ((((h.set (b1 + 0) (.inr (12, (fsm.set 0 (.int (Int32.ofInt 0)))))).set (b1 + 1) (.inl (0, 5270, (upd fr (456 + (3 * n)) x1)))).set (b1 + 1) (.inl (0, 5270, (upd (upd fr (456 + (3 * n)) x1) ((456 + (3 * n)) + 1) x2)))).set (b1 + 1) (.inl (0, 5270, (upd (upd (upd fr (456 + (3 * n)) x1) ((456 + (3 * n)) + 1) x2) ((456 + (3 * n)) + 2) x3))))[b1 + 0]? = some (.inr (12, (fsm.set 0 (.int (Int32.ofInt 0))))) := by
    rw [List.getElem?_set_ne (by omega)]
    exact k25
  have k31 : ((((h.set (b1 + 0) (.inr (12, (fsm.set 0 (.int (Int32.ofInt 0)))))).set (b1 + 1) (.inl (0, 5270, (upd fr (456 + (3 * n)) x1)))).set (b1 + 1) (.inl (0, 5270, (upd (upd fr (456 + (3 * n)) x1) ((456 + (3 * n)) + 1) x2)))).set (b1 + 1) (.inl (0, 5270, (upd (upd (upd fr (456 + (3 * n)) x1) ((456 + (3 * n)) + 1) x2) ((456 + (3 * n)) + 2) x3))))[b1 + 1]? = some (.inl (0, 5270, (upd (upd (upd fr (456 + (3 * n)) x1) ((456 + (3 * n)) + 1) x2) ((456 + (3 * n)) + 2) x3))) := List.getElem?_set_self (List.getElem?_eq_some_iff.mp k26).1
  refine j_aload_n (k4 := 0) (dQ (by decide +kernel)) rfl ?_
  refine j_get (own := 12) (i := 7) (ci := 12) (f := 2) (dQ (by decide +kernel)) hcls (by decide +kernel) k30 (fun r hr => by cases hr; decide +kernel) f2 ?_
  refine j_iconst (n := 4) (dQ (by decide +kernel)) ?_
  refine j_dup2 (dQ (by decide +kernel)) rfl rfl ?_
  refine x_aldv (v := t) 4 (dQ (by decide +kernel)) k31 (by omega) (by omega) (by rw [upd_ne (show 4 ≠ ((456 + (3 * n)) + 2) by omega), upd_ne (show 4 ≠ ((456 + (3 * n)) + 1) by omega), upd_ne (show 4 ≠ (456 + (3 * n)) by omega), qt]) ?_
  refine j_iconst (n := 1) (dQ (by decide +kernel)) ?_
  refine x_add (dQ (by decide +kernel)) (by omega) (fun r32 hr32 => ?_)
  refine x_ast 4 (dQ (by decide +kernel)) k31 (by omega) (by omega) ?_
  have k33 : (((((h.set (b1 + 0) (.inr (12, (fsm.set 0 (.int (Int32.ofInt 0)))))).set (b1 + 1) (.inl (0, 5270, (upd fr (456 + (3 * n)) x1)))).set (b1 + 1) (.inl (0, 5270, (upd (upd fr (456 + (3 * n)) x1) ((456 + (3 * n)) + 1) x2)))).set (b1 + 1) (.inl (0, 5270, (upd (upd (upd fr (456 + (3 * n)) x1) ((456 + (3 * n)) + 1) x2) ((456 + (3 * n)) + 2) x3)))).set (b1 + 1) (.inl (0, 5270, (upd (upd (upd (upd fr (456 + (3 * n)) x1) ((456 + (3 * n)) + 1) x2) ((456 + (3 * n)) + 2) x3) 4 r32))))[b1 + 0]? = some (.inr (12, (fsm.set 0 (.int (Int32.ofInt 0))))) := by
    rw [List.getElem?_set_ne (by omega)]
    exact k30
  have k34 : (((((h.set (b1 + 0) (.inr (12, (fsm.set 0 (.int (Int32.ofInt 0)))))).set (b1 + 1) (.inl (0, 5270, (upd fr (456 + (3 * n)) x1)))).set (b1 + 1) (.inl (0, 5270, (upd (upd fr (456 + (3 * n)) x1) ((456 + (3 * n)) + 1) x2)))).set (b1 + 1) (.inl (0, 5270, (upd (upd (upd fr (456 + (3 * n)) x1) ((456 + (3 * n)) + 1) x2) ((456 + (3 * n)) + 2) x3)))).set (b1 + 1) (.inl (0, 5270, (upd (upd (upd (upd fr (456 + (3 * n)) x1) ((456 + (3 * n)) + 1) x2) ((456 + (3 * n)) + 2) x3) 4 r32))))[b1 + 1]? = some (.inl (0, 5270, (upd (upd (upd (upd fr (456 + (3 * n)) x1) ((456 + (3 * n)) + 1) x2) ((456 + (3 * n)) + 2) x3) 4 r32))) := List.getElem?_set_self (List.getElem?_eq_some_iff.mp k31).1
  refine j_aload_n (k4 := 0) (dQ (by decide +kernel)) rfl ?_
  refine j_iload (i := 4) (dQ (by decide +kernel)) rfl ?_
  refine j_cV (own := 12) (i := 104) (y2 := 206) (d2 := 1) (mc := 0) (ms := 0) (kc := 0) (ks := 0) (a := b1 + 0) (As := [.int t]) (st := []) (dQ (by decide +kernel)) hcls (by decide +kernel) (by decide) (by decide +kernel) (show 1 = jnp 206 by decide +kernel) (by decide) (show 0 ≤ 8 by decide) k33 (fun r hr => by cases hr; decide +kernel) (xm_tellP k33 n1 (by omega)) (fun v hv36 hq => ?_)
  obtain ⟨rfl, rfl⟩ := hq
  have n37 : ((fsm.set 0 (.int (Int32.ofInt 0))).set 1 (.int (Int32.ofInt 0))).length = 42 := by rw [List.length_set]; exact n1
  have f38 : ((fsm.set 0 (.int (Int32.ofInt 0))).set 1 (.int (Int32.ofInt 0)))[2]? = some (.ref (g.2.2 + (b1 + 1))) := by
    rw [List.getElem?_set_ne (by decide)]
    exact f2
  have f39 : ((fsm.set 0 (.int (Int32.ofInt 0))).set 1 (.int (Int32.ofInt 0)))[0]? = some (.int (Int32.ofInt 0)) := by
    rw [List.getElem?_set_ne (by decide)]
    exact f3
  have k40 : ((((((h.set (b1 + 0) (.inr (12, (fsm.set 0 (.int (Int32.ofInt 0)))))).set (b1 + 1) (.inl (0, 5270, (upd fr (456 + (3 * n)) x1)))).set (b1 + 1) (.inl (0, 5270, (upd (upd fr (456 + (3 * n)) x1) ((456 + (3 * n)) + 1) x2)))).set (b1 + 1) (.inl (0, 5270, (upd (upd (upd fr (456 + (3 * n)) x1) ((456 + (3 * n)) + 1) x2) ((456 + (3 * n)) + 2) x3)))).set (b1 + 1) (.inl (0, 5270, (upd (upd (upd (upd fr (456 + (3 * n)) x1) ((456 + (3 * n)) + 1) x2) ((456 + (3 * n)) + 2) x3) 4 r32)))).set (b1 + 0) (.inr (12, ((fsm.set 0 (.int (Int32.ofInt 0))).set 1 (.int (Int32.ofInt 0))))))[b1 + 0]? = some (.inr (12, ((fsm.set 0 (.int (Int32.ofInt 0))).set 1 (.int (Int32.ofInt 0))))) := List.getElem?_set_self (List.getElem?_eq_some_iff.mp k33).1
  have k41 : ((((((h.set (b1 + 0) (.inr (12, (fsm.set 0 (.int (Int32.ofInt 0)))))).set (b1 + 1) (.inl (0, 5270, (upd fr (456 + (3 * n)) x1)))).set (b1 + 1) (.inl (0, 5270, (upd (upd fr (456 + (3 * n)) x1) ((456 + (3 * n)) + 1) x2)))).set (b1 + 1) (.inl (0, 5270, (upd (upd (upd fr (456 + (3 * n)) x1) ((456 + (3 * n)) + 1) x2) ((456 + (3 * n)) + 2) x3)))).set (b1 + 1) (.inl (0, 5270, (upd (upd (upd (upd fr (456 + (3 * n)) x1) ((456 + (3 * n)) + 1) x2) ((456 + (3 * n)) + 2) x3) 4 r32)))).set (b1 + 0) (.inr (12, ((fsm.set 0 (.int (Int32.ofInt 0))).set 1 (.int (Int32.ofInt 0))))))[b1 + 1]? = some (.inl (0, 5270, (upd (upd (upd (upd fr (456 + (3 * n)) x1) ((456 + (3 * n)) + 1) x2) ((456 + (3 * n)) + 2) x3) 4 r32))) := by
    rw [List.getElem?_set_ne (by omega)]
    exact k34
  exact j_ret (v := some (.int t)) ⟨by decide +kernel, Or.inl (by decide +kernel)⟩ ⟨r32, by omega, rfl, rfl⟩ rfl
set_option maxRecDepth 8192 in
theorem xk_signal_0l {b0 : Nat} {fsx : List Value} {x1 : Int32} {x2 : Int32} (hx : h[b0 + 0]? = some (.inr (11, fsx))) (lx : fsx.length = 12) (px0 : fsx[0]? = some (.ref (g.2.2 + (b0 + 1)))) (u : x1.toInt < 0) : jCal l g 18 2 [.ref (g.2.2 + (b0 + 0)), .int x1, .int x2] h 0 0 (fun v h' => v = some (.int (Int32.ofInt (-1))) ∧ h' = (h.set (b0 + 0) (.inr (11, (fsx.set 7 (.int (Int32.ofInt (-1)))))))) := by
  have hcls : jcN 11 = (jyN 18).cls := by decide +kernel
  have cn0 : (Int32.ofInt (-1)).toInt = -1 := by decide
  refine jCal_of (by decide +kernel) (show 3 ≤ jmx 18 by decide +kernel) ?_
  show J l g 18 2 0 [some (.ref (g.2.2 + (b0 + 0))), some (.int x1), some (.int x2), none] [] h 0 0 _
  refine j_iload_n (k4 := 1) (dQ (by decide +kernel)) rfl ?_
  refine j_if_lt (off := 16) (tgt := 17) (dQ (by decide +kernel)) (by decide) (fun _ => ?_) (fun q => absurd (i32_lt.mpr (by rw [i32_z]; omega)) q)
  refine j_aload_n (k4 := 0) (dQ (by decide +kernel)) rfl ?_
  refine j_iconst (n := (-1)) (dQ (by decide +kernel)) ?_
  refine j_cV (own := 11) (i := 41) (y2 := 16) (d2 := 1) (mc := 0) (ms := 0) (kc := 0) (ks := 0) (a := b0 + 0) (As := [.int (Int32.ofInt (-1))]) (st := []) (dQ (by decide +kernel)) hcls (by decide +kernel) (by decide) (by decide +kernel) (show 1 = jnp 16 by decide +kernel) (by decide) (show 0 ≤ 8 by decide) hx (fun r hr => by cases hr; decide +kernel) (x_refuse hx lx) (fun v hv2 hq => ?_)
  obtain ⟨rfl, rfl⟩ := hq
  have n3 : (fsx.set 7 (.int (Int32.ofInt (-1)))).length = 12 := by rw [List.length_set]; exact lx
  have f4 : (fsx.set 7 (.int (Int32.ofInt (-1))))[0]? = some (.ref (g.2.2 + (b0 + 1))) := by
    rw [List.getElem?_set_ne (by decide)]
    exact px0
  have k5 : (h.set (b0 + 0) (.inr (11, (fsx.set 7 (.int (Int32.ofInt (-1)))))))[b0 + 0]? = some (.inr (11, (fsx.set 7 (.int (Int32.ofInt (-1)))))) := List.getElem?_set_self (List.getElem?_eq_some_iff.mp hx).1
  exact j_ret (v := some (.int (Int32.ofInt (-1)))) ⟨by decide +kernel, Or.inl (by decide +kernel)⟩ ⟨rfl, rfl⟩ rfl
set_option maxRecDepth 8192 in
theorem xr_signal_0l {b1 : Nat} {fsm : List Value} {x1 : Int32} {x2 : Int32} (hm : h[b1 + 0]? = some (.inr (12, fsm))) (lm : fsm.length = 42) (pm2 : fsm[2]? = some (.ref (g.2.2 + (b1 + 1)))) (u : x1.toInt < 0) : jCal l g 236 2 [.ref (g.2.2 + (b1 + 0)), .int x1, .int x2] h 0 0 (fun v h' => v = some (.int (Int32.ofInt (-1))) ∧ h' = ((h.set (b1 + 0) (.inr (12, (fsm.set 0 (.int (Int32.ofInt 0)))))).set (b1 + 0) (.inr (12, ((fsm.set 0 (.int (Int32.ofInt 0))).set 1 (.int (Int32.ofInt (-1)))))))) := by
  have hcls : jcN 12 = (jyN 236).cls := by decide +kernel
  have cn0 : (Int32.ofInt 0).toInt = 0 := by decide
  have cn1 : (Int32.ofInt (-1)).toInt = -1 := by decide
  refine jCal_of (by decide +kernel) (show 3 ≤ jmx 236 by decide +kernel) ?_
  show J l g 236 2 0 [some (.ref (g.2.2 + (b1 + 0))), some (.int x1), some (.int x2), none] [] h 0 0 _
  refine j_aload_n (k4 := 0) (dQ (by decide +kernel)) rfl ?_
  refine j_iconst (n := 0) (dQ (by decide +kernel)) ?_
  refine j_put (own := 12) (i := 94) (ci := 12) (f := 0) (ty := .int) (dQ (by decide +kernel)) hcls (by decide +kernel) hm rfl (by decide +kernel) (by rw [lm]; decide) (by decide +kernel) (by decide +kernel) rfl rfl ?_
  have n1 : (fsm.set 0 (.int (Int32.ofInt 0))).length = 42 := by rw [List.length_set]; exact lm
  have f2 : (fsm.set 0 (.int (Int32.ofInt 0)))[2]? = some (.ref (g.2.2 + (b1 + 1))) := by
    rw [List.getElem?_set_ne (by decide)]
    exact pm2
  have f3 : (fsm.set 0 (.int (Int32.ofInt 0)))[0]? = some (.int (Int32.ofInt 0)) := List.getElem?_set_self (by rw [lm]; decide)
  have k4 : (h.set (b1 + 0) (.inr (12, (fsm.set 0 (.int (Int32.ofInt 0))))))[b1 + 0]? = some (.inr (12, (fsm.set 0 (.int (Int32.ofInt 0))))) := List.getElem?_set_self (List.getElem?_eq_some_iff.mp hm).1
  refine j_iload_n (k4 := 1) (dQ (by decide +kernel)) rfl ?_
  refine x_i2l (dQ (by decide +kernel)) (fun r5 hr5 => ?_)
  refine j_lconst (n := 0) (dQ (by decide +kernel)) ?_
  have hq6 : (Int64.ofNat ((0 : Fin 2) : Nat)).toInt = 0 := by decide
  refine j_ldc2 (own := 12) (i := 201) (v := 7) hcls (by decide +kernel) (by decide +kernel) ?_
  have hq7 : (7 : Int64).toInt = 7 := by decide
  refine j_cS (own := 12) (i := 100) (y2 := 205) (d2 := 1) (mc := 0) (ms := 0) (kc := 0) (ks := 0) (As := [.long r5, .long (Int64.ofNat ((0 : Fin 2) : Nat)), .long (7 : Int64)]) (st := []) (dQ (by decide +kernel)) hcls (by decide +kernel) (by decide) (by decide +kernel) (show 3 = jnp 205 by decide +kernel) (by decide) (show 0 ≤ 8 by decide) (xm_in_0l (by omega)) (fun v hv9 hq => ?_)
  obtain ⟨rfl, rfl⟩ := hq
  refine j_if_eq (off := 13) (tgt := 27) (dQ (by decide +kernel)) (by decide) (fun _ => ?_) (fun q => absurd (i32_eq (show _ = (0 : Int32).toInt by rw [i32_z]; omega)) q)
  refine j_aload_n (k4 := 0) (dQ (by decide +kernel)) rfl ?_
  refine j_iconst (n := (-1)) (dQ (by decide +kernel)) ?_
  refine j_cV (own := 12) (i := 104) (y2 := 206) (d2 := 1) (mc := 0) (ms := 0) (kc := 0) (ks := 0) (a := b1 + 0) (As := [.int (Int32.ofInt (-1))]) (st := []) (dQ (by decide +kernel)) hcls (by decide +kernel) (by decide) (by decide +kernel) (show 1 = jnp 206 by decide +kernel) (by decide) (show 0 ≤ 8 by decide) k4 (fun r hr => by cases hr; decide +kernel) (xm_tellN k4 n1 (by omega)) (fun v hv11 hq => ?_)
  obtain ⟨rfl, rfl⟩ := hq
  have n12 : ((fsm.set 0 (.int (Int32.ofInt 0))).set 1 (.int (Int32.ofInt (-1)))).length = 42 := by rw [List.length_set]; exact n1
  have f13 : ((fsm.set 0 (.int (Int32.ofInt 0))).set 1 (.int (Int32.ofInt (-1))))[2]? = some (.ref (g.2.2 + (b1 + 1))) := by
    rw [List.getElem?_set_ne (by decide)]
    exact f2
  have f14 : ((fsm.set 0 (.int (Int32.ofInt 0))).set 1 (.int (Int32.ofInt (-1))))[0]? = some (.int (Int32.ofInt 0)) := by
    rw [List.getElem?_set_ne (by decide)]
    exact f3
  have k15 : ((h.set (b1 + 0) (.inr (12, (fsm.set 0 (.int (Int32.ofInt 0)))))).set (b1 + 0) (.inr (12, ((fsm.set 0 (.int (Int32.ofInt 0))).set 1 (.int (Int32.ofInt (-1)))))))[b1 + 0]? = some (.inr (12, ((fsm.set 0 (.int (Int32.ofInt 0))).set 1 (.int (Int32.ofInt (-1)))))) := List.getElem?_set_self (List.getElem?_eq_some_iff.mp k4).1
  exact j_ret (v := some (.int (Int32.ofInt (-1)))) ⟨by decide +kernel, Or.inl (by decide +kernel)⟩ ⟨rfl, rfl⟩ rfl
set_option maxRecDepth 8192 in
theorem xk_signal_0h {b0 : Nat} {fsx : List Value} {x1 : Int32} {x2 : Int32} (hx : h[b0 + 0]? = some (.inr (11, fsx))) (lx : fsx.length = 12) (px0 : fsx[0]? = some (.ref (g.2.2 + (b0 + 1)))) (u : 7 < x1.toInt) : jCal l g 18 2 [.ref (g.2.2 + (b0 + 0)), .int x1, .int x2] h 0 0 (fun v h' => v = some (.int (Int32.ofInt (-1))) ∧ h' = (h.set (b0 + 0) (.inr (11, (fsx.set 7 (.int (Int32.ofInt (-1)))))))) := by
  have hcls : jcN 11 = (jyN 18).cls := by decide +kernel
  have cn0 : (Int32.ofInt 8).toInt = 8 := by decide
  have cn1 : (Int32.ofInt (-1)).toInt = -1 := by decide
  refine jCal_of (by decide +kernel) (show 3 ≤ jmx 18 by decide +kernel) ?_
  show J l g 18 2 0 [some (.ref (g.2.2 + (b0 + 0))), some (.int x1), some (.int x2), none] [] h 0 0 _
  refine j_iload_n (k4 := 1) (dQ (by decide +kernel)) rfl ?_
  refine j_if_lt (off := 16) (tgt := 17) (dQ (by decide +kernel)) (by decide) (fun q => absurd (i32_lt.mp q) (by rw [i32_z]; omega)) (fun _ => ?_)
  refine j_iload_n (k4 := 1) (dQ (by decide +kernel)) rfl ?_
  refine x_bi (n := 8) (dQ (by decide +kernel)) (by decide) ?_
  refine j_icmp_ge (off := 10) (tgt := 17) (dQ (by decide +kernel)) (by decide) (fun _ => ?_) (fun q => absurd (i32_le.mpr (by omega)) q)
  refine j_aload_n (k4 := 0) (dQ (by decide +kernel)) rfl ?_
  refine j_iconst (n := (-1)) (dQ (by decide +kernel)) ?_
  refine j_cV (own := 11) (i := 41) (y2 := 16) (d2 := 1) (mc := 0) (ms := 0) (kc := 0) (ks := 0) (a := b0 + 0) (As := [.int (Int32.ofInt (-1))]) (st := []) (dQ (by decide +kernel)) hcls (by decide +kernel) (by decide) (by decide +kernel) (show 1 = jnp 16 by decide +kernel) (by decide) (show 0 ≤ 8 by decide) hx (fun r hr => by cases hr; decide +kernel) (x_refuse hx lx) (fun v hv2 hq => ?_)
  obtain ⟨rfl, rfl⟩ := hq
  have n3 : (fsx.set 7 (.int (Int32.ofInt (-1)))).length = 12 := by rw [List.length_set]; exact lx
  have f4 : (fsx.set 7 (.int (Int32.ofInt (-1))))[0]? = some (.ref (g.2.2 + (b0 + 1))) := by
    rw [List.getElem?_set_ne (by decide)]
    exact px0
  have k5 : (h.set (b0 + 0) (.inr (11, (fsx.set 7 (.int (Int32.ofInt (-1)))))))[b0 + 0]? = some (.inr (11, (fsx.set 7 (.int (Int32.ofInt (-1)))))) := List.getElem?_set_self (List.getElem?_eq_some_iff.mp hx).1
  exact j_ret (v := some (.int (Int32.ofInt (-1)))) ⟨by decide +kernel, Or.inl (by decide +kernel)⟩ ⟨rfl, rfl⟩ rfl
set_option maxRecDepth 8192 in
theorem xr_signal_0h {b1 : Nat} {fsm : List Value} {x1 : Int32} {x2 : Int32} (hm : h[b1 + 0]? = some (.inr (12, fsm))) (lm : fsm.length = 42) (pm2 : fsm[2]? = some (.ref (g.2.2 + (b1 + 1)))) (u : 7 < x1.toInt) : jCal l g 236 2 [.ref (g.2.2 + (b1 + 0)), .int x1, .int x2] h 0 0 (fun v h' => v = some (.int (Int32.ofInt (-1))) ∧ h' = ((h.set (b1 + 0) (.inr (12, (fsm.set 0 (.int (Int32.ofInt 0)))))).set (b1 + 0) (.inr (12, ((fsm.set 0 (.int (Int32.ofInt 0))).set 1 (.int (Int32.ofInt (-1)))))))) := by
  have hcls : jcN 12 = (jyN 236).cls := by decide +kernel
  have cn0 : (Int32.ofInt 0).toInt = 0 := by decide
  have cn1 : (Int32.ofInt (-1)).toInt = -1 := by decide
  refine jCal_of (by decide +kernel) (show 3 ≤ jmx 236 by decide +kernel) ?_
  show J l g 236 2 0 [some (.ref (g.2.2 + (b1 + 0))), some (.int x1), some (.int x2), none] [] h 0 0 _
  refine j_aload_n (k4 := 0) (dQ (by decide +kernel)) rfl ?_
  refine j_iconst (n := 0) (dQ (by decide +kernel)) ?_
  refine j_put (own := 12) (i := 94) (ci := 12) (f := 0) (ty := .int) (dQ (by decide +kernel)) hcls (by decide +kernel) hm rfl (by decide +kernel) (by rw [lm]; decide) (by decide +kernel) (by decide +kernel) rfl rfl ?_
  have n1 : (fsm.set 0 (.int (Int32.ofInt 0))).length = 42 := by rw [List.length_set]; exact lm
  have f2 : (fsm.set 0 (.int (Int32.ofInt 0)))[2]? = some (.ref (g.2.2 + (b1 + 1))) := by
    rw [List.getElem?_set_ne (by decide)]
    exact pm2
  have f3 : (fsm.set 0 (.int (Int32.ofInt 0)))[0]? = some (.int (Int32.ofInt 0)) := List.getElem?_set_self (by rw [lm]; decide)
  have k4 : (h.set (b1 + 0) (.inr (12, (fsm.set 0 (.int (Int32.ofInt 0))))))[b1 + 0]? = some (.inr (12, (fsm.set 0 (.int (Int32.ofInt 0))))) := List.getElem?_set_self (List.getElem?_eq_some_iff.mp hm).1
  refine j_iload_n (k4 := 1) (dQ (by decide +kernel)) rfl ?_
  refine x_i2l (dQ (by decide +kernel)) (fun r5 hr5 => ?_)
  refine j_lconst (n := 0) (dQ (by decide +kernel)) ?_
  have hq6 : (Int64.ofNat ((0 : Fin 2) : Nat)).toInt = 0 := by decide
  refine j_ldc2 (own := 12) (i := 201) (v := 7) hcls (by decide +kernel) (by decide +kernel) ?_
  have hq7 : (7 : Int64).toInt = 7 := by decide
  refine j_cS (own := 12) (i := 100) (y2 := 205) (d2 := 1) (mc := 0) (ms := 0) (kc := 0) (ks := 0) (As := [.long r5, .long (Int64.ofNat ((0 : Fin 2) : Nat)), .long (7 : Int64)]) (st := []) (dQ (by decide +kernel)) hcls (by decide +kernel) (by decide) (by decide +kernel) (show 3 = jnp 205 by decide +kernel) (by decide) (show 0 ≤ 8 by decide) (xm_in_0h (by omega) (by omega)) (fun v hv9 hq => ?_)
  obtain ⟨rfl, rfl⟩ := hq
  refine j_if_eq (off := 13) (tgt := 27) (dQ (by decide +kernel)) (by decide) (fun _ => ?_) (fun q => absurd (i32_eq (show _ = (0 : Int32).toInt by rw [i32_z]; omega)) q)
  refine j_aload_n (k4 := 0) (dQ (by decide +kernel)) rfl ?_
  refine j_iconst (n := (-1)) (dQ (by decide +kernel)) ?_
  refine j_cV (own := 12) (i := 104) (y2 := 206) (d2 := 1) (mc := 0) (ms := 0) (kc := 0) (ks := 0) (a := b1 + 0) (As := [.int (Int32.ofInt (-1))]) (st := []) (dQ (by decide +kernel)) hcls (by decide +kernel) (by decide) (by decide +kernel) (show 1 = jnp 206 by decide +kernel) (by decide) (show 0 ≤ 8 by decide) k4 (fun r hr => by cases hr; decide +kernel) (xm_tellN k4 n1 (by omega)) (fun v hv11 hq => ?_)
  obtain ⟨rfl, rfl⟩ := hq
  have n12 : ((fsm.set 0 (.int (Int32.ofInt 0))).set 1 (.int (Int32.ofInt (-1)))).length = 42 := by rw [List.length_set]; exact n1
  have f13 : ((fsm.set 0 (.int (Int32.ofInt 0))).set 1 (.int (Int32.ofInt (-1))))[2]? = some (.ref (g.2.2 + (b1 + 1))) := by
    rw [List.getElem?_set_ne (by decide)]
    exact f2
  have f14 : ((fsm.set 0 (.int (Int32.ofInt 0))).set 1 (.int (Int32.ofInt (-1))))[0]? = some (.int (Int32.ofInt 0)) := by
    rw [List.getElem?_set_ne (by decide)]
    exact f3
  have k15 : ((h.set (b1 + 0) (.inr (12, (fsm.set 0 (.int (Int32.ofInt 0)))))).set (b1 + 0) (.inr (12, ((fsm.set 0 (.int (Int32.ofInt 0))).set 1 (.int (Int32.ofInt (-1)))))))[b1 + 0]? = some (.inr (12, ((fsm.set 0 (.int (Int32.ofInt 0))).set 1 (.int (Int32.ofInt (-1)))))) := List.getElem?_set_self (List.getElem?_eq_some_iff.mp k4).1
  exact j_ret (v := some (.int (Int32.ofInt (-1)))) ⟨by decide +kernel, Or.inl (by decide +kernel)⟩ ⟨rfl, rfl⟩ rfl
set_option maxRecDepth 8192 in
theorem xk_signal_1l {b0 : Nat} {fsx : List Value} {x1 : Int32} {x2 : Int32} (hx : h[b0 + 0]? = some (.inr (11, fsx))) (lx : fsx.length = 12) (px0 : fsx[0]? = some (.ref (g.2.2 + (b0 + 1)))) (g1 : 0 ≤ x1.toInt ∧ x1.toInt ≤ 7) (u : x2.toInt < 0) : jCal l g 18 2 [.ref (g.2.2 + (b0 + 0)), .int x1, .int x2] h 0 0 (fun v h' => v = some (.int (Int32.ofInt (-1))) ∧ h' = (h.set (b0 + 0) (.inr (11, (fsx.set 7 (.int (Int32.ofInt (-1)))))))) := by
  have hcls : jcN 11 = (jyN 18).cls := by decide +kernel
  have cn0 : (Int32.ofInt 8).toInt = 8 := by decide
  have cn1 : (Int32.ofInt 0).toInt = 0 := by decide
  have cn2 : (Int32.ofInt (-1)).toInt = -1 := by decide
  refine jCal_of (by decide +kernel) (show 3 ≤ jmx 18 by decide +kernel) ?_
  show J l g 18 2 0 [some (.ref (g.2.2 + (b0 + 0))), some (.int x1), some (.int x2), none] [] h 0 0 _
  refine j_iload_n (k4 := 1) (dQ (by decide +kernel)) rfl ?_
  refine j_if_lt (off := 16) (tgt := 17) (dQ (by decide +kernel)) (by decide) (fun q => absurd (i32_lt.mp q) (by rw [i32_z]; omega)) (fun _ => ?_)
  refine j_iload_n (k4 := 1) (dQ (by decide +kernel)) rfl ?_
  refine x_bi (n := 8) (dQ (by decide +kernel)) (by decide) ?_
  refine j_icmp_ge (off := 10) (tgt := 17) (dQ (by decide +kernel)) (by decide) (fun q => absurd (i32_le.mp q) (by omega)) (fun _ => ?_)
  refine j_iload_n (k4 := 2) (dQ (by decide +kernel)) rfl ?_
  refine j_cS (own := 11) (i := 51) (y2 := 19) (d2 := 1) (mc := 0) (ms := 0) (kc := 0) (ks := 0) (As := [.int x2]) (st := []) (dQ (by decide +kernel)) hcls (by decide +kernel) (by decide) (by decide +kernel) (show 1 = jnp 19 by decide +kernel) (by decide) (show 0 ≤ 8 by decide) (x_isFlag_0l (by omega)) (fun v hv2 hq => ?_)
  obtain ⟨rfl, rfl⟩ := hq
  refine j_if_ne (off := 9) (tgt := 23) (dQ (by decide +kernel)) (by decide) (fun q => absurd (i32_eq (show _ = (0 : Int32).toInt by rw [i32_z]; omega)) q) (fun _ => ?_)
  refine j_aload_n (k4 := 0) (dQ (by decide +kernel)) rfl ?_
  refine j_iconst (n := (-1)) (dQ (by decide +kernel)) ?_
  refine j_cV (own := 11) (i := 41) (y2 := 16) (d2 := 1) (mc := 0) (ms := 0) (kc := 0) (ks := 0) (a := b0 + 0) (As := [.int (Int32.ofInt (-1))]) (st := []) (dQ (by decide +kernel)) hcls (by decide +kernel) (by decide) (by decide +kernel) (show 1 = jnp 16 by decide +kernel) (by decide) (show 0 ≤ 8 by decide) hx (fun r hr => by cases hr; decide +kernel) (x_refuse hx lx) (fun v hv4 hq => ?_)
  obtain ⟨rfl, rfl⟩ := hq
  have n5 : (fsx.set 7 (.int (Int32.ofInt (-1)))).length = 12 := by rw [List.length_set]; exact lx
  have f6 : (fsx.set 7 (.int (Int32.ofInt (-1))))[0]? = some (.ref (g.2.2 + (b0 + 1))) := by
    rw [List.getElem?_set_ne (by decide)]
    exact px0
  have k7 : (h.set (b0 + 0) (.inr (11, (fsx.set 7 (.int (Int32.ofInt (-1)))))))[b0 + 0]? = some (.inr (11, (fsx.set 7 (.int (Int32.ofInt (-1)))))) := List.getElem?_set_self (List.getElem?_eq_some_iff.mp hx).1
  exact j_ret (v := some (.int (Int32.ofInt (-1)))) ⟨by decide +kernel, Or.inl (by decide +kernel)⟩ ⟨rfl, rfl⟩ rfl
set_option maxRecDepth 8192 in
theorem xr_signal_1l {b1 : Nat} {fsm : List Value} {x1 : Int32} {x2 : Int32} (hm : h[b1 + 0]? = some (.inr (12, fsm))) (lm : fsm.length = 42) (pm2 : fsm[2]? = some (.ref (g.2.2 + (b1 + 1)))) (g1 : 0 ≤ x1.toInt ∧ x1.toInt ≤ 7) (u : x2.toInt < 0) : jCal l g 236 2 [.ref (g.2.2 + (b1 + 0)), .int x1, .int x2] h 0 0 (fun v h' => v = some (.int (Int32.ofInt (-1))) ∧ h' = ((h.set (b1 + 0) (.inr (12, (fsm.set 0 (.int (Int32.ofInt 0)))))).set (b1 + 0) (.inr (12, ((fsm.set 0 (.int (Int32.ofInt 0))).set 1 (.int (Int32.ofInt (-1)))))))) := by
  have hcls : jcN 12 = (jyN 236).cls := by decide +kernel
  have cn0 : (Int32.ofInt 0).toInt = 0 := by decide
  have cn1 : (Int32.ofInt 1).toInt = 1 := by decide
  have cn2 : (Int32.ofInt (-1)).toInt = -1 := by decide
  refine jCal_of (by decide +kernel) (show 3 ≤ jmx 236 by decide +kernel) ?_
  show J l g 236 2 0 [some (.ref (g.2.2 + (b1 + 0))), some (.int x1), some (.int x2), none] [] h 0 0 _
  refine j_aload_n (k4 := 0) (dQ (by decide +kernel)) rfl ?_
  refine j_iconst (n := 0) (dQ (by decide +kernel)) ?_
  refine j_put (own := 12) (i := 94) (ci := 12) (f := 0) (ty := .int) (dQ (by decide +kernel)) hcls (by decide +kernel) hm rfl (by decide +kernel) (by rw [lm]; decide) (by decide +kernel) (by decide +kernel) rfl rfl ?_
  have n1 : (fsm.set 0 (.int (Int32.ofInt 0))).length = 42 := by rw [List.length_set]; exact lm
  have f2 : (fsm.set 0 (.int (Int32.ofInt 0)))[2]? = some (.ref (g.2.2 + (b1 + 1))) := by
    rw [List.getElem?_set_ne (by decide)]
    exact pm2
  have f3 : (fsm.set 0 (.int (Int32.ofInt 0)))[0]? = some (.int (Int32.ofInt 0)) := List.getElem?_set_self (by rw [lm]; decide)
  have k4 : (h.set (b1 + 0) (.inr (12, (fsm.set 0 (.int (Int32.ofInt 0))))))[b1 + 0]? = some (.inr (12, (fsm.set 0 (.int (Int32.ofInt 0))))) := List.getElem?_set_self (List.getElem?_eq_some_iff.mp hm).1
  refine j_iload_n (k4 := 1) (dQ (by decide +kernel)) rfl ?_
  refine x_i2l (dQ (by decide +kernel)) (fun r5 hr5 => ?_)
  refine j_lconst (n := 0) (dQ (by decide +kernel)) ?_
  have hq6 : (Int64.ofNat ((0 : Fin 2) : Nat)).toInt = 0 := by decide
  refine j_ldc2 (own := 12) (i := 201) (v := 7) hcls (by decide +kernel) (by decide +kernel) ?_
  have hq7 : (7 : Int64).toInt = 7 := by decide
  refine j_cS (own := 12) (i := 100) (y2 := 205) (d2 := 1) (mc := 0) (ms := 0) (kc := 0) (ks := 0) (As := [.long r5, .long (Int64.ofNat ((0 : Fin 2) : Nat)), .long (7 : Int64)]) (st := []) (dQ (by decide +kernel)) hcls (by decide +kernel) (by decide) (by decide +kernel) (show 3 = jnp 205 by decide +kernel) (by decide) (show 0 ≤ 8 by decide) (xm_in_1 (by omega) (by omega)) (fun v hv9 hq => ?_)
  obtain ⟨rfl, rfl⟩ := hq
  refine j_if_eq (off := 13) (tgt := 27) (dQ (by decide +kernel)) (by decide) (fun q => absurd (congrArg Int32.toInt q) (by rw [i32_z]; omega)) (fun _ => ?_)
  refine j_iload_n (k4 := 2) (dQ (by decide +kernel)) rfl ?_
  refine x_i2l (dQ (by decide +kernel)) (fun r10 hr10 => ?_)
  refine j_lconst (n := 0) (dQ (by decide +kernel)) ?_
  have hq11 : (Int64.ofNat ((0 : Fin 2) : Nat)).toInt = 0 := by decide
  refine j_lconst (n := 1) (dQ (by decide +kernel)) ?_
  have hq12 : (Int64.ofNat ((1 : Fin 2) : Nat)).toInt = 1 := by decide
  refine j_cS (own := 12) (i := 100) (y2 := 205) (d2 := 1) (mc := 0) (ms := 0) (kc := 0) (ks := 0) (As := [.long r10, .long (Int64.ofNat ((0 : Fin 2) : Nat)), .long (Int64.ofNat ((1 : Fin 2) : Nat))]) (st := []) (dQ (by decide +kernel)) hcls (by decide +kernel) (by decide) (by decide +kernel) (show 3 = jnp 205 by decide +kernel) (by decide) (show 0 ≤ 8 by decide) (xm_in_0l (by omega)) (fun v hv14 hq => ?_)
  obtain ⟨rfl, rfl⟩ := hq
  refine j_if_ne (off := 9) (tgt := 33) (dQ (by decide +kernel)) (by decide) (fun q => absurd (i32_eq (show _ = (0 : Int32).toInt by rw [i32_z]; omega)) q) (fun _ => ?_)
  refine j_aload_n (k4 := 0) (dQ (by decide +kernel)) rfl ?_
  refine j_iconst (n := (-1)) (dQ (by decide +kernel)) ?_
  refine j_cV (own := 12) (i := 104) (y2 := 206) (d2 := 1) (mc := 0) (ms := 0) (kc := 0) (ks := 0) (a := b1 + 0) (As := [.int (Int32.ofInt (-1))]) (st := []) (dQ (by decide +kernel)) hcls (by decide +kernel) (by decide) (by decide +kernel) (show 1 = jnp 206 by decide +kernel) (by decide) (show 0 ≤ 8 by decide) k4 (fun r hr => by cases hr; decide +kernel) (xm_tellN k4 n1 (by omega)) (fun v hv16 hq => ?_)
  obtain ⟨rfl, rfl⟩ := hq
  have n17 : ((fsm.set 0 (.int (Int32.ofInt 0))).set 1 (.int (Int32.ofInt (-1)))).length = 42 := by rw [List.length_set]; exact n1
  have f18 : ((fsm.set 0 (.int (Int32.ofInt 0))).set 1 (.int (Int32.ofInt (-1))))[2]? = some (.ref (g.2.2 + (b1 + 1))) := by
    rw [List.getElem?_set_ne (by decide)]
    exact f2
  have f19 : ((fsm.set 0 (.int (Int32.ofInt 0))).set 1 (.int (Int32.ofInt (-1))))[0]? = some (.int (Int32.ofInt 0)) := by
    rw [List.getElem?_set_ne (by decide)]
    exact f3
  have k20 : ((h.set (b1 + 0) (.inr (12, (fsm.set 0 (.int (Int32.ofInt 0)))))).set (b1 + 0) (.inr (12, ((fsm.set 0 (.int (Int32.ofInt 0))).set 1 (.int (Int32.ofInt (-1)))))))[b1 + 0]? = some (.inr (12, ((fsm.set 0 (.int (Int32.ofInt 0))).set 1 (.int (Int32.ofInt (-1)))))) := List.getElem?_set_self (List.getElem?_eq_some_iff.mp k4).1
  exact j_ret (v := some (.int (Int32.ofInt (-1)))) ⟨by decide +kernel, Or.inl (by decide +kernel)⟩ ⟨rfl, rfl⟩ rfl
set_option maxRecDepth 8192 in
theorem xk_signal_1h {b0 : Nat} {fsx : List Value} {x1 : Int32} {x2 : Int32} (hx : h[b0 + 0]? = some (.inr (11, fsx))) (lx : fsx.length = 12) (px0 : fsx[0]? = some (.ref (g.2.2 + (b0 + 1)))) (g1 : 0 ≤ x1.toInt ∧ x1.toInt ≤ 7) (u : 1 < x2.toInt) : jCal l g 18 2 [.ref (g.2.2 + (b0 + 0)), .int x1, .int x2] h 0 0 (fun v h' => v = some (.int (Int32.ofInt (-1))) ∧ h' = (h.set (b0 + 0) (.inr (11, (fsx.set 7 (.int (Int32.ofInt (-1)))))))) := by
  have hcls : jcN 11 = (jyN 18).cls := by decide +kernel
  have cn0 : (Int32.ofInt 8).toInt = 8 := by decide
  have cn1 : (Int32.ofInt 0).toInt = 0 := by decide
  have cn2 : (Int32.ofInt (-1)).toInt = -1 := by decide
  refine jCal_of (by decide +kernel) (show 3 ≤ jmx 18 by decide +kernel) ?_
  show J l g 18 2 0 [some (.ref (g.2.2 + (b0 + 0))), some (.int x1), some (.int x2), none] [] h 0 0 _
  refine j_iload_n (k4 := 1) (dQ (by decide +kernel)) rfl ?_
  refine j_if_lt (off := 16) (tgt := 17) (dQ (by decide +kernel)) (by decide) (fun q => absurd (i32_lt.mp q) (by rw [i32_z]; omega)) (fun _ => ?_)
  refine j_iload_n (k4 := 1) (dQ (by decide +kernel)) rfl ?_
  refine x_bi (n := 8) (dQ (by decide +kernel)) (by decide) ?_
  refine j_icmp_ge (off := 10) (tgt := 17) (dQ (by decide +kernel)) (by decide) (fun q => absurd (i32_le.mp q) (by omega)) (fun _ => ?_)
  refine j_iload_n (k4 := 2) (dQ (by decide +kernel)) rfl ?_
  refine j_cS (own := 11) (i := 51) (y2 := 19) (d2 := 1) (mc := 0) (ms := 0) (kc := 0) (ks := 0) (As := [.int x2]) (st := []) (dQ (by decide +kernel)) hcls (by decide +kernel) (by decide) (by decide +kernel) (show 1 = jnp 19 by decide +kernel) (by decide) (show 0 ≤ 8 by decide) (x_isFlag_0h (by omega)) (fun v hv2 hq => ?_)
  obtain ⟨rfl, rfl⟩ := hq
  refine j_if_ne (off := 9) (tgt := 23) (dQ (by decide +kernel)) (by decide) (fun q => absurd (i32_eq (show _ = (0 : Int32).toInt by rw [i32_z]; omega)) q) (fun _ => ?_)
  refine j_aload_n (k4 := 0) (dQ (by decide +kernel)) rfl ?_
  refine j_iconst (n := (-1)) (dQ (by decide +kernel)) ?_
  refine j_cV (own := 11) (i := 41) (y2 := 16) (d2 := 1) (mc := 0) (ms := 0) (kc := 0) (ks := 0) (a := b0 + 0) (As := [.int (Int32.ofInt (-1))]) (st := []) (dQ (by decide +kernel)) hcls (by decide +kernel) (by decide) (by decide +kernel) (show 1 = jnp 16 by decide +kernel) (by decide) (show 0 ≤ 8 by decide) hx (fun r hr => by cases hr; decide +kernel) (x_refuse hx lx) (fun v hv4 hq => ?_)
  obtain ⟨rfl, rfl⟩ := hq
  have n5 : (fsx.set 7 (.int (Int32.ofInt (-1)))).length = 12 := by rw [List.length_set]; exact lx
  have f6 : (fsx.set 7 (.int (Int32.ofInt (-1))))[0]? = some (.ref (g.2.2 + (b0 + 1))) := by
    rw [List.getElem?_set_ne (by decide)]
    exact px0
  have k7 : (h.set (b0 + 0) (.inr (11, (fsx.set 7 (.int (Int32.ofInt (-1)))))))[b0 + 0]? = some (.inr (11, (fsx.set 7 (.int (Int32.ofInt (-1)))))) := List.getElem?_set_self (List.getElem?_eq_some_iff.mp hx).1
  exact j_ret (v := some (.int (Int32.ofInt (-1)))) ⟨by decide +kernel, Or.inl (by decide +kernel)⟩ ⟨rfl, rfl⟩ rfl
set_option maxRecDepth 8192 in
theorem xr_signal_1h {b1 : Nat} {fsm : List Value} {x1 : Int32} {x2 : Int32} (hm : h[b1 + 0]? = some (.inr (12, fsm))) (lm : fsm.length = 42) (pm2 : fsm[2]? = some (.ref (g.2.2 + (b1 + 1)))) (g1 : 0 ≤ x1.toInt ∧ x1.toInt ≤ 7) (u : 1 < x2.toInt) : jCal l g 236 2 [.ref (g.2.2 + (b1 + 0)), .int x1, .int x2] h 0 0 (fun v h' => v = some (.int (Int32.ofInt (-1))) ∧ h' = ((h.set (b1 + 0) (.inr (12, (fsm.set 0 (.int (Int32.ofInt 0)))))).set (b1 + 0) (.inr (12, ((fsm.set 0 (.int (Int32.ofInt 0))).set 1 (.int (Int32.ofInt (-1)))))))) := by
  have hcls : jcN 12 = (jyN 236).cls := by decide +kernel
  have cn0 : (Int32.ofInt 0).toInt = 0 := by decide
  have cn1 : (Int32.ofInt 1).toInt = 1 := by decide
  have cn2 : (Int32.ofInt (-1)).toInt = -1 := by decide
  refine jCal_of (by decide +kernel) (show 3 ≤ jmx 236 by decide +kernel) ?_
  show J l g 236 2 0 [some (.ref (g.2.2 + (b1 + 0))), some (.int x1), some (.int x2), none] [] h 0 0 _
  refine j_aload_n (k4 := 0) (dQ (by decide +kernel)) rfl ?_
  refine j_iconst (n := 0) (dQ (by decide +kernel)) ?_
  refine j_put (own := 12) (i := 94) (ci := 12) (f := 0) (ty := .int) (dQ (by decide +kernel)) hcls (by decide +kernel) hm rfl (by decide +kernel) (by rw [lm]; decide) (by decide +kernel) (by decide +kernel) rfl rfl ?_
  have n1 : (fsm.set 0 (.int (Int32.ofInt 0))).length = 42 := by rw [List.length_set]; exact lm
  have f2 : (fsm.set 0 (.int (Int32.ofInt 0)))[2]? = some (.ref (g.2.2 + (b1 + 1))) := by
    rw [List.getElem?_set_ne (by decide)]
    exact pm2
  have f3 : (fsm.set 0 (.int (Int32.ofInt 0)))[0]? = some (.int (Int32.ofInt 0)) := List.getElem?_set_self (by rw [lm]; decide)
  have k4 : (h.set (b1 + 0) (.inr (12, (fsm.set 0 (.int (Int32.ofInt 0))))))[b1 + 0]? = some (.inr (12, (fsm.set 0 (.int (Int32.ofInt 0))))) := List.getElem?_set_self (List.getElem?_eq_some_iff.mp hm).1
  refine j_iload_n (k4 := 1) (dQ (by decide +kernel)) rfl ?_
  refine x_i2l (dQ (by decide +kernel)) (fun r5 hr5 => ?_)
  refine j_lconst (n := 0) (dQ (by decide +kernel)) ?_
  have hq6 : (Int64.ofNat ((0 : Fin 2) : Nat)).toInt = 0 := by decide
  refine j_ldc2 (own := 12) (i := 201) (v := 7) hcls (by decide +kernel) (by decide +kernel) ?_
  have hq7 : (7 : Int64).toInt = 7 := by decide
  refine j_cS (own := 12) (i := 100) (y2 := 205) (d2 := 1) (mc := 0) (ms := 0) (kc := 0) (ks := 0) (As := [.long r5, .long (Int64.ofNat ((0 : Fin 2) : Nat)), .long (7 : Int64)]) (st := []) (dQ (by decide +kernel)) hcls (by decide +kernel) (by decide) (by decide +kernel) (show 3 = jnp 205 by decide +kernel) (by decide) (show 0 ≤ 8 by decide) (xm_in_1 (by omega) (by omega)) (fun v hv9 hq => ?_)
  obtain ⟨rfl, rfl⟩ := hq
  refine j_if_eq (off := 13) (tgt := 27) (dQ (by decide +kernel)) (by decide) (fun q => absurd (congrArg Int32.toInt q) (by rw [i32_z]; omega)) (fun _ => ?_)
  refine j_iload_n (k4 := 2) (dQ (by decide +kernel)) rfl ?_
  refine x_i2l (dQ (by decide +kernel)) (fun r10 hr10 => ?_)
  refine j_lconst (n := 0) (dQ (by decide +kernel)) ?_
  have hq11 : (Int64.ofNat ((0 : Fin 2) : Nat)).toInt = 0 := by decide
  refine j_lconst (n := 1) (dQ (by decide +kernel)) ?_
  have hq12 : (Int64.ofNat ((1 : Fin 2) : Nat)).toInt = 1 := by decide
  refine j_cS (own := 12) (i := 100) (y2 := 205) (d2 := 1) (mc := 0) (ms := 0) (kc := 0) (ks := 0) (As := [.long r10, .long (Int64.ofNat ((0 : Fin 2) : Nat)), .long (Int64.ofNat ((1 : Fin 2) : Nat))]) (st := []) (dQ (by decide +kernel)) hcls (by decide +kernel) (by decide) (by decide +kernel) (show 3 = jnp 205 by decide +kernel) (by decide) (show 0 ≤ 8 by decide) (xm_in_0h (by omega) (by omega)) (fun v hv14 hq => ?_)
  obtain ⟨rfl, rfl⟩ := hq
  refine j_if_ne (off := 9) (tgt := 33) (dQ (by decide +kernel)) (by decide) (fun q => absurd (i32_eq (show _ = (0 : Int32).toInt by rw [i32_z]; omega)) q) (fun _ => ?_)
  refine j_aload_n (k4 := 0) (dQ (by decide +kernel)) rfl ?_
  refine j_iconst (n := (-1)) (dQ (by decide +kernel)) ?_
  refine j_cV (own := 12) (i := 104) (y2 := 206) (d2 := 1) (mc := 0) (ms := 0) (kc := 0) (ks := 0) (a := b1 + 0) (As := [.int (Int32.ofInt (-1))]) (st := []) (dQ (by decide +kernel)) hcls (by decide +kernel) (by decide) (by decide +kernel) (show 1 = jnp 206 by decide +kernel) (by decide) (show 0 ≤ 8 by decide) k4 (fun r hr => by cases hr; decide +kernel) (xm_tellN k4 n1 (by omega)) (fun v hv16 hq => ?_)
  obtain ⟨rfl, rfl⟩ := hq
  have n17 : ((fsm.set 0 (.int (Int32.ofInt 0))).set 1 (.int (Int32.ofInt (-1)))).length = 42 := by rw [List.length_set]; exact n1
  have f18 : ((fsm.set 0 (.int (Int32.ofInt 0))).set 1 (.int (Int32.ofInt (-1))))[2]? = some (.ref (g.2.2 + (b1 + 1))) := by
    rw [List.getElem?_set_ne (by decide)]
    exact f2
  have f19 : ((fsm.set 0 (.int (Int32.ofInt 0))).set 1 (.int (Int32.ofInt (-1))))[0]? = some (.int (Int32.ofInt 0)) := by
    rw [List.getElem?_set_ne (by decide)]
    exact f3
  have k20 : ((h.set (b1 + 0) (.inr (12, (fsm.set 0 (.int (Int32.ofInt 0)))))).set (b1 + 0) (.inr (12, ((fsm.set 0 (.int (Int32.ofInt 0))).set 1 (.int (Int32.ofInt (-1)))))))[b1 + 0]? = some (.inr (12, ((fsm.set 0 (.int (Int32.ofInt 0))).set 1 (.int (Int32.ofInt (-1)))))) := List.getElem?_set_self (List.getElem?_eq_some_iff.mp k4).1
  exact j_ret (v := some (.int (Int32.ofInt (-1)))) ⟨by decide +kernel, Or.inl (by decide +kernel)⟩ ⟨rfl, rfl⟩ rfl
set_option maxRecDepth 8192 in
theorem xk_signal_ok {b0 : Nat} {fsx : List Value} {fss : List Value} {fsi : List Value} {x1 : Int32} {x2 : Int32} {t : Int32} (hx : h[b0 + 0]? = some (.inr (11, fsx))) (lx : fsx.length = 12) (px0 : fsx[0]? = some (.ref (g.2.2 + (b0 + 1)))) (hs : h[b0 + 1]? = some (.inr (7, fss))) (ls : fss.length = 20) (ps0 : fss[0]? = some (.ref (g.2.2 + (b0 + 2)))) (hi : h[b0 + 2]? = some (.inr (0, fsi))) (li : fsi.length = 3) (pi2 : fsi[2]? = some (.int t)) (g1 : 0 ≤ x1.toInt ∧ x1.toInt ≤ 7) (g2 : 0 ≤ x2.toInt ∧ x2.toInt ≤ 1) : jCal l g 18 2 [.ref (g.2.2 + (b0 + 0)), .int x1, .int x2] h 0 0 (fun v h' => v = some (.int ((t >>> (x1 &&& 31)) &&& (Int32.ofInt 1))) ∧ h' = ((h.set (b0 + 2) (.inr (0, (fsi.set 2 (.int ((t &&& (((Int32.ofInt 1) <<< (x1 &&& 31)) ^^^ (Int32.ofInt (-1)))) ||| (x2 <<< (x1 &&& 31)))))))).set (b0 + 0) (.inr (11, (fsx.set 7 (.int (Int32.ofInt 0))))))) := by
  have hcls : jcN 11 = (jyN 18).cls := by decide +kernel
  have cn0 : (Int32.ofInt 8).toInt = 8 := by decide
  have cn1 : (Int32.ofInt 1).toInt = 1 := by decide
  have cn2 : (Int32.ofInt (-1)).toInt = -1 := by decide
  have cn3 : (Int32.ofInt 0).toInt = 0 := by decide
  refine jCal_of (by decide +kernel) (show 3 ≤ jmx 18 by decide +kernel) ?_
  show J l g 18 2 0 [some (.ref (g.2.2 + (b0 + 0))), some (.int x1), some (.int x2), none] [] h 0 0 _
  refine j_iload_n (k4 := 1) (dQ (by decide +kernel)) rfl ?_
  refine j_if_lt (off := 16) (tgt := 17) (dQ (by decide +kernel)) (by decide) (fun q => absurd (i32_lt.mp q) (by rw [i32_z]; omega)) (fun _ => ?_)
  refine j_iload_n (k4 := 1) (dQ (by decide +kernel)) rfl ?_
  refine x_bi (n := 8) (dQ (by decide +kernel)) (by decide) ?_
  refine j_icmp_ge (off := 10) (tgt := 17) (dQ (by decide +kernel)) (by decide) (fun q => absurd (i32_le.mp q) (by omega)) (fun _ => ?_)
  refine j_iload_n (k4 := 2) (dQ (by decide +kernel)) rfl ?_
  refine j_cS (own := 11) (i := 51) (y2 := 19) (d2 := 1) (mc := 0) (ms := 0) (kc := 0) (ks := 0) (As := [.int x2]) (st := []) (dQ (by decide +kernel)) hcls (by decide +kernel) (by decide) (by decide +kernel) (show 1 = jnp 19 by decide +kernel) (by decide) (show 0 ≤ 8 by decide) (x_isFlag_1 (by omega) (by omega)) (fun v hv2 hq => ?_)
  obtain ⟨rfl, rfl⟩ := hq
  refine j_if_ne (off := 9) (tgt := 23) (dQ (by decide +kernel)) (by decide) (fun _ => ?_) (fun q => absurd (fun q => absurd (congrArg Int32.toInt q) (by rw [i32_z]; omega)) q)
  refine j_aload_n (k4 := 0) (dQ (by decide +kernel)) rfl ?_
  refine j_get (own := 11) (i := 10) (ci := 11) (f := 0) (dQ (by decide +kernel)) hcls (by decide +kernel) hx (fun r hr => by cases hr; decide +kernel) px0 ?_
  refine j_get (own := 11) (i := 54) (ci := 7) (f := 0) (dQ (by decide +kernel)) hcls (by decide +kernel) hs (fun r hr => by cases hr; decide +kernel) ps0 ?_
  refine j_get (own := 11) (i := 58) (ci := 0) (f := 2) (dQ (by decide +kernel)) hcls (by decide +kernel) hi (fun r hr => by cases hr; decide +kernel) pi2 ?_
  refine j_iload_n (k4 := 1) (dQ (by decide +kernel)) rfl ?_
  refine j_ishr (dQ (by decide +kernel)) ?_
  refine j_iconst (n := 1) (dQ (by decide +kernel)) ?_
  refine j_iand (dQ (by decide +kernel)) ?_
  refine j_istore_n (k4 := 3) (dQ (by decide +kernel)) (by decide +kernel) ?_
  refine j_aload_n (k4 := 0) (dQ (by decide +kernel)) rfl ?_
  refine j_get (own := 11) (i := 10) (ci := 11) (f := 0) (dQ (by decide +kernel)) hcls (by decide +kernel) hx (fun r hr => by cases hr; decide +kernel) px0 ?_
  refine j_get (own := 11) (i := 54) (ci := 7) (f := 0) (dQ (by decide +kernel)) hcls (by decide +kernel) hs (fun r hr => by cases hr; decide +kernel) ps0 ?_
  refine j_aload_n (k4 := 0) (dQ (by decide +kernel)) rfl ?_
  refine j_get (own := 11) (i := 10) (ci := 11) (f := 0) (dQ (by decide +kernel)) hcls (by decide +kernel) hx (fun r hr => by cases hr; decide +kernel) px0 ?_
  refine j_get (own := 11) (i := 54) (ci := 7) (f := 0) (dQ (by decide +kernel)) hcls (by decide +kernel) hs (fun r hr => by cases hr; decide +kernel) ps0 ?_
  refine j_get (own := 11) (i := 58) (ci := 0) (f := 2) (dQ (by decide +kernel)) hcls (by decide +kernel) hi (fun r hr => by cases hr; decide +kernel) pi2 ?_
  refine j_iconst (n := 1) (dQ (by decide +kernel)) ?_
  refine j_iload_n (k4 := 1) (dQ (by decide +kernel)) rfl ?_
  refine j_ishl (dQ (by decide +kernel)) ?_
  refine j_iconst (n := (-1)) (dQ (by decide +kernel)) ?_
  refine j_ixor (dQ (by decide +kernel)) ?_
  refine j_iand (dQ (by decide +kernel)) ?_
  refine j_iload_n (k4 := 2) (dQ (by decide +kernel)) rfl ?_
  refine j_iload_n (k4 := 1) (dQ (by decide +kernel)) rfl ?_
  refine j_ishl (dQ (by decide +kernel)) ?_
  refine j_ior (dQ (by decide +kernel)) ?_
  refine j_put (own := 11) (i := 58) (ci := 0) (f := 2) (ty := .int) (dQ (by decide +kernel)) hcls (by decide +kernel) hi rfl (by decide +kernel) (by rw [li]; decide) (by decide +kernel) (by decide +kernel) rfl rfl ?_
  have n3 : (fsi.set 2 (.int ((t &&& (((Int32.ofInt 1) <<< (x1 &&& 31)) ^^^ (Int32.ofInt (-1)))) ||| (x2 <<< (x1 &&& 31))))).length = 3 := by rw [List.length_set]; exact li
  have f4 : (fsi.set 2 (.int ((t &&& (((Int32.ofInt 1) <<< (x1 &&& 31)) ^^^ (Int32.ofInt (-1)))) ||| (x2 <<< (x1 &&& 31)))))[2]? = some (.int ((t &&& (((Int32.ofInt 1) <<< (x1 &&& 31)) ^^^ (Int32.ofInt (-1)))) ||| (x2 <<< (x1 &&& 31)))) := List.getElem?_set_self (by rw [li]; decide)
  have k5 : (h.set (b0 + 2) (.inr (0, (fsi.set 2 (.int ((t &&& (((Int32.ofInt 1) <<< (x1 &&& 31)) ^^^ (Int32.ofInt (-1)))) ||| (x2 <<< (x1 &&& 31))))))))[b0 + 0]? = some (.inr (11, fsx)) := by
    rw [List.getElem?_set_ne (by omega)]
    exact hx
  have k6 : (h.set (b0 + 2) (.inr (0, (fsi.set 2 (.int ((t &&& (((Int32.ofInt 1) <<< (x1 &&& 31)) ^^^ (Int32.ofInt (-1)))) ||| (x2 <<< (x1 &&& 31))))))))[b0 + 1]? = some (.inr (7, fss)) := by
    rw [List.getElem?_set_ne (by omega)]
    exact hs
  have k7 : (h.set (b0 + 2) (.inr (0, (fsi.set 2 (.int ((t &&& (((Int32.ofInt 1) <<< (x1 &&& 31)) ^^^ (Int32.ofInt (-1)))) ||| (x2 <<< (x1 &&& 31))))))))[b0 + 2]? = some (.inr (0, (fsi.set 2 (.int ((t &&& (((Int32.ofInt 1) <<< (x1 &&& 31)) ^^^ (Int32.ofInt (-1)))) ||| (x2 <<< (x1 &&& 31))))))) := List.getElem?_set_self (List.getElem?_eq_some_iff.mp hi).1
  refine j_aload_n (k4 := 0) (dQ (by decide +kernel)) rfl ?_
  refine j_iload_n (k4 := 3) (dQ (by decide +kernel)) rfl ?_
  refine j_cV (own := 11) (i := 48) (y2 := 17) (d2 := 1) (mc := 0) (ms := 0) (kc := 0) (ks := 0) (a := b0 + 0) (As := [.int ((t >>> (x1 &&& 31)) &&& (Int32.ofInt 1))]) (st := []) (dQ (by decide +kernel)) hcls (by decide +kernel) (by decide) (by decide +kernel) (show 1 = jnp 17 by decide +kernel) (by decide) (show 0 ≤ 8 by decide) k5 (fun r hr => by cases hr; decide +kernel) (x_allow k5 lx) (fun v hv9 hq => ?_)
  obtain ⟨rfl, rfl⟩ := hq
  have n10 : (fsx.set 7 (.int (Int32.ofInt 0))).length = 12 := by rw [List.length_set]; exact lx
  have f11 : (fsx.set 7 (.int (Int32.ofInt 0)))[0]? = some (.ref (g.2.2 + (b0 + 1))) := by
    rw [List.getElem?_set_ne (by decide)]
    exact px0
  have k12 : ((h.set (b0 + 2) (.inr (0, (fsi.set 2 (.int ((t &&& (((Int32.ofInt 1) <<< (x1 &&& 31)) ^^^ (Int32.ofInt (-1)))) ||| (x2 <<< (x1 &&& 31)))))))).set (b0 + 0) (.inr (11, (fsx.set 7 (.int (Int32.ofInt 0))))))[b0 + 0]? = some (.inr (11, (fsx.set 7 (.int (Int32.ofInt 0))))) := List.getElem?_set_self (List.getElem?_eq_some_iff.mp k5).1
  have k13 : ((h.set (b0 + 2) (.inr (0, (fsi.set 2 (.int ((t &&& (((Int32.ofInt 1) <<< (x1 &&& 31)) ^^^ (Int32.ofInt (-1)))) ||| (x2 <<< (x1 &&& 31)))))))).set (b0 + 0) (.inr (11, (fsx.set 7 (.int (Int32.ofInt 0))))))[b0 + 1]? = some (.inr (7, fss)) := by
    rw [List.getElem?_set_ne (by omega)]
    exact k6
  have k14 : ((h.set (b0 + 2) (.inr (0, (fsi.set 2 (.int ((t &&& (((Int32.ofInt 1) <<< (x1 &&& 31)) ^^^ (Int32.ofInt (-1)))) ||| (x2 <<< (x1 &&& 31)))))))).set (b0 + 0) (.inr (11, (fsx.set 7 (.int (Int32.ofInt 0))))))[b0 + 2]? = some (.inr (0, (fsi.set 2 (.int ((t &&& (((Int32.ofInt 1) <<< (x1 &&& 31)) ^^^ (Int32.ofInt (-1)))) ||| (x2 <<< (x1 &&& 31))))))) := by
    rw [List.getElem?_set_ne (by omega)]
    exact k7
  exact j_ret (v := some (.int ((t >>> (x1 &&& 31)) &&& (Int32.ofInt 1)))) ⟨by decide +kernel, Or.inl (by decide +kernel)⟩ ⟨rfl, rfl⟩ rfl
set_option maxRecDepth 8192 in
theorem xr_signal_ok {b1 : Nat} {fsm : List Value} {fr : Nat → Int32} {x1 : Int32} {x2 : Int32} {c : Nat} (hm : h[b1 + 0]? = some (.inr (12, fsm))) (lm : fsm.length = 42) (pm2 : fsm[2]? = some (.ref (g.2.2 + (b1 + 1)))) (hr : h[b1 + 1]? = some (.inl (0, 5270, fr))) (e1 : x1.toInt = (c : Int)) (g1 : c ≤ 7) (g2 : 0 ≤ x2.toInt ∧ x2.toInt ≤ 1) : jCal l g 236 2 [.ref (g.2.2 + (b1 + 0)), .int x1, .int x2] h 0 0 (fun v h' => v = some (.int (fr (30 + c))) ∧ h' = (((h.set (b1 + 0) (.inr (12, (fsm.set 0 (.int (Int32.ofInt 0)))))).set (b1 + 1) (.inl (0, 5270, (upd fr (30 + c) x2)))).set (b1 + 0) (.inr (12, ((fsm.set 0 (.int (Int32.ofInt 0))).set 1 (.int (Int32.ofInt 0))))))) := by
  have hcls : jcN 12 = (jyN 236).cls := by decide +kernel
  have cn0 : (Int32.ofInt 0).toInt = 0 := by decide
  have cn1 : (Int32.ofInt 1).toInt = 1 := by decide
  have cn2 : (Int32.ofInt 30).toInt = 30 := by decide
  refine jCal_of (by decide +kernel) (show 3 ≤ jmx 236 by decide +kernel) ?_
  show J l g 236 2 0 [some (.ref (g.2.2 + (b1 + 0))), some (.int x1), some (.int x2), none] [] h 0 0 _
  refine j_aload_n (k4 := 0) (dQ (by decide +kernel)) rfl ?_
  refine j_iconst (n := 0) (dQ (by decide +kernel)) ?_
  refine j_put (own := 12) (i := 94) (ci := 12) (f := 0) (ty := .int) (dQ (by decide +kernel)) hcls (by decide +kernel) hm rfl (by decide +kernel) (by rw [lm]; decide) (by decide +kernel) (by decide +kernel) rfl rfl ?_
  have n1 : (fsm.set 0 (.int (Int32.ofInt 0))).length = 42 := by rw [List.length_set]; exact lm
  have f2 : (fsm.set 0 (.int (Int32.ofInt 0)))[2]? = some (.ref (g.2.2 + (b1 + 1))) := by
    rw [List.getElem?_set_ne (by decide)]
    exact pm2
  have f3 : (fsm.set 0 (.int (Int32.ofInt 0)))[0]? = some (.int (Int32.ofInt 0)) := List.getElem?_set_self (by rw [lm]; decide)
  have k4 : (h.set (b1 + 0) (.inr (12, (fsm.set 0 (.int (Int32.ofInt 0))))))[b1 + 0]? = some (.inr (12, (fsm.set 0 (.int (Int32.ofInt 0))))) := List.getElem?_set_self (List.getElem?_eq_some_iff.mp hm).1
  have k5 : (h.set (b1 + 0) (.inr (12, (fsm.set 0 (.int (Int32.ofInt 0))))))[b1 + 1]? = some (.inl (0, 5270, fr)) := by
    rw [List.getElem?_set_ne (by omega)]
    exact hr
  refine j_iload_n (k4 := 1) (dQ (by decide +kernel)) rfl ?_
  refine x_i2l (dQ (by decide +kernel)) (fun r6 hr6 => ?_)
  refine j_lconst (n := 0) (dQ (by decide +kernel)) ?_
  have hq7 : (Int64.ofNat ((0 : Fin 2) : Nat)).toInt = 0 := by decide
  refine j_ldc2 (own := 12) (i := 201) (v := 7) hcls (by decide +kernel) (by decide +kernel) ?_
  have hq8 : (7 : Int64).toInt = 7 := by decide
  refine j_cS (own := 12) (i := 100) (y2 := 205) (d2 := 1) (mc := 0) (ms := 0) (kc := 0) (ks := 0) (As := [.long r6, .long (Int64.ofNat ((0 : Fin 2) : Nat)), .long (7 : Int64)]) (st := []) (dQ (by decide +kernel)) hcls (by decide +kernel) (by decide) (by decide +kernel) (show 3 = jnp 205 by decide +kernel) (by decide) (show 0 ≤ 8 by decide) (xm_in_1 (by omega) (by omega)) (fun v hv10 hq => ?_)
  obtain ⟨rfl, rfl⟩ := hq
  refine j_if_eq (off := 13) (tgt := 27) (dQ (by decide +kernel)) (by decide) (fun q => absurd (congrArg Int32.toInt q) (by rw [i32_z]; omega)) (fun _ => ?_)
  refine j_iload_n (k4 := 2) (dQ (by decide +kernel)) rfl ?_
  refine x_i2l (dQ (by decide +kernel)) (fun r11 hr11 => ?_)
  refine j_lconst (n := 0) (dQ (by decide +kernel)) ?_
  have hq12 : (Int64.ofNat ((0 : Fin 2) : Nat)).toInt = 0 := by decide
  refine j_lconst (n := 1) (dQ (by decide +kernel)) ?_
  have hq13 : (Int64.ofNat ((1 : Fin 2) : Nat)).toInt = 1 := by decide
  refine j_cS (own := 12) (i := 100) (y2 := 205) (d2 := 1) (mc := 0) (ms := 0) (kc := 0) (ks := 0) (As := [.long r11, .long (Int64.ofNat ((0 : Fin 2) : Nat)), .long (Int64.ofNat ((1 : Fin 2) : Nat))]) (st := []) (dQ (by decide +kernel)) hcls (by decide +kernel) (by decide) (by decide +kernel) (show 3 = jnp 205 by decide +kernel) (by decide) (show 0 ≤ 8 by decide) (xm_in_1 (by omega) (by omega)) (fun v hv15 hq => ?_)
  obtain ⟨rfl, rfl⟩ := hq
  refine j_if_ne (off := 9) (tgt := 33) (dQ (by decide +kernel)) (by decide) (fun _ => ?_) (fun q => absurd (fun q => absurd (congrArg Int32.toInt q) (by rw [i32_z]; omega)) q)
  refine j_aload_n (k4 := 0) (dQ (by decide +kernel)) rfl ?_
  refine j_get (own := 12) (i := 7) (ci := 12) (f := 2) (dQ (by decide +kernel)) hcls (by decide +kernel) k4 (fun r hr => by cases hr; decide +kernel) f2 ?_
  refine x_bi (n := 30) (dQ (by decide +kernel)) (by decide) ?_
  refine j_iload_n (k4 := 1) (dQ (by decide +kernel)) rfl ?_
  refine x_add (dQ (by decide +kernel)) (by omega) (fun r16 hr16 => ?_)
  refine x_ald (30 + c) (dQ (by decide +kernel)) k5 (by omega) (by omega) ?_
  refine j_istore_n (k4 := 3) (dQ (by decide +kernel)) (by decide +kernel) ?_
  refine j_aload_n (k4 := 0) (dQ (by decide +kernel)) rfl ?_
  refine j_get (own := 12) (i := 7) (ci := 12) (f := 2) (dQ (by decide +kernel)) hcls (by decide +kernel) k4 (fun r hr => by cases hr; decide +kernel) f2 ?_
  refine x_bi (n := 30) (dQ (by decide +kernel)) (by decide) ?_
  refine j_iload_n (k4 := 1) (dQ (by decide +kernel)) rfl ?_
  refine x_add (dQ (by decide +kernel)) (by omega) (fun r17 hr17 => ?_)
  refine j_iload_n (k4 := 2) (dQ (by decide +kernel)) rfl ?_
  refine x_ast (30 + c) (dQ (by decide +kernel)) k5 (by omega) (by omega) ?_
  have k18 : ((h.set (b1 + 0) (.inr (12, (fsm.set 0 (.int (Int32.ofInt 0)))))).set (b1 + 1) (.inl (0, 5270, (upd fr (30 + c) x2))))[b1 + 0]? = some (.inr (12, (fsm.set 0 (.int (Int32.ofInt 0))))) := by
    rw [List.getElem?_set_ne (by omega)]
    exact k4
  have k19 : ((h.set (b1 + 0) (.inr (12, (fsm.set 0 (.int (Int32.ofInt 0)))))).set (b1 + 1) (.inl (0, 5270, (upd fr (30 + c) x2))))[b1 + 1]? = some (.inl (0, 5270, (upd fr (30 + c) x2))) := List.getElem?_set_self (List.getElem?_eq_some_iff.mp k5).1
  refine j_aload_n (k4 := 0) (dQ (by decide +kernel)) rfl ?_
  refine j_iload_n (k4 := 3) (dQ (by decide +kernel)) rfl ?_
  refine j_cV (own := 12) (i := 252) (y2 := 216) (d2 := 1) (mc := 0) (ms := 0) (kc := 0) (ks := 0) (a := b1 + 0) (As := [.int (fr (30 + c))]) (st := []) (dQ (by decide +kernel)) hcls (by decide +kernel) (by decide) (by decide +kernel) (show 1 = jnp 216 by decide +kernel) (by decide) (show 0 ≤ 8 by decide) k18 (fun r hr => by cases hr; decide +kernel) (xm_was k18 n1) (fun v hv21 hq => ?_)
  obtain ⟨rfl, rfl⟩ := hq
  have n22 : ((fsm.set 0 (.int (Int32.ofInt 0))).set 1 (.int (Int32.ofInt 0))).length = 42 := by rw [List.length_set]; exact n1
  have f23 : ((fsm.set 0 (.int (Int32.ofInt 0))).set 1 (.int (Int32.ofInt 0)))[2]? = some (.ref (g.2.2 + (b1 + 1))) := by
    rw [List.getElem?_set_ne (by decide)]
    exact f2
  have f24 : ((fsm.set 0 (.int (Int32.ofInt 0))).set 1 (.int (Int32.ofInt 0)))[0]? = some (.int (Int32.ofInt 0)) := by
    rw [List.getElem?_set_ne (by decide)]
    exact f3
  have k25 : (((h.set (b1 + 0) (.inr (12, (fsm.set 0 (.int (Int32.ofInt 0)))))).set (b1 + 1) (.inl (0, 5270, (upd fr (30 + c) x2)))).set (b1 + 0) (.inr (12, ((fsm.set 0 (.int (Int32.ofInt 0))).set 1 (.int (Int32.ofInt 0))))))[b1 + 0]? = some (.inr (12, ((fsm.set 0 (.int (Int32.ofInt 0))).set 1 (.int (Int32.ofInt 0))))) := List.getElem?_set_self (List.getElem?_eq_some_iff.mp k18).1
  have k26 : (((h.set (b1 + 0) (.inr (12, (fsm.set 0 (.int (Int32.ofInt 0)))))).set (b1 + 1) (.inl (0, 5270, (upd fr (30 + c) x2)))).set (b1 + 0) (.inr (12, ((fsm.set 0 (.int (Int32.ofInt 0))).set 1 (.int (Int32.ofInt 0))))))[b1 + 1]? = some (.inl (0, 5270, (upd fr (30 + c) x2))) := by
    rw [List.getElem?_set_ne (by omega)]
    exact k19
  exact j_ret (v := some (.int (fr (30 + c)))) ⟨by decide +kernel, Or.inl (by decide +kernel)⟩ ⟨rfl, rfl⟩ rfl
end XN
