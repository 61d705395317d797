/-! exact walks: the setters (written by wip/groupB/gen_x1.py) -/
section XS
variable {l : Launch} {g : jG} {h : jH}
set_option maxRecDepth 8192 in
theorem xk_liesn {b0 : Nat} {fx fs : List Value} {f : Nat → Int32} (hx : h[b0 + 0]? = some (.inr (11, fx))) (lx : fx.length = 12) (px : fx[0]? = some (.ref (g.2.2 + (b0 + 1)))) (hs : h[b0 + 1]? = some (.inr (7, fs))) (ps : fs[9]? = some (.ref (g.2.2 + (b0 + 23)))) (ha : h[b0 + 23]? = some (.inl (0, 12, f))) {x1 : Int32} {x2 : Int32} {b : Nat} (e1 : x1.toInt = (b : Int)) (g1 : b ≤ 11) (g2 : -1 ≤ x2.toInt ∧ x2.toInt ≤ -1) : jCal l g 13 2 [.ref (g.2.2 + (b0 + 0)), .int x1, .int x2] h 0 0 (fun v h' => v = some (.int (f b)) ∧ h' = (h.set (b0 + 23) (.inl (0, 12, upd f b x2))).set (b0 + 0) (.inr (11, fx.set 7 (.int (Int32.ofInt 0))))) := by
  have hcls : jcN 11 = (jyN 13).cls := by decide +kernel
  have cn0 : (Int32.ofInt 1).toInt = 1 := by decide
  have cn1 : (Int32.ofInt (-1)).toInt = -1 := by decide
  have cn2 : (Int32.ofInt 0).toInt = 0 := by decide
  refine jCal_of (by decide +kernel) (show 3 ≤ jmx 13 by decide +kernel) ?_
  show J l g 13 2 0 [some (.ref (g.2.2 + (b0 + 0))), some (.int x1), some (.int x2), none] [] h 0 0 _
  refine j_iload_n (k4 := 1) (dQ (by decide +kernel)) rfl ?_
  refine j_cS (own := 11) (i := 34) (y2 := 14) (d2 := 1) (mc := 0) (ms := 0) (kc := 0) (ks := 0) (As := [.int x1]) (st := []) (dQ (by decide +kernel)) hcls (by decide +kernel) (by decide) (by decide +kernel) (show 1 = jnp 14 by decide +kernel) (by decide) (show 0 ≤ 8 by decide) (x_isBerth_1 (by omega) (by omega)) (fun v hv2 hq => ?_)
  obtain ⟨rfl, rfl⟩ := hq
  refine j_if_eq (off := 15) (tgt := 19) (dQ (by decide +kernel)) (by decide) (fun q => absurd (congrArg Int32.toInt q) (by rw [i32_z]; omega)) (fun _ => ?_)
  refine j_iload_n (k4 := 2) (dQ (by decide +kernel)) rfl ?_
  refine j_iconst (n := (-1)) (dQ (by decide +kernel)) ?_
  refine j_icmp_eq (off := 16) (tgt := 25) (dQ (by decide +kernel)) (by decide) (fun _ => ?_) (fun q => absurd (i32_eq (by omega)) q)
  refine j_aload_n (k4 := 0) (dQ (by decide +kernel)) rfl ?_
  refine j_get (own := 11) (i := 10) (ci := 11) (f := 0) (dQ (by decide +kernel)) hcls (by decide +kernel) hx (fun r hr => by cases hr; decide +kernel) px ?_
  refine j_get (own := 11) (i := 45) (ci := 7) (f := 9) (dQ (by decide +kernel)) hcls (by decide +kernel) hs (fun r hr => by cases hr; decide +kernel) ps ?_
  refine j_iload_n (k4 := 1) (dQ (by decide +kernel)) rfl ?_
  refine x_ald b (dQ (by decide +kernel)) ha (by omega) (by omega) ?_
  refine j_istore_n (k4 := 3) (dQ (by decide +kernel)) (by decide +kernel) ?_
  refine j_aload_n (k4 := 0) (dQ (by decide +kernel)) rfl ?_
  refine j_get (own := 11) (i := 10) (ci := 11) (f := 0) (dQ (by decide +kernel)) hcls (by decide +kernel) hx (fun r hr => by cases hr; decide +kernel) px ?_
  refine j_get (own := 11) (i := 45) (ci := 7) (f := 9) (dQ (by decide +kernel)) hcls (by decide +kernel) hs (fun r hr => by cases hr; decide +kernel) ps ?_
  refine j_iload_n (k4 := 1) (dQ (by decide +kernel)) rfl ?_
  refine j_iload_n (k4 := 2) (dQ (by decide +kernel)) rfl ?_
  refine x_ast b (dQ (by decide +kernel)) ha (by omega) (by omega) ?_
  have k3 : (h.set (b0 + 23) (.inl (0, 12, (upd f b x2))))[b0 + 0]? = some (.inr (11, fx)) := by
    rw [List.getElem?_set_ne (by omega)]
    exact hx
  have k4 : (h.set (b0 + 23) (.inl (0, 12, (upd f b x2))))[b0 + 1]? = some (.inr (7, fs)) := by
    rw [List.getElem?_set_ne (by omega)]
    exact hs
  have k5 : (h.set (b0 + 23) (.inl (0, 12, (upd f b x2))))[b0 + 23]? = some (.inl (0, 12, (upd f b x2))) := List.getElem?_set_self (List.getElem?_eq_some_iff.mp ha).1
  refine j_aload_n (k4 := 0) (dQ (by decide +kernel)) rfl ?_
  refine j_iload_n (k4 := 3) (dQ (by decide +kernel)) rfl ?_
  refine j_cV (own := 11) (i := 48) (y2 := 17) (d2 := 1) (mc := 0) (ms := 0) (kc := 0) (ks := 0) (a := b0 + 0) (As := [.int (f b)]) (st := []) (dQ (by decide +kernel)) hcls (by decide +kernel) (by decide) (by decide +kernel) (show 1 = jnp 17 by decide +kernel) (by decide) (show 0 ≤ 8 by decide) k3 (fun r hr => by cases hr; decide +kernel) (x_allow k3 lx) (fun v hv7 hq => ?_)
  obtain ⟨rfl, rfl⟩ := hq
  have n8 : (fx.set 7 (.int (Int32.ofInt 0))).length = 12 := by rw [List.length_set]; exact lx
  have f9 : (fx.set 7 (.int (Int32.ofInt 0)))[0]? = some (.ref (g.2.2 + (b0 + 1))) := by
    rw [List.getElem?_set_ne (by decide)]
    exact px
  have k10 : ((h.set (b0 + 23) (.inl (0, 12, (upd f b x2)))).set (b0 + 0) (.inr (11, (fx.set 7 (.int (Int32.ofInt 0))))))[b0 + 0]? = some (.inr (11, (fx.set 7 (.int (Int32.ofInt 0))))) := List.getElem?_set_self (List.getElem?_eq_some_iff.mp k3).1
  have k11 : ((h.set (b0 + 23) (.inl (0, 12, (upd f b x2)))).set (b0 + 0) (.inr (11, (fx.set 7 (.int (Int32.ofInt 0))))))[b0 + 1]? = some (.inr (7, fs)) := by
    rw [List.getElem?_set_ne (by omega)]
    exact k4
  have k12 : ((h.set (b0 + 23) (.inl (0, 12, (upd f b x2)))).set (b0 + 0) (.inr (11, (fx.set 7 (.int (Int32.ofInt 0))))))[b0 + 23]? = some (.inl (0, 12, (upd f b x2))) := by
    rw [List.getElem?_set_ne (by omega)]
    exact k5
  exact j_ret (v := some (.int (f b))) ⟨by decide +kernel, Or.inl (by decide +kernel)⟩ ⟨rfl, rfl⟩ rfl
set_option maxRecDepth 8192 in
theorem xk_lies {b0 : Nat} {fx fs : List Value} {f : Nat → Int32} (hx : h[b0 + 0]? = some (.inr (11, fx))) (lx : fx.length = 12) (px : fx[0]? = some (.ref (g.2.2 + (b0 + 1)))) (hs : h[b0 + 1]? = some (.inr (7, fs))) (ps : fs[9]? = some (.ref (g.2.2 + (b0 + 23)))) (ha : h[b0 + 23]? = some (.inl (0, 12, f))) {x1 : Int32} {x2 : Int32} {b : Nat} (e1 : x1.toInt = (b : Int)) (g1 : b ≤ 11) (g2 : 0 ≤ x2.toInt ∧ x2.toInt ≤ 15) : jCal l g 13 2 [.ref (g.2.2 + (b0 + 0)), .int x1, .int x2] h 0 0 (fun v h' => v = some (.int (f b)) ∧ h' = (h.set (b0 + 23) (.inl (0, 12, upd f b x2))).set (b0 + 0) (.inr (11, fx.set 7 (.int (Int32.ofInt 0))))) := by
  have hcls : jcN 11 = (jyN 13).cls := by decide +kernel
  have cn0 : (Int32.ofInt 1).toInt = 1 := by decide
  have cn1 : (Int32.ofInt (-1)).toInt = -1 := by decide
  have cn2 : (Int32.ofInt 0).toInt = 0 := by decide
  refine jCal_of (by decide +kernel) (show 3 ≤ jmx 13 by decide +kernel) ?_
  show J l g 13 2 0 [some (.ref (g.2.2 + (b0 + 0))), some (.int x1), some (.int x2), none] [] h 0 0 _
  refine j_iload_n (k4 := 1) (dQ (by decide +kernel)) rfl ?_
  refine j_cS (own := 11) (i := 34) (y2 := 14) (d2 := 1) (mc := 0) (ms := 0) (kc := 0) (ks := 0) (As := [.int x1]) (st := []) (dQ (by decide +kernel)) hcls (by decide +kernel) (by decide) (by decide +kernel) (show 1 = jnp 14 by decide +kernel) (by decide) (show 0 ≤ 8 by decide) (x_isBerth_1 (by omega) (by omega)) (fun v hv2 hq => ?_)
  obtain ⟨rfl, rfl⟩ := hq
  refine j_if_eq (off := 15) (tgt := 19) (dQ (by decide +kernel)) (by decide) (fun q => absurd (congrArg Int32.toInt q) (by rw [i32_z]; omega)) (fun _ => ?_)
  refine j_iload_n (k4 := 2) (dQ (by decide +kernel)) rfl ?_
  refine j_iconst (n := (-1)) (dQ (by decide +kernel)) ?_
  refine j_icmp_eq (off := 16) (tgt := 25) (dQ (by decide +kernel)) (by decide) (fun q => absurd (congrArg Int32.toInt q) (by omega)) (fun _ => ?_)
  refine j_iload_n (k4 := 2) (dQ (by decide +kernel)) rfl ?_
  refine j_cS (own := 11) (i := 38) (y2 := 15) (d2 := 1) (mc := 0) (ms := 0) (kc := 0) (ks := 0) (As := [.int x2]) (st := []) (dQ (by decide +kernel)) hcls (by decide +kernel) (by decide) (by decide +kernel) (show 1 = jnp 15 by decide +kernel) (by decide) (show 0 ≤ 8 by decide) (x_isTrack_1 (by omega) (by omega)) (fun v hv4 hq => ?_)
  obtain ⟨rfl, rfl⟩ := hq
  refine j_if_ne (off := 9) (tgt := 25) (dQ (by decide +kernel)) (by decide) (fun _ => ?_) (fun q => absurd (fun q => absurd (congrArg Int32.toInt q) (by rw [i32_z]; omega)) q)
  refine j_aload_n (k4 := 0) (dQ (by decide +kernel)) rfl ?_
  refine j_get (own := 11) (i := 10) (ci := 11) (f := 0) (dQ (by decide +kernel)) hcls (by decide +kernel) hx (fun r hr => by cases hr; decide +kernel) px ?_
  refine j_get (own := 11) (i := 45) (ci := 7) (f := 9) (dQ (by decide +kernel)) hcls (by decide +kernel) hs (fun r hr => by cases hr; decide +kernel) ps ?_
  refine j_iload_n (k4 := 1) (dQ (by decide +kernel)) rfl ?_
  refine x_ald b (dQ (by decide +kernel)) ha (by omega) (by omega) ?_
  refine j_istore_n (k4 := 3) (dQ (by decide +kernel)) (by decide +kernel) ?_
  refine j_aload_n (k4 := 0) (dQ (by decide +kernel)) rfl ?_
  refine j_get (own := 11) (i := 10) (ci := 11) (f := 0) (dQ (by decide +kernel)) hcls (by decide +kernel) hx (fun r hr => by cases hr; decide +kernel) px ?_
  refine j_get (own := 11) (i := 45) (ci := 7) (f := 9) (dQ (by decide +kernel)) hcls (by decide +kernel) hs (fun r hr => by cases hr; decide +kernel) ps ?_
  refine j_iload_n (k4 := 1) (dQ (by decide +kernel)) rfl ?_
  refine j_iload_n (k4 := 2) (dQ (by decide +kernel)) rfl ?_
  refine x_ast b (dQ (by decide +kernel)) ha (by omega) (by omega) ?_
  have k5 : (h.set (b0 + 23) (.inl (0, 12, (upd f b x2))))[b0 + 0]? = some (.inr (11, fx)) := by
    rw [List.getElem?_set_ne (by omega)]
    exact hx
  have k6 : (h.set (b0 + 23) (.inl (0, 12, (upd f b x2))))[b0 + 1]? = some (.inr (7, fs)) := by
    rw [List.getElem?_set_ne (by omega)]
    exact hs
  have k7 : (h.set (b0 + 23) (.inl (0, 12, (upd f b x2))))[b0 + 23]? = some (.inl (0, 12, (upd f b x2))) := List.getElem?_set_self (List.getElem?_eq_some_iff.mp ha).1
  refine j_aload_n (k4 := 0) (dQ (by decide +kernel)) rfl ?_
  refine j_iload_n (k4 := 3) (dQ (by decide +kernel)) rfl ?_
  refine j_cV (own := 11) (i := 48) (y2 := 17) (d2 := 1) (mc := 0) (ms := 0) (kc := 0) (ks := 0) (a := b0 + 0) (As := [.int (f b)]) (st := []) (dQ (by decide +kernel)) hcls (by decide +kernel) (by decide) (by decide +kernel) (show 1 = jnp 17 by decide +kernel) (by decide) (show 0 ≤ 8 by decide) k5 (fun r hr => by cases hr; decide +kernel) (x_allow k5 lx) (fun v hv9 hq => ?_)
  obtain ⟨rfl, rfl⟩ := hq
  have n10 : (fx.set 7 (.int (Int32.ofInt 0))).length = 12 := by rw [List.length_set]; exact lx
  have f11 : (fx.set 7 (.int (Int32.ofInt 0)))[0]? = some (.ref (g.2.2 + (b0 + 1))) := by
    rw [List.getElem?_set_ne (by decide)]
    exact px
  have k12 : ((h.set (b0 + 23) (.inl (0, 12, (upd f b x2)))).set (b0 + 0) (.inr (11, (fx.set 7 (.int (Int32.ofInt 0))))))[b0 + 0]? = some (.inr (11, (fx.set 7 (.int (Int32.ofInt 0))))) := List.getElem?_set_self (List.getElem?_eq_some_iff.mp k5).1
  have k13 : ((h.set (b0 + 23) (.inl (0, 12, (upd f b x2)))).set (b0 + 0) (.inr (11, (fx.set 7 (.int (Int32.ofInt 0))))))[b0 + 1]? = some (.inr (7, fs)) := by
    rw [List.getElem?_set_ne (by omega)]
    exact k6
  have k14 : ((h.set (b0 + 23) (.inl (0, 12, (upd f b x2)))).set (b0 + 0) (.inr (11, (fx.set 7 (.int (Int32.ofInt 0))))))[b0 + 23]? = some (.inl (0, 12, (upd f b x2))) := by
    rw [List.getElem?_set_ne (by omega)]
    exact k7
  exact j_ret (v := some (.int (f b))) ⟨by decide +kernel, Or.inl (by decide +kernel)⟩ ⟨rfl, rfl⟩ rfl
set_option maxRecDepth 8192 in
theorem xr_lies {b1 : Nat} {fm : List Value} {f : Nat → Int32} (hm : h[b1 + 0]? = some (.inr (12, fm))) (lm : fm.length = 42) (pm : fm[2]? = some (.ref (g.2.2 + (b1 + 1)))) (hr : h[b1 + 1]? = some (.inl (0, 5270, f))) {x1 : Int32} {x2 : Int32} {b : Nat} (e1 : x1.toInt = (b : Int)) (g1 : b ≤ 11) (g2 : -1 ≤ x2.toInt ∧ x2.toInt ≤ 15) : jCal l g 234 3 [.ref (g.2.2 + (b1 + 0)), .int x1, .int x2] h 0 0 (fun v h' => v = some (.int (f (52 + b))) ∧ h' = ((h.set (b1 + 0) (.inr (12, fm.set 0 (.int (Int32.ofInt 0))))).set (b1 + 1) (.inl (0, 5270, upd f (52 + b) x2))).set (b1 + 0) (.inr (12, (fm.set 0 (.int (Int32.ofInt 0))).set 1 (.int (Int32.ofInt 0))))) := by
  have hcls : jcN 12 = (jyN 234).cls := by decide +kernel
  have cn0 : (Int32.ofInt 0).toInt = 0 := by decide
  have cn1 : (Int32.ofInt 1).toInt = 1 := by decide
  have cn2 : (Int32.ofInt 52).toInt = 52 := by decide
  refine jCal_of (by decide +kernel) (show 3 ≤ jmx 234 by decide +kernel) ?_
  show J l g 234 3 0 [some (.ref (g.2.2 + (b1 + 0))), some (.int x1), some (.int x2), none] [] h 0 0 _
  refine j_aload_n (k4 := 0) (dQ (by decide +kernel)) rfl ?_
  refine j_iconst (n := 0) (dQ (by decide +kernel)) ?_
  refine j_put (own := 12) (i := 94) (ci := 12) (f := 0) (ty := .int) (dQ (by decide +kernel)) hcls (by decide +kernel) hm rfl (by decide +kernel) (by rw [lm]; decide) (by decide +kernel) (by decide +kernel) rfl rfl ?_
  have n1 : (fm.set 0 (.int (Int32.ofInt 0))).length = 42 := by rw [List.length_set]; exact lm
  have f2 : (fm.set 0 (.int (Int32.ofInt 0)))[2]? = some (.ref (g.2.2 + (b1 + 1))) := by
    rw [List.getElem?_set_ne (by decide)]
    exact pm
  have f3 : (fm.set 0 (.int (Int32.ofInt 0)))[0]? = some (.int (Int32.ofInt 0)) := List.getElem?_set_self (by rw [lm]; decide)
  have k4 : (h.set (b1 + 0) (.inr (12, (fm.set 0 (.int (Int32.ofInt 0))))))[b1 + 0]? = some (.inr (12, (fm.set 0 (.int (Int32.ofInt 0))))) := List.getElem?_set_self (List.getElem?_eq_some_iff.mp hm).1
  have k5 : (h.set (b1 + 0) (.inr (12, (fm.set 0 (.int (Int32.ofInt 0))))))[b1 + 1]? = some (.inl (0, 5270, f)) := by
    rw [List.getElem?_set_ne (by omega)]
    exact hr
  refine j_iload_n (k4 := 1) (dQ (by decide +kernel)) rfl ?_
  refine j_cS (own := 12) (i := 285) (y2 := 235) (d2 := 2) (mc := 0) (ms := 0) (kc := 0) (ks := 0) (As := [.int x1]) (st := []) (dQ (by decide +kernel)) hcls (by decide +kernel) (by decide) (by decide +kernel) (show 1 = jnp 235 by decide +kernel) (by decide) (show 0 ≤ 8 by decide) (xm_isBerth_1 (by omega) (by omega)) (fun v hv7 hq => ?_)
  obtain ⟨rfl, rfl⟩ := hq
  refine j_if_eq (off := 17) (tgt := 26) (dQ (by decide +kernel)) (by decide) (fun q => absurd (congrArg Int32.toInt q) (by rw [i32_z]; omega)) (fun _ => ?_)
  refine j_iload_n (k4 := 2) (dQ (by decide +kernel)) rfl ?_
  refine x_i2l (dQ (by decide +kernel)) (fun r8 hr8 => ?_)
  refine j_ldc2 (own := 12) (i := 163) (v := -1) hcls (by decide +kernel) (by decide +kernel) ?_
  have hq9 : (-1 : Int64).toInt = -1 := by decide
  refine j_ldc2 (own := 12) (i := 110) (v := 15) hcls (by decide +kernel) (by decide +kernel) ?_
  have hq10 : (15 : Int64).toInt = 15 := by decide
  refine j_cS (own := 12) (i := 100) (y2 := 205) (d2 := 1) (mc := 0) (ms := 0) (kc := 0) (ks := 0) (As := [.long r8, .long (-1 : Int64), .long (15 : Int64)]) (st := []) (dQ (by decide +kernel)) hcls (by decide +kernel) (by decide) (by decide +kernel) (show 3 = jnp 205 by decide +kernel) (by decide) (show 0 ≤ 8 by decide) (xm_in_1 (by omega) (by omega)) (fun v hv12 hq => ?_)
  obtain ⟨rfl, rfl⟩ := hq
  refine j_if_ne (off := 9) (tgt := 32) (dQ (by decide +kernel)) (by decide) (fun _ => ?_) (fun q => absurd (fun q => absurd (congrArg Int32.toInt q) (by rw [i32_z]; omega)) q)
  refine j_aload_n (k4 := 0) (dQ (by decide +kernel)) rfl ?_
  refine j_get (own := 12) (i := 7) (ci := 12) (f := 2) (dQ (by decide +kernel)) hcls (by decide +kernel) k4 (fun r hr => by cases hr; decide +kernel) f2 ?_
  refine x_bi (n := 52) (dQ (by decide +kernel)) (by decide) ?_
  refine j_iload_n (k4 := 1) (dQ (by decide +kernel)) rfl ?_
  refine x_add (dQ (by decide +kernel)) (by omega) (fun r13 hr13 => ?_)
  refine x_ald (52 + b) (dQ (by decide +kernel)) k5 (by omega) (by omega) ?_
  refine j_istore_n (k4 := 3) (dQ (by decide +kernel)) (by decide +kernel) ?_
  refine j_aload_n (k4 := 0) (dQ (by decide +kernel)) rfl ?_
  refine j_get (own := 12) (i := 7) (ci := 12) (f := 2) (dQ (by decide +kernel)) hcls (by decide +kernel) k4 (fun r hr => by cases hr; decide +kernel) f2 ?_
  refine x_bi (n := 52) (dQ (by decide +kernel)) (by decide) ?_
  refine j_iload_n (k4 := 1) (dQ (by decide +kernel)) rfl ?_
  refine x_add (dQ (by decide +kernel)) (by omega) (fun r14 hr14 => ?_)
  refine j_iload_n (k4 := 2) (dQ (by decide +kernel)) rfl ?_
  refine x_ast (52 + b) (dQ (by decide +kernel)) k5 (by omega) (by omega) ?_
  have k15 : ((h.set (b1 + 0) (.inr (12, (fm.set 0 (.int (Int32.ofInt 0)))))).set (b1 + 1) (.inl (0, 5270, (upd f (52 + b) x2))))[b1 + 0]? = some (.inr (12, (fm.set 0 (.int (Int32.ofInt 0))))) := by
    rw [List.getElem?_set_ne (by omega)]
    exact k4
  have k16 : ((h.set (b1 + 0) (.inr (12, (fm.set 0 (.int (Int32.ofInt 0)))))).set (b1 + 1) (.inl (0, 5270, (upd f (52 + b) x2))))[b1 + 1]? = some (.inl (0, 5270, (upd f (52 + b) x2))) := List.getElem?_set_self (List.getElem?_eq_some_iff.mp k5).1
  refine j_aload_n (k4 := 0) (dQ (by decide +kernel)) rfl ?_
  refine j_iload_n (k4 := 3) (dQ (by decide +kernel)) rfl ?_
  refine j_cV (own := 12) (i := 252) (y2 := 216) (d2 := 1) (mc := 0) (ms := 0) (kc := 0) (ks := 0) (a := b1 + 0) (As := [.int (f (52 + b))]) (st := []) (dQ (by decide +kernel)) hcls (by decide +kernel) (by decide) (by decide +kernel) (show 1 = jnp 216 by decide +kernel) (by decide) (show 0 ≤ 8 by decide) k15 (fun r hr => by cases hr; decide +kernel) (xm_was k15 n1) (fun v hv18 hq => ?_)
  obtain ⟨rfl, rfl⟩ := hq
  have n19 : ((fm.set 0 (.int (Int32.ofInt 0))).set 1 (.int (Int32.ofInt 0))).length = 42 := by rw [List.length_set]; exact n1
  have f20 : ((fm.set 0 (.int (Int32.ofInt 0))).set 1 (.int (Int32.ofInt 0)))[2]? = some (.ref (g.2.2 + (b1 + 1))) := by
    rw [List.getElem?_set_ne (by decide)]
    exact f2
  have f21 : ((fm.set 0 (.int (Int32.ofInt 0))).set 1 (.int (Int32.ofInt 0)))[0]? = some (.int (Int32.ofInt 0)) := by
    rw [List.getElem?_set_ne (by decide)]
    exact f3
  have k22 : (((h.set (b1 + 0) (.inr (12, (fm.set 0 (.int (Int32.ofInt 0)))))).set (b1 + 1) (.inl (0, 5270, (upd f (52 + b) x2)))).set (b1 + 0) (.inr (12, ((fm.set 0 (.int (Int32.ofInt 0))).set 1 (.int (Int32.ofInt 0))))))[b1 + 0]? = some (.inr (12, ((fm.set 0 (.int (Int32.ofInt 0))).set 1 (.int (Int32.ofInt 0))))) := List.getElem?_set_self (List.getElem?_eq_some_iff.mp k15).1
  have k23 : (((h.set (b1 + 0) (.inr (12, (fm.set 0 (.int (Int32.ofInt 0)))))).set (b1 + 1) (.inl (0, 5270, (upd f (52 + b) x2)))).set (b1 + 0) (.inr (12, ((fm.set 0 (.int (Int32.ofInt 0))).set 1 (.int (Int32.ofInt 0))))))[b1 + 1]? = some (.inl (0, 5270, (upd f (52 + b) x2))) := by
    rw [List.getElem?_set_ne (by omega)]
    exact k16
  exact j_ret (v := some (.int (f (52 + b)))) ⟨by decide +kernel, Or.inl (by decide +kernel)⟩ ⟨rfl, rfl⟩ rfl
set_option maxRecDepth 8192 in
theorem xk_lies_0l {b0 : Nat} {fx : List Value} (hx : h[b0 + 0]? = some (.inr (11, fx))) (lx : fx.length = 12) {x1 : Int32} {x2 : Int32} (u : x1.toInt < 0) : jCal l g 13 2 [.ref (g.2.2 + (b0 + 0)), .int x1, .int x2] h 0 0 (fun v h' => v = some (.int (Int32.ofInt (-1))) ∧ h' = h.set (b0 + 0) (.inr (11, fx.set 7 (.int (Int32.ofInt (-1)))))) := by
  have hcls : jcN 11 = (jyN 13).cls := by decide +kernel
  have cn0 : (Int32.ofInt 0).toInt = 0 := by decide
  have cn1 : (Int32.ofInt (-1)).toInt = -1 := by decide
  refine jCal_of (by decide +kernel) (show 3 ≤ jmx 13 by decide +kernel) ?_
  show J l g 13 2 0 [some (.ref (g.2.2 + (b0 + 0))), some (.int x1), some (.int x2), none] [] h 0 0 _
  refine j_iload_n (k4 := 1) (dQ (by decide +kernel)) rfl ?_
  refine j_cS (own := 11) (i := 34) (y2 := 14) (d2 := 1) (mc := 0) (ms := 0) (kc := 0) (ks := 0) (As := [.int x1]) (st := []) (dQ (by decide +kernel)) hcls (by decide +kernel) (by decide) (by decide +kernel) (show 1 = jnp 14 by decide +kernel) (by decide) (show 0 ≤ 8 by decide) (x_isBerth_0l (by omega)) (fun v hv2 hq => ?_)
  obtain ⟨rfl, rfl⟩ := hq
  refine j_if_eq (off := 15) (tgt := 19) (dQ (by decide +kernel)) (by decide) (fun _ => ?_) (fun q => absurd (i32_eq (show _ = (0 : Int32).toInt by rw [i32_z]; omega)) q)
  refine j_aload_n (k4 := 0) (dQ (by decide +kernel)) rfl ?_
  refine j_iconst (n := (-1)) (dQ (by decide +kernel)) ?_
  refine j_cV (own := 11) (i := 41) (y2 := 16) (d2 := 1) (mc := 0) (ms := 0) (kc := 0) (ks := 0) (a := b0 + 0) (As := [.int (Int32.ofInt (-1))]) (st := []) (dQ (by decide +kernel)) hcls (by decide +kernel) (by decide) (by decide +kernel) (show 1 = jnp 16 by decide +kernel) (by decide) (show 0 ≤ 8 by decide) hx (fun r hr => by cases hr; decide +kernel) (x_refuse hx lx) (fun v hv4 hq => ?_)
  obtain ⟨rfl, rfl⟩ := hq
  have n5 : (fx.set 7 (.int (Int32.ofInt (-1)))).length = 12 := by rw [List.length_set]; exact lx
  have k6 : (h.set (b0 + 0) (.inr (11, (fx.set 7 (.int (Int32.ofInt (-1)))))))[b0 + 0]? = some (.inr (11, (fx.set 7 (.int (Int32.ofInt (-1)))))) := List.getElem?_set_self (List.getElem?_eq_some_iff.mp hx).1
  exact j_ret (v := some (.int (Int32.ofInt (-1)))) ⟨by decide +kernel, Or.inl (by decide +kernel)⟩ ⟨rfl, rfl⟩ rfl
set_option maxRecDepth 8192 in
theorem xk_lies_0h {b0 : Nat} {fx : List Value} (hx : h[b0 + 0]? = some (.inr (11, fx))) (lx : fx.length = 12) {x1 : Int32} {x2 : Int32} (u : 11 < x1.toInt) : jCal l g 13 2 [.ref (g.2.2 + (b0 + 0)), .int x1, .int x2] h 0 0 (fun v h' => v = some (.int (Int32.ofInt (-1))) ∧ h' = h.set (b0 + 0) (.inr (11, fx.set 7 (.int (Int32.ofInt (-1)))))) := by
  have hcls : jcN 11 = (jyN 13).cls := by decide +kernel
  have cn0 : (Int32.ofInt 0).toInt = 0 := by decide
  have cn1 : (Int32.ofInt (-1)).toInt = -1 := by decide
  refine jCal_of (by decide +kernel) (show 3 ≤ jmx 13 by decide +kernel) ?_
  show J l g 13 2 0 [some (.ref (g.2.2 + (b0 + 0))), some (.int x1), some (.int x2), none] [] h 0 0 _
  refine j_iload_n (k4 := 1) (dQ (by decide +kernel)) rfl ?_
  refine j_cS (own := 11) (i := 34) (y2 := 14) (d2 := 1) (mc := 0) (ms := 0) (kc := 0) (ks := 0) (As := [.int x1]) (st := []) (dQ (by decide +kernel)) hcls (by decide +kernel) (by decide) (by decide +kernel) (show 1 = jnp 14 by decide +kernel) (by decide) (show 0 ≤ 8 by decide) (x_isBerth_0h (by omega)) (fun v hv2 hq => ?_)
  obtain ⟨rfl, rfl⟩ := hq
  refine j_if_eq (off := 15) (tgt := 19) (dQ (by decide +kernel)) (by decide) (fun _ => ?_) (fun q => absurd (i32_eq (show _ = (0 : Int32).toInt by rw [i32_z]; omega)) q)
  refine j_aload_n (k4 := 0) (dQ (by decide +kernel)) rfl ?_
  refine j_iconst (n := (-1)) (dQ (by decide +kernel)) ?_
  refine j_cV (own := 11) (i := 41) (y2 := 16) (d2 := 1) (mc := 0) (ms := 0) (kc := 0) (ks := 0) (a := b0 + 0) (As := [.int (Int32.ofInt (-1))]) (st := []) (dQ (by decide +kernel)) hcls (by decide +kernel) (by decide) (by decide +kernel) (show 1 = jnp 16 by decide +kernel) (by decide) (show 0 ≤ 8 by decide) hx (fun r hr => by cases hr; decide +kernel) (x_refuse hx lx) (fun v hv4 hq => ?_)
  obtain ⟨rfl, rfl⟩ := hq
  have n5 : (fx.set 7 (.int (Int32.ofInt (-1)))).length = 12 := by rw [List.length_set]; exact lx
  have k6 : (h.set (b0 + 0) (.inr (11, (fx.set 7 (.int (Int32.ofInt (-1)))))))[b0 + 0]? = some (.inr (11, (fx.set 7 (.int (Int32.ofInt (-1)))))) := List.getElem?_set_self (List.getElem?_eq_some_iff.mp hx).1
  exact j_ret (v := some (.int (Int32.ofInt (-1)))) ⟨by decide +kernel, Or.inl (by decide +kernel)⟩ ⟨rfl, rfl⟩ rfl
set_option maxRecDepth 8192 in
theorem xk_lies_1l {b0 : Nat} {fx : List Value} (hx : h[b0 + 0]? = some (.inr (11, fx))) (lx : fx.length = 12) {x1 : Int32} {x2 : Int32} (g1 : 0 ≤ x1.toInt ∧ x1.toInt ≤ 11) (u : x2.toInt < -1) : jCal l g 13 2 [.ref (g.2.2 + (b0 + 0)), .int x1, .int x2] h 0 0 (fun v h' => v = some (.int (Int32.ofInt (-1))) ∧ h' = h.set (b0 + 0) (.inr (11, fx.set 7 (.int (Int32.ofInt (-1)))))) := by
  have hcls : jcN 11 = (jyN 13).cls := by decide +kernel
  have cn0 : (Int32.ofInt 1).toInt = 1 := by decide
  have cn1 : (Int32.ofInt (-1)).toInt = -1 := by decide
  have cn2 : (Int32.ofInt 0).toInt = 0 := by decide
  refine jCal_of (by decide +kernel) (show 3 ≤ jmx 13 by decide +kernel) ?_
  show J l g 13 2 0 [some (.ref (g.2.2 + (b0 + 0))), some (.int x1), some (.int x2), none] [] h 0 0 _
  refine j_iload_n (k4 := 1) (dQ (by decide +kernel)) rfl ?_
  refine j_cS (own := 11) (i := 34) (y2 := 14) (d2 := 1) (mc := 0) (ms := 0) (kc := 0) (ks := 0) (As := [.int x1]) (st := []) (dQ (by decide +kernel)) hcls (by decide +kernel) (by decide) (by decide +kernel) (show 1 = jnp 14 by decide +kernel) (by decide) (show 0 ≤ 8 by decide) (x_isBerth_1 (by omega) (by omega)) (fun v hv2 hq => ?_)
  obtain ⟨rfl, rfl⟩ := hq
  refine j_if_eq (off := 15) (tgt := 19) (dQ (by decide +kernel)) (by decide) (fun q => absurd (congrArg Int32.toInt q) (by rw [i32_z]; omega)) (fun _ => ?_)
  refine j_iload_n (k4 := 2) (dQ (by decide +kernel)) rfl ?_
  refine j_iconst (n := (-1)) (dQ (by decide +kernel)) ?_
  refine j_icmp_eq (off := 16) (tgt := 25) (dQ (by decide +kernel)) (by decide) (fun q => absurd (congrArg Int32.toInt q) (by omega)) (fun _ => ?_)
  refine j_iload_n (k4 := 2) (dQ (by decide +kernel)) rfl ?_
  refine j_cS (own := 11) (i := 38) (y2 := 15) (d2 := 1) (mc := 0) (ms := 0) (kc := 0) (ks := 0) (As := [.int x2]) (st := []) (dQ (by decide +kernel)) hcls (by decide +kernel) (by decide) (by decide +kernel) (show 1 = jnp 15 by decide +kernel) (by decide) (show 0 ≤ 8 by decide) (x_isTrack_0l (by omega)) (fun v hv4 hq => ?_)
  obtain ⟨rfl, rfl⟩ := hq
  refine j_if_ne (off := 9) (tgt := 25) (dQ (by decide +kernel)) (by decide) (fun q => absurd (i32_eq (show _ = (0 : Int32).toInt by rw [i32_z]; omega)) q) (fun _ => ?_)
  refine j_aload_n (k4 := 0) (dQ (by decide +kernel)) rfl ?_
  refine j_iconst (n := (-1)) (dQ (by decide +kernel)) ?_
  refine j_cV (own := 11) (i := 41) (y2 := 16) (d2 := 1) (mc := 0) (ms := 0) (kc := 0) (ks := 0) (a := b0 + 0) (As := [.int (Int32.ofInt (-1))]) (st := []) (dQ (by decide +kernel)) hcls (by decide +kernel) (by decide) (by decide +kernel) (show 1 = jnp 16 by decide +kernel) (by decide) (show 0 ≤ 8 by decide) hx (fun r hr => by cases hr; decide +kernel) (x_refuse hx lx) (fun v hv6 hq => ?_)
  obtain ⟨rfl, rfl⟩ := hq
  have n7 : (fx.set 7 (.int (Int32.ofInt (-1)))).length = 12 := by rw [List.length_set]; exact lx
  have k8 : (h.set (b0 + 0) (.inr (11, (fx.set 7 (.int (Int32.ofInt (-1)))))))[b0 + 0]? = some (.inr (11, (fx.set 7 (.int (Int32.ofInt (-1)))))) := List.getElem?_set_self (List.getElem?_eq_some_iff.mp hx).1
  exact j_ret (v := some (.int (Int32.ofInt (-1)))) ⟨by decide +kernel, Or.inl (by decide +kernel)⟩ ⟨rfl, rfl⟩ rfl
set_option maxRecDepth 8192 in
theorem xk_lies_1h {b0 : Nat} {fx : List Value} (hx : h[b0 + 0]? = some (.inr (11, fx))) (lx : fx.length = 12) {x1 : Int32} {x2 : Int32} (g1 : 0 ≤ x1.toInt ∧ x1.toInt ≤ 11) (u : 15 < x2.toInt) : jCal l g 13 2 [.ref (g.2.2 + (b0 + 0)), .int x1, .int x2] h 0 0 (fun v h' => v = some (.int (Int32.ofInt (-1))) ∧ h' = h.set (b0 + 0) (.inr (11, fx.set 7 (.int (Int32.ofInt (-1)))))) := by
  have hcls : jcN 11 = (jyN 13).cls := by decide +kernel
  have cn0 : (Int32.ofInt 1).toInt = 1 := by decide
  have cn1 : (Int32.ofInt (-1)).toInt = -1 := by decide
  have cn2 : (Int32.ofInt 0).toInt = 0 := by decide
  refine jCal_of (by decide +kernel) (show 3 ≤ jmx 13 by decide +kernel) ?_
  show J l g 13 2 0 [some (.ref (g.2.2 + (b0 + 0))), some (.int x1), some (.int x2), none] [] h 0 0 _
  refine j_iload_n (k4 := 1) (dQ (by decide +kernel)) rfl ?_
  refine j_cS (own := 11) (i := 34) (y2 := 14) (d2 := 1) (mc := 0) (ms := 0) (kc := 0) (ks := 0) (As := [.int x1]) (st := []) (dQ (by decide +kernel)) hcls (by decide +kernel) (by decide) (by decide +kernel) (show 1 = jnp 14 by decide +kernel) (by decide) (show 0 ≤ 8 by decide) (x_isBerth_1 (by omega) (by omega)) (fun v hv2 hq => ?_)
  obtain ⟨rfl, rfl⟩ := hq
  refine j_if_eq (off := 15) (tgt := 19) (dQ (by decide +kernel)) (by decide) (fun q => absurd (congrArg Int32.toInt q) (by rw [i32_z]; omega)) (fun _ => ?_)
  refine j_iload_n (k4 := 2) (dQ (by decide +kernel)) rfl ?_
  refine j_iconst (n := (-1)) (dQ (by decide +kernel)) ?_
  refine j_icmp_eq (off := 16) (tgt := 25) (dQ (by decide +kernel)) (by decide) (fun q => absurd (congrArg Int32.toInt q) (by omega)) (fun _ => ?_)
  refine j_iload_n (k4 := 2) (dQ (by decide +kernel)) rfl ?_
  refine j_cS (own := 11) (i := 38) (y2 := 15) (d2 := 1) (mc := 0) (ms := 0) (kc := 0) (ks := 0) (As := [.int x2]) (st := []) (dQ (by decide +kernel)) hcls (by decide +kernel) (by decide) (by decide +kernel) (show 1 = jnp 15 by decide +kernel) (by decide) (show 0 ≤ 8 by decide) (x_isTrack_0h (by omega)) (fun v hv4 hq => ?_)
  obtain ⟨rfl, rfl⟩ := hq
  refine j_if_ne (off := 9) (tgt := 25) (dQ (by decide +kernel)) (by decide) (fun q => absurd (i32_eq (show _ = (0 : Int32).toInt by rw [i32_z]; omega)) q) (fun _ => ?_)
  refine j_aload_n (k4 := 0) (dQ (by decide +kernel)) rfl ?_
  refine j_iconst (n := (-1)) (dQ (by decide +kernel)) ?_
  refine j_cV (own := 11) (i := 41) (y2 := 16) (d2 := 1) (mc := 0) (ms := 0) (kc := 0) (ks := 0) (a := b0 + 0) (As := [.int (Int32.ofInt (-1))]) (st := []) (dQ (by decide +kernel)) hcls (by decide +kernel) (by decide) (by decide +kernel) (show 1 = jnp 16 by decide +kernel) (by decide) (show 0 ≤ 8 by decide) hx (fun r hr => by cases hr; decide +kernel) (x_refuse hx lx) (fun v hv6 hq => ?_)
  obtain ⟨rfl, rfl⟩ := hq
  have n7 : (fx.set 7 (.int (Int32.ofInt (-1)))).length = 12 := by rw [List.length_set]; exact lx
  have k8 : (h.set (b0 + 0) (.inr (11, (fx.set 7 (.int (Int32.ofInt (-1)))))))[b0 + 0]? = some (.inr (11, (fx.set 7 (.int (Int32.ofInt (-1)))))) := List.getElem?_set_self (List.getElem?_eq_some_iff.mp hx).1
  exact j_ret (v := some (.int (Int32.ofInt (-1)))) ⟨by decide +kernel, Or.inl (by decide +kernel)⟩ ⟨rfl, rfl⟩ rfl
set_option maxRecDepth 8192 in
theorem xr_lies_0l {b1 : Nat} {fm : List Value} (hm : h[b1 + 0]? = some (.inr (12, fm))) (lm : fm.length = 42) {x1 : Int32} {x2 : Int32} (u : x1.toInt < 0) : jCal l g 234 3 [.ref (g.2.2 + (b1 + 0)), .int x1, .int x2] h 0 0 (fun v h' => v = some (.int (Int32.ofInt (-1))) ∧ h' = (h.set (b1 + 0) (.inr (12, fm.set 0 (.int (Int32.ofInt 0))))).set (b1 + 0) (.inr (12, (fm.set 0 (.int (Int32.ofInt 0))).set 1 (.int (Int32.ofInt (-1)))))) := by
  have hcls : jcN 12 = (jyN 234).cls := by decide +kernel
  have cn0 : (Int32.ofInt 0).toInt = 0 := by decide
  have cn1 : (Int32.ofInt (-1)).toInt = -1 := by decide
  refine jCal_of (by decide +kernel) (show 3 ≤ jmx 234 by decide +kernel) ?_
  show J l g 234 3 0 [some (.ref (g.2.2 + (b1 + 0))), some (.int x1), some (.int x2), none] [] h 0 0 _
  refine j_aload_n (k4 := 0) (dQ (by decide +kernel)) rfl ?_
  refine j_iconst (n := 0) (dQ (by decide +kernel)) ?_
  refine j_put (own := 12) (i := 94) (ci := 12) (f := 0) (ty := .int) (dQ (by decide +kernel)) hcls (by decide +kernel) hm rfl (by decide +kernel) (by rw [lm]; decide) (by decide +kernel) (by decide +kernel) rfl rfl ?_
  have n1 : (fm.set 0 (.int (Int32.ofInt 0))).length = 42 := by rw [List.length_set]; exact lm
  have f2 : (fm.set 0 (.int (Int32.ofInt 0)))[0]? = some (.int (Int32.ofInt 0)) := List.getElem?_set_self (by rw [lm]; decide)
  have k3 : (h.set (b1 + 0) (.inr (12, (fm.set 0 (.int (Int32.ofInt 0))))))[b1 + 0]? = some (.inr (12, (fm.set 0 (.int (Int32.ofInt 0))))) := List.getElem?_set_self (List.getElem?_eq_some_iff.mp hm).1
  refine j_iload_n (k4 := 1) (dQ (by decide +kernel)) rfl ?_
  refine j_cS (own := 12) (i := 285) (y2 := 235) (d2 := 2) (mc := 0) (ms := 0) (kc := 0) (ks := 0) (As := [.int x1]) (st := []) (dQ (by decide +kernel)) hcls (by decide +kernel) (by decide) (by decide +kernel) (show 1 = jnp 235 by decide +kernel) (by decide) (show 0 ≤ 8 by decide) (xm_isBerth_0l (by omega)) (fun v hv5 hq => ?_)
  obtain ⟨rfl, rfl⟩ := hq
  refine j_if_eq (off := 17) (tgt := 26) (dQ (by decide +kernel)) (by decide) (fun _ => ?_) (fun q => absurd (i32_eq (show _ = (0 : Int32).toInt by rw [i32_z]; omega)) q)
  refine j_aload_n (k4 := 0) (dQ (by decide +kernel)) rfl ?_
  refine j_iconst (n := (-1)) (dQ (by decide +kernel)) ?_
  refine j_cV (own := 12) (i := 104) (y2 := 206) (d2 := 1) (mc := 0) (ms := 0) (kc := 0) (ks := 0) (a := b1 + 0) (As := [.int (Int32.ofInt (-1))]) (st := []) (dQ (by decide +kernel)) hcls (by decide +kernel) (by decide) (by decide +kernel) (show 1 = jnp 206 by decide +kernel) (by decide) (show 0 ≤ 8 by decide) k3 (fun r hr => by cases hr; decide +kernel) (xm_tellN k3 n1 (by omega)) (fun v hv7 hq => ?_)
  obtain ⟨rfl, rfl⟩ := hq
  have n8 : ((fm.set 0 (.int (Int32.ofInt 0))).set 1 (.int (Int32.ofInt (-1)))).length = 42 := by rw [List.length_set]; exact n1
  have f9 : ((fm.set 0 (.int (Int32.ofInt 0))).set 1 (.int (Int32.ofInt (-1))))[0]? = some (.int (Int32.ofInt 0)) := by
    rw [List.getElem?_set_ne (by decide)]
    exact f2
  have k10 : ((h.set (b1 + 0) (.inr (12, (fm.set 0 (.int (Int32.ofInt 0)))))).set (b1 + 0) (.inr (12, ((fm.set 0 (.int (Int32.ofInt 0))).set 1 (.int (Int32.ofInt (-1)))))))[b1 + 0]? = some (.inr (12, ((fm.set 0 (.int (Int32.ofInt 0))).set 1 (.int (Int32.ofInt (-1)))))) := List.getElem?_set_self (List.getElem?_eq_some_iff.mp k3).1
  exact j_ret (v := some (.int (Int32.ofInt (-1)))) ⟨by decide +kernel, Or.inl (by decide +kernel)⟩ ⟨rfl, rfl⟩ rfl
set_option maxRecDepth 8192 in
theorem xr_lies_0h {b1 : Nat} {fm : List Value} (hm : h[b1 + 0]? = some (.inr (12, fm))) (lm : fm.length = 42) {x1 : Int32} {x2 : Int32} (u : 11 < x1.toInt) : jCal l g 234 3 [.ref (g.2.2 + (b1 + 0)), .int x1, .int x2] h 0 0 (fun v h' => v = some (.int (Int32.ofInt (-1))) ∧ h' = (h.set (b1 + 0) (.inr (12, fm.set 0 (.int (Int32.ofInt 0))))).set (b1 + 0) (.inr (12, (fm.set 0 (.int (Int32.ofInt 0))).set 1 (.int (Int32.ofInt (-1)))))) := by
  have hcls : jcN 12 = (jyN 234).cls := by decide +kernel
  have cn0 : (Int32.ofInt 0).toInt = 0 := by decide
  have cn1 : (Int32.ofInt (-1)).toInt = -1 := by decide
  refine jCal_of (by decide +kernel) (show 3 ≤ jmx 234 by decide +kernel) ?_
  show J l g 234 3 0 [some (.ref (g.2.2 + (b1 + 0))), some (.int x1), some (.int x2), none] [] h 0 0 _
  refine j_aload_n (k4 := 0) (dQ (by decide +kernel)) rfl ?_
  refine j_iconst (n := 0) (dQ (by decide +kernel)) ?_
  refine j_put (own := 12) (i := 94) (ci := 12) (f := 0) (ty := .int) (dQ (by decide +kernel)) hcls (by decide +kernel) hm rfl (by decide +kernel) (by rw [lm]; decide) (by decide +kernel) (by decide +kernel) rfl rfl ?_
  have n1 : (fm.set 0 (.int (Int32.ofInt 0))).length = 42 := by rw [List.length_set]; exact lm
  have f2 : (fm.set 0 (.int (Int32.ofInt 0)))[0]? = some (.int (Int32.ofInt 0)) := List.getElem?_set_self (by rw [lm]; decide)
  have k3 : (h.set (b1 + 0) (.inr (12, (fm.set 0 (.int (Int32.ofInt 0))))))[b1 + 0]? = some (.inr (12, (fm.set 0 (.int (Int32.ofInt 0))))) := List.getElem?_set_self (List.getElem?_eq_some_iff.mp hm).1
  refine j_iload_n (k4 := 1) (dQ (by decide +kernel)) rfl ?_
  refine j_cS (own := 12) (i := 285) (y2 := 235) (d2 := 2) (mc := 0) (ms := 0) (kc := 0) (ks := 0) (As := [.int x1]) (st := []) (dQ (by decide +kernel)) hcls (by decide +kernel) (by decide) (by decide +kernel) (show 1 = jnp 235 by decide +kernel) (by decide) (show 0 ≤ 8 by decide) (xm_isBerth_0h (by omega)) (fun v hv5 hq => ?_)
  obtain ⟨rfl, rfl⟩ := hq
  refine j_if_eq (off := 17) (tgt := 26) (dQ (by decide +kernel)) (by decide) (fun _ => ?_) (fun q => absurd (i32_eq (show _ = (0 : Int32).toInt by rw [i32_z]; omega)) q)
  refine j_aload_n (k4 := 0) (dQ (by decide +kernel)) rfl ?_
  refine j_iconst (n := (-1)) (dQ (by decide +kernel)) ?_
  refine j_cV (own := 12) (i := 104) (y2 := 206) (d2 := 1) (mc := 0) (ms := 0) (kc := 0) (ks := 0) (a := b1 + 0) (As := [.int (Int32.ofInt (-1))]) (st := []) (dQ (by decide +kernel)) hcls (by decide +kernel) (by decide) (by decide +kernel) (show 1 = jnp 206 by decide +kernel) (by decide) (show 0 ≤ 8 by decide) k3 (fun r hr => by cases hr; decide +kernel) (xm_tellN k3 n1 (by omega)) (fun v hv7 hq => ?_)
  obtain ⟨rfl, rfl⟩ := hq
  have n8 : ((fm.set 0 (.int (Int32.ofInt 0))).set 1 (.int (Int32.ofInt (-1)))).length = 42 := by rw [List.length_set]; exact n1
  have f9 : ((fm.set 0 (.int (Int32.ofInt 0))).set 1 (.int (Int32.ofInt (-1))))[0]? = some (.int (Int32.ofInt 0)) := by
    rw [List.getElem?_set_ne (by decide)]
    exact f2
  have k10 : ((h.set (b1 + 0) (.inr (12, (fm.set 0 (.int (Int32.ofInt 0)))))).set (b1 + 0) (.inr (12, ((fm.set 0 (.int (Int32.ofInt 0))).set 1 (.int (Int32.ofInt (-1)))))))[b1 + 0]? = some (.inr (12, ((fm.set 0 (.int (Int32.ofInt 0))).set 1 (.int (Int32.ofInt (-1)))))) := List.getElem?_set_self (List.getElem?_eq_some_iff.mp k3).1
  exact j_ret (v := some (.int (Int32.ofInt (-1)))) ⟨by decide +kernel, Or.inl (by decide +kernel)⟩ ⟨rfl, rfl⟩ rfl
set_option maxRecDepth 8192 in
theorem xr_lies_1l {b1 : Nat} {fm : List Value} (hm : h[b1 + 0]? = some (.inr (12, fm))) (lm : fm.length = 42) {x1 : Int32} {x2 : Int32} (g1 : 0 ≤ x1.toInt ∧ x1.toInt ≤ 11) (u : x2.toInt < -1) : jCal l g 234 3 [.ref (g.2.2 + (b1 + 0)), .int x1, .int x2] h 0 0 (fun v h' => v = some (.int (Int32.ofInt (-1))) ∧ h' = (h.set (b1 + 0) (.inr (12, fm.set 0 (.int (Int32.ofInt 0))))).set (b1 + 0) (.inr (12, (fm.set 0 (.int (Int32.ofInt 0))).set 1 (.int (Int32.ofInt (-1)))))) := by
  have hcls : jcN 12 = (jyN 234).cls := by decide +kernel
  have cn0 : (Int32.ofInt 0).toInt = 0 := by decide
  have cn1 : (Int32.ofInt 1).toInt = 1 := by decide
  have cn2 : (Int32.ofInt (-1)).toInt = -1 := by decide
  refine jCal_of (by decide +kernel) (show 3 ≤ jmx 234 by decide +kernel) ?_
  show J l g 234 3 0 [some (.ref (g.2.2 + (b1 + 0))), some (.int x1), some (.int x2), none] [] h 0 0 _
  refine j_aload_n (k4 := 0) (dQ (by decide +kernel)) rfl ?_
  refine j_iconst (n := 0) (dQ (by decide +kernel)) ?_
  refine j_put (own := 12) (i := 94) (ci := 12) (f := 0) (ty := .int) (dQ (by decide +kernel)) hcls (by decide +kernel) hm rfl (by decide +kernel) (by rw [lm]; decide) (by decide +kernel) (by decide +kernel) rfl rfl ?_
  have n1 : (fm.set 0 (.int (Int32.ofInt 0))).length = 42 := by rw [List.length_set]; exact lm
  have f2 : (fm.set 0 (.int (Int32.ofInt 0)))[0]? = some (.int (Int32.ofInt 0)) := List.getElem?_set_self (by rw [lm]; decide)
  have k3 : (h.set (b1 + 0) (.inr (12, (fm.set 0 (.int (Int32.ofInt 0))))))[b1 + 0]? = some (.inr (12, (fm.set 0 (.int (Int32.ofInt 0))))) := List.getElem?_set_self (List.getElem?_eq_some_iff.mp hm).1
  refine j_iload_n (k4 := 1) (dQ (by decide +kernel)) rfl ?_
  refine j_cS (own := 12) (i := 285) (y2 := 235) (d2 := 2) (mc := 0) (ms := 0) (kc := 0) (ks := 0) (As := [.int x1]) (st := []) (dQ (by decide +kernel)) hcls (by decide +kernel) (by decide) (by decide +kernel) (show 1 = jnp 235 by decide +kernel) (by decide) (show 0 ≤ 8 by decide) (xm_isBerth_1 (by omega) (by omega)) (fun v hv5 hq => ?_)
  obtain ⟨rfl, rfl⟩ := hq
  refine j_if_eq (off := 17) (tgt := 26) (dQ (by decide +kernel)) (by decide) (fun q => absurd (congrArg Int32.toInt q) (by rw [i32_z]; omega)) (fun _ => ?_)
  refine j_iload_n (k4 := 2) (dQ (by decide +kernel)) rfl ?_
  refine x_i2l (dQ (by decide +kernel)) (fun r6 hr6 => ?_)
  refine j_ldc2 (own := 12) (i := 163) (v := -1) hcls (by decide +kernel) (by decide +kernel) ?_
  have hq7 : (-1 : Int64).toInt = -1 := by decide
  refine j_ldc2 (own := 12) (i := 110) (v := 15) hcls (by decide +kernel) (by decide +kernel) ?_
  have hq8 : (15 : Int64).toInt = 15 := by decide
  refine j_cS (own := 12) (i := 100) (y2 := 205) (d2 := 1) (mc := 0) (ms := 0) (kc := 0) (ks := 0) (As := [.long r6, .long (-1 : Int64), .long (15 : Int64)]) (st := []) (dQ (by decide +kernel)) hcls (by decide +kernel) (by decide) (by decide +kernel) (show 3 = jnp 205 by decide +kernel) (by decide) (show 0 ≤ 8 by decide) (xm_in_0l (by omega)) (fun v hv10 hq => ?_)
  obtain ⟨rfl, rfl⟩ := hq
  refine j_if_ne (off := 9) (tgt := 32) (dQ (by decide +kernel)) (by decide) (fun q => absurd (i32_eq (show _ = (0 : Int32).toInt by rw [i32_z]; omega)) q) (fun _ => ?_)
  refine j_aload_n (k4 := 0) (dQ (by decide +kernel)) rfl ?_
  refine j_iconst (n := (-1)) (dQ (by decide +kernel)) ?_
  refine j_cV (own := 12) (i := 104) (y2 := 206) (d2 := 1) (mc := 0) (ms := 0) (kc := 0) (ks := 0) (a := b1 + 0) (As := [.int (Int32.ofInt (-1))]) (st := []) (dQ (by decide +kernel)) hcls (by decide +kernel) (by decide) (by decide +kernel) (show 1 = jnp 206 by decide +kernel) (by decide) (show 0 ≤ 8 by decide) k3 (fun r hr => by cases hr; decide +kernel) (xm_tellN k3 n1 (by omega)) (fun v hv12 hq => ?_)
  obtain ⟨rfl, rfl⟩ := hq
  have n13 : ((fm.set 0 (.int (Int32.ofInt 0))).set 1 (.int (Int32.ofInt (-1)))).length = 42 := by rw [List.length_set]; exact n1
  have f14 : ((fm.set 0 (.int (Int32.ofInt 0))).set 1 (.int (Int32.ofInt (-1))))[0]? = some (.int (Int32.ofInt 0)) := by
    rw [List.getElem?_set_ne (by decide)]
    exact f2
  have k15 : ((h.set (b1 + 0) (.inr (12, (fm.set 0 (.int (Int32.ofInt 0)))))).set (b1 + 0) (.inr (12, ((fm.set 0 (.int (Int32.ofInt 0))).set 1 (.int (Int32.ofInt (-1)))))))[b1 + 0]? = some (.inr (12, ((fm.set 0 (.int (Int32.ofInt 0))).set 1 (.int (Int32.ofInt (-1)))))) := List.getElem?_set_self (List.getElem?_eq_some_iff.mp k3).1
  exact j_ret (v := some (.int (Int32.ofInt (-1)))) ⟨by decide +kernel, Or.inl (by decide +kernel)⟩ ⟨rfl, rfl⟩ rfl
set_option maxRecDepth 8192 in
theorem xr_lies_1h {b1 : Nat} {fm : List Value} (hm : h[b1 + 0]? = some (.inr (12, fm))) (lm : fm.length = 42) {x1 : Int32} {x2 : Int32} (g1 : 0 ≤ x1.toInt ∧ x1.toInt ≤ 11) (u : 15 < x2.toInt) : jCal l g 234 3 [.ref (g.2.2 + (b1 + 0)), .int x1, .int x2] h 0 0 (fun v h' => v = some (.int (Int32.ofInt (-1))) ∧ h' = (h.set (b1 + 0) (.inr (12, fm.set 0 (.int (Int32.ofInt 0))))).set (b1 + 0) (.inr (12, (fm.set 0 (.int (Int32.ofInt 0))).set 1 (.int (Int32.ofInt (-1)))))) := by
  have hcls : jcN 12 = (jyN 234).cls := by decide +kernel
  have cn0 : (Int32.ofInt 0).toInt = 0 := by decide
  have cn1 : (Int32.ofInt 1).toInt = 1 := by decide
  have cn2 : (Int32.ofInt (-1)).toInt = -1 := by decide
  refine jCal_of (by decide +kernel) (show 3 ≤ jmx 234 by decide +kernel) ?_
  show J l g 234 3 0 [some (.ref (g.2.2 + (b1 + 0))), some (.int x1), some (.int x2), none] [] h 0 0 _
  refine j_aload_n (k4 := 0) (dQ (by decide +kernel)) rfl ?_
  refine j_iconst (n := 0) (dQ (by decide +kernel)) ?_
  refine j_put (own := 12) (i := 94) (ci := 12) (f := 0) (ty := .int) (dQ (by decide +kernel)) hcls (by decide +kernel) hm rfl (by decide +kernel) (by rw [lm]; decide) (by decide +kernel) (by decide +kernel) rfl rfl ?_
  have n1 : (fm.set 0 (.int (Int32.ofInt 0))).length = 42 := by rw [List.length_set]; exact lm
  have f2 : (fm.set 0 (.int (Int32.ofInt 0)))[0]? = some (.int (Int32.ofInt 0)) := List.getElem?_set_self (by rw [lm]; decide)
  have k3 : (h.set (b1 + 0) (.inr (12, (fm.set 0 (.int (Int32.ofInt 0))))))[b1 + 0]? = some (.inr (12, (fm.set 0 (.int (Int32.ofInt 0))))) := List.getElem?_set_self (List.getElem?_eq_some_iff.mp hm).1
  refine j_iload_n (k4 := 1) (dQ (by decide +kernel)) rfl ?_
  refine j_cS (own := 12) (i := 285) (y2 := 235) (d2 := 2) (mc := 0) (ms := 0) (kc := 0) (ks := 0) (As := [.int x1]) (st := []) (dQ (by decide +kernel)) hcls (by decide +kernel) (by decide) (by decide +kernel) (show 1 = jnp 235 by decide +kernel) (by decide) (show 0 ≤ 8 by decide) (xm_isBerth_1 (by omega) (by omega)) (fun v hv5 hq => ?_)
  obtain ⟨rfl, rfl⟩ := hq
  refine j_if_eq (off := 17) (tgt := 26) (dQ (by decide +kernel)) (by decide) (fun q => absurd (congrArg Int32.toInt q) (by rw [i32_z]; omega)) (fun _ => ?_)
  refine j_iload_n (k4 := 2) (dQ (by decide +kernel)) rfl ?_
  refine x_i2l (dQ (by decide +kernel)) (fun r6 hr6 => ?_)
  refine j_ldc2 (own := 12) (i := 163) (v := -1) hcls (by decide +kernel) (by decide +kernel) ?_
  have hq7 : (-1 : Int64).toInt = -1 := by decide
  refine j_ldc2 (own := 12) (i := 110) (v := 15) hcls (by decide +kernel) (by decide +kernel) ?_
  have hq8 : (15 : Int64).toInt = 15 := by decide
  refine j_cS (own := 12) (i := 100) (y2 := 205) (d2 := 1) (mc := 0) (ms := 0) (kc := 0) (ks := 0) (As := [.long r6, .long (-1 : Int64), .long (15 : Int64)]) (st := []) (dQ (by decide +kernel)) hcls (by decide +kernel) (by decide) (by decide +kernel) (show 3 = jnp 205 by decide +kernel) (by decide) (show 0 ≤ 8 by decide) (xm_in_0h (by omega) (by omega)) (fun v hv10 hq => ?_)
  obtain ⟨rfl, rfl⟩ := hq
  refine j_if_ne (off := 9) (tgt := 32) (dQ (by decide +kernel)) (by decide) (fun q => absurd (i32_eq (show _ = (0 : Int32).toInt by rw [i32_z]; omega)) q) (fun _ => ?_)
  refine j_aload_n (k4 := 0) (dQ (by decide +kernel)) rfl ?_
  refine j_iconst (n := (-1)) (dQ (by decide +kernel)) ?_
  refine j_cV (own := 12) (i := 104) (y2 := 206) (d2 := 1) (mc := 0) (ms := 0) (kc := 0) (ks := 0) (a := b1 + 0) (As := [.int (Int32.ofInt (-1))]) (st := []) (dQ (by decide +kernel)) hcls (by decide +kernel) (by decide) (by decide +kernel) (show 1 = jnp 206 by decide +kernel) (by decide) (show 0 ≤ 8 by decide) k3 (fun r hr => by cases hr; decide +kernel) (xm_tellN k3 n1 (by omega)) (fun v hv12 hq => ?_)
  obtain ⟨rfl, rfl⟩ := hq
  have n13 : ((fm.set 0 (.int (Int32.ofInt 0))).set 1 (.int (Int32.ofInt (-1)))).length = 42 := by rw [List.length_set]; exact n1
  have f14 : ((fm.set 0 (.int (Int32.ofInt 0))).set 1 (.int (Int32.ofInt (-1))))[0]? = some (.int (Int32.ofInt 0)) := by
    rw [List.getElem?_set_ne (by decide)]
    exact f2
  have k15 : ((h.set (b1 + 0) (.inr (12, (fm.set 0 (.int (Int32.ofInt 0)))))).set (b1 + 0) (.inr (12, ((fm.set 0 (.int (Int32.ofInt 0))).set 1 (.int (Int32.ofInt (-1)))))))[b1 + 0]? = some (.inr (12, ((fm.set 0 (.int (Int32.ofInt 0))).set 1 (.int (Int32.ofInt (-1)))))) := List.getElem?_set_self (List.getElem?_eq_some_iff.mp k3).1
  exact j_ret (v := some (.int (Int32.ofInt (-1)))) ⟨by decide +kernel, Or.inl (by decide +kernel)⟩ ⟨rfl, rfl⟩ rfl
set_option maxRecDepth 8192 in
theorem xk_bad {b0 : Nat} {fx fs : List Value} {f : Nat → Int32} (hx : h[b0 + 0]? = some (.inr (11, fx))) (lx : fx.length = 12) (px : fx[0]? = some (.ref (g.2.2 + (b0 + 1)))) (hs : h[b0 + 1]? = some (.inr (7, fs))) (ps : fs[10]? = some (.ref (g.2.2 + (b0 + 24)))) (ha : h[b0 + 24]? = some (.inl (0, 12, f))) {x1 : Int32} {x2 : Int32} {b : Nat} (e1 : x1.toInt = (b : Int)) (g1 : b ≤ 11) (g2 : 0 ≤ x2.toInt ∧ x2.toInt ≤ 1023) : jCal l g 183 2 [.ref (g.2.2 + (b0 + 0)), .int x1, .int x2] h 0 0 (fun v h' => v = some (.int (f b)) ∧ h' = (h.set (b0 + 24) (.inl (0, 12, upd f b x2))).set (b0 + 0) (.inr (11, fx.set 7 (.int (Int32.ofInt 0))))) := by
  have hcls : jcN 11 = (jyN 183).cls := by decide +kernel
  have cn0 : (Int32.ofInt 1).toInt = 1 := by decide
  have cn1 : (Int32.ofInt 1023).toInt = 1023 := by decide
  have cn2 : (Int32.ofInt 0).toInt = 0 := by decide
  refine jCal_of (by decide +kernel) (show 3 ≤ jmx 183 by decide +kernel) ?_
  show J l g 183 2 0 [some (.ref (g.2.2 + (b0 + 0))), some (.int x1), some (.int x2), none] [] h 0 0 _
  refine j_iload_n (k4 := 1) (dQ (by decide +kernel)) rfl ?_
  refine j_cS (own := 11) (i := 34) (y2 := 14) (d2 := 1) (mc := 0) (ms := 0) (kc := 0) (ks := 0) (As := [.int x1]) (st := []) (dQ (by decide +kernel)) hcls (by decide +kernel) (by decide) (by decide +kernel) (show 1 = jnp 14 by decide +kernel) (by decide) (show 0 ≤ 8 by decide) (x_isBerth_1 (by omega) (by omega)) (fun v hv2 hq => ?_)
  obtain ⟨rfl, rfl⟩ := hq
  refine j_if_eq (off := 14) (tgt := 18) (dQ (by decide +kernel)) (by decide) (fun q => absurd (congrArg Int32.toInt q) (by rw [i32_z]; omega)) (fun _ => ?_)
  refine j_iload_n (k4 := 2) (dQ (by decide +kernel)) rfl ?_
  refine j_if_lt (off := 10) (tgt := 18) (dQ (by decide +kernel)) (by decide) (fun q => absurd (i32_lt.mp q) (by rw [i32_z]; omega)) (fun _ => ?_)
  refine j_iload_n (k4 := 2) (dQ (by decide +kernel)) rfl ?_
  refine x_si (n := 1023) (dQ (by decide +kernel)) (by decide) ?_
  refine j_icmp_le (off := 9) (tgt := 24) (dQ (by decide +kernel)) (by decide) (fun _ => ?_) (fun q => absurd (i32_le.mpr (by omega)) q)
  refine j_aload_n (k4 := 0) (dQ (by decide +kernel)) rfl ?_
  refine j_get (own := 11) (i := 10) (ci := 11) (f := 0) (dQ (by decide +kernel)) hcls (by decide +kernel) hx (fun r hr => by cases hr; decide +kernel) px ?_
  refine j_get (own := 11) (i := 109) (ci := 7) (f := 10) (dQ (by decide +kernel)) hcls (by decide +kernel) hs (fun r hr => by cases hr; decide +kernel) ps ?_
  refine j_iload_n (k4 := 1) (dQ (by decide +kernel)) rfl ?_
  refine x_ald b (dQ (by decide +kernel)) ha (by omega) (by omega) ?_
  refine j_istore_n (k4 := 3) (dQ (by decide +kernel)) (by decide +kernel) ?_
  refine j_aload_n (k4 := 0) (dQ (by decide +kernel)) rfl ?_
  refine j_get (own := 11) (i := 10) (ci := 11) (f := 0) (dQ (by decide +kernel)) hcls (by decide +kernel) hx (fun r hr => by cases hr; decide +kernel) px ?_
  refine j_get (own := 11) (i := 109) (ci := 7) (f := 10) (dQ (by decide +kernel)) hcls (by decide +kernel) hs (fun r hr => by cases hr; decide +kernel) ps ?_
  refine j_iload_n (k4 := 1) (dQ (by decide +kernel)) rfl ?_
  refine j_iload_n (k4 := 2) (dQ (by decide +kernel)) rfl ?_
  refine x_ast b (dQ (by decide +kernel)) ha (by omega) (by omega) ?_
  have k3 : (h.set (b0 + 24) (.inl (0, 12, (upd f b x2))))[b0 + 0]? = some (.inr (11, fx)) := by
    rw [List.getElem?_set_ne (by omega)]
    exact hx
  have k4 : (h.set (b0 + 24) (.inl (0, 12, (upd f b x2))))[b0 + 1]? = some (.inr (7, fs)) := by
    rw [List.getElem?_set_ne (by omega)]
    exact hs
  have k5 : (h.set (b0 + 24) (.inl (0, 12, (upd f b x2))))[b0 + 24]? = some (.inl (0, 12, (upd f b x2))) := List.getElem?_set_self (List.getElem?_eq_some_iff.mp ha).1
  refine j_aload_n (k4 := 0) (dQ (by decide +kernel)) rfl ?_
  refine j_iload_n (k4 := 3) (dQ (by decide +kernel)) rfl ?_
  refine j_cV (own := 11) (i := 48) (y2 := 17) (d2 := 1) (mc := 0) (ms := 0) (kc := 0) (ks := 0) (a := b0 + 0) (As := [.int (f b)]) (st := []) (dQ (by decide +kernel)) hcls (by decide +kernel) (by decide) (by decide +kernel) (show 1 = jnp 17 by decide +kernel) (by decide) (show 0 ≤ 8 by decide) k3 (fun r hr => by cases hr; decide +kernel) (x_allow k3 lx) (fun v hv7 hq => ?_)
  obtain ⟨rfl, rfl⟩ := hq
  have n8 : (fx.set 7 (.int (Int32.ofInt 0))).length = 12 := by rw [List.length_set]; exact lx
  have f9 : (fx.set 7 (.int (Int32.ofInt 0)))[0]? = some (.ref (g.2.2 + (b0 + 1))) := by
    rw [List.getElem?_set_ne (by decide)]
    exact px
  have k10 : ((h.set (b0 + 24) (.inl (0, 12, (upd f b x2)))).set (b0 + 0) (.inr (11, (fx.set 7 (.int (Int32.ofInt 0))))))[b0 + 0]? = some (.inr (11, (fx.set 7 (.int (Int32.ofInt 0))))) := List.getElem?_set_self (List.getElem?_eq_some_iff.mp k3).1
  have k11 : ((h.set (b0 + 24) (.inl (0, 12, (upd f b x2)))).set (b0 + 0) (.inr (11, (fx.set 7 (.int (Int32.ofInt 0))))))[b0 + 1]? = some (.inr (7, fs)) := by
    rw [List.getElem?_set_ne (by omega)]
    exact k4
  have k12 : ((h.set (b0 + 24) (.inl (0, 12, (upd f b x2)))).set (b0 + 0) (.inr (11, (fx.set 7 (.int (Int32.ofInt 0))))))[b0 + 24]? = some (.inl (0, 12, (upd f b x2))) := by
    rw [List.getElem?_set_ne (by omega)]
    exact k5
  exact j_ret (v := some (.int (f b))) ⟨by decide +kernel, Or.inl (by decide +kernel)⟩ ⟨rfl, rfl⟩ rfl
set_option maxRecDepth 8192 in
theorem xr_bad {b1 : Nat} {fm : List Value} {f : Nat → Int32} (hm : h[b1 + 0]? = some (.inr (12, fm))) (lm : fm.length = 42) (pm : fm[2]? = some (.ref (g.2.2 + (b1 + 1)))) (hr : h[b1 + 1]? = some (.inl (0, 5270, f))) {x1 : Int32} {x2 : Int32} {b : Nat} (e1 : x1.toInt = (b : Int)) (g1 : b ≤ 11) (g2 : 0 ≤ x2.toInt ∧ x2.toInt ≤ 1023) : jCal l g 309 3 [.ref (g.2.2 + (b1 + 0)), .int x1, .int x2] h 0 0 (fun v h' => v = some (.int (f (64 + b))) ∧ h' = ((h.set (b1 + 0) (.inr (12, fm.set 0 (.int (Int32.ofInt 0))))).set (b1 + 1) (.inl (0, 5270, upd f (64 + b) x2))).set (b1 + 0) (.inr (12, (fm.set 0 (.int (Int32.ofInt 0))).set 1 (.int (Int32.ofInt 0))))) := by
  have hcls : jcN 12 = (jyN 309).cls := by decide +kernel
  have cn0 : (Int32.ofInt 0).toInt = 0 := by decide
  have cn1 : (Int32.ofInt 1).toInt = 1 := by decide
  have cn2 : (Int32.ofInt 64).toInt = 64 := by decide
  refine jCal_of (by decide +kernel) (show 3 ≤ jmx 309 by decide +kernel) ?_
  show J l g 309 3 0 [some (.ref (g.2.2 + (b1 + 0))), some (.int x1), some (.int x2), none] [] h 0 0 _
  refine j_aload_n (k4 := 0) (dQ (by decide +kernel)) rfl ?_
  refine j_iconst (n := 0) (dQ (by decide +kernel)) ?_
  refine j_put (own := 12) (i := 94) (ci := 12) (f := 0) (ty := .int) (dQ (by decide +kernel)) hcls (by decide +kernel) hm rfl (by decide +kernel) (by rw [lm]; decide) (by decide +kernel) (by decide +kernel) rfl rfl ?_
  have n1 : (fm.set 0 (.int (Int32.ofInt 0))).length = 42 := by rw [List.length_set]; exact lm
  have f2 : (fm.set 0 (.int (Int32.ofInt 0)))[2]? = some (.ref (g.2.2 + (b1 + 1))) := by
    rw [List.getElem?_set_ne (by decide)]
    exact pm
  have f3 : (fm.set 0 (.int (Int32.ofInt 0)))[0]? = some (.int (Int32.ofInt 0)) := List.getElem?_set_self (by rw [lm]; decide)
  have k4 : (h.set (b1 + 0) (.inr (12, (fm.set 0 (.int (Int32.ofInt 0))))))[b1 + 0]? = some (.inr (12, (fm.set 0 (.int (Int32.ofInt 0))))) := List.getElem?_set_self (List.getElem?_eq_some_iff.mp hm).1
  have k5 : (h.set (b1 + 0) (.inr (12, (fm.set 0 (.int (Int32.ofInt 0))))))[b1 + 1]? = some (.inl (0, 5270, f)) := by
    rw [List.getElem?_set_ne (by omega)]
    exact hr
  refine j_iload_n (k4 := 1) (dQ (by decide +kernel)) rfl ?_
  refine j_cS (own := 12) (i := 285) (y2 := 235) (d2 := 2) (mc := 0) (ms := 0) (kc := 0) (ks := 0) (As := [.int x1]) (st := []) (dQ (by decide +kernel)) hcls (by decide +kernel) (by decide) (by decide +kernel) (show 1 = jnp 235 by decide +kernel) (by decide) (show 0 ≤ 8 by decide) (xm_isBerth_1 (by omega) (by omega)) (fun v hv7 hq => ?_)
  obtain ⟨rfl, rfl⟩ := hq
  refine j_if_eq (off := 15) (tgt := 24) (dQ (by decide +kernel)) (by decide) (fun q => absurd (congrArg Int32.toInt q) (by rw [i32_z]; omega)) (fun _ => ?_)
  refine j_iload_n (k4 := 2) (dQ (by decide +kernel)) rfl ?_
  refine x_i2l (dQ (by decide +kernel)) (fun r8 hr8 => ?_)
  refine j_lconst (n := 0) (dQ (by decide +kernel)) ?_
  have hq9 : (Int64.ofNat ((0 : Fin 2) : Nat)).toInt = 0 := by decide
  refine j_ldc2 (own := 12) (i := 394) (v := 1023) hcls (by decide +kernel) (by decide +kernel) ?_
  have hq10 : (1023 : Int64).toInt = 1023 := by decide
  refine j_cS (own := 12) (i := 100) (y2 := 205) (d2 := 1) (mc := 0) (ms := 0) (kc := 0) (ks := 0) (As := [.long r8, .long (Int64.ofNat ((0 : Fin 2) : Nat)), .long (1023 : Int64)]) (st := []) (dQ (by decide +kernel)) hcls (by decide +kernel) (by decide) (by decide +kernel) (show 3 = jnp 205 by decide +kernel) (by decide) (show 0 ≤ 8 by decide) (xm_in_1 (by omega) (by omega)) (fun v hv12 hq => ?_)
  obtain ⟨rfl, rfl⟩ := hq
  refine j_if_ne (off := 9) (tgt := 30) (dQ (by decide +kernel)) (by decide) (fun _ => ?_) (fun q => absurd (fun q => absurd (congrArg Int32.toInt q) (by rw [i32_z]; omega)) q)
  refine j_aload_n (k4 := 0) (dQ (by decide +kernel)) rfl ?_
  refine j_get (own := 12) (i := 7) (ci := 12) (f := 2) (dQ (by decide +kernel)) hcls (by decide +kernel) k4 (fun r hr => by cases hr; decide +kernel) f2 ?_
  refine x_bi (n := 64) (dQ (by decide +kernel)) (by decide) ?_
  refine j_iload_n (k4 := 1) (dQ (by decide +kernel)) rfl ?_
  refine x_add (dQ (by decide +kernel)) (by omega) (fun r13 hr13 => ?_)
  refine x_ald (64 + b) (dQ (by decide +kernel)) k5 (by omega) (by omega) ?_
  refine j_istore_n (k4 := 3) (dQ (by decide +kernel)) (by decide +kernel) ?_
  refine j_aload_n (k4 := 0) (dQ (by decide +kernel)) rfl ?_
  refine j_get (own := 12) (i := 7) (ci := 12) (f := 2) (dQ (by decide +kernel)) hcls (by decide +kernel) k4 (fun r hr => by cases hr; decide +kernel) f2 ?_
  refine x_bi (n := 64) (dQ (by decide +kernel)) (by decide) ?_
  refine j_iload_n (k4 := 1) (dQ (by decide +kernel)) rfl ?_
  refine x_add (dQ (by decide +kernel)) (by omega) (fun r14 hr14 => ?_)
  refine j_iload_n (k4 := 2) (dQ (by decide +kernel)) rfl ?_
  refine x_ast (64 + b) (dQ (by decide +kernel)) k5 (by omega) (by omega) ?_
  have k15 : ((h.set (b1 + 0) (.inr (12, (fm.set 0 (.int (Int32.ofInt 0)))))).set (b1 + 1) (.inl (0, 5270, (upd f (64 + b) x2))))[b1 + 0]? = some (.inr (12, (fm.set 0 (.int (Int32.ofInt 0))))) := by
    rw [List.getElem?_set_ne (by omega)]
    exact k4
  have k16 : ((h.set (b1 + 0) (.inr (12, (fm.set 0 (.int (Int32.ofInt 0)))))).set (b1 + 1) (.inl (0, 5270, (upd f (64 + b) x2))))[b1 + 1]? = some (.inl (0, 5270, (upd f (64 + b) x2))) := List.getElem?_set_self (List.getElem?_eq_some_iff.mp k5).1
  refine j_aload_n (k4 := 0) (dQ (by decide +kernel)) rfl ?_
  refine j_iload_n (k4 := 3) (dQ (by decide +kernel)) rfl ?_
  refine j_cV (own := 12) (i := 252) (y2 := 216) (d2 := 1) (mc := 0) (ms := 0) (kc := 0) (ks := 0) (a := b1 + 0) (As := [.int (f (64 + b))]) (st := []) (dQ (by decide +kernel)) hcls (by decide +kernel) (by decide) (by decide +kernel) (show 1 = jnp 216 by decide +kernel) (by decide) (show 0 ≤ 8 by decide) k15 (fun r hr => by cases hr; decide +kernel) (xm_was k15 n1) (fun v hv18 hq => ?_)
  obtain ⟨rfl, rfl⟩ := hq
  have n19 : ((fm.set 0 (.int (Int32.ofInt 0))).set 1 (.int (Int32.ofInt 0))).length = 42 := by rw [List.length_set]; exact n1
  have f20 : ((fm.set 0 (.int (Int32.ofInt 0))).set 1 (.int (Int32.ofInt 0)))[2]? = some (.ref (g.2.2 + (b1 + 1))) := by
    rw [List.getElem?_set_ne (by decide)]
    exact f2
  have f21 : ((fm.set 0 (.int (Int32.ofInt 0))).set 1 (.int (Int32.ofInt 0)))[0]? = some (.int (Int32.ofInt 0)) := by
    rw [List.getElem?_set_ne (by decide)]
    exact f3
  have k22 : (((h.set (b1 + 0) (.inr (12, (fm.set 0 (.int (Int32.ofInt 0)))))).set (b1 + 1) (.inl (0, 5270, (upd f (64 + b) x2)))).set (b1 + 0) (.inr (12, ((fm.set 0 (.int (Int32.ofInt 0))).set 1 (.int (Int32.ofInt 0))))))[b1 + 0]? = some (.inr (12, ((fm.set 0 (.int (Int32.ofInt 0))).set 1 (.int (Int32.ofInt 0))))) := List.getElem?_set_self (List.getElem?_eq_some_iff.mp k15).1
  have k23 : (((h.set (b1 + 0) (.inr (12, (fm.set 0 (.int (Int32.ofInt 0)))))).set (b1 + 1) (.inl (0, 5270, (upd f (64 + b) x2)))).set (b1 + 0) (.inr (12, ((fm.set 0 (.int (Int32.ofInt 0))).set 1 (.int (Int32.ofInt 0))))))[b1 + 1]? = some (.inl (0, 5270, (upd f (64 + b) x2))) := by
    rw [List.getElem?_set_ne (by omega)]
    exact k16
  exact j_ret (v := some (.int (f (64 + b)))) ⟨by decide +kernel, Or.inl (by decide +kernel)⟩ ⟨rfl, rfl⟩ rfl
set_option maxRecDepth 8192 in
theorem xk_bad_0l {b0 : Nat} {fx : List Value} (hx : h[b0 + 0]? = some (.inr (11, fx))) (lx : fx.length = 12) {x1 : Int32} {x2 : Int32} (u : x1.toInt < 0) : jCal l g 183 2 [.ref (g.2.2 + (b0 + 0)), .int x1, .int x2] h 0 0 (fun v h' => v = some (.int (Int32.ofInt (-1))) ∧ h' = h.set (b0 + 0) (.inr (11, fx.set 7 (.int (Int32.ofInt (-1)))))) := by
  have hcls : jcN 11 = (jyN 183).cls := by decide +kernel
  have cn0 : (Int32.ofInt 0).toInt = 0 := by decide
  have cn1 : (Int32.ofInt (-1)).toInt = -1 := by decide
  refine jCal_of (by decide +kernel) (show 3 ≤ jmx 183 by decide +kernel) ?_
  show J l g 183 2 0 [some (.ref (g.2.2 + (b0 + 0))), some (.int x1), some (.int x2), none] [] h 0 0 _
  refine j_iload_n (k4 := 1) (dQ (by decide +kernel)) rfl ?_
  refine j_cS (own := 11) (i := 34) (y2 := 14) (d2 := 1) (mc := 0) (ms := 0) (kc := 0) (ks := 0) (As := [.int x1]) (st := []) (dQ (by decide +kernel)) hcls (by decide +kernel) (by decide) (by decide +kernel) (show 1 = jnp 14 by decide +kernel) (by decide) (show 0 ≤ 8 by decide) (x_isBerth_0l (by omega)) (fun v hv2 hq => ?_)
  obtain ⟨rfl, rfl⟩ := hq
  refine j_if_eq (off := 14) (tgt := 18) (dQ (by decide +kernel)) (by decide) (fun _ => ?_) (fun q => absurd (i32_eq (show _ = (0 : Int32).toInt by rw [i32_z]; omega)) q)
  refine j_aload_n (k4 := 0) (dQ (by decide +kernel)) rfl ?_
  refine j_iconst (n := (-1)) (dQ (by decide +kernel)) ?_
  refine j_cV (own := 11) (i := 41) (y2 := 16) (d2 := 1) (mc := 0) (ms := 0) (kc := 0) (ks := 0) (a := b0 + 0) (As := [.int (Int32.ofInt (-1))]) (st := []) (dQ (by decide +kernel)) hcls (by decide +kernel) (by decide) (by decide +kernel) (show 1 = jnp 16 by decide +kernel) (by decide) (show 0 ≤ 8 by decide) hx (fun r hr => by cases hr; decide +kernel) (x_refuse hx lx) (fun v hv4 hq => ?_)
  obtain ⟨rfl, rfl⟩ := hq
  have n5 : (fx.set 7 (.int (Int32.ofInt (-1)))).length = 12 := by rw [List.length_set]; exact lx
  have k6 : (h.set (b0 + 0) (.inr (11, (fx.set 7 (.int (Int32.ofInt (-1)))))))[b0 + 0]? = some (.inr (11, (fx.set 7 (.int (Int32.ofInt (-1)))))) := List.getElem?_set_self (List.getElem?_eq_some_iff.mp hx).1
  exact j_ret (v := some (.int (Int32.ofInt (-1)))) ⟨by decide +kernel, Or.inl (by decide +kernel)⟩ ⟨rfl, rfl⟩ rfl
set_option maxRecDepth 8192 in
theorem xk_bad_0h {b0 : Nat} {fx : List Value} (hx : h[b0 + 0]? = some (.inr (11, fx))) (lx : fx.length = 12) {x1 : Int32} {x2 : Int32} (u : 11 < x1.toInt) : jCal l g 183 2 [.ref (g.2.2 + (b0 + 0)), .int x1, .int x2] h 0 0 (fun v h' => v = some (.int (Int32.ofInt (-1))) ∧ h' = h.set (b0 + 0) (.inr (11, fx.set 7 (.int (Int32.ofInt (-1)))))) := by
  have hcls : jcN 11 = (jyN 183).cls := by decide +kernel
  have cn0 : (Int32.ofInt 0).toInt = 0 := by decide
  have cn1 : (Int32.ofInt (-1)).toInt = -1 := by decide
  refine jCal_of (by decide +kernel) (show 3 ≤ jmx 183 by decide +kernel) ?_
  show J l g 183 2 0 [some (.ref (g.2.2 + (b0 + 0))), some (.int x1), some (.int x2), none] [] h 0 0 _
  refine j_iload_n (k4 := 1) (dQ (by decide +kernel)) rfl ?_
  refine j_cS (own := 11) (i := 34) (y2 := 14) (d2 := 1) (mc := 0) (ms := 0) (kc := 0) (ks := 0) (As := [.int x1]) (st := []) (dQ (by decide +kernel)) hcls (by decide +kernel) (by decide) (by decide +kernel) (show 1 = jnp 14 by decide +kernel) (by decide) (show 0 ≤ 8 by decide) (x_isBerth_0h (by omega)) (fun v hv2 hq => ?_)
  obtain ⟨rfl, rfl⟩ := hq
  refine j_if_eq (off := 14) (tgt := 18) (dQ (by decide +kernel)) (by decide) (fun _ => ?_) (fun q => absurd (i32_eq (show _ = (0 : Int32).toInt by rw [i32_z]; omega)) q)
  refine j_aload_n (k4 := 0) (dQ (by decide +kernel)) rfl ?_
  refine j_iconst (n := (-1)) (dQ (by decide +kernel)) ?_
  refine j_cV (own := 11) (i := 41) (y2 := 16) (d2 := 1) (mc := 0) (ms := 0) (kc := 0) (ks := 0) (a := b0 + 0) (As := [.int (Int32.ofInt (-1))]) (st := []) (dQ (by decide +kernel)) hcls (by decide +kernel) (by decide) (by decide +kernel) (show 1 = jnp 16 by decide +kernel) (by decide) (show 0 ≤ 8 by decide) hx (fun r hr => by cases hr; decide +kernel) (x_refuse hx lx) (fun v hv4 hq => ?_)
  obtain ⟨rfl, rfl⟩ := hq
  have n5 : (fx.set 7 (.int (Int32.ofInt (-1)))).length = 12 := by rw [List.length_set]; exact lx
  have k6 : (h.set (b0 + 0) (.inr (11, (fx.set 7 (.int (Int32.ofInt (-1)))))))[b0 + 0]? = some (.inr (11, (fx.set 7 (.int (Int32.ofInt (-1)))))) := List.getElem?_set_self (List.getElem?_eq_some_iff.mp hx).1
  exact j_ret (v := some (.int (Int32.ofInt (-1)))) ⟨by decide +kernel, Or.inl (by decide +kernel)⟩ ⟨rfl, rfl⟩ rfl
set_option maxRecDepth 8192 in
theorem xk_bad_1l {b0 : Nat} {fx : List Value} (hx : h[b0 + 0]? = some (.inr (11, fx))) (lx : fx.length = 12) {x1 : Int32} {x2 : Int32} (g1 : 0 ≤ x1.toInt ∧ x1.toInt ≤ 11) (u : x2.toInt < 0) : jCal l g 183 2 [.ref (g.2.2 + (b0 + 0)), .int x1, .int x2] h 0 0 (fun v h' => v = some (.int (Int32.ofInt (-1))) ∧ h' = h.set (b0 + 0) (.inr (11, fx.set 7 (.int (Int32.ofInt (-1)))))) := by
  have hcls : jcN 11 = (jyN 183).cls := by decide +kernel
  have cn0 : (Int32.ofInt 1).toInt = 1 := by decide
  have cn1 : (Int32.ofInt (-1)).toInt = -1 := by decide
  refine jCal_of (by decide +kernel) (show 3 ≤ jmx 183 by decide +kernel) ?_
  show J l g 183 2 0 [some (.ref (g.2.2 + (b0 + 0))), some (.int x1), some (.int x2), none] [] h 0 0 _
  refine j_iload_n (k4 := 1) (dQ (by decide +kernel)) rfl ?_
  refine j_cS (own := 11) (i := 34) (y2 := 14) (d2 := 1) (mc := 0) (ms := 0) (kc := 0) (ks := 0) (As := [.int x1]) (st := []) (dQ (by decide +kernel)) hcls (by decide +kernel) (by decide) (by decide +kernel) (show 1 = jnp 14 by decide +kernel) (by decide) (show 0 ≤ 8 by decide) (x_isBerth_1 (by omega) (by omega)) (fun v hv2 hq => ?_)
  obtain ⟨rfl, rfl⟩ := hq
  refine j_if_eq (off := 14) (tgt := 18) (dQ (by decide +kernel)) (by decide) (fun q => absurd (congrArg Int32.toInt q) (by rw [i32_z]; omega)) (fun _ => ?_)
  refine j_iload_n (k4 := 2) (dQ (by decide +kernel)) rfl ?_
  refine j_if_lt (off := 10) (tgt := 18) (dQ (by decide +kernel)) (by decide) (fun _ => ?_) (fun q => absurd (i32_lt.mpr (by rw [i32_z]; omega)) q)
  refine j_aload_n (k4 := 0) (dQ (by decide +kernel)) rfl ?_
  refine j_iconst (n := (-1)) (dQ (by decide +kernel)) ?_
  refine j_cV (own := 11) (i := 41) (y2 := 16) (d2 := 1) (mc := 0) (ms := 0) (kc := 0) (ks := 0) (a := b0 + 0) (As := [.int (Int32.ofInt (-1))]) (st := []) (dQ (by decide +kernel)) hcls (by decide +kernel) (by decide) (by decide +kernel) (show 1 = jnp 16 by decide +kernel) (by decide) (show 0 ≤ 8 by decide) hx (fun r hr => by cases hr; decide +kernel) (x_refuse hx lx) (fun v hv4 hq => ?_)
  obtain ⟨rfl, rfl⟩ := hq
  have n5 : (fx.set 7 (.int (Int32.ofInt (-1)))).length = 12 := by rw [List.length_set]; exact lx
  have k6 : (h.set (b0 + 0) (.inr (11, (fx.set 7 (.int (Int32.ofInt (-1)))))))[b0 + 0]? = some (.inr (11, (fx.set 7 (.int (Int32.ofInt (-1)))))) := List.getElem?_set_self (List.getElem?_eq_some_iff.mp hx).1
  exact j_ret (v := some (.int (Int32.ofInt (-1)))) ⟨by decide +kernel, Or.inl (by decide +kernel)⟩ ⟨rfl, rfl⟩ rfl
set_option maxRecDepth 8192 in
theorem xk_bad_1h {b0 : Nat} {fx : List Value} (hx : h[b0 + 0]? = some (.inr (11, fx))) (lx : fx.length = 12) {x1 : Int32} {x2 : Int32} (g1 : 0 ≤ x1.toInt ∧ x1.toInt ≤ 11) (u : 1023 < x2.toInt) : jCal l g 183 2 [.ref (g.2.2 + (b0 + 0)), .int x1, .int x2] h 0 0 (fun v h' => v = some (.int (Int32.ofInt (-1))) ∧ h' = h.set (b0 + 0) (.inr (11, fx.set 7 (.int (Int32.ofInt (-1)))))) := by
  have hcls : jcN 11 = (jyN 183).cls := by decide +kernel
  have cn0 : (Int32.ofInt 1).toInt = 1 := by decide
  have cn1 : (Int32.ofInt 1023).toInt = 1023 := by decide
  have cn2 : (Int32.ofInt (-1)).toInt = -1 := by decide
  refine jCal_of (by decide +kernel) (show 3 ≤ jmx 183 by decide +kernel) ?_
  show J l g 183 2 0 [some (.ref (g.2.2 + (b0 + 0))), some (.int x1), some (.int x2), none] [] h 0 0 _
  refine j_iload_n (k4 := 1) (dQ (by decide +kernel)) rfl ?_
  refine j_cS (own := 11) (i := 34) (y2 := 14) (d2 := 1) (mc := 0) (ms := 0) (kc := 0) (ks := 0) (As := [.int x1]) (st := []) (dQ (by decide +kernel)) hcls (by decide +kernel) (by decide) (by decide +kernel) (show 1 = jnp 14 by decide +kernel) (by decide) (show 0 ≤ 8 by decide) (x_isBerth_1 (by omega) (by omega)) (fun v hv2 hq => ?_)
  obtain ⟨rfl, rfl⟩ := hq
  refine j_if_eq (off := 14) (tgt := 18) (dQ (by decide +kernel)) (by decide) (fun q => absurd (congrArg Int32.toInt q) (by rw [i32_z]; omega)) (fun _ => ?_)
  refine j_iload_n (k4 := 2) (dQ (by decide +kernel)) rfl ?_
  refine j_if_lt (off := 10) (tgt := 18) (dQ (by decide +kernel)) (by decide) (fun q => absurd (i32_lt.mp q) (by rw [i32_z]; omega)) (fun _ => ?_)
  refine j_iload_n (k4 := 2) (dQ (by decide +kernel)) rfl ?_
  refine x_si (n := 1023) (dQ (by decide +kernel)) (by decide) ?_
  refine j_icmp_le (off := 9) (tgt := 24) (dQ (by decide +kernel)) (by decide) (fun q => absurd (i32_le.mp q) (by omega)) (fun _ => ?_)
  refine j_aload_n (k4 := 0) (dQ (by decide +kernel)) rfl ?_
  refine j_iconst (n := (-1)) (dQ (by decide +kernel)) ?_
  refine j_cV (own := 11) (i := 41) (y2 := 16) (d2 := 1) (mc := 0) (ms := 0) (kc := 0) (ks := 0) (a := b0 + 0) (As := [.int (Int32.ofInt (-1))]) (st := []) (dQ (by decide +kernel)) hcls (by decide +kernel) (by decide) (by decide +kernel) (show 1 = jnp 16 by decide +kernel) (by decide) (show 0 ≤ 8 by decide) hx (fun r hr => by cases hr; decide +kernel) (x_refuse hx lx) (fun v hv4 hq => ?_)
  obtain ⟨rfl, rfl⟩ := hq
  have n5 : (fx.set 7 (.int (Int32.ofInt (-1)))).length = 12 := by rw [List.length_set]; exact lx
  have k6 : (h.set (b0 + 0) (.inr (11, (fx.set 7 (.int (Int32.ofInt (-1)))))))[b0 + 0]? = some (.inr (11, (fx.set 7 (.int (Int32.ofInt (-1)))))) := List.getElem?_set_self (List.getElem?_eq_some_iff.mp hx).1
  exact j_ret (v := some (.int (Int32.ofInt (-1)))) ⟨by decide +kernel, Or.inl (by decide +kernel)⟩ ⟨rfl, rfl⟩ rfl
set_option maxRecDepth 8192 in
theorem xr_bad_0l {b1 : Nat} {fm : List Value} (hm : h[b1 + 0]? = some (.inr (12, fm))) (lm : fm.length = 42) {x1 : Int32} {x2 : Int32} (u : x1.toInt < 0) : jCal l g 309 3 [.ref (g.2.2 + (b1 + 0)), .int x1, .int x2] h 0 0 (fun v h' => v = some (.int (Int32.ofInt (-1))) ∧ h' = (h.set (b1 + 0) (.inr (12, fm.set 0 (.int (Int32.ofInt 0))))).set (b1 + 0) (.inr (12, (fm.set 0 (.int (Int32.ofInt 0))).set 1 (.int (Int32.ofInt (-1)))))) := by
  have hcls : jcN 12 = (jyN 309).cls := by decide +kernel
  have cn0 : (Int32.ofInt 0).toInt = 0 := by decide
  have cn1 : (Int32.ofInt (-1)).toInt = -1 := by decide
  refine jCal_of (by decide +kernel) (show 3 ≤ jmx 309 by decide +kernel) ?_
  show J l g 309 3 0 [some (.ref (g.2.2 + (b1 + 0))), some (.int x1), some (.int x2), none] [] h 0 0 _
  refine j_aload_n (k4 := 0) (dQ (by decide +kernel)) rfl ?_
  refine j_iconst (n := 0) (dQ (by decide +kernel)) ?_
  refine j_put (own := 12) (i := 94) (ci := 12) (f := 0) (ty := .int) (dQ (by decide +kernel)) hcls (by decide +kernel) hm rfl (by decide +kernel) (by rw [lm]; decide) (by decide +kernel) (by decide +kernel) rfl rfl ?_
  have n1 : (fm.set 0 (.int (Int32.ofInt 0))).length = 42 := by rw [List.length_set]; exact lm
  have f2 : (fm.set 0 (.int (Int32.ofInt 0)))[0]? = some (.int (Int32.ofInt 0)) := List.getElem?_set_self (by rw [lm]; decide)
  have k3 : (h.set (b1 + 0) (.inr (12, (fm.set 0 (.int (Int32.ofInt 0))))))[b1 + 0]? = some (.inr (12, (fm.set 0 (.int (Int32.ofInt 0))))) := List.getElem?_set_self (List.getElem?_eq_some_iff.mp hm).1
  refine j_iload_n (k4 := 1) (dQ (by decide +kernel)) rfl ?_
  refine j_cS (own := 12) (i := 285) (y2 := 235) (d2 := 2) (mc := 0) (ms := 0) (kc := 0) (ks := 0) (As := [.int x1]) (st := []) (dQ (by decide +kernel)) hcls (by decide +kernel) (by decide) (by decide +kernel) (show 1 = jnp 235 by decide +kernel) (by decide) (show 0 ≤ 8 by decide) (xm_isBerth_0l (by omega)) (fun v hv5 hq => ?_)
  obtain ⟨rfl, rfl⟩ := hq
  refine j_if_eq (off := 15) (tgt := 24) (dQ (by decide +kernel)) (by decide) (fun _ => ?_) (fun q => absurd (i32_eq (show _ = (0 : Int32).toInt by rw [i32_z]; omega)) q)
  refine j_aload_n (k4 := 0) (dQ (by decide +kernel)) rfl ?_
  refine j_iconst (n := (-1)) (dQ (by decide +kernel)) ?_
  refine j_cV (own := 12) (i := 104) (y2 := 206) (d2 := 1) (mc := 0) (ms := 0) (kc := 0) (ks := 0) (a := b1 + 0) (As := [.int (Int32.ofInt (-1))]) (st := []) (dQ (by decide +kernel)) hcls (by decide +kernel) (by decide) (by decide +kernel) (show 1 = jnp 206 by decide +kernel) (by decide) (show 0 ≤ 8 by decide) k3 (fun r hr => by cases hr; decide +kernel) (xm_tellN k3 n1 (by omega)) (fun v hv7 hq => ?_)
  obtain ⟨rfl, rfl⟩ := hq
  have n8 : ((fm.set 0 (.int (Int32.ofInt 0))).set 1 (.int (Int32.ofInt (-1)))).length = 42 := by rw [List.length_set]; exact n1
  have f9 : ((fm.set 0 (.int (Int32.ofInt 0))).set 1 (.int (Int32.ofInt (-1))))[0]? = some (.int (Int32.ofInt 0)) := by
    rw [List.getElem?_set_ne (by decide)]
    exact f2
  have k10 : ((h.set (b1 + 0) (.inr (12, (fm.set 0 (.int (Int32.ofInt 0)))))).set (b1 + 0) (.inr (12, ((fm.set 0 (.int (Int32.ofInt 0))).set 1 (.int (Int32.ofInt (-1)))))))[b1 + 0]? = some (.inr (12, ((fm.set 0 (.int (Int32.ofInt 0))).set 1 (.int (Int32.ofInt (-1)))))) := List.getElem?_set_self (List.getElem?_eq_some_iff.mp k3).1
  exact j_ret (v := some (.int (Int32.ofInt (-1)))) ⟨by decide +kernel, Or.inl (by decide +kernel)⟩ ⟨rfl, rfl⟩ rfl
set_option maxRecDepth 8192 in
theorem xr_bad_0h {b1 : Nat} {fm : List Value} (hm : h[b1 + 0]? = some (.inr (12, fm))) (lm : fm.length = 42) {x1 : Int32} {x2 : Int32} (u : 11 < x1.toInt) : jCal l g 309 3 [.ref (g.2.2 + (b1 + 0)), .int x1, .int x2] h 0 0 (fun v h' => v = some (.int (Int32.ofInt (-1))) ∧ h' = (h.set (b1 + 0) (.inr (12, fm.set 0 (.int (Int32.ofInt 0))))).set (b1 + 0) (.inr (12, (fm.set 0 (.int (Int32.ofInt 0))).set 1 (.int (Int32.ofInt (-1)))))) := by
  have hcls : jcN 12 = (jyN 309).cls := by decide +kernel
  have cn0 : (Int32.ofInt 0).toInt = 0 := by decide
  have cn1 : (Int32.ofInt (-1)).toInt = -1 := by decide
  refine jCal_of (by decide +kernel) (show 3 ≤ jmx 309 by decide +kernel) ?_
  show J l g 309 3 0 [some (.ref (g.2.2 + (b1 + 0))), some (.int x1), some (.int x2), none] [] h 0 0 _
  refine j_aload_n (k4 := 0) (dQ (by decide +kernel)) rfl ?_
  refine j_iconst (n := 0) (dQ (by decide +kernel)) ?_
  refine j_put (own := 12) (i := 94) (ci := 12) (f := 0) (ty := .int) (dQ (by decide +kernel)) hcls (by decide +kernel) hm rfl (by decide +kernel) (by rw [lm]; decide) (by decide +kernel) (by decide +kernel) rfl rfl ?_
  have n1 : (fm.set 0 (.int (Int32.ofInt 0))).length = 42 := by rw [List.length_set]; exact lm
  have f2 : (fm.set 0 (.int (Int32.ofInt 0)))[0]? = some (.int (Int32.ofInt 0)) := List.getElem?_set_self (by rw [lm]; decide)
  have k3 : (h.set (b1 + 0) (.inr (12, (fm.set 0 (.int (Int32.ofInt 0))))))[b1 + 0]? = some (.inr (12, (fm.set 0 (.int (Int32.ofInt 0))))) := List.getElem?_set_self (List.getElem?_eq_some_iff.mp hm).1
  refine j_iload_n (k4 := 1) (dQ (by decide +kernel)) rfl ?_
  refine j_cS (own := 12) (i := 285) (y2 := 235) (d2 := 2) (mc := 0) (ms := 0) (kc := 0) (ks := 0) (As := [.int x1]) (st := []) (dQ (by decide +kernel)) hcls (by decide +kernel) (by decide) (by decide +kernel) (show 1 = jnp 235 by decide +kernel) (by decide) (show 0 ≤ 8 by decide) (xm_isBerth_0h (by omega)) (fun v hv5 hq => ?_)
  obtain ⟨rfl, rfl⟩ := hq
  refine j_if_eq (off := 15) (tgt := 24) (dQ (by decide +kernel)) (by decide) (fun _ => ?_) (fun q => absurd (i32_eq (show _ = (0 : Int32).toInt by rw [i32_z]; omega)) q)
  refine j_aload_n (k4 := 0) (dQ (by decide +kernel)) rfl ?_
  refine j_iconst (n := (-1)) (dQ (by decide +kernel)) ?_
  refine j_cV (own := 12) (i := 104) (y2 := 206) (d2 := 1) (mc := 0) (ms := 0) (kc := 0) (ks := 0) (a := b1 + 0) (As := [.int (Int32.ofInt (-1))]) (st := []) (dQ (by decide +kernel)) hcls (by decide +kernel) (by decide) (by decide +kernel) (show 1 = jnp 206 by decide +kernel) (by decide) (show 0 ≤ 8 by decide) k3 (fun r hr => by cases hr; decide +kernel) (xm_tellN k3 n1 (by omega)) (fun v hv7 hq => ?_)
  obtain ⟨rfl, rfl⟩ := hq
  have n8 : ((fm.set 0 (.int (Int32.ofInt 0))).set 1 (.int (Int32.ofInt (-1)))).length = 42 := by rw [List.length_set]; exact n1
  have f9 : ((fm.set 0 (.int (Int32.ofInt 0))).set 1 (.int (Int32.ofInt (-1))))[0]? = some (.int (Int32.ofInt 0)) := by
    rw [List.getElem?_set_ne (by decide)]
    exact f2
  have k10 : ((h.set (b1 + 0) (.inr (12, (fm.set 0 (.int (Int32.ofInt 0)))))).set (b1 + 0) (.inr (12, ((fm.set 0 (.int (Int32.ofInt 0))).set 1 (.int (Int32.ofInt (-1)))))))[b1 + 0]? = some (.inr (12, ((fm.set 0 (.int (Int32.ofInt 0))).set 1 (.int (Int32.ofInt (-1)))))) := List.getElem?_set_self (List.getElem?_eq_some_iff.mp k3).1
  exact j_ret (v := some (.int (Int32.ofInt (-1)))) ⟨by decide +kernel, Or.inl (by decide +kernel)⟩ ⟨rfl, rfl⟩ rfl
set_option maxRecDepth 8192 in
theorem xr_bad_1l {b1 : Nat} {fm : List Value} (hm : h[b1 + 0]? = some (.inr (12, fm))) (lm : fm.length = 42) {x1 : Int32} {x2 : Int32} (g1 : 0 ≤ x1.toInt ∧ x1.toInt ≤ 11) (u : x2.toInt < 0) : jCal l g 309 3 [.ref (g.2.2 + (b1 + 0)), .int x1, .int x2] h 0 0 (fun v h' => v = some (.int (Int32.ofInt (-1))) ∧ h' = (h.set (b1 + 0) (.inr (12, fm.set 0 (.int (Int32.ofInt 0))))).set (b1 + 0) (.inr (12, (fm.set 0 (.int (Int32.ofInt 0))).set 1 (.int (Int32.ofInt (-1)))))) := by
  have hcls : jcN 12 = (jyN 309).cls := by decide +kernel
  have cn0 : (Int32.ofInt 0).toInt = 0 := by decide
  have cn1 : (Int32.ofInt 1).toInt = 1 := by decide
  have cn2 : (Int32.ofInt (-1)).toInt = -1 := by decide
  refine jCal_of (by decide +kernel) (show 3 ≤ jmx 309 by decide +kernel) ?_
  show J l g 309 3 0 [some (.ref (g.2.2 + (b1 + 0))), some (.int x1), some (.int x2), none] [] h 0 0 _
  refine j_aload_n (k4 := 0) (dQ (by decide +kernel)) rfl ?_
  refine j_iconst (n := 0) (dQ (by decide +kernel)) ?_
  refine j_put (own := 12) (i := 94) (ci := 12) (f := 0) (ty := .int) (dQ (by decide +kernel)) hcls (by decide +kernel) hm rfl (by decide +kernel) (by rw [lm]; decide) (by decide +kernel) (by decide +kernel) rfl rfl ?_
  have n1 : (fm.set 0 (.int (Int32.ofInt 0))).length = 42 := by rw [List.length_set]; exact lm
  have f2 : (fm.set 0 (.int (Int32.ofInt 0)))[0]? = some (.int (Int32.ofInt 0)) := List.getElem?_set_self (by rw [lm]; decide)
  have k3 : (h.set (b1 + 0) (.inr (12, (fm.set 0 (.int (Int32.ofInt 0))))))[b1 + 0]? = some (.inr (12, (fm.set 0 (.int (Int32.ofInt 0))))) := List.getElem?_set_self (List.getElem?_eq_some_iff.mp hm).1
  refine j_iload_n (k4 := 1) (dQ (by decide +kernel)) rfl ?_
  refine j_cS (own := 12) (i := 285) (y2 := 235) (d2 := 2) (mc := 0) (ms := 0) (kc := 0) (ks := 0) (As := [.int x1]) (st := []) (dQ (by decide +kernel)) hcls (by decide +kernel) (by decide) (by decide +kernel) (show 1 = jnp 235 by decide +kernel) (by decide) (show 0 ≤ 8 by decide) (xm_isBerth_1 (by omega) (by omega)) (fun v hv5 hq => ?_)
  obtain ⟨rfl, rfl⟩ := hq
  refine j_if_eq (off := 15) (tgt := 24) (dQ (by decide +kernel)) (by decide) (fun q => absurd (congrArg Int32.toInt q) (by rw [i32_z]; omega)) (fun _ => ?_)
  refine j_iload_n (k4 := 2) (dQ (by decide +kernel)) rfl ?_
  refine x_i2l (dQ (by decide +kernel)) (fun r6 hr6 => ?_)
  refine j_lconst (n := 0) (dQ (by decide +kernel)) ?_
  have hq7 : (Int64.ofNat ((0 : Fin 2) : Nat)).toInt = 0 := by decide
  refine j_ldc2 (own := 12) (i := 394) (v := 1023) hcls (by decide +kernel) (by decide +kernel) ?_
  have hq8 : (1023 : Int64).toInt = 1023 := by decide
  refine j_cS (own := 12) (i := 100) (y2 := 205) (d2 := 1) (mc := 0) (ms := 0) (kc := 0) (ks := 0) (As := [.long r6, .long (Int64.ofNat ((0 : Fin 2) : Nat)), .long (1023 : Int64)]) (st := []) (dQ (by decide +kernel)) hcls (by decide +kernel) (by decide) (by decide +kernel) (show 3 = jnp 205 by decide +kernel) (by decide) (show 0 ≤ 8 by decide) (xm_in_0l (by omega)) (fun v hv10 hq => ?_)
  obtain ⟨rfl, rfl⟩ := hq
  refine j_if_ne (off := 9) (tgt := 30) (dQ (by decide +kernel)) (by decide) (fun q => absurd (i32_eq (show _ = (0 : Int32).toInt by rw [i32_z]; omega)) q) (fun _ => ?_)
  refine j_aload_n (k4 := 0) (dQ (by decide +kernel)) rfl ?_
  refine j_iconst (n := (-1)) (dQ (by decide +kernel)) ?_
  refine j_cV (own := 12) (i := 104) (y2 := 206) (d2 := 1) (mc := 0) (ms := 0) (kc := 0) (ks := 0) (a := b1 + 0) (As := [.int (Int32.ofInt (-1))]) (st := []) (dQ (by decide +kernel)) hcls (by decide +kernel) (by decide) (by decide +kernel) (show 1 = jnp 206 by decide +kernel) (by decide) (show 0 ≤ 8 by decide) k3 (fun r hr => by cases hr; decide +kernel) (xm_tellN k3 n1 (by omega)) (fun v hv12 hq => ?_)
  obtain ⟨rfl, rfl⟩ := hq
  have n13 : ((fm.set 0 (.int (Int32.ofInt 0))).set 1 (.int (Int32.ofInt (-1)))).length = 42 := by rw [List.length_set]; exact n1
  have f14 : ((fm.set 0 (.int (Int32.ofInt 0))).set 1 (.int (Int32.ofInt (-1))))[0]? = some (.int (Int32.ofInt 0)) := by
    rw [List.getElem?_set_ne (by decide)]
    exact f2
  have k15 : ((h.set (b1 + 0) (.inr (12, (fm.set 0 (.int (Int32.ofInt 0)))))).set (b1 + 0) (.inr (12, ((fm.set 0 (.int (Int32.ofInt 0))).set 1 (.int (Int32.ofInt (-1)))))))[b1 + 0]? = some (.inr (12, ((fm.set 0 (.int (Int32.ofInt 0))).set 1 (.int (Int32.ofInt (-1)))))) := List.getElem?_set_self (List.getElem?_eq_some_iff.mp k3).1
  exact j_ret (v := some (.int (Int32.ofInt (-1)))) ⟨by decide +kernel, Or.inl (by decide +kernel)⟩ ⟨rfl, rfl⟩ rfl
set_option maxRecDepth 8192 in
theorem xr_bad_1h {b1 : Nat} {fm : List Value} (hm : h[b1 + 0]? = some (.inr (12, fm))) (lm : fm.length = 42) {x1 : Int32} {x2 : Int32} (g1 : 0 ≤ x1.toInt ∧ x1.toInt ≤ 11) (u : 1023 < x2.toInt) : jCal l g 309 3 [.ref (g.2.2 + (b1 + 0)), .int x1, .int x2] h 0 0 (fun v h' => v = some (.int (Int32.ofInt (-1))) ∧ h' = (h.set (b1 + 0) (.inr (12, fm.set 0 (.int (Int32.ofInt 0))))).set (b1 + 0) (.inr (12, (fm.set 0 (.int (Int32.ofInt 0))).set 1 (.int (Int32.ofInt (-1)))))) := by
  have hcls : jcN 12 = (jyN 309).cls := by decide +kernel
  have cn0 : (Int32.ofInt 0).toInt = 0 := by decide
  have cn1 : (Int32.ofInt 1).toInt = 1 := by decide
  have cn2 : (Int32.ofInt (-1)).toInt = -1 := by decide
  refine jCal_of (by decide +kernel) (show 3 ≤ jmx 309 by decide +kernel) ?_
  show J l g 309 3 0 [some (.ref (g.2.2 + (b1 + 0))), some (.int x1), some (.int x2), none] [] h 0 0 _
  refine j_aload_n (k4 := 0) (dQ (by decide +kernel)) rfl ?_
  refine j_iconst (n := 0) (dQ (by decide +kernel)) ?_
  refine j_put (own := 12) (i := 94) (ci := 12) (f := 0) (ty := .int) (dQ (by decide +kernel)) hcls (by decide +kernel) hm rfl (by decide +kernel) (by rw [lm]; decide) (by decide +kernel) (by decide +kernel) rfl rfl ?_
  have n1 : (fm.set 0 (.int (Int32.ofInt 0))).length = 42 := by rw [List.length_set]; exact lm
  have f2 : (fm.set 0 (.int (Int32.ofInt 0)))[0]? = some (.int (Int32.ofInt 0)) := List.getElem?_set_self (by rw [lm]; decide)
  have k3 : (h.set (b1 + 0) (.inr (12, (fm.set 0 (.int (Int32.ofInt 0))))))[b1 + 0]? = some (.inr (12, (fm.set 0 (.int (Int32.ofInt 0))))) := List.getElem?_set_self (List.getElem?_eq_some_iff.mp hm).1
  refine j_iload_n (k4 := 1) (dQ (by decide +kernel)) rfl ?_
  refine j_cS (own := 12) (i := 285) (y2 := 235) (d2 := 2) (mc := 0) (ms := 0) (kc := 0) (ks := 0) (As := [.int x1]) (st := []) (dQ (by decide +kernel)) hcls (by decide +kernel) (by decide) (by decide +kernel) (show 1 = jnp 235 by decide +kernel) (by decide) (show 0 ≤ 8 by decide) (xm_isBerth_1 (by omega) (by omega)) (fun v hv5 hq => ?_)
  obtain ⟨rfl, rfl⟩ := hq
  refine j_if_eq (off := 15) (tgt := 24) (dQ (by decide +kernel)) (by decide) (fun q => absurd (congrArg Int32.toInt q) (by rw [i32_z]; omega)) (fun _ => ?_)
  refine j_iload_n (k4 := 2) (dQ (by decide +kernel)) rfl ?_
  refine x_i2l (dQ (by decide +kernel)) (fun r6 hr6 => ?_)
  refine j_lconst (n := 0) (dQ (by decide +kernel)) ?_
  have hq7 : (Int64.ofNat ((0 : Fin 2) : Nat)).toInt = 0 := by decide
  refine j_ldc2 (own := 12) (i := 394) (v := 1023) hcls (by decide +kernel) (by decide +kernel) ?_
  have hq8 : (1023 : Int64).toInt = 1023 := by decide
  refine j_cS (own := 12) (i := 100) (y2 := 205) (d2 := 1) (mc := 0) (ms := 0) (kc := 0) (ks := 0) (As := [.long r6, .long (Int64.ofNat ((0 : Fin 2) : Nat)), .long (1023 : Int64)]) (st := []) (dQ (by decide +kernel)) hcls (by decide +kernel) (by decide) (by decide +kernel) (show 3 = jnp 205 by decide +kernel) (by decide) (show 0 ≤ 8 by decide) (xm_in_0h (by omega) (by omega)) (fun v hv10 hq => ?_)
  obtain ⟨rfl, rfl⟩ := hq
  refine j_if_ne (off := 9) (tgt := 30) (dQ (by decide +kernel)) (by decide) (fun q => absurd (i32_eq (show _ = (0 : Int32).toInt by rw [i32_z]; omega)) q) (fun _ => ?_)
  refine j_aload_n (k4 := 0) (dQ (by decide +kernel)) rfl ?_
  refine j_iconst (n := (-1)) (dQ (by decide +kernel)) ?_
  refine j_cV (own := 12) (i := 104) (y2 := 206) (d2 := 1) (mc := 0) (ms := 0) (kc := 0) (ks := 0) (a := b1 + 0) (As := [.int (Int32.ofInt (-1))]) (st := []) (dQ (by decide +kernel)) hcls (by decide +kernel) (by decide) (by decide +kernel) (show 1 = jnp 206 by decide +kernel) (by decide) (show 0 ≤ 8 by decide) k3 (fun r hr => by cases hr; decide +kernel) (xm_tellN k3 n1 (by omega)) (fun v hv12 hq => ?_)
  obtain ⟨rfl, rfl⟩ := hq
  have n13 : ((fm.set 0 (.int (Int32.ofInt 0))).set 1 (.int (Int32.ofInt (-1)))).length = 42 := by rw [List.length_set]; exact n1
  have f14 : ((fm.set 0 (.int (Int32.ofInt 0))).set 1 (.int (Int32.ofInt (-1))))[0]? = some (.int (Int32.ofInt 0)) := by
    rw [List.getElem?_set_ne (by decide)]
    exact f2
  have k15 : ((h.set (b1 + 0) (.inr (12, (fm.set 0 (.int (Int32.ofInt 0)))))).set (b1 + 0) (.inr (12, ((fm.set 0 (.int (Int32.ofInt 0))).set 1 (.int (Int32.ofInt (-1)))))))[b1 + 0]? = some (.inr (12, ((fm.set 0 (.int (Int32.ofInt 0))).set 1 (.int (Int32.ofInt (-1)))))) := List.getElem?_set_self (List.getElem?_eq_some_iff.mp k3).1
  exact j_ret (v := some (.int (Int32.ofInt (-1)))) ⟨by decide +kernel, Or.inl (by decide +kernel)⟩ ⟨rfl, rfl⟩ rfl
set_option maxRecDepth 8192 in
theorem xk_station {b0 : Nat} {fx fs : List Value} {f : Nat → Int32} (hx : h[b0 + 0]? = some (.inr (11, fx))) (lx : fx.length = 12) (px : fx[0]? = some (.ref (g.2.2 + (b0 + 1)))) (hs : h[b0 + 1]? = some (.inr (7, fs))) (ps : fs[11]? = some (.ref (g.2.2 + (b0 + 25)))) (ha : h[b0 + 25]? = some (.inl (0, 12, f))) {x1 : Int32} {x2 : Int32} {b : Nat} (e1 : x1.toInt = (b : Int)) (g1 : b ≤ 11) (g2 : -1 ≤ x2.toInt ∧ x2.toInt ≤ 5) : jCal l g 162 2 [.ref (g.2.2 + (b0 + 0)), .int x1, .int x2] h 0 0 (fun v h' => v = some (.int (f b)) ∧ h' = (h.set (b0 + 25) (.inl (0, 12, upd f b x2))).set (b0 + 0) (.inr (11, fx.set 7 (.int (Int32.ofInt 0))))) := by
  have hcls : jcN 11 = (jyN 162).cls := by decide +kernel
  have cn0 : (Int32.ofInt 1).toInt = 1 := by decide
  have cn1 : (Int32.ofInt (-1)).toInt = -1 := by decide
  have cn2 : (Int32.ofInt 6).toInt = 6 := by decide
  have cn3 : (Int32.ofInt 0).toInt = 0 := by decide
  refine jCal_of (by decide +kernel) (show 3 ≤ jmx 162 by decide +kernel) ?_
  show J l g 162 2 0 [some (.ref (g.2.2 + (b0 + 0))), some (.int x1), some (.int x2), none] [] h 0 0 _
  refine j_iload_n (k4 := 1) (dQ (by decide +kernel)) rfl ?_
  refine j_cS (own := 11) (i := 34) (y2 := 14) (d2 := 1) (mc := 0) (ms := 0) (kc := 0) (ks := 0) (As := [.int x1]) (st := []) (dQ (by decide +kernel)) hcls (by decide +kernel) (by decide) (by decide +kernel) (show 1 = jnp 14 by decide +kernel) (by decide) (show 0 ≤ 8 by decide) (x_isBerth_1 (by omega) (by omega)) (fun v hv2 hq => ?_)
  obtain ⟨rfl, rfl⟩ := hq
  refine j_if_eq (off := 14) (tgt := 18) (dQ (by decide +kernel)) (by decide) (fun q => absurd (congrArg Int32.toInt q) (by rw [i32_z]; omega)) (fun _ => ?_)
  refine j_iload_n (k4 := 2) (dQ (by decide +kernel)) rfl ?_
  refine j_iconst (n := (-1)) (dQ (by decide +kernel)) ?_
  refine j_icmp_lt (off := 9) (tgt := 18) (dQ (by decide +kernel)) (by decide) (fun q => absurd (i32_lt.mp q) (by omega)) (fun _ => ?_)
  refine j_iload_n (k4 := 2) (dQ (by decide +kernel)) rfl ?_
  refine x_bi (n := 6) (dQ (by decide +kernel)) (by decide) ?_
  refine j_icmp_lt (off := 9) (tgt := 24) (dQ (by decide +kernel)) (by decide) (fun _ => ?_) (fun q => absurd (i32_lt.mpr (by omega)) q)
  refine j_aload_n (k4 := 0) (dQ (by decide +kernel)) rfl ?_
  refine j_get (own := 11) (i := 10) (ci := 11) (f := 0) (dQ (by decide +kernel)) hcls (by decide +kernel) hx (fun r hr => by cases hr; decide +kernel) px ?_
  refine j_get (own := 11) (i := 305) (ci := 7) (f := 11) (dQ (by decide +kernel)) hcls (by decide +kernel) hs (fun r hr => by cases hr; decide +kernel) ps ?_
  refine j_iload_n (k4 := 1) (dQ (by decide +kernel)) rfl ?_
  refine x_ald b (dQ (by decide +kernel)) ha (by omega) (by omega) ?_
  refine j_istore_n (k4 := 3) (dQ (by decide +kernel)) (by decide +kernel) ?_
  refine j_aload_n (k4 := 0) (dQ (by decide +kernel)) rfl ?_
  refine j_get (own := 11) (i := 10) (ci := 11) (f := 0) (dQ (by decide +kernel)) hcls (by decide +kernel) hx (fun r hr => by cases hr; decide +kernel) px ?_
  refine j_get (own := 11) (i := 305) (ci := 7) (f := 11) (dQ (by decide +kernel)) hcls (by decide +kernel) hs (fun r hr => by cases hr; decide +kernel) ps ?_
  refine j_iload_n (k4 := 1) (dQ (by decide +kernel)) rfl ?_
  refine j_iload_n (k4 := 2) (dQ (by decide +kernel)) rfl ?_
  refine x_ast b (dQ (by decide +kernel)) ha (by omega) (by omega) ?_
  have k3 : (h.set (b0 + 25) (.inl (0, 12, (upd f b x2))))[b0 + 0]? = some (.inr (11, fx)) := by
    rw [List.getElem?_set_ne (by omega)]
    exact hx
  have k4 : (h.set (b0 + 25) (.inl (0, 12, (upd f b x2))))[b0 + 1]? = some (.inr (7, fs)) := by
    rw [List.getElem?_set_ne (by omega)]
    exact hs
  have k5 : (h.set (b0 + 25) (.inl (0, 12, (upd f b x2))))[b0 + 25]? = some (.inl (0, 12, (upd f b x2))) := List.getElem?_set_self (List.getElem?_eq_some_iff.mp ha).1
  refine j_aload_n (k4 := 0) (dQ (by decide +kernel)) rfl ?_
  refine j_iload_n (k4 := 3) (dQ (by decide +kernel)) rfl ?_
  refine j_cV (own := 11) (i := 48) (y2 := 17) (d2 := 1) (mc := 0) (ms := 0) (kc := 0) (ks := 0) (a := b0 + 0) (As := [.int (f b)]) (st := []) (dQ (by decide +kernel)) hcls (by decide +kernel) (by decide) (by decide +kernel) (show 1 = jnp 17 by decide +kernel) (by decide) (show 0 ≤ 8 by decide) k3 (fun r hr => by cases hr; decide +kernel) (x_allow k3 lx) (fun v hv7 hq => ?_)
  obtain ⟨rfl, rfl⟩ := hq
  have n8 : (fx.set 7 (.int (Int32.ofInt 0))).length = 12 := by rw [List.length_set]; exact lx
  have f9 : (fx.set 7 (.int (Int32.ofInt 0)))[0]? = some (.ref (g.2.2 + (b0 + 1))) := by
    rw [List.getElem?_set_ne (by decide)]
    exact px
  have k10 : ((h.set (b0 + 25) (.inl (0, 12, (upd f b x2)))).set (b0 + 0) (.inr (11, (fx.set 7 (.int (Int32.ofInt 0))))))[b0 + 0]? = some (.inr (11, (fx.set 7 (.int (Int32.ofInt 0))))) := List.getElem?_set_self (List.getElem?_eq_some_iff.mp k3).1
  have k11 : ((h.set (b0 + 25) (.inl (0, 12, (upd f b x2)))).set (b0 + 0) (.inr (11, (fx.set 7 (.int (Int32.ofInt 0))))))[b0 + 1]? = some (.inr (7, fs)) := by
    rw [List.getElem?_set_ne (by omega)]
    exact k4
  have k12 : ((h.set (b0 + 25) (.inl (0, 12, (upd f b x2)))).set (b0 + 0) (.inr (11, (fx.set 7 (.int (Int32.ofInt 0))))))[b0 + 25]? = some (.inl (0, 12, (upd f b x2))) := by
    rw [List.getElem?_set_ne (by omega)]
    exact k5
  exact j_ret (v := some (.int (f b))) ⟨by decide +kernel, Or.inl (by decide +kernel)⟩ ⟨rfl, rfl⟩ rfl
set_option maxRecDepth 8192 in
theorem xr_station {b1 : Nat} {fm : List Value} {f : Nat → Int32} (hm : h[b1 + 0]? = some (.inr (12, fm))) (lm : fm.length = 42) (pm : fm[2]? = some (.ref (g.2.2 + (b1 + 1)))) (hr : h[b1 + 1]? = some (.inl (0, 5270, f))) {x1 : Int32} {x2 : Int32} {b : Nat} (e1 : x1.toInt = (b : Int)) (g1 : b ≤ 11) (g2 : -1 ≤ x2.toInt ∧ x2.toInt ≤ 5) : jCal l g 295 3 [.ref (g.2.2 + (b1 + 0)), .int x1, .int x2] h 0 0 (fun v h' => v = some (.int (f (5030 + b))) ∧ h' = ((h.set (b1 + 0) (.inr (12, fm.set 0 (.int (Int32.ofInt 0))))).set (b1 + 1) (.inl (0, 5270, upd f (5030 + b) x2))).set (b1 + 0) (.inr (12, (fm.set 0 (.int (Int32.ofInt 0))).set 1 (.int (Int32.ofInt 0))))) := by
  have hcls : jcN 12 = (jyN 295).cls := by decide +kernel
  have cn0 : (Int32.ofInt 0).toInt = 0 := by decide
  have cn1 : (Int32.ofInt 1).toInt = 1 := by decide
  have cn2 : (Int32.ofInt 5030).toInt = 5030 := by decide
  refine jCal_of (by decide +kernel) (show 3 ≤ jmx 295 by decide +kernel) ?_
  show J l g 295 3 0 [some (.ref (g.2.2 + (b1 + 0))), some (.int x1), some (.int x2), none] [] h 0 0 _
  refine j_aload_n (k4 := 0) (dQ (by decide +kernel)) rfl ?_
  refine j_iconst (n := 0) (dQ (by decide +kernel)) ?_
  refine j_put (own := 12) (i := 94) (ci := 12) (f := 0) (ty := .int) (dQ (by decide +kernel)) hcls (by decide +kernel) hm rfl (by decide +kernel) (by rw [lm]; decide) (by decide +kernel) (by decide +kernel) rfl rfl ?_
  have n1 : (fm.set 0 (.int (Int32.ofInt 0))).length = 42 := by rw [List.length_set]; exact lm
  have f2 : (fm.set 0 (.int (Int32.ofInt 0)))[2]? = some (.ref (g.2.2 + (b1 + 1))) := by
    rw [List.getElem?_set_ne (by decide)]
    exact pm
  have f3 : (fm.set 0 (.int (Int32.ofInt 0)))[0]? = some (.int (Int32.ofInt 0)) := List.getElem?_set_self (by rw [lm]; decide)
  have k4 : (h.set (b1 + 0) (.inr (12, (fm.set 0 (.int (Int32.ofInt 0))))))[b1 + 0]? = some (.inr (12, (fm.set 0 (.int (Int32.ofInt 0))))) := List.getElem?_set_self (List.getElem?_eq_some_iff.mp hm).1
  have k5 : (h.set (b1 + 0) (.inr (12, (fm.set 0 (.int (Int32.ofInt 0))))))[b1 + 1]? = some (.inl (0, 5270, f)) := by
    rw [List.getElem?_set_ne (by omega)]
    exact hr
  refine j_iload_n (k4 := 1) (dQ (by decide +kernel)) rfl ?_
  refine j_cS (own := 12) (i := 285) (y2 := 235) (d2 := 2) (mc := 0) (ms := 0) (kc := 0) (ks := 0) (As := [.int x1]) (st := []) (dQ (by decide +kernel)) hcls (by decide +kernel) (by decide) (by decide +kernel) (show 1 = jnp 235 by decide +kernel) (by decide) (show 0 ≤ 8 by decide) (xm_isBerth_1 (by omega) (by omega)) (fun v hv7 hq => ?_)
  obtain ⟨rfl, rfl⟩ := hq
  refine j_if_eq (off := 17) (tgt := 26) (dQ (by decide +kernel)) (by decide) (fun q => absurd (congrArg Int32.toInt q) (by rw [i32_z]; omega)) (fun _ => ?_)
  refine j_iload_n (k4 := 2) (dQ (by decide +kernel)) rfl ?_
  refine x_i2l (dQ (by decide +kernel)) (fun r8 hr8 => ?_)
  refine j_ldc2 (own := 12) (i := 163) (v := -1) hcls (by decide +kernel) (by decide +kernel) ?_
  have hq9 : (-1 : Int64).toInt = -1 := by decide
  refine j_ldc2 (own := 12) (i := 341) (v := 5) hcls (by decide +kernel) (by decide +kernel) ?_
  have hq10 : (5 : Int64).toInt = 5 := by decide
  refine j_cS (own := 12) (i := 100) (y2 := 205) (d2 := 1) (mc := 0) (ms := 0) (kc := 0) (ks := 0) (As := [.long r8, .long (-1 : Int64), .long (5 : Int64)]) (st := []) (dQ (by decide +kernel)) hcls (by decide +kernel) (by decide) (by decide +kernel) (show 3 = jnp 205 by decide +kernel) (by decide) (show 0 ≤ 8 by decide) (xm_in_1 (by omega) (by omega)) (fun v hv12 hq => ?_)
  obtain ⟨rfl, rfl⟩ := hq
  refine j_if_ne (off := 9) (tgt := 32) (dQ (by decide +kernel)) (by decide) (fun _ => ?_) (fun q => absurd (fun q => absurd (congrArg Int32.toInt q) (by rw [i32_z]; omega)) q)
  refine j_aload_n (k4 := 0) (dQ (by decide +kernel)) rfl ?_
  refine j_get (own := 12) (i := 7) (ci := 12) (f := 2) (dQ (by decide +kernel)) hcls (by decide +kernel) k4 (fun r hr => by cases hr; decide +kernel) f2 ?_
  refine x_si (n := 5030) (dQ (by decide +kernel)) (by decide) ?_
  refine j_iload_n (k4 := 1) (dQ (by decide +kernel)) rfl ?_
  refine x_add (dQ (by decide +kernel)) (by omega) (fun r13 hr13 => ?_)
  refine x_ald (5030 + b) (dQ (by decide +kernel)) k5 (by omega) (by omega) ?_
  refine j_istore_n (k4 := 3) (dQ (by decide +kernel)) (by decide +kernel) ?_
  refine j_aload_n (k4 := 0) (dQ (by decide +kernel)) rfl ?_
  refine j_get (own := 12) (i := 7) (ci := 12) (f := 2) (dQ (by decide +kernel)) hcls (by decide +kernel) k4 (fun r hr => by cases hr; decide +kernel) f2 ?_
  refine x_si (n := 5030) (dQ (by decide +kernel)) (by decide) ?_
  refine j_iload_n (k4 := 1) (dQ (by decide +kernel)) rfl ?_
  refine x_add (dQ (by decide +kernel)) (by omega) (fun r14 hr14 => ?_)
  refine j_iload_n (k4 := 2) (dQ (by decide +kernel)) rfl ?_
  refine x_ast (5030 + b) (dQ (by decide +kernel)) k5 (by omega) (by omega) ?_
  have k15 : ((h.set (b1 + 0) (.inr (12, (fm.set 0 (.int (Int32.ofInt 0)))))).set (b1 + 1) (.inl (0, 5270, (upd f (5030 + b) x2))))[b1 + 0]? = some (.inr (12, (fm.set 0 (.int (Int32.ofInt 0))))) := by
    rw [List.getElem?_set_ne (by omega)]
    exact k4
  have k16 : ((h.set (b1 + 0) (.inr (12, (fm.set 0 (.int (Int32.ofInt 0)))))).set (b1 + 1) (.inl (0, 5270, (upd f (5030 + b) x2))))[b1 + 1]? = some (.inl (0, 5270, (upd f (5030 + b) x2))) := List.getElem?_set_self (List.getElem?_eq_some_iff.mp k5).1
  refine j_aload_n (k4 := 0) (dQ (by decide +kernel)) rfl ?_
  refine j_iload_n (k4 := 3) (dQ (by decide +kernel)) rfl ?_
  refine j_cV (own := 12) (i := 252) (y2 := 216) (d2 := 1) (mc := 0) (ms := 0) (kc := 0) (ks := 0) (a := b1 + 0) (As := [.int (f (5030 + b))]) (st := []) (dQ (by decide +kernel)) hcls (by decide +kernel) (by decide) (by decide +kernel) (show 1 = jnp 216 by decide +kernel) (by decide) (show 0 ≤ 8 by decide) k15 (fun r hr => by cases hr; decide +kernel) (xm_was k15 n1) (fun v hv18 hq => ?_)
  obtain ⟨rfl, rfl⟩ := hq
  have n19 : ((fm.set 0 (.int (Int32.ofInt 0))).set 1 (.int (Int32.ofInt 0))).length = 42 := by rw [List.length_set]; exact n1
  have f20 : ((fm.set 0 (.int (Int32.ofInt 0))).set 1 (.int (Int32.ofInt 0)))[2]? = some (.ref (g.2.2 + (b1 + 1))) := by
    rw [List.getElem?_set_ne (by decide)]
    exact f2
  have f21 : ((fm.set 0 (.int (Int32.ofInt 0))).set 1 (.int (Int32.ofInt 0)))[0]? = some (.int (Int32.ofInt 0)) := by
    rw [List.getElem?_set_ne (by decide)]
    exact f3
  have k22 : (((h.set (b1 + 0) (.inr (12, (fm.set 0 (.int (Int32.ofInt 0)))))).set (b1 + 1) (.inl (0, 5270, (upd f (5030 + b) x2)))).set (b1 + 0) (.inr (12, ((fm.set 0 (.int (Int32.ofInt 0))).set 1 (.int (Int32.ofInt 0))))))[b1 + 0]? = some (.inr (12, ((fm.set 0 (.int (Int32.ofInt 0))).set 1 (.int (Int32.ofInt 0))))) := List.getElem?_set_self (List.getElem?_eq_some_iff.mp k15).1
  have k23 : (((h.set (b1 + 0) (.inr (12, (fm.set 0 (.int (Int32.ofInt 0)))))).set (b1 + 1) (.inl (0, 5270, (upd f (5030 + b) x2)))).set (b1 + 0) (.inr (12, ((fm.set 0 (.int (Int32.ofInt 0))).set 1 (.int (Int32.ofInt 0))))))[b1 + 1]? = some (.inl (0, 5270, (upd f (5030 + b) x2))) := by
    rw [List.getElem?_set_ne (by omega)]
    exact k16
  exact j_ret (v := some (.int (f (5030 + b)))) ⟨by decide +kernel, Or.inl (by decide +kernel)⟩ ⟨rfl, rfl⟩ rfl
set_option maxRecDepth 8192 in
theorem xk_station_0l {b0 : Nat} {fx : List Value} (hx : h[b0 + 0]? = some (.inr (11, fx))) (lx : fx.length = 12) {x1 : Int32} {x2 : Int32} (u : x1.toInt < 0) : jCal l g 162 2 [.ref (g.2.2 + (b0 + 0)), .int x1, .int x2] h 0 0 (fun v h' => v = some (.int (Int32.ofInt (-1))) ∧ h' = h.set (b0 + 0) (.inr (11, fx.set 7 (.int (Int32.ofInt (-1)))))) := by
  have hcls : jcN 11 = (jyN 162).cls := by decide +kernel
  have cn0 : (Int32.ofInt 0).toInt = 0 := by decide
  have cn1 : (Int32.ofInt (-1)).toInt = -1 := by decide
  refine jCal_of (by decide +kernel) (show 3 ≤ jmx 162 by decide +kernel) ?_
  show J l g 162 2 0 [some (.ref (g.2.2 + (b0 + 0))), some (.int x1), some (.int x2), none] [] h 0 0 _
  refine j_iload_n (k4 := 1) (dQ (by decide +kernel)) rfl ?_
  refine j_cS (own := 11) (i := 34) (y2 := 14) (d2 := 1) (mc := 0) (ms := 0) (kc := 0) (ks := 0) (As := [.int x1]) (st := []) (dQ (by decide +kernel)) hcls (by decide +kernel) (by decide) (by decide +kernel) (show 1 = jnp 14 by decide +kernel) (by decide) (show 0 ≤ 8 by decide) (x_isBerth_0l (by omega)) (fun v hv2 hq => ?_)
  obtain ⟨rfl, rfl⟩ := hq
  refine j_if_eq (off := 14) (tgt := 18) (dQ (by decide +kernel)) (by decide) (fun _ => ?_) (fun q => absurd (i32_eq (show _ = (0 : Int32).toInt by rw [i32_z]; omega)) q)
  refine j_aload_n (k4 := 0) (dQ (by decide +kernel)) rfl ?_
  refine j_iconst (n := (-1)) (dQ (by decide +kernel)) ?_
  refine j_cV (own := 11) (i := 41) (y2 := 16) (d2 := 1) (mc := 0) (ms := 0) (kc := 0) (ks := 0) (a := b0 + 0) (As := [.int (Int32.ofInt (-1))]) (st := []) (dQ (by decide +kernel)) hcls (by decide +kernel) (by decide) (by decide +kernel) (show 1 = jnp 16 by decide +kernel) (by decide) (show 0 ≤ 8 by decide) hx (fun r hr => by cases hr; decide +kernel) (x_refuse hx lx) (fun v hv4 hq => ?_)
  obtain ⟨rfl, rfl⟩ := hq
  have n5 : (fx.set 7 (.int (Int32.ofInt (-1)))).length = 12 := by rw [List.length_set]; exact lx
  have k6 : (h.set (b0 + 0) (.inr (11, (fx.set 7 (.int (Int32.ofInt (-1)))))))[b0 + 0]? = some (.inr (11, (fx.set 7 (.int (Int32.ofInt (-1)))))) := List.getElem?_set_self (List.getElem?_eq_some_iff.mp hx).1
  exact j_ret (v := some (.int (Int32.ofInt (-1)))) ⟨by decide +kernel, Or.inl (by decide +kernel)⟩ ⟨rfl, rfl⟩ rfl
set_option maxRecDepth 8192 in
theorem xk_station_0h {b0 : Nat} {fx : List Value} (hx : h[b0 + 0]? = some (.inr (11, fx))) (lx : fx.length = 12) {x1 : Int32} {x2 : Int32} (u : 11 < x1.toInt) : jCal l g 162 2 [.ref (g.2.2 + (b0 + 0)), .int x1, .int x2] h 0 0 (fun v h' => v = some (.int (Int32.ofInt (-1))) ∧ h' = h.set (b0 + 0) (.inr (11, fx.set 7 (.int (Int32.ofInt (-1)))))) := by
  have hcls : jcN 11 = (jyN 162).cls := by decide +kernel
  have cn0 : (Int32.ofInt 0).toInt = 0 := by decide
  have cn1 : (Int32.ofInt (-1)).toInt = -1 := by decide
  refine jCal_of (by decide +kernel) (show 3 ≤ jmx 162 by decide +kernel) ?_
  show J l g 162 2 0 [some (.ref (g.2.2 + (b0 + 0))), some (.int x1), some (.int x2), none] [] h 0 0 _
  refine j_iload_n (k4 := 1) (dQ (by decide +kernel)) rfl ?_
  refine j_cS (own := 11) (i := 34) (y2 := 14) (d2 := 1) (mc := 0) (ms := 0) (kc := 0) (ks := 0) (As := [.int x1]) (st := []) (dQ (by decide +kernel)) hcls (by decide +kernel) (by decide) (by decide +kernel) (show 1 = jnp 14 by decide +kernel) (by decide) (show 0 ≤ 8 by decide) (x_isBerth_0h (by omega)) (fun v hv2 hq => ?_)
  obtain ⟨rfl, rfl⟩ := hq
  refine j_if_eq (off := 14) (tgt := 18) (dQ (by decide +kernel)) (by decide) (fun _ => ?_) (fun q => absurd (i32_eq (show _ = (0 : Int32).toInt by rw [i32_z]; omega)) q)
  refine j_aload_n (k4 := 0) (dQ (by decide +kernel)) rfl ?_
  refine j_iconst (n := (-1)) (dQ (by decide +kernel)) ?_
  refine j_cV (own := 11) (i := 41) (y2 := 16) (d2 := 1) (mc := 0) (ms := 0) (kc := 0) (ks := 0) (a := b0 + 0) (As := [.int (Int32.ofInt (-1))]) (st := []) (dQ (by decide +kernel)) hcls (by decide +kernel) (by decide) (by decide +kernel) (show 1 = jnp 16 by decide +kernel) (by decide) (show 0 ≤ 8 by decide) hx (fun r hr => by cases hr; decide +kernel) (x_refuse hx lx) (fun v hv4 hq => ?_)
  obtain ⟨rfl, rfl⟩ := hq
  have n5 : (fx.set 7 (.int (Int32.ofInt (-1)))).length = 12 := by rw [List.length_set]; exact lx
  have k6 : (h.set (b0 + 0) (.inr (11, (fx.set 7 (.int (Int32.ofInt (-1)))))))[b0 + 0]? = some (.inr (11, (fx.set 7 (.int (Int32.ofInt (-1)))))) := List.getElem?_set_self (List.getElem?_eq_some_iff.mp hx).1
  exact j_ret (v := some (.int (Int32.ofInt (-1)))) ⟨by decide +kernel, Or.inl (by decide +kernel)⟩ ⟨rfl, rfl⟩ rfl
set_option maxRecDepth 8192 in
theorem xk_station_1l {b0 : Nat} {fx : List Value} (hx : h[b0 + 0]? = some (.inr (11, fx))) (lx : fx.length = 12) {x1 : Int32} {x2 : Int32} (g1 : 0 ≤ x1.toInt ∧ x1.toInt ≤ 11) (u : x2.toInt < -1) : jCal l g 162 2 [.ref (g.2.2 + (b0 + 0)), .int x1, .int x2] h 0 0 (fun v h' => v = some (.int (Int32.ofInt (-1))) ∧ h' = h.set (b0 + 0) (.inr (11, fx.set 7 (.int (Int32.ofInt (-1)))))) := by
  have hcls : jcN 11 = (jyN 162).cls := by decide +kernel
  have cn0 : (Int32.ofInt 1).toInt = 1 := by decide
  have cn1 : (Int32.ofInt (-1)).toInt = -1 := by decide
  refine jCal_of (by decide +kernel) (show 3 ≤ jmx 162 by decide +kernel) ?_
  show J l g 162 2 0 [some (.ref (g.2.2 + (b0 + 0))), some (.int x1), some (.int x2), none] [] h 0 0 _
  refine j_iload_n (k4 := 1) (dQ (by decide +kernel)) rfl ?_
  refine j_cS (own := 11) (i := 34) (y2 := 14) (d2 := 1) (mc := 0) (ms := 0) (kc := 0) (ks := 0) (As := [.int x1]) (st := []) (dQ (by decide +kernel)) hcls (by decide +kernel) (by decide) (by decide +kernel) (show 1 = jnp 14 by decide +kernel) (by decide) (show 0 ≤ 8 by decide) (x_isBerth_1 (by omega) (by omega)) (fun v hv2 hq => ?_)
  obtain ⟨rfl, rfl⟩ := hq
  refine j_if_eq (off := 14) (tgt := 18) (dQ (by decide +kernel)) (by decide) (fun q => absurd (congrArg Int32.toInt q) (by rw [i32_z]; omega)) (fun _ => ?_)
  refine j_iload_n (k4 := 2) (dQ (by decide +kernel)) rfl ?_
  refine j_iconst (n := (-1)) (dQ (by decide +kernel)) ?_
  refine j_icmp_lt (off := 9) (tgt := 18) (dQ (by decide +kernel)) (by decide) (fun _ => ?_) (fun q => absurd (i32_lt.mpr (by omega)) q)
  refine j_aload_n (k4 := 0) (dQ (by decide +kernel)) rfl ?_
  refine j_iconst (n := (-1)) (dQ (by decide +kernel)) ?_
  refine j_cV (own := 11) (i := 41) (y2 := 16) (d2 := 1) (mc := 0) (ms := 0) (kc := 0) (ks := 0) (a := b0 + 0) (As := [.int (Int32.ofInt (-1))]) (st := []) (dQ (by decide +kernel)) hcls (by decide +kernel) (by decide) (by decide +kernel) (show 1 = jnp 16 by decide +kernel) (by decide) (show 0 ≤ 8 by decide) hx (fun r hr => by cases hr; decide +kernel) (x_refuse hx lx) (fun v hv4 hq => ?_)
  obtain ⟨rfl, rfl⟩ := hq
  have n5 : (fx.set 7 (.int (Int32.ofInt (-1)))).length = 12 := by rw [List.length_set]; exact lx
  have k6 : (h.set (b0 + 0) (.inr (11, (fx.set 7 (.int (Int32.ofInt (-1)))))))[b0 + 0]? = some (.inr (11, (fx.set 7 (.int (Int32.ofInt (-1)))))) := List.getElem?_set_self (List.getElem?_eq_some_iff.mp hx).1
  exact j_ret (v := some (.int (Int32.ofInt (-1)))) ⟨by decide +kernel, Or.inl (by decide +kernel)⟩ ⟨rfl, rfl⟩ rfl
set_option maxRecDepth 8192 in
theorem xk_station_1h {b0 : Nat} {fx : List Value} (hx : h[b0 + 0]? = some (.inr (11, fx))) (lx : fx.length = 12) {x1 : Int32} {x2 : Int32} (g1 : 0 ≤ x1.toInt ∧ x1.toInt ≤ 11) (u : 5 < x2.toInt) : jCal l g 162 2 [.ref (g.2.2 + (b0 + 0)), .int x1, .int x2] h 0 0 (fun v h' => v = some (.int (Int32.ofInt (-1))) ∧ h' = h.set (b0 + 0) (.inr (11, fx.set 7 (.int (Int32.ofInt (-1)))))) := by
  have hcls : jcN 11 = (jyN 162).cls := by decide +kernel
  have cn0 : (Int32.ofInt 1).toInt = 1 := by decide
  have cn1 : (Int32.ofInt (-1)).toInt = -1 := by decide
  have cn2 : (Int32.ofInt 6).toInt = 6 := by decide
  refine jCal_of (by decide +kernel) (show 3 ≤ jmx 162 by decide +kernel) ?_
  show J l g 162 2 0 [some (.ref (g.2.2 + (b0 + 0))), some (.int x1), some (.int x2), none] [] h 0 0 _
  refine j_iload_n (k4 := 1) (dQ (by decide +kernel)) rfl ?_
  refine j_cS (own := 11) (i := 34) (y2 := 14) (d2 := 1) (mc := 0) (ms := 0) (kc := 0) (ks := 0) (As := [.int x1]) (st := []) (dQ (by decide +kernel)) hcls (by decide +kernel) (by decide) (by decide +kernel) (show 1 = jnp 14 by decide +kernel) (by decide) (show 0 ≤ 8 by decide) (x_isBerth_1 (by omega) (by omega)) (fun v hv2 hq => ?_)
  obtain ⟨rfl, rfl⟩ := hq
  refine j_if_eq (off := 14) (tgt := 18) (dQ (by decide +kernel)) (by decide) (fun q => absurd (congrArg Int32.toInt q) (by rw [i32_z]; omega)) (fun _ => ?_)
  refine j_iload_n (k4 := 2) (dQ (by decide +kernel)) rfl ?_
  refine j_iconst (n := (-1)) (dQ (by decide +kernel)) ?_
  refine j_icmp_lt (off := 9) (tgt := 18) (dQ (by decide +kernel)) (by decide) (fun q => absurd (i32_lt.mp q) (by omega)) (fun _ => ?_)
  refine j_iload_n (k4 := 2) (dQ (by decide +kernel)) rfl ?_
  refine x_bi (n := 6) (dQ (by decide +kernel)) (by decide) ?_
  refine j_icmp_lt (off := 9) (tgt := 24) (dQ (by decide +kernel)) (by decide) (fun q => absurd (i32_lt.mp q) (by omega)) (fun _ => ?_)
  refine j_aload_n (k4 := 0) (dQ (by decide +kernel)) rfl ?_
  refine j_iconst (n := (-1)) (dQ (by decide +kernel)) ?_
  refine j_cV (own := 11) (i := 41) (y2 := 16) (d2 := 1) (mc := 0) (ms := 0) (kc := 0) (ks := 0) (a := b0 + 0) (As := [.int (Int32.ofInt (-1))]) (st := []) (dQ (by decide +kernel)) hcls (by decide +kernel) (by decide) (by decide +kernel) (show 1 = jnp 16 by decide +kernel) (by decide) (show 0 ≤ 8 by decide) hx (fun r hr => by cases hr; decide +kernel) (x_refuse hx lx) (fun v hv4 hq => ?_)
  obtain ⟨rfl, rfl⟩ := hq
  have n5 : (fx.set 7 (.int (Int32.ofInt (-1)))).length = 12 := by rw [List.length_set]; exact lx
  have k6 : (h.set (b0 + 0) (.inr (11, (fx.set 7 (.int (Int32.ofInt (-1)))))))[b0 + 0]? = some (.inr (11, (fx.set 7 (.int (Int32.ofInt (-1)))))) := List.getElem?_set_self (List.getElem?_eq_some_iff.mp hx).1
  exact j_ret (v := some (.int (Int32.ofInt (-1)))) ⟨by decide +kernel, Or.inl (by decide +kernel)⟩ ⟨rfl, rfl⟩ rfl
set_option maxRecDepth 8192 in
theorem xr_station_0l {b1 : Nat} {fm : List Value} (hm : h[b1 + 0]? = some (.inr (12, fm))) (lm : fm.length = 42) {x1 : Int32} {x2 : Int32} (u : x1.toInt < 0) : jCal l g 295 3 [.ref (g.2.2 + (b1 + 0)), .int x1, .int x2] h 0 0 (fun v h' => v = some (.int (Int32.ofInt (-1))) ∧ h' = (h.set (b1 + 0) (.inr (12, fm.set 0 (.int (Int32.ofInt 0))))).set (b1 + 0) (.inr (12, (fm.set 0 (.int (Int32.ofInt 0))).set 1 (.int (Int32.ofInt (-1)))))) := by
  have hcls : jcN 12 = (jyN 295).cls := by decide +kernel
  have cn0 : (Int32.ofInt 0).toInt = 0 := by decide
  have cn1 : (Int32.ofInt (-1)).toInt = -1 := by decide
  refine jCal_of (by decide +kernel) (show 3 ≤ jmx 295 by decide +kernel) ?_
  show J l g 295 3 0 [some (.ref (g.2.2 + (b1 + 0))), some (.int x1), some (.int x2), none] [] h 0 0 _
  refine j_aload_n (k4 := 0) (dQ (by decide +kernel)) rfl ?_
  refine j_iconst (n := 0) (dQ (by decide +kernel)) ?_
  refine j_put (own := 12) (i := 94) (ci := 12) (f := 0) (ty := .int) (dQ (by decide +kernel)) hcls (by decide +kernel) hm rfl (by decide +kernel) (by rw [lm]; decide) (by decide +kernel) (by decide +kernel) rfl rfl ?_
  have n1 : (fm.set 0 (.int (Int32.ofInt 0))).length = 42 := by rw [List.length_set]; exact lm
  have f2 : (fm.set 0 (.int (Int32.ofInt 0)))[0]? = some (.int (Int32.ofInt 0)) := List.getElem?_set_self (by rw [lm]; decide)
  have k3 : (h.set (b1 + 0) (.inr (12, (fm.set 0 (.int (Int32.ofInt 0))))))[b1 + 0]? = some (.inr (12, (fm.set 0 (.int (Int32.ofInt 0))))) := List.getElem?_set_self (List.getElem?_eq_some_iff.mp hm).1
  refine j_iload_n (k4 := 1) (dQ (by decide +kernel)) rfl ?_
  refine j_cS (own := 12) (i := 285) (y2 := 235) (d2 := 2) (mc := 0) (ms := 0) (kc := 0) (ks := 0) (As := [.int x1]) (st := []) (dQ (by decide +kernel)) hcls (by decide +kernel) (by decide) (by decide +kernel) (show 1 = jnp 235 by decide +kernel) (by decide) (show 0 ≤ 8 by decide) (xm_isBerth_0l (by omega)) (fun v hv5 hq => ?_)
  obtain ⟨rfl, rfl⟩ := hq
  refine j_if_eq (off := 17) (tgt := 26) (dQ (by decide +kernel)) (by decide) (fun _ => ?_) (fun q => absurd (i32_eq (show _ = (0 : Int32).toInt by rw [i32_z]; omega)) q)
  refine j_aload_n (k4 := 0) (dQ (by decide +kernel)) rfl ?_
  refine j_iconst (n := (-1)) (dQ (by decide +kernel)) ?_
  refine j_cV (own := 12) (i := 104) (y2 := 206) (d2 := 1) (mc := 0) (ms := 0) (kc := 0) (ks := 0) (a := b1 + 0) (As := [.int (Int32.ofInt (-1))]) (st := []) (dQ (by decide +kernel)) hcls (by decide +kernel) (by decide) (by decide +kernel) (show 1 = jnp 206 by decide +kernel) (by decide) (show 0 ≤ 8 by decide) k3 (fun r hr => by cases hr; decide +kernel) (xm_tellN k3 n1 (by omega)) (fun v hv7 hq => ?_)
  obtain ⟨rfl, rfl⟩ := hq
  have n8 : ((fm.set 0 (.int (Int32.ofInt 0))).set 1 (.int (Int32.ofInt (-1)))).length = 42 := by rw [List.length_set]; exact n1
  have f9 : ((fm.set 0 (.int (Int32.ofInt 0))).set 1 (.int (Int32.ofInt (-1))))[0]? = some (.int (Int32.ofInt 0)) := by
    rw [List.getElem?_set_ne (by decide)]
    exact f2
  have k10 : ((h.set (b1 + 0) (.inr (12, (fm.set 0 (.int (Int32.ofInt 0)))))).set (b1 + 0) (.inr (12, ((fm.set 0 (.int (Int32.ofInt 0))).set 1 (.int (Int32.ofInt (-1)))))))[b1 + 0]? = some (.inr (12, ((fm.set 0 (.int (Int32.ofInt 0))).set 1 (.int (Int32.ofInt (-1)))))) := List.getElem?_set_self (List.getElem?_eq_some_iff.mp k3).1
  exact j_ret (v := some (.int (Int32.ofInt (-1)))) ⟨by decide +kernel, Or.inl (by decide +kernel)⟩ ⟨rfl, rfl⟩ rfl
set_option maxRecDepth 8192 in
theorem xr_station_0h {b1 : Nat} {fm : List Value} (hm : h[b1 + 0]? = some (.inr (12, fm))) (lm : fm.length = 42) {x1 : Int32} {x2 : Int32} (u : 11 < x1.toInt) : jCal l g 295 3 [.ref (g.2.2 + (b1 + 0)), .int x1, .int x2] h 0 0 (fun v h' => v = some (.int (Int32.ofInt (-1))) ∧ h' = (h.set (b1 + 0) (.inr (12, fm.set 0 (.int (Int32.ofInt 0))))).set (b1 + 0) (.inr (12, (fm.set 0 (.int (Int32.ofInt 0))).set 1 (.int (Int32.ofInt (-1)))))) := by
  have hcls : jcN 12 = (jyN 295).cls := by decide +kernel
  have cn0 : (Int32.ofInt 0).toInt = 0 := by decide
  have cn1 : (Int32.ofInt (-1)).toInt = -1 := by decide
  refine jCal_of (by decide +kernel) (show 3 ≤ jmx 295 by decide +kernel) ?_
  show J l g 295 3 0 [some (.ref (g.2.2 + (b1 + 0))), some (.int x1), some (.int x2), none] [] h 0 0 _
  refine j_aload_n (k4 := 0) (dQ (by decide +kernel)) rfl ?_
  refine j_iconst (n := 0) (dQ (by decide +kernel)) ?_
  refine j_put (own := 12) (i := 94) (ci := 12) (f := 0) (ty := .int) (dQ (by decide +kernel)) hcls (by decide +kernel) hm rfl (by decide +kernel) (by rw [lm]; decide) (by decide +kernel) (by decide +kernel) rfl rfl ?_
  have n1 : (fm.set 0 (.int (Int32.ofInt 0))).length = 42 := by rw [List.length_set]; exact lm
  have f2 : (fm.set 0 (.int (Int32.ofInt 0)))[0]? = some (.int (Int32.ofInt 0)) := List.getElem?_set_self (by rw [lm]; decide)
  have k3 : (h.set (b1 + 0) (.inr (12, (fm.set 0 (.int (Int32.ofInt 0))))))[b1 + 0]? = some (.inr (12, (fm.set 0 (.int (Int32.ofInt 0))))) := List.getElem?_set_self (List.getElem?_eq_some_iff.mp hm).1
  refine j_iload_n (k4 := 1) (dQ (by decide +kernel)) rfl ?_
  refine j_cS (own := 12) (i := 285) (y2 := 235) (d2 := 2) (mc := 0) (ms := 0) (kc := 0) (ks := 0) (As := [.int x1]) (st := []) (dQ (by decide +kernel)) hcls (by decide +kernel) (by decide) (by decide +kernel) (show 1 = jnp 235 by decide +kernel) (by decide) (show 0 ≤ 8 by decide) (xm_isBerth_0h (by omega)) (fun v hv5 hq => ?_)
  obtain ⟨rfl, rfl⟩ := hq
  refine j_if_eq (off := 17) (tgt := 26) (dQ (by decide +kernel)) (by decide) (fun _ => ?_) (fun q => absurd (i32_eq (show _ = (0 : Int32).toInt by rw [i32_z]; omega)) q)
  refine j_aload_n (k4 := 0) (dQ (by decide +kernel)) rfl ?_
  refine j_iconst (n := (-1)) (dQ (by decide +kernel)) ?_
  refine j_cV (own := 12) (i := 104) (y2 := 206) (d2 := 1) (mc := 0) (ms := 0) (kc := 0) (ks := 0) (a := b1 + 0) (As := [.int (Int32.ofInt (-1))]) (st := []) (dQ (by decide +kernel)) hcls (by decide +kernel) (by decide) (by decide +kernel) (show 1 = jnp 206 by decide +kernel) (by decide) (show 0 ≤ 8 by decide) k3 (fun r hr => by cases hr; decide +kernel) (xm_tellN k3 n1 (by omega)) (fun v hv7 hq => ?_)
  obtain ⟨rfl, rfl⟩ := hq
  have n8 : ((fm.set 0 (.int (Int32.ofInt 0))).set 1 (.int (Int32.ofInt (-1)))).length = 42 := by rw [List.length_set]; exact n1
  have f9 : ((fm.set 0 (.int (Int32.ofInt 0))).set 1 (.int (Int32.ofInt (-1))))[0]? = some (.int (Int32.ofInt 0)) := by
    rw [List.getElem?_set_ne (by decide)]
    exact f2
  have k10 : ((h.set (b1 + 0) (.inr (12, (fm.set 0 (.int (Int32.ofInt 0)))))).set (b1 + 0) (.inr (12, ((fm.set 0 (.int (Int32.ofInt 0))).set 1 (.int (Int32.ofInt (-1)))))))[b1 + 0]? = some (.inr (12, ((fm.set 0 (.int (Int32.ofInt 0))).set 1 (.int (Int32.ofInt (-1)))))) := List.getElem?_set_self (List.getElem?_eq_some_iff.mp k3).1
  exact j_ret (v := some (.int (Int32.ofInt (-1)))) ⟨by decide +kernel, Or.inl (by decide +kernel)⟩ ⟨rfl, rfl⟩ rfl
set_option maxRecDepth 8192 in
theorem xr_station_1l {b1 : Nat} {fm : List Value} (hm : h[b1 + 0]? = some (.inr (12, fm))) (lm : fm.length = 42) {x1 : Int32} {x2 : Int32} (g1 : 0 ≤ x1.toInt ∧ x1.toInt ≤ 11) (u : x2.toInt < -1) : jCal l g 295 3 [.ref (g.2.2 + (b1 + 0)), .int x1, .int x2] h 0 0 (fun v h' => v = some (.int (Int32.ofInt (-1))) ∧ h' = (h.set (b1 + 0) (.inr (12, fm.set 0 (.int (Int32.ofInt 0))))).set (b1 + 0) (.inr (12, (fm.set 0 (.int (Int32.ofInt 0))).set 1 (.int (Int32.ofInt (-1)))))) := by
  have hcls : jcN 12 = (jyN 295).cls := by decide +kernel
  have cn0 : (Int32.ofInt 0).toInt = 0 := by decide
  have cn1 : (Int32.ofInt 1).toInt = 1 := by decide
  have cn2 : (Int32.ofInt (-1)).toInt = -1 := by decide
  refine jCal_of (by decide +kernel) (show 3 ≤ jmx 295 by decide +kernel) ?_
  show J l g 295 3 0 [some (.ref (g.2.2 + (b1 + 0))), some (.int x1), some (.int x2), none] [] h 0 0 _
  refine j_aload_n (k4 := 0) (dQ (by decide +kernel)) rfl ?_
  refine j_iconst (n := 0) (dQ (by decide +kernel)) ?_
  refine j_put (own := 12) (i := 94) (ci := 12) (f := 0) (ty := .int) (dQ (by decide +kernel)) hcls (by decide +kernel) hm rfl (by decide +kernel) (by rw [lm]; decide) (by decide +kernel) (by decide +kernel) rfl rfl ?_
  have n1 : (fm.set 0 (.int (Int32.ofInt 0))).length = 42 := by rw [List.length_set]; exact lm
  have f2 : (fm.set 0 (.int (Int32.ofInt 0)))[0]? = some (.int (Int32.ofInt 0)) := List.getElem?_set_self (by rw [lm]; decide)
  have k3 : (h.set (b1 + 0) (.inr (12, (fm.set 0 (.int (Int32.ofInt 0))))))[b1 + 0]? = some (.inr (12, (fm.set 0 (.int (Int32.ofInt 0))))) := List.getElem?_set_self (List.getElem?_eq_some_iff.mp hm).1
  refine j_iload_n (k4 := 1) (dQ (by decide +kernel)) rfl ?_
  refine j_cS (own := 12) (i := 285) (y2 := 235) (d2 := 2) (mc := 0) (ms := 0) (kc := 0) (ks := 0) (As := [.int x1]) (st := []) (dQ (by decide +kernel)) hcls (by decide +kernel) (by decide) (by decide +kernel) (show 1 = jnp 235 by decide +kernel) (by decide) (show 0 ≤ 8 by decide) (xm_isBerth_1 (by omega) (by omega)) (fun v hv5 hq => ?_)
  obtain ⟨rfl, rfl⟩ := hq
  refine j_if_eq (off := 17) (tgt := 26) (dQ (by decide +kernel)) (by decide) (fun q => absurd (congrArg Int32.toInt q) (by rw [i32_z]; omega)) (fun _ => ?_)
  refine j_iload_n (k4 := 2) (dQ (by decide +kernel)) rfl ?_
  refine x_i2l (dQ (by decide +kernel)) (fun r6 hr6 => ?_)
  refine j_ldc2 (own := 12) (i := 163) (v := -1) hcls (by decide +kernel) (by decide +kernel) ?_
  have hq7 : (-1 : Int64).toInt = -1 := by decide
  refine j_ldc2 (own := 12) (i := 341) (v := 5) hcls (by decide +kernel) (by decide +kernel) ?_
  have hq8 : (5 : Int64).toInt = 5 := by decide
  refine j_cS (own := 12) (i := 100) (y2 := 205) (d2 := 1) (mc := 0) (ms := 0) (kc := 0) (ks := 0) (As := [.long r6, .long (-1 : Int64), .long (5 : Int64)]) (st := []) (dQ (by decide +kernel)) hcls (by decide +kernel) (by decide) (by decide +kernel) (show 3 = jnp 205 by decide +kernel) (by decide) (show 0 ≤ 8 by decide) (xm_in_0l (by omega)) (fun v hv10 hq => ?_)
  obtain ⟨rfl, rfl⟩ := hq
  refine j_if_ne (off := 9) (tgt := 32) (dQ (by decide +kernel)) (by decide) (fun q => absurd (i32_eq (show _ = (0 : Int32).toInt by rw [i32_z]; omega)) q) (fun _ => ?_)
  refine j_aload_n (k4 := 0) (dQ (by decide +kernel)) rfl ?_
  refine j_iconst (n := (-1)) (dQ (by decide +kernel)) ?_
  refine j_cV (own := 12) (i := 104) (y2 := 206) (d2 := 1) (mc := 0) (ms := 0) (kc := 0) (ks := 0) (a := b1 + 0) (As := [.int (Int32.ofInt (-1))]) (st := []) (dQ (by decide +kernel)) hcls (by decide +kernel) (by decide) (by decide +kernel) (show 1 = jnp 206 by decide +kernel) (by decide) (show 0 ≤ 8 by decide) k3 (fun r hr => by cases hr; decide +kernel) (xm_tellN k3 n1 (by omega)) (fun v hv12 hq => ?_)
  obtain ⟨rfl, rfl⟩ := hq
  have n13 : ((fm.set 0 (.int (Int32.ofInt 0))).set 1 (.int (Int32.ofInt (-1)))).length = 42 := by rw [List.length_set]; exact n1
  have f14 : ((fm.set 0 (.int (Int32.ofInt 0))).set 1 (.int (Int32.ofInt (-1))))[0]? = some (.int (Int32.ofInt 0)) := by
    rw [List.getElem?_set_ne (by decide)]
    exact f2
  have k15 : ((h.set (b1 + 0) (.inr (12, (fm.set 0 (.int (Int32.ofInt 0)))))).set (b1 + 0) (.inr (12, ((fm.set 0 (.int (Int32.ofInt 0))).set 1 (.int (Int32.ofInt (-1)))))))[b1 + 0]? = some (.inr (12, ((fm.set 0 (.int (Int32.ofInt 0))).set 1 (.int (Int32.ofInt (-1)))))) := List.getElem?_set_self (List.getElem?_eq_some_iff.mp k3).1
  exact j_ret (v := some (.int (Int32.ofInt (-1)))) ⟨by decide +kernel, Or.inl (by decide +kernel)⟩ ⟨rfl, rfl⟩ rfl
set_option maxRecDepth 8192 in
theorem xr_station_1h {b1 : Nat} {fm : List Value} (hm : h[b1 + 0]? = some (.inr (12, fm))) (lm : fm.length = 42) {x1 : Int32} {x2 : Int32} (g1 : 0 ≤ x1.toInt ∧ x1.toInt ≤ 11) (u : 5 < x2.toInt) : jCal l g 295 3 [.ref (g.2.2 + (b1 + 0)), .int x1, .int x2] h 0 0 (fun v h' => v = some (.int (Int32.ofInt (-1))) ∧ h' = (h.set (b1 + 0) (.inr (12, fm.set 0 (.int (Int32.ofInt 0))))).set (b1 + 0) (.inr (12, (fm.set 0 (.int (Int32.ofInt 0))).set 1 (.int (Int32.ofInt (-1)))))) := by
  have hcls : jcN 12 = (jyN 295).cls := by decide +kernel
  have cn0 : (Int32.ofInt 0).toInt = 0 := by decide
  have cn1 : (Int32.ofInt 1).toInt = 1 := by decide
  have cn2 : (Int32.ofInt (-1)).toInt = -1 := by decide
  refine jCal_of (by decide +kernel) (show 3 ≤ jmx 295 by decide +kernel) ?_
  show J l g 295 3 0 [some (.ref (g.2.2 + (b1 + 0))), some (.int x1), some (.int x2), none] [] h 0 0 _
  refine j_aload_n (k4 := 0) (dQ (by decide +kernel)) rfl ?_
  refine j_iconst (n := 0) (dQ (by decide +kernel)) ?_
  refine j_put (own := 12) (i := 94) (ci := 12) (f := 0) (ty := .int) (dQ (by decide +kernel)) hcls (by decide +kernel) hm rfl (by decide +kernel) (by rw [lm]; decide) (by decide +kernel) (by decide +kernel) rfl rfl ?_
  have n1 : (fm.set 0 (.int (Int32.ofInt 0))).length = 42 := by rw [List.length_set]; exact lm
  have f2 : (fm.set 0 (.int (Int32.ofInt 0)))[0]? = some (.int (Int32.ofInt 0)) := List.getElem?_set_self (by rw [lm]; decide)
  have k3 : (h.set (b1 + 0) (.inr (12, (fm.set 0 (.int (Int32.ofInt 0))))))[b1 + 0]? = some (.inr (12, (fm.set 0 (.int (Int32.ofInt 0))))) := List.getElem?_set_self (List.getElem?_eq_some_iff.mp hm).1
  refine j_iload_n (k4 := 1) (dQ (by decide +kernel)) rfl ?_
  refine j_cS (own := 12) (i := 285) (y2 := 235) (d2 := 2) (mc := 0) (ms := 0) (kc := 0) (ks := 0) (As := [.int x1]) (st := []) (dQ (by decide +kernel)) hcls (by decide +kernel) (by decide) (by decide +kernel) (show 1 = jnp 235 by decide +kernel) (by decide) (show 0 ≤ 8 by decide) (xm_isBerth_1 (by omega) (by omega)) (fun v hv5 hq => ?_)
  obtain ⟨rfl, rfl⟩ := hq
  refine j_if_eq (off := 17) (tgt := 26) (dQ (by decide +kernel)) (by decide) (fun q => absurd (congrArg Int32.toInt q) (by rw [i32_z]; omega)) (fun _ => ?_)
  refine j_iload_n (k4 := 2) (dQ (by decide +kernel)) rfl ?_
  refine x_i2l (dQ (by decide +kernel)) (fun r6 hr6 => ?_)
  refine j_ldc2 (own := 12) (i := 163) (v := -1) hcls (by decide +kernel) (by decide +kernel) ?_
  have hq7 : (-1 : Int64).toInt = -1 := by decide
  refine j_ldc2 (own := 12) (i := 341) (v := 5) hcls (by decide +kernel) (by decide +kernel) ?_
  have hq8 : (5 : Int64).toInt = 5 := by decide
  refine j_cS (own := 12) (i := 100) (y2 := 205) (d2 := 1) (mc := 0) (ms := 0) (kc := 0) (ks := 0) (As := [.long r6, .long (-1 : Int64), .long (5 : Int64)]) (st := []) (dQ (by decide +kernel)) hcls (by decide +kernel) (by decide) (by decide +kernel) (show 3 = jnp 205 by decide +kernel) (by decide) (show 0 ≤ 8 by decide) (xm_in_0h (by omega) (by omega)) (fun v hv10 hq => ?_)
  obtain ⟨rfl, rfl⟩ := hq
  refine j_if_ne (off := 9) (tgt := 32) (dQ (by decide +kernel)) (by decide) (fun q => absurd (i32_eq (show _ = (0 : Int32).toInt by rw [i32_z]; omega)) q) (fun _ => ?_)
  refine j_aload_n (k4 := 0) (dQ (by decide +kernel)) rfl ?_
  refine j_iconst (n := (-1)) (dQ (by decide +kernel)) ?_
  refine j_cV (own := 12) (i := 104) (y2 := 206) (d2 := 1) (mc := 0) (ms := 0) (kc := 0) (ks := 0) (a := b1 + 0) (As := [.int (Int32.ofInt (-1))]) (st := []) (dQ (by decide +kernel)) hcls (by decide +kernel) (by decide) (by decide +kernel) (show 1 = jnp 206 by decide +kernel) (by decide) (show 0 ≤ 8 by decide) k3 (fun r hr => by cases hr; decide +kernel) (xm_tellN k3 n1 (by omega)) (fun v hv12 hq => ?_)
  obtain ⟨rfl, rfl⟩ := hq
  have n13 : ((fm.set 0 (.int (Int32.ofInt 0))).set 1 (.int (Int32.ofInt (-1)))).length = 42 := by rw [List.length_set]; exact n1
  have f14 : ((fm.set 0 (.int (Int32.ofInt 0))).set 1 (.int (Int32.ofInt (-1))))[0]? = some (.int (Int32.ofInt 0)) := by
    rw [List.getElem?_set_ne (by decide)]
    exact f2
  have k15 : ((h.set (b1 + 0) (.inr (12, (fm.set 0 (.int (Int32.ofInt 0)))))).set (b1 + 0) (.inr (12, ((fm.set 0 (.int (Int32.ofInt 0))).set 1 (.int (Int32.ofInt (-1)))))))[b1 + 0]? = some (.inr (12, ((fm.set 0 (.int (Int32.ofInt 0))).set 1 (.int (Int32.ofInt (-1)))))) := List.getElem?_set_self (List.getElem?_eq_some_iff.mp k3).1
  exact j_ret (v := some (.int (Int32.ofInt (-1)))) ⟨by decide +kernel, Or.inl (by decide +kernel)⟩ ⟨rfl, rfl⟩ rfl
set_option maxRecDepth 8192 in
theorem xk_clock {b0 : Nat} {fx fs : List Value} {f : Nat → Int32} (hx : h[b0 + 0]? = some (.inr (11, fx))) (lx : fx.length = 12) (px : fx[0]? = some (.ref (g.2.2 + (b0 + 1)))) (hs : h[b0 + 1]? = some (.inr (7, fs))) (ps : fs[14]? = some (.ref (g.2.2 + (b0 + 28)))) (ha : h[b0 + 28]? = some (.inl (0, 3, f))) {x1 : Int32} {x2 : Int32} {b : Nat} (e1 : x1.toInt = (b : Int)) (g1 : b ≤ 2) (g2 : -30 ≤ x2.toInt ∧ x2.toInt ≤ 30) : jCal l g 178 2 [.ref (g.2.2 + (b0 + 0)), .int x1, .int x2] h 0 0 (fun v h' => v = some (.int (f b)) ∧ h' = (h.set (b0 + 28) (.inl (0, 3, upd f b x2))).set (b0 + 0) (.inr (11, fx.set 7 (.int (Int32.ofInt 0))))) := by
  have hcls : jcN 11 = (jyN 178).cls := by decide +kernel
  have cn0 : (Int32.ofInt (-30)).toInt = -30 := by decide
  have cn1 : (Int32.ofInt 30).toInt = 30 := by decide
  have cn2 : (Int32.ofInt 1).toInt = 1 := by decide
  have cn3 : (Int32.ofInt 0).toInt = 0 := by decide
  refine jCal_of (by decide +kernel) (show 3 ≤ jmx 178 by decide +kernel) ?_
  show J l g 178 2 0 [some (.ref (g.2.2 + (b0 + 0))), some (.int x1), some (.int x2), none] [] h 0 0 _
  refine j_iload_n (k4 := 2) (dQ (by decide +kernel)) rfl ?_
  refine x_bi (n := (-30)) (dQ (by decide +kernel)) (by decide) ?_
  refine j_icmp_lt (off := 9) (tgt := 12) (dQ (by decide +kernel)) (by decide) (fun q => absurd (i32_lt.mp q) (by omega)) (fun _ => ?_)
  refine j_iload_n (k4 := 2) (dQ (by decide +kernel)) rfl ?_
  refine x_bi (n := 30) (dQ (by decide +kernel)) (by decide) ?_
  refine j_icmp_le (off := 9) (tgt := 18) (dQ (by decide +kernel)) (by decide) (fun _ => ?_) (fun q => absurd (i32_le.mpr (by omega)) q)
  refine j_iload_n (k4 := 1) (dQ (by decide +kernel)) rfl ?_
  refine j_cS (own := 11) (i := 326) (y2 := 179) (d2 := 1) (mc := 0) (ms := 0) (kc := 0) (ks := 0) (As := [.int x1]) (st := []) (dQ (by decide +kernel)) hcls (by decide +kernel) (by decide) (by decide +kernel) (show 1 = jnp 179 by decide +kernel) (by decide) (show 0 ≤ 8 by decide) (x_isBox_1 (by omega) (by omega)) (fun v hv2 hq => ?_)
  obtain ⟨rfl, rfl⟩ := hq
  refine j_if_ne (off := 10) (tgt := 32) (dQ (by decide +kernel)) (by decide) (fun _ => ?_) (fun q => absurd (fun q => absurd (congrArg Int32.toInt q) (by rw [i32_z]; omega)) q)
  refine j_aload_n (k4 := 0) (dQ (by decide +kernel)) rfl ?_
  refine j_get (own := 11) (i := 10) (ci := 11) (f := 0) (dQ (by decide +kernel)) hcls (by decide +kernel) hx (fun r hr => by cases hr; decide +kernel) px ?_
  refine j_get (own := 11) (i := 329) (ci := 7) (f := 14) (dQ (by decide +kernel)) hcls (by decide +kernel) hs (fun r hr => by cases hr; decide +kernel) ps ?_
  refine j_iload_n (k4 := 1) (dQ (by decide +kernel)) rfl ?_
  refine x_ald b (dQ (by decide +kernel)) ha (by omega) (by omega) ?_
  refine j_istore_n (k4 := 3) (dQ (by decide +kernel)) (by decide +kernel) ?_
  refine j_aload_n (k4 := 0) (dQ (by decide +kernel)) rfl ?_
  refine j_get (own := 11) (i := 10) (ci := 11) (f := 0) (dQ (by decide +kernel)) hcls (by decide +kernel) hx (fun r hr => by cases hr; decide +kernel) px ?_
  refine j_get (own := 11) (i := 329) (ci := 7) (f := 14) (dQ (by decide +kernel)) hcls (by decide +kernel) hs (fun r hr => by cases hr; decide +kernel) ps ?_
  refine j_iload_n (k4 := 1) (dQ (by decide +kernel)) rfl ?_
  refine j_iload_n (k4 := 2) (dQ (by decide +kernel)) rfl ?_
  refine x_ast b (dQ (by decide +kernel)) ha (by omega) (by omega) ?_
  have k3 : (h.set (b0 + 28) (.inl (0, 3, (upd f b x2))))[b0 + 0]? = some (.inr (11, fx)) := by
    rw [List.getElem?_set_ne (by omega)]
    exact hx
  have k4 : (h.set (b0 + 28) (.inl (0, 3, (upd f b x2))))[b0 + 1]? = some (.inr (7, fs)) := by
    rw [List.getElem?_set_ne (by omega)]
    exact hs
  have k5 : (h.set (b0 + 28) (.inl (0, 3, (upd f b x2))))[b0 + 28]? = some (.inl (0, 3, (upd f b x2))) := List.getElem?_set_self (List.getElem?_eq_some_iff.mp ha).1
  refine j_aload_n (k4 := 0) (dQ (by decide +kernel)) rfl ?_
  refine j_iload_n (k4 := 3) (dQ (by decide +kernel)) rfl ?_
  refine j_cV (own := 11) (i := 48) (y2 := 17) (d2 := 1) (mc := 0) (ms := 0) (kc := 0) (ks := 0) (a := b0 + 0) (As := [.int (f b)]) (st := []) (dQ (by decide +kernel)) hcls (by decide +kernel) (by decide) (by decide +kernel) (show 1 = jnp 17 by decide +kernel) (by decide) (show 0 ≤ 8 by decide) k3 (fun r hr => by cases hr; decide +kernel) (x_allow k3 lx) (fun v hv7 hq => ?_)
  obtain ⟨rfl, rfl⟩ := hq
  have n8 : (fx.set 7 (.int (Int32.ofInt 0))).length = 12 := by rw [List.length_set]; exact lx
  have f9 : (fx.set 7 (.int (Int32.ofInt 0)))[0]? = some (.ref (g.2.2 + (b0 + 1))) := by
    rw [List.getElem?_set_ne (by decide)]
    exact px
  have k10 : ((h.set (b0 + 28) (.inl (0, 3, (upd f b x2)))).set (b0 + 0) (.inr (11, (fx.set 7 (.int (Int32.ofInt 0))))))[b0 + 0]? = some (.inr (11, (fx.set 7 (.int (Int32.ofInt 0))))) := List.getElem?_set_self (List.getElem?_eq_some_iff.mp k3).1
  have k11 : ((h.set (b0 + 28) (.inl (0, 3, (upd f b x2)))).set (b0 + 0) (.inr (11, (fx.set 7 (.int (Int32.ofInt 0))))))[b0 + 1]? = some (.inr (7, fs)) := by
    rw [List.getElem?_set_ne (by omega)]
    exact k4
  have k12 : ((h.set (b0 + 28) (.inl (0, 3, (upd f b x2)))).set (b0 + 0) (.inr (11, (fx.set 7 (.int (Int32.ofInt 0))))))[b0 + 28]? = some (.inl (0, 3, (upd f b x2))) := by
    rw [List.getElem?_set_ne (by omega)]
    exact k5
  exact j_ret (v := some (.int (f b))) ⟨by decide +kernel, Or.inl (by decide +kernel)⟩ ⟨rfl, rfl⟩ rfl
set_option maxRecDepth 8192 in
theorem xr_clock {b1 : Nat} {fm : List Value} {f : Nat → Int32} (hm : h[b1 + 0]? = some (.inr (12, fm))) (lm : fm.length = 42) (pm : fm[2]? = some (.ref (g.2.2 + (b1 + 1)))) (hr : h[b1 + 1]? = some (.inl (0, 5270, f))) {x1 : Int32} {x2 : Int32} {b : Nat} (e1 : x1.toInt = (b : Int)) (g1 : b ≤ 2) (g2 : -30 ≤ x2.toInt ∧ x2.toInt ≤ 30) : jCal l g 306 2 [.ref (g.2.2 + (b1 + 0)), .int x1, .int x2] h 0 0 (fun v h' => v = some (.int (f (76 + b))) ∧ h' = ((h.set (b1 + 0) (.inr (12, fm.set 0 (.int (Int32.ofInt 0))))).set (b1 + 1) (.inl (0, 5270, upd f (76 + b) x2))).set (b1 + 0) (.inr (12, (fm.set 0 (.int (Int32.ofInt 0))).set 1 (.int (Int32.ofInt 0))))) := by
  have hcls : jcN 12 = (jyN 306).cls := by decide +kernel
  have cn0 : (Int32.ofInt 0).toInt = 0 := by decide
  have cn1 : (Int32.ofInt 1).toInt = 1 := by decide
  have cn2 : (Int32.ofInt 76).toInt = 76 := by decide
  refine jCal_of (by decide +kernel) (show 3 ≤ jmx 306 by decide +kernel) ?_
  show J l g 306 2 0 [some (.ref (g.2.2 + (b1 + 0))), some (.int x1), some (.int x2), none] [] h 0 0 _
  refine j_aload_n (k4 := 0) (dQ (by decide +kernel)) rfl ?_
  refine j_iconst (n := 0) (dQ (by decide +kernel)) ?_
  refine j_put (own := 12) (i := 94) (ci := 12) (f := 0) (ty := .int) (dQ (by decide +kernel)) hcls (by decide +kernel) hm rfl (by decide +kernel) (by rw [lm]; decide) (by decide +kernel) (by decide +kernel) rfl rfl ?_
  have n1 : (fm.set 0 (.int (Int32.ofInt 0))).length = 42 := by rw [List.length_set]; exact lm
  have f2 : (fm.set 0 (.int (Int32.ofInt 0)))[2]? = some (.ref (g.2.2 + (b1 + 1))) := by
    rw [List.getElem?_set_ne (by decide)]
    exact pm
  have f3 : (fm.set 0 (.int (Int32.ofInt 0)))[0]? = some (.int (Int32.ofInt 0)) := List.getElem?_set_self (by rw [lm]; decide)
  have k4 : (h.set (b1 + 0) (.inr (12, (fm.set 0 (.int (Int32.ofInt 0))))))[b1 + 0]? = some (.inr (12, (fm.set 0 (.int (Int32.ofInt 0))))) := List.getElem?_set_self (List.getElem?_eq_some_iff.mp hm).1
  have k5 : (h.set (b1 + 0) (.inr (12, (fm.set 0 (.int (Int32.ofInt 0))))))[b1 + 1]? = some (.inl (0, 5270, f)) := by
    rw [List.getElem?_set_ne (by omega)]
    exact hr
  refine j_iload_n (k4 := 2) (dQ (by decide +kernel)) rfl ?_
  refine x_i2l (dQ (by decide +kernel)) (fun r6 hr6 => ?_)
  refine j_ldc2 (own := 12) (i := 388) (v := -30) hcls (by decide +kernel) (by decide +kernel) ?_
  have hq7 : (-30 : Int64).toInt = -30 := by decide
  refine j_ldc2 (own := 12) (i := 390) (v := 30) hcls (by decide +kernel) (by decide +kernel) ?_
  have hq8 : (30 : Int64).toInt = 30 := by decide
  refine j_cS (own := 12) (i := 100) (y2 := 205) (d2 := 1) (mc := 0) (ms := 0) (kc := 0) (ks := 0) (As := [.long r6, .long (-30 : Int64), .long (30 : Int64)]) (st := []) (dQ (by decide +kernel)) hcls (by decide +kernel) (by decide) (by decide +kernel) (show 3 = jnp 205 by decide +kernel) (by decide) (show 0 ≤ 8 by decide) (xm_in_1 (by omega) (by omega)) (fun v hv10 hq => ?_)
  obtain ⟨rfl, rfl⟩ := hq
  refine j_if_ne (off := 9) (tgt := 25) (dQ (by decide +kernel)) (by decide) (fun _ => ?_) (fun q => absurd (fun q => absurd (congrArg Int32.toInt q) (by rw [i32_z]; omega)) q)
  refine j_iload_n (k4 := 1) (dQ (by decide +kernel)) rfl ?_
  refine x_i2l (dQ (by decide +kernel)) (fun r11 hr11 => ?_)
  refine j_lconst (n := 0) (dQ (by decide +kernel)) ?_
  have hq12 : (Int64.ofNat ((0 : Fin 2) : Nat)).toInt = 0 := by decide
  refine j_ldc2 (own := 12) (i := 308) (v := 2) hcls (by decide +kernel) (by decide +kernel) ?_
  have hq13 : (2 : Int64).toInt = 2 := by decide
  refine j_cS (own := 12) (i := 100) (y2 := 205) (d2 := 1) (mc := 0) (ms := 0) (kc := 0) (ks := 0) (As := [.long r11, .long (Int64.ofNat ((0 : Fin 2) : Nat)), .long (2 : Int64)]) (st := []) (dQ (by decide +kernel)) hcls (by decide +kernel) (by decide) (by decide +kernel) (show 3 = jnp 205 by decide +kernel) (by decide) (show 0 ≤ 8 by decide) (xm_in_1 (by omega) (by omega)) (fun v hv15 hq => ?_)
  obtain ⟨rfl, rfl⟩ := hq
  refine j_if_ne (off := 10) (tgt := 44) (dQ (by decide +kernel)) (by decide) (fun _ => ?_) (fun q => absurd (fun q => absurd (congrArg Int32.toInt q) (by rw [i32_z]; omega)) q)
  refine j_aload_n (k4 := 0) (dQ (by decide +kernel)) rfl ?_
  refine j_get (own := 12) (i := 7) (ci := 12) (f := 2) (dQ (by decide +kernel)) hcls (by decide +kernel) k4 (fun r hr => by cases hr; decide +kernel) f2 ?_
  refine x_bi (n := 76) (dQ (by decide +kernel)) (by decide) ?_
  refine j_iload_n (k4 := 1) (dQ (by decide +kernel)) rfl ?_
  refine x_add (dQ (by decide +kernel)) (by omega) (fun r16 hr16 => ?_)
  refine x_ald (76 + b) (dQ (by decide +kernel)) k5 (by omega) (by omega) ?_
  refine j_istore_n (k4 := 3) (dQ (by decide +kernel)) (by decide +kernel) ?_
  refine j_aload_n (k4 := 0) (dQ (by decide +kernel)) rfl ?_
  refine j_get (own := 12) (i := 7) (ci := 12) (f := 2) (dQ (by decide +kernel)) hcls (by decide +kernel) k4 (fun r hr => by cases hr; decide +kernel) f2 ?_
  refine x_bi (n := 76) (dQ (by decide +kernel)) (by decide) ?_
  refine j_iload_n (k4 := 1) (dQ (by decide +kernel)) rfl ?_
  refine x_add (dQ (by decide +kernel)) (by omega) (fun r17 hr17 => ?_)
  refine j_iload_n (k4 := 2) (dQ (by decide +kernel)) rfl ?_
  refine x_ast (76 + b) (dQ (by decide +kernel)) k5 (by omega) (by omega) ?_
  have k18 : ((h.set (b1 + 0) (.inr (12, (fm.set 0 (.int (Int32.ofInt 0)))))).set (b1 + 1) (.inl (0, 5270, (upd f (76 + b) x2))))[b1 + 0]? = some (.inr (12, (fm.set 0 (.int (Int32.ofInt 0))))) := by
    rw [List.getElem?_set_ne (by omega)]
    exact k4
  have k19 : ((h.set (b1 + 0) (.inr (12, (fm.set 0 (.int (Int32.ofInt 0)))))).set (b1 + 1) (.inl (0, 5270, (upd f (76 + b) x2))))[b1 + 1]? = some (.inl (0, 5270, (upd f (76 + b) x2))) := List.getElem?_set_self (List.getElem?_eq_some_iff.mp k5).1
  refine j_aload_n (k4 := 0) (dQ (by decide +kernel)) rfl ?_
  refine j_iload_n (k4 := 3) (dQ (by decide +kernel)) rfl ?_
  refine j_cV (own := 12) (i := 252) (y2 := 216) (d2 := 1) (mc := 0) (ms := 0) (kc := 0) (ks := 0) (a := b1 + 0) (As := [.int (f (76 + b))]) (st := []) (dQ (by decide +kernel)) hcls (by decide +kernel) (by decide) (by decide +kernel) (show 1 = jnp 216 by decide +kernel) (by decide) (show 0 ≤ 8 by decide) k18 (fun r hr => by cases hr; decide +kernel) (xm_was k18 n1) (fun v hv21 hq => ?_)
  obtain ⟨rfl, rfl⟩ := hq
  have n22 : ((fm.set 0 (.int (Int32.ofInt 0))).set 1 (.int (Int32.ofInt 0))).length = 42 := by rw [List.length_set]; exact n1
  have f23 : ((fm.set 0 (.int (Int32.ofInt 0))).set 1 (.int (Int32.ofInt 0)))[2]? = some (.ref (g.2.2 + (b1 + 1))) := by
    rw [List.getElem?_set_ne (by decide)]
    exact f2
  have f24 : ((fm.set 0 (.int (Int32.ofInt 0))).set 1 (.int (Int32.ofInt 0)))[0]? = some (.int (Int32.ofInt 0)) := by
    rw [List.getElem?_set_ne (by decide)]
    exact f3
  have k25 : (((h.set (b1 + 0) (.inr (12, (fm.set 0 (.int (Int32.ofInt 0)))))).set (b1 + 1) (.inl (0, 5270, (upd f (76 + b) x2)))).set (b1 + 0) (.inr (12, ((fm.set 0 (.int (Int32.ofInt 0))).set 1 (.int (Int32.ofInt 0))))))[b1 + 0]? = some (.inr (12, ((fm.set 0 (.int (Int32.ofInt 0))).set 1 (.int (Int32.ofInt 0))))) := List.getElem?_set_self (List.getElem?_eq_some_iff.mp k18).1
  have k26 : (((h.set (b1 + 0) (.inr (12, (fm.set 0 (.int (Int32.ofInt 0)))))).set (b1 + 1) (.inl (0, 5270, (upd f (76 + b) x2)))).set (b1 + 0) (.inr (12, ((fm.set 0 (.int (Int32.ofInt 0))).set 1 (.int (Int32.ofInt 0))))))[b1 + 1]? = some (.inl (0, 5270, (upd f (76 + b) x2))) := by
    rw [List.getElem?_set_ne (by omega)]
    exact k19
  exact j_ret (v := some (.int (f (76 + b)))) ⟨by decide +kernel, Or.inl (by decide +kernel)⟩ ⟨rfl, rfl⟩ rfl
set_option maxRecDepth 8192 in
theorem xk_clock_1l {b0 : Nat} {fx : List Value} (hx : h[b0 + 0]? = some (.inr (11, fx))) (lx : fx.length = 12) {x1 : Int32} {x2 : Int32} (u : x2.toInt < -30) : jCal l g 178 2 [.ref (g.2.2 + (b0 + 0)), .int x1, .int x2] h 0 0 (fun v h' => v = some (.int (Int32.ofInt (-1))) ∧ h' = h.set (b0 + 0) (.inr (11, fx.set 7 (.int (Int32.ofInt (-1)))))) := by
  have hcls : jcN 11 = (jyN 178).cls := by decide +kernel
  have cn0 : (Int32.ofInt (-30)).toInt = -30 := by decide
  have cn1 : (Int32.ofInt (-1)).toInt = -1 := by decide
  refine jCal_of (by decide +kernel) (show 3 ≤ jmx 178 by decide +kernel) ?_
  show J l g 178 2 0 [some (.ref (g.2.2 + (b0 + 0))), some (.int x1), some (.int x2), none] [] h 0 0 _
  refine j_iload_n (k4 := 2) (dQ (by decide +kernel)) rfl ?_
  refine x_bi (n := (-30)) (dQ (by decide +kernel)) (by decide) ?_
  refine j_icmp_lt (off := 9) (tgt := 12) (dQ (by decide +kernel)) (by decide) (fun _ => ?_) (fun q => absurd (i32_lt.mpr (by omega)) q)
  refine j_aload_n (k4 := 0) (dQ (by decide +kernel)) rfl ?_
  refine j_iconst (n := (-1)) (dQ (by decide +kernel)) ?_
  refine j_cV (own := 11) (i := 41) (y2 := 16) (d2 := 1) (mc := 0) (ms := 0) (kc := 0) (ks := 0) (a := b0 + 0) (As := [.int (Int32.ofInt (-1))]) (st := []) (dQ (by decide +kernel)) hcls (by decide +kernel) (by decide) (by decide +kernel) (show 1 = jnp 16 by decide +kernel) (by decide) (show 0 ≤ 8 by decide) hx (fun r hr => by cases hr; decide +kernel) (x_refuse hx lx) (fun v hv2 hq => ?_)
  obtain ⟨rfl, rfl⟩ := hq
  have n3 : (fx.set 7 (.int (Int32.ofInt (-1)))).length = 12 := by rw [List.length_set]; exact lx
  have k4 : (h.set (b0 + 0) (.inr (11, (fx.set 7 (.int (Int32.ofInt (-1)))))))[b0 + 0]? = some (.inr (11, (fx.set 7 (.int (Int32.ofInt (-1)))))) := List.getElem?_set_self (List.getElem?_eq_some_iff.mp hx).1
  exact j_ret (v := some (.int (Int32.ofInt (-1)))) ⟨by decide +kernel, Or.inl (by decide +kernel)⟩ ⟨rfl, rfl⟩ rfl
set_option maxRecDepth 8192 in
theorem xk_clock_1h {b0 : Nat} {fx : List Value} (hx : h[b0 + 0]? = some (.inr (11, fx))) (lx : fx.length = 12) {x1 : Int32} {x2 : Int32} (u : 30 < x2.toInt) : jCal l g 178 2 [.ref (g.2.2 + (b0 + 0)), .int x1, .int x2] h 0 0 (fun v h' => v = some (.int (Int32.ofInt (-1))) ∧ h' = h.set (b0 + 0) (.inr (11, fx.set 7 (.int (Int32.ofInt (-1)))))) := by
  have hcls : jcN 11 = (jyN 178).cls := by decide +kernel
  have cn0 : (Int32.ofInt (-30)).toInt = -30 := by decide
  have cn1 : (Int32.ofInt 30).toInt = 30 := by decide
  have cn2 : (Int32.ofInt (-1)).toInt = -1 := by decide
  refine jCal_of (by decide +kernel) (show 3 ≤ jmx 178 by decide +kernel) ?_
  show J l g 178 2 0 [some (.ref (g.2.2 + (b0 + 0))), some (.int x1), some (.int x2), none] [] h 0 0 _
  refine j_iload_n (k4 := 2) (dQ (by decide +kernel)) rfl ?_
  refine x_bi (n := (-30)) (dQ (by decide +kernel)) (by decide) ?_
  refine j_icmp_lt (off := 9) (tgt := 12) (dQ (by decide +kernel)) (by decide) (fun q => absurd (i32_lt.mp q) (by omega)) (fun _ => ?_)
  refine j_iload_n (k4 := 2) (dQ (by decide +kernel)) rfl ?_
  refine x_bi (n := 30) (dQ (by decide +kernel)) (by decide) ?_
  refine j_icmp_le (off := 9) (tgt := 18) (dQ (by decide +kernel)) (by decide) (fun q => absurd (i32_le.mp q) (by omega)) (fun _ => ?_)
  refine j_aload_n (k4 := 0) (dQ (by decide +kernel)) rfl ?_
  refine j_iconst (n := (-1)) (dQ (by decide +kernel)) ?_
  refine j_cV (own := 11) (i := 41) (y2 := 16) (d2 := 1) (mc := 0) (ms := 0) (kc := 0) (ks := 0) (a := b0 + 0) (As := [.int (Int32.ofInt (-1))]) (st := []) (dQ (by decide +kernel)) hcls (by decide +kernel) (by decide) (by decide +kernel) (show 1 = jnp 16 by decide +kernel) (by decide) (show 0 ≤ 8 by decide) hx (fun r hr => by cases hr; decide +kernel) (x_refuse hx lx) (fun v hv2 hq => ?_)
  obtain ⟨rfl, rfl⟩ := hq
  have n3 : (fx.set 7 (.int (Int32.ofInt (-1)))).length = 12 := by rw [List.length_set]; exact lx
  have k4 : (h.set (b0 + 0) (.inr (11, (fx.set 7 (.int (Int32.ofInt (-1)))))))[b0 + 0]? = some (.inr (11, (fx.set 7 (.int (Int32.ofInt (-1)))))) := List.getElem?_set_self (List.getElem?_eq_some_iff.mp hx).1
  exact j_ret (v := some (.int (Int32.ofInt (-1)))) ⟨by decide +kernel, Or.inl (by decide +kernel)⟩ ⟨rfl, rfl⟩ rfl
set_option maxRecDepth 8192 in
theorem xk_clock_0l {b0 : Nat} {fx : List Value} (hx : h[b0 + 0]? = some (.inr (11, fx))) (lx : fx.length = 12) {x1 : Int32} {x2 : Int32} (g2 : -30 ≤ x2.toInt ∧ x2.toInt ≤ 30) (u : x1.toInt < 0) : jCal l g 178 2 [.ref (g.2.2 + (b0 + 0)), .int x1, .int x2] h 0 0 (fun v h' => v = some (.int (Int32.ofInt (-2))) ∧ h' = h.set (b0 + 0) (.inr (11, fx.set 7 (.int (Int32.ofInt (-2)))))) := by
  have hcls : jcN 11 = (jyN 178).cls := by decide +kernel
  have cn0 : (Int32.ofInt (-30)).toInt = -30 := by decide
  have cn1 : (Int32.ofInt 30).toInt = 30 := by decide
  have cn2 : (Int32.ofInt 0).toInt = 0 := by decide
  have cn3 : (Int32.ofInt (-2)).toInt = -2 := by decide
  refine jCal_of (by decide +kernel) (show 3 ≤ jmx 178 by decide +kernel) ?_
  show J l g 178 2 0 [some (.ref (g.2.2 + (b0 + 0))), some (.int x1), some (.int x2), none] [] h 0 0 _
  refine j_iload_n (k4 := 2) (dQ (by decide +kernel)) rfl ?_
  refine x_bi (n := (-30)) (dQ (by decide +kernel)) (by decide) ?_
  refine j_icmp_lt (off := 9) (tgt := 12) (dQ (by decide +kernel)) (by decide) (fun q => absurd (i32_lt.mp q) (by omega)) (fun _ => ?_)
  refine j_iload_n (k4 := 2) (dQ (by decide +kernel)) rfl ?_
  refine x_bi (n := 30) (dQ (by decide +kernel)) (by decide) ?_
  refine j_icmp_le (off := 9) (tgt := 18) (dQ (by decide +kernel)) (by decide) (fun _ => ?_) (fun q => absurd (i32_le.mpr (by omega)) q)
  refine j_iload_n (k4 := 1) (dQ (by decide +kernel)) rfl ?_
  refine j_cS (own := 11) (i := 326) (y2 := 179) (d2 := 1) (mc := 0) (ms := 0) (kc := 0) (ks := 0) (As := [.int x1]) (st := []) (dQ (by decide +kernel)) hcls (by decide +kernel) (by decide) (by decide +kernel) (show 1 = jnp 179 by decide +kernel) (by decide) (show 0 ≤ 8 by decide) (x_isBox_0l (by omega)) (fun v hv2 hq => ?_)
  obtain ⟨rfl, rfl⟩ := hq
  refine j_if_ne (off := 10) (tgt := 32) (dQ (by decide +kernel)) (by decide) (fun q => absurd (i32_eq (show _ = (0 : Int32).toInt by rw [i32_z]; omega)) q) (fun _ => ?_)
  refine j_aload_n (k4 := 0) (dQ (by decide +kernel)) rfl ?_
  refine x_bi (n := (-2)) (dQ (by decide +kernel)) (by decide) ?_
  refine j_cV (own := 11) (i := 41) (y2 := 16) (d2 := 1) (mc := 0) (ms := 0) (kc := 0) (ks := 0) (a := b0 + 0) (As := [.int (Int32.ofInt (-2))]) (st := []) (dQ (by decide +kernel)) hcls (by decide +kernel) (by decide) (by decide +kernel) (show 1 = jnp 16 by decide +kernel) (by decide) (show 0 ≤ 8 by decide) hx (fun r hr => by cases hr; decide +kernel) (x_refuse hx lx) (fun v hv4 hq => ?_)
  obtain ⟨rfl, rfl⟩ := hq
  have n5 : (fx.set 7 (.int (Int32.ofInt (-2)))).length = 12 := by rw [List.length_set]; exact lx
  have k6 : (h.set (b0 + 0) (.inr (11, (fx.set 7 (.int (Int32.ofInt (-2)))))))[b0 + 0]? = some (.inr (11, (fx.set 7 (.int (Int32.ofInt (-2)))))) := List.getElem?_set_self (List.getElem?_eq_some_iff.mp hx).1
  exact j_ret (v := some (.int (Int32.ofInt (-2)))) ⟨by decide +kernel, Or.inl (by decide +kernel)⟩ ⟨rfl, rfl⟩ rfl
set_option maxRecDepth 8192 in
theorem xk_clock_0h {b0 : Nat} {fx : List Value} (hx : h[b0 + 0]? = some (.inr (11, fx))) (lx : fx.length = 12) {x1 : Int32} {x2 : Int32} (g2 : -30 ≤ x2.toInt ∧ x2.toInt ≤ 30) (u : 2 < x1.toInt) : jCal l g 178 2 [.ref (g.2.2 + (b0 + 0)), .int x1, .int x2] h 0 0 (fun v h' => v = some (.int (Int32.ofInt (-2))) ∧ h' = h.set (b0 + 0) (.inr (11, fx.set 7 (.int (Int32.ofInt (-2)))))) := by
  have hcls : jcN 11 = (jyN 178).cls := by decide +kernel
  have cn0 : (Int32.ofInt (-30)).toInt = -30 := by decide
  have cn1 : (Int32.ofInt 30).toInt = 30 := by decide
  have cn2 : (Int32.ofInt 0).toInt = 0 := by decide
  have cn3 : (Int32.ofInt (-2)).toInt = -2 := by decide
  refine jCal_of (by decide +kernel) (show 3 ≤ jmx 178 by decide +kernel) ?_
  show J l g 178 2 0 [some (.ref (g.2.2 + (b0 + 0))), some (.int x1), some (.int x2), none] [] h 0 0 _
  refine j_iload_n (k4 := 2) (dQ (by decide +kernel)) rfl ?_
  refine x_bi (n := (-30)) (dQ (by decide +kernel)) (by decide) ?_
  refine j_icmp_lt (off := 9) (tgt := 12) (dQ (by decide +kernel)) (by decide) (fun q => absurd (i32_lt.mp q) (by omega)) (fun _ => ?_)
  refine j_iload_n (k4 := 2) (dQ (by decide +kernel)) rfl ?_
  refine x_bi (n := 30) (dQ (by decide +kernel)) (by decide) ?_
  refine j_icmp_le (off := 9) (tgt := 18) (dQ (by decide +kernel)) (by decide) (fun _ => ?_) (fun q => absurd (i32_le.mpr (by omega)) q)
  refine j_iload_n (k4 := 1) (dQ (by decide +kernel)) rfl ?_
  refine j_cS (own := 11) (i := 326) (y2 := 179) (d2 := 1) (mc := 0) (ms := 0) (kc := 0) (ks := 0) (As := [.int x1]) (st := []) (dQ (by decide +kernel)) hcls (by decide +kernel) (by decide) (by decide +kernel) (show 1 = jnp 179 by decide +kernel) (by decide) (show 0 ≤ 8 by decide) (x_isBox_0h (by omega)) (fun v hv2 hq => ?_)
  obtain ⟨rfl, rfl⟩ := hq
  refine j_if_ne (off := 10) (tgt := 32) (dQ (by decide +kernel)) (by decide) (fun q => absurd (i32_eq (show _ = (0 : Int32).toInt by rw [i32_z]; omega)) q) (fun _ => ?_)
  refine j_aload_n (k4 := 0) (dQ (by decide +kernel)) rfl ?_
  refine x_bi (n := (-2)) (dQ (by decide +kernel)) (by decide) ?_
  refine j_cV (own := 11) (i := 41) (y2 := 16) (d2 := 1) (mc := 0) (ms := 0) (kc := 0) (ks := 0) (a := b0 + 0) (As := [.int (Int32.ofInt (-2))]) (st := []) (dQ (by decide +kernel)) hcls (by decide +kernel) (by decide) (by decide +kernel) (show 1 = jnp 16 by decide +kernel) (by decide) (show 0 ≤ 8 by decide) hx (fun r hr => by cases hr; decide +kernel) (x_refuse hx lx) (fun v hv4 hq => ?_)
  obtain ⟨rfl, rfl⟩ := hq
  have n5 : (fx.set 7 (.int (Int32.ofInt (-2)))).length = 12 := by rw [List.length_set]; exact lx
  have k6 : (h.set (b0 + 0) (.inr (11, (fx.set 7 (.int (Int32.ofInt (-2)))))))[b0 + 0]? = some (.inr (11, (fx.set 7 (.int (Int32.ofInt (-2)))))) := List.getElem?_set_self (List.getElem?_eq_some_iff.mp hx).1
  exact j_ret (v := some (.int (Int32.ofInt (-2)))) ⟨by decide +kernel, Or.inl (by decide +kernel)⟩ ⟨rfl, rfl⟩ rfl
set_option maxRecDepth 8192 in
theorem xr_clock_1l {b1 : Nat} {fm : List Value} (hm : h[b1 + 0]? = some (.inr (12, fm))) (lm : fm.length = 42) {x1 : Int32} {x2 : Int32} (u : x2.toInt < -30) : jCal l g 306 2 [.ref (g.2.2 + (b1 + 0)), .int x1, .int x2] h 0 0 (fun v h' => v = some (.int (Int32.ofInt (-1))) ∧ h' = (h.set (b1 + 0) (.inr (12, fm.set 0 (.int (Int32.ofInt 0))))).set (b1 + 0) (.inr (12, (fm.set 0 (.int (Int32.ofInt 0))).set 1 (.int (Int32.ofInt (-1)))))) := by
  have hcls : jcN 12 = (jyN 306).cls := by decide +kernel
  have cn0 : (Int32.ofInt 0).toInt = 0 := by decide
  have cn1 : (Int32.ofInt (-1)).toInt = -1 := by decide
  refine jCal_of (by decide +kernel) (show 3 ≤ jmx 306 by decide +kernel) ?_
  show J l g 306 2 0 [some (.ref (g.2.2 + (b1 + 0))), some (.int x1), some (.int x2), none] [] h 0 0 _
  refine j_aload_n (k4 := 0) (dQ (by decide +kernel)) rfl ?_
  refine j_iconst (n := 0) (dQ (by decide +kernel)) ?_
  refine j_put (own := 12) (i := 94) (ci := 12) (f := 0) (ty := .int) (dQ (by decide +kernel)) hcls (by decide +kernel) hm rfl (by decide +kernel) (by rw [lm]; decide) (by decide +kernel) (by decide +kernel) rfl rfl ?_
  have n1 : (fm.set 0 (.int (Int32.ofInt 0))).length = 42 := by rw [List.length_set]; exact lm
  have f2 : (fm.set 0 (.int (Int32.ofInt 0)))[0]? = some (.int (Int32.ofInt 0)) := List.getElem?_set_self (by rw [lm]; decide)
  have k3 : (h.set (b1 + 0) (.inr (12, (fm.set 0 (.int (Int32.ofInt 0))))))[b1 + 0]? = some (.inr (12, (fm.set 0 (.int (Int32.ofInt 0))))) := List.getElem?_set_self (List.getElem?_eq_some_iff.mp hm).1
  refine j_iload_n (k4 := 2) (dQ (by decide +kernel)) rfl ?_
  refine x_i2l (dQ (by decide +kernel)) (fun r4 hr4 => ?_)
  refine j_ldc2 (own := 12) (i := 388) (v := -30) hcls (by decide +kernel) (by decide +kernel) ?_
  have hq5 : (-30 : Int64).toInt = -30 := by decide
  refine j_ldc2 (own := 12) (i := 390) (v := 30) hcls (by decide +kernel) (by decide +kernel) ?_
  have hq6 : (30 : Int64).toInt = 30 := by decide
  refine j_cS (own := 12) (i := 100) (y2 := 205) (d2 := 1) (mc := 0) (ms := 0) (kc := 0) (ks := 0) (As := [.long r4, .long (-30 : Int64), .long (30 : Int64)]) (st := []) (dQ (by decide +kernel)) hcls (by decide +kernel) (by decide) (by decide +kernel) (show 3 = jnp 205 by decide +kernel) (by decide) (show 0 ≤ 8 by decide) (xm_in_0l (by omega)) (fun v hv8 hq => ?_)
  obtain ⟨rfl, rfl⟩ := hq
  refine j_if_ne (off := 9) (tgt := 25) (dQ (by decide +kernel)) (by decide) (fun q => absurd (i32_eq (show _ = (0 : Int32).toInt by rw [i32_z]; omega)) q) (fun _ => ?_)
  refine j_aload_n (k4 := 0) (dQ (by decide +kernel)) rfl ?_
  refine j_iconst (n := (-1)) (dQ (by decide +kernel)) ?_
  refine j_cV (own := 12) (i := 104) (y2 := 206) (d2 := 1) (mc := 0) (ms := 0) (kc := 0) (ks := 0) (a := b1 + 0) (As := [.int (Int32.ofInt (-1))]) (st := []) (dQ (by decide +kernel)) hcls (by decide +kernel) (by decide) (by decide +kernel) (show 1 = jnp 206 by decide +kernel) (by decide) (show 0 ≤ 8 by decide) k3 (fun r hr => by cases hr; decide +kernel) (xm_tellN k3 n1 (by omega)) (fun v hv10 hq => ?_)
  obtain ⟨rfl, rfl⟩ := hq
  have n11 : ((fm.set 0 (.int (Int32.ofInt 0))).set 1 (.int (Int32.ofInt (-1)))).length = 42 := by rw [List.length_set]; exact n1
  have f12 : ((fm.set 0 (.int (Int32.ofInt 0))).set 1 (.int (Int32.ofInt (-1))))[0]? = some (.int (Int32.ofInt 0)) := by
    rw [List.getElem?_set_ne (by decide)]
    exact f2
  have k13 : ((h.set (b1 + 0) (.inr (12, (fm.set 0 (.int (Int32.ofInt 0)))))).set (b1 + 0) (.inr (12, ((fm.set 0 (.int (Int32.ofInt 0))).set 1 (.int (Int32.ofInt (-1)))))))[b1 + 0]? = some (.inr (12, ((fm.set 0 (.int (Int32.ofInt 0))).set 1 (.int (Int32.ofInt (-1)))))) := List.getElem?_set_self (List.getElem?_eq_some_iff.mp k3).1
  exact j_ret (v := some (.int (Int32.ofInt (-1)))) ⟨by decide +kernel, Or.inl (by decide +kernel)⟩ ⟨rfl, rfl⟩ rfl
set_option maxRecDepth 8192 in
theorem xr_clock_1h {b1 : Nat} {fm : List Value} (hm : h[b1 + 0]? = some (.inr (12, fm))) (lm : fm.length = 42) {x1 : Int32} {x2 : Int32} (u : 30 < x2.toInt) : jCal l g 306 2 [.ref (g.2.2 + (b1 + 0)), .int x1, .int x2] h 0 0 (fun v h' => v = some (.int (Int32.ofInt (-1))) ∧ h' = (h.set (b1 + 0) (.inr (12, fm.set 0 (.int (Int32.ofInt 0))))).set (b1 + 0) (.inr (12, (fm.set 0 (.int (Int32.ofInt 0))).set 1 (.int (Int32.ofInt (-1)))))) := by
  have hcls : jcN 12 = (jyN 306).cls := by decide +kernel
  have cn0 : (Int32.ofInt 0).toInt = 0 := by decide
  have cn1 : (Int32.ofInt (-1)).toInt = -1 := by decide
  refine jCal_of (by decide +kernel) (show 3 ≤ jmx 306 by decide +kernel) ?_
  show J l g 306 2 0 [some (.ref (g.2.2 + (b1 + 0))), some (.int x1), some (.int x2), none] [] h 0 0 _
  refine j_aload_n (k4 := 0) (dQ (by decide +kernel)) rfl ?_
  refine j_iconst (n := 0) (dQ (by decide +kernel)) ?_
  refine j_put (own := 12) (i := 94) (ci := 12) (f := 0) (ty := .int) (dQ (by decide +kernel)) hcls (by decide +kernel) hm rfl (by decide +kernel) (by rw [lm]; decide) (by decide +kernel) (by decide +kernel) rfl rfl ?_
  have n1 : (fm.set 0 (.int (Int32.ofInt 0))).length = 42 := by rw [List.length_set]; exact lm
  have f2 : (fm.set 0 (.int (Int32.ofInt 0)))[0]? = some (.int (Int32.ofInt 0)) := List.getElem?_set_self (by rw [lm]; decide)
  have k3 : (h.set (b1 + 0) (.inr (12, (fm.set 0 (.int (Int32.ofInt 0))))))[b1 + 0]? = some (.inr (12, (fm.set 0 (.int (Int32.ofInt 0))))) := List.getElem?_set_self (List.getElem?_eq_some_iff.mp hm).1
  refine j_iload_n (k4 := 2) (dQ (by decide +kernel)) rfl ?_
  refine x_i2l (dQ (by decide +kernel)) (fun r4 hr4 => ?_)
  refine j_ldc2 (own := 12) (i := 388) (v := -30) hcls (by decide +kernel) (by decide +kernel) ?_
  have hq5 : (-30 : Int64).toInt = -30 := by decide
  refine j_ldc2 (own := 12) (i := 390) (v := 30) hcls (by decide +kernel) (by decide +kernel) ?_
  have hq6 : (30 : Int64).toInt = 30 := by decide
  refine j_cS (own := 12) (i := 100) (y2 := 205) (d2 := 1) (mc := 0) (ms := 0) (kc := 0) (ks := 0) (As := [.long r4, .long (-30 : Int64), .long (30 : Int64)]) (st := []) (dQ (by decide +kernel)) hcls (by decide +kernel) (by decide) (by decide +kernel) (show 3 = jnp 205 by decide +kernel) (by decide) (show 0 ≤ 8 by decide) (xm_in_0h (by omega) (by omega)) (fun v hv8 hq => ?_)
  obtain ⟨rfl, rfl⟩ := hq
  refine j_if_ne (off := 9) (tgt := 25) (dQ (by decide +kernel)) (by decide) (fun q => absurd (i32_eq (show _ = (0 : Int32).toInt by rw [i32_z]; omega)) q) (fun _ => ?_)
  refine j_aload_n (k4 := 0) (dQ (by decide +kernel)) rfl ?_
  refine j_iconst (n := (-1)) (dQ (by decide +kernel)) ?_
  refine j_cV (own := 12) (i := 104) (y2 := 206) (d2 := 1) (mc := 0) (ms := 0) (kc := 0) (ks := 0) (a := b1 + 0) (As := [.int (Int32.ofInt (-1))]) (st := []) (dQ (by decide +kernel)) hcls (by decide +kernel) (by decide) (by decide +kernel) (show 1 = jnp 206 by decide +kernel) (by decide) (show 0 ≤ 8 by decide) k3 (fun r hr => by cases hr; decide +kernel) (xm_tellN k3 n1 (by omega)) (fun v hv10 hq => ?_)
  obtain ⟨rfl, rfl⟩ := hq
  have n11 : ((fm.set 0 (.int (Int32.ofInt 0))).set 1 (.int (Int32.ofInt (-1)))).length = 42 := by rw [List.length_set]; exact n1
  have f12 : ((fm.set 0 (.int (Int32.ofInt 0))).set 1 (.int (Int32.ofInt (-1))))[0]? = some (.int (Int32.ofInt 0)) := by
    rw [List.getElem?_set_ne (by decide)]
    exact f2
  have k13 : ((h.set (b1 + 0) (.inr (12, (fm.set 0 (.int (Int32.ofInt 0)))))).set (b1 + 0) (.inr (12, ((fm.set 0 (.int (Int32.ofInt 0))).set 1 (.int (Int32.ofInt (-1)))))))[b1 + 0]? = some (.inr (12, ((fm.set 0 (.int (Int32.ofInt 0))).set 1 (.int (Int32.ofInt (-1)))))) := List.getElem?_set_self (List.getElem?_eq_some_iff.mp k3).1
  exact j_ret (v := some (.int (Int32.ofInt (-1)))) ⟨by decide +kernel, Or.inl (by decide +kernel)⟩ ⟨rfl, rfl⟩ rfl
set_option maxRecDepth 8192 in
theorem xr_clock_0l {b1 : Nat} {fm : List Value} (hm : h[b1 + 0]? = some (.inr (12, fm))) (lm : fm.length = 42) {x1 : Int32} {x2 : Int32} (g2 : -30 ≤ x2.toInt ∧ x2.toInt ≤ 30) (u : x1.toInt < 0) : jCal l g 306 2 [.ref (g.2.2 + (b1 + 0)), .int x1, .int x2] h 0 0 (fun v h' => v = some (.int (Int32.ofInt (-2))) ∧ h' = (h.set (b1 + 0) (.inr (12, fm.set 0 (.int (Int32.ofInt 0))))).set (b1 + 0) (.inr (12, (fm.set 0 (.int (Int32.ofInt 0))).set 1 (.int (Int32.ofInt (-2)))))) := by
  have hcls : jcN 12 = (jyN 306).cls := by decide +kernel
  have cn0 : (Int32.ofInt 0).toInt = 0 := by decide
  have cn1 : (Int32.ofInt 1).toInt = 1 := by decide
  have cn2 : (Int32.ofInt (-2)).toInt = -2 := by decide
  refine jCal_of (by decide +kernel) (show 3 ≤ jmx 306 by decide +kernel) ?_
  show J l g 306 2 0 [some (.ref (g.2.2 + (b1 + 0))), some (.int x1), some (.int x2), none] [] h 0 0 _
  refine j_aload_n (k4 := 0) (dQ (by decide +kernel)) rfl ?_
  refine j_iconst (n := 0) (dQ (by decide +kernel)) ?_
  refine j_put (own := 12) (i := 94) (ci := 12) (f := 0) (ty := .int) (dQ (by decide +kernel)) hcls (by decide +kernel) hm rfl (by decide +kernel) (by rw [lm]; decide) (by decide +kernel) (by decide +kernel) rfl rfl ?_
  have n1 : (fm.set 0 (.int (Int32.ofInt 0))).length = 42 := by rw [List.length_set]; exact lm
  have f2 : (fm.set 0 (.int (Int32.ofInt 0)))[0]? = some (.int (Int32.ofInt 0)) := List.getElem?_set_self (by rw [lm]; decide)
  have k3 : (h.set (b1 + 0) (.inr (12, (fm.set 0 (.int (Int32.ofInt 0))))))[b1 + 0]? = some (.inr (12, (fm.set 0 (.int (Int32.ofInt 0))))) := List.getElem?_set_self (List.getElem?_eq_some_iff.mp hm).1
  refine j_iload_n (k4 := 2) (dQ (by decide +kernel)) rfl ?_
  refine x_i2l (dQ (by decide +kernel)) (fun r4 hr4 => ?_)
  refine j_ldc2 (own := 12) (i := 388) (v := -30) hcls (by decide +kernel) (by decide +kernel) ?_
  have hq5 : (-30 : Int64).toInt = -30 := by decide
  refine j_ldc2 (own := 12) (i := 390) (v := 30) hcls (by decide +kernel) (by decide +kernel) ?_
  have hq6 : (30 : Int64).toInt = 30 := by decide
  refine j_cS (own := 12) (i := 100) (y2 := 205) (d2 := 1) (mc := 0) (ms := 0) (kc := 0) (ks := 0) (As := [.long r4, .long (-30 : Int64), .long (30 : Int64)]) (st := []) (dQ (by decide +kernel)) hcls (by decide +kernel) (by decide) (by decide +kernel) (show 3 = jnp 205 by decide +kernel) (by decide) (show 0 ≤ 8 by decide) (xm_in_1 (by omega) (by omega)) (fun v hv8 hq => ?_)
  obtain ⟨rfl, rfl⟩ := hq
  refine j_if_ne (off := 9) (tgt := 25) (dQ (by decide +kernel)) (by decide) (fun _ => ?_) (fun q => absurd (fun q => absurd (congrArg Int32.toInt q) (by rw [i32_z]; omega)) q)
  refine j_iload_n (k4 := 1) (dQ (by decide +kernel)) rfl ?_
  refine x_i2l (dQ (by decide +kernel)) (fun r9 hr9 => ?_)
  refine j_lconst (n := 0) (dQ (by decide +kernel)) ?_
  have hq10 : (Int64.ofNat ((0 : Fin 2) : Nat)).toInt = 0 := by decide
  refine j_ldc2 (own := 12) (i := 308) (v := 2) hcls (by decide +kernel) (by decide +kernel) ?_
  have hq11 : (2 : Int64).toInt = 2 := by decide
  refine j_cS (own := 12) (i := 100) (y2 := 205) (d2 := 1) (mc := 0) (ms := 0) (kc := 0) (ks := 0) (As := [.long r9, .long (Int64.ofNat ((0 : Fin 2) : Nat)), .long (2 : Int64)]) (st := []) (dQ (by decide +kernel)) hcls (by decide +kernel) (by decide) (by decide +kernel) (show 3 = jnp 205 by decide +kernel) (by decide) (show 0 ≤ 8 by decide) (xm_in_0l (by omega)) (fun v hv13 hq => ?_)
  obtain ⟨rfl, rfl⟩ := hq
  refine j_if_ne (off := 10) (tgt := 44) (dQ (by decide +kernel)) (by decide) (fun q => absurd (i32_eq (show _ = (0 : Int32).toInt by rw [i32_z]; omega)) q) (fun _ => ?_)
  refine j_aload_n (k4 := 0) (dQ (by decide +kernel)) rfl ?_
  refine x_bi (n := (-2)) (dQ (by decide +kernel)) (by decide) ?_
  refine j_cV (own := 12) (i := 104) (y2 := 206) (d2 := 1) (mc := 0) (ms := 0) (kc := 0) (ks := 0) (a := b1 + 0) (As := [.int (Int32.ofInt (-2))]) (st := []) (dQ (by decide +kernel)) hcls (by decide +kernel) (by decide) (by decide +kernel) (show 1 = jnp 206 by decide +kernel) (by decide) (show 0 ≤ 8 by decide) k3 (fun r hr => by cases hr; decide +kernel) (xm_tellN k3 n1 (by omega)) (fun v hv15 hq => ?_)
  obtain ⟨rfl, rfl⟩ := hq
  have n16 : ((fm.set 0 (.int (Int32.ofInt 0))).set 1 (.int (Int32.ofInt (-2)))).length = 42 := by rw [List.length_set]; exact n1
  have f17 : ((fm.set 0 (.int (Int32.ofInt 0))).set 1 (.int (Int32.ofInt (-2))))[0]? = some (.int (Int32.ofInt 0)) := by
    rw [List.getElem?_set_ne (by decide)]
    exact f2
  have k18 : ((h.set (b1 + 0) (.inr (12, (fm.set 0 (.int (Int32.ofInt 0)))))).set (b1 + 0) (.inr (12, ((fm.set 0 (.int (Int32.ofInt 0))).set 1 (.int (Int32.ofInt (-2)))))))[b1 + 0]? = some (.inr (12, ((fm.set 0 (.int (Int32.ofInt 0))).set 1 (.int (Int32.ofInt (-2)))))) := List.getElem?_set_self (List.getElem?_eq_some_iff.mp k3).1
  exact j_ret (v := some (.int (Int32.ofInt (-2)))) ⟨by decide +kernel, Or.inl (by decide +kernel)⟩ ⟨rfl, rfl⟩ rfl
set_option maxRecDepth 8192 in
theorem xr_clock_0h {b1 : Nat} {fm : List Value} (hm : h[b1 + 0]? = some (.inr (12, fm))) (lm : fm.length = 42) {x1 : Int32} {x2 : Int32} (g2 : -30 ≤ x2.toInt ∧ x2.toInt ≤ 30) (u : 2 < x1.toInt) : jCal l g 306 2 [.ref (g.2.2 + (b1 + 0)), .int x1, .int x2] h 0 0 (fun v h' => v = some (.int (Int32.ofInt (-2))) ∧ h' = (h.set (b1 + 0) (.inr (12, fm.set 0 (.int (Int32.ofInt 0))))).set (b1 + 0) (.inr (12, (fm.set 0 (.int (Int32.ofInt 0))).set 1 (.int (Int32.ofInt (-2)))))) := by
  have hcls : jcN 12 = (jyN 306).cls := by decide +kernel
  have cn0 : (Int32.ofInt 0).toInt = 0 := by decide
  have cn1 : (Int32.ofInt 1).toInt = 1 := by decide
  have cn2 : (Int32.ofInt (-2)).toInt = -2 := by decide
  refine jCal_of (by decide +kernel) (show 3 ≤ jmx 306 by decide +kernel) ?_
  show J l g 306 2 0 [some (.ref (g.2.2 + (b1 + 0))), some (.int x1), some (.int x2), none] [] h 0 0 _
  refine j_aload_n (k4 := 0) (dQ (by decide +kernel)) rfl ?_
  refine j_iconst (n := 0) (dQ (by decide +kernel)) ?_
  refine j_put (own := 12) (i := 94) (ci := 12) (f := 0) (ty := .int) (dQ (by decide +kernel)) hcls (by decide +kernel) hm rfl (by decide +kernel) (by rw [lm]; decide) (by decide +kernel) (by decide +kernel) rfl rfl ?_
  have n1 : (fm.set 0 (.int (Int32.ofInt 0))).length = 42 := by rw [List.length_set]; exact lm
  have f2 : (fm.set 0 (.int (Int32.ofInt 0)))[0]? = some (.int (Int32.ofInt 0)) := List.getElem?_set_self (by rw [lm]; decide)
  have k3 : (h.set (b1 + 0) (.inr (12, (fm.set 0 (.int (Int32.ofInt 0))))))[b1 + 0]? = some (.inr (12, (fm.set 0 (.int (Int32.ofInt 0))))) := List.getElem?_set_self (List.getElem?_eq_some_iff.mp hm).1
  refine j_iload_n (k4 := 2) (dQ (by decide +kernel)) rfl ?_
  refine x_i2l (dQ (by decide +kernel)) (fun r4 hr4 => ?_)
  refine j_ldc2 (own := 12) (i := 388) (v := -30) hcls (by decide +kernel) (by decide +kernel) ?_
  have hq5 : (-30 : Int64).toInt = -30 := by decide
  refine j_ldc2 (own := 12) (i := 390) (v := 30) hcls (by decide +kernel) (by decide +kernel) ?_
  have hq6 : (30 : Int64).toInt = 30 := by decide
  refine j_cS (own := 12) (i := 100) (y2 := 205) (d2 := 1) (mc := 0) (ms := 0) (kc := 0) (ks := 0) (As := [.long r4, .long (-30 : Int64), .long (30 : Int64)]) (st := []) (dQ (by decide +kernel)) hcls (by decide +kernel) (by decide) (by decide +kernel) (show 3 = jnp 205 by decide +kernel) (by decide) (show 0 ≤ 8 by decide) (xm_in_1 (by omega) (by omega)) (fun v hv8 hq => ?_)
  obtain ⟨rfl, rfl⟩ := hq
  refine j_if_ne (off := 9) (tgt := 25) (dQ (by decide +kernel)) (by decide) (fun _ => ?_) (fun q => absurd (fun q => absurd (congrArg Int32.toInt q) (by rw [i32_z]; omega)) q)
  refine j_iload_n (k4 := 1) (dQ (by decide +kernel)) rfl ?_
  refine x_i2l (dQ (by decide +kernel)) (fun r9 hr9 => ?_)
  refine j_lconst (n := 0) (dQ (by decide +kernel)) ?_
  have hq10 : (Int64.ofNat ((0 : Fin 2) : Nat)).toInt = 0 := by decide
  refine j_ldc2 (own := 12) (i := 308) (v := 2) hcls (by decide +kernel) (by decide +kernel) ?_
  have hq11 : (2 : Int64).toInt = 2 := by decide
  refine j_cS (own := 12) (i := 100) (y2 := 205) (d2 := 1) (mc := 0) (ms := 0) (kc := 0) (ks := 0) (As := [.long r9, .long (Int64.ofNat ((0 : Fin 2) : Nat)), .long (2 : Int64)]) (st := []) (dQ (by decide +kernel)) hcls (by decide +kernel) (by decide) (by decide +kernel) (show 3 = jnp 205 by decide +kernel) (by decide) (show 0 ≤ 8 by decide) (xm_in_0h (by omega) (by omega)) (fun v hv13 hq => ?_)
  obtain ⟨rfl, rfl⟩ := hq
  refine j_if_ne (off := 10) (tgt := 44) (dQ (by decide +kernel)) (by decide) (fun q => absurd (i32_eq (show _ = (0 : Int32).toInt by rw [i32_z]; omega)) q) (fun _ => ?_)
  refine j_aload_n (k4 := 0) (dQ (by decide +kernel)) rfl ?_
  refine x_bi (n := (-2)) (dQ (by decide +kernel)) (by decide) ?_
  refine j_cV (own := 12) (i := 104) (y2 := 206) (d2 := 1) (mc := 0) (ms := 0) (kc := 0) (ks := 0) (a := b1 + 0) (As := [.int (Int32.ofInt (-2))]) (st := []) (dQ (by decide +kernel)) hcls (by decide +kernel) (by decide) (by decide +kernel) (show 1 = jnp 206 by decide +kernel) (by decide) (show 0 ≤ 8 by decide) k3 (fun r hr => by cases hr; decide +kernel) (xm_tellN k3 n1 (by omega)) (fun v hv15 hq => ?_)
  obtain ⟨rfl, rfl⟩ := hq
  have n16 : ((fm.set 0 (.int (Int32.ofInt 0))).set 1 (.int (Int32.ofInt (-2)))).length = 42 := by rw [List.length_set]; exact n1
  have f17 : ((fm.set 0 (.int (Int32.ofInt 0))).set 1 (.int (Int32.ofInt (-2))))[0]? = some (.int (Int32.ofInt 0)) := by
    rw [List.getElem?_set_ne (by decide)]
    exact f2
  have k18 : ((h.set (b1 + 0) (.inr (12, (fm.set 0 (.int (Int32.ofInt 0)))))).set (b1 + 0) (.inr (12, ((fm.set 0 (.int (Int32.ofInt 0))).set 1 (.int (Int32.ofInt (-2)))))))[b1 + 0]? = some (.inr (12, ((fm.set 0 (.int (Int32.ofInt 0))).set 1 (.int (Int32.ofInt (-2)))))) := List.getElem?_set_self (List.getElem?_eq_some_iff.mp k3).1
  exact j_ret (v := some (.int (Int32.ofInt (-2)))) ⟨by decide +kernel, Or.inl (by decide +kernel)⟩ ⟨rfl, rfl⟩ rfl
set_option maxRecDepth 8192 in
theorem xk_code {b0 : Nat} {fx fs : List Value} {f : Nat → Int32} (hx : h[b0 + 0]? = some (.inr (11, fx))) (lx : fx.length = 12) (px : fx[0]? = some (.ref (g.2.2 + (b0 + 1)))) (hs : h[b0 + 1]? = some (.inr (7, fs))) (ps : fs[15]? = some (.ref (g.2.2 + (b0 + 29)))) (ha : h[b0 + 29]? = some (.inl (0, 300, f))) {x1 : Int32} {x2 : Int32} {x3 : Int32} {b c : Nat} (e1 : x1.toInt = (b : Int)) (g1 : b ≤ 2) (e2 : x2.toInt = (c : Int)) (g2 : c ≤ 99) (g3 : 1 ≤ x3.toInt ∧ x3.toInt ≤ 999) : jCal l g 180 2 [.ref (g.2.2 + (b0 + 0)), .int x1, .int x2, .int x3] h 0 0 (fun v h' => v = some (.int (f (100 * b + c))) ∧ h' = (h.set (b0 + 29) (.inl (0, 300, upd f (100 * b + c) x3))).set (b0 + 0) (.inr (11, fx.set 7 (.int (Int32.ofInt 0))))) := by
  have hcls : jcN 11 = (jyN 180).cls := by decide +kernel
  have cn0 : (Int32.ofInt 1).toInt = 1 := by decide
  have cn1 : (Int32.ofInt 100).toInt = 100 := by decide
  have cn2 : (Int32.ofInt 0).toInt = 0 := by decide
  refine jCal_of (by decide +kernel) (show 4 ≤ jmx 180 by decide +kernel) ?_
  show J l g 180 2 0 [some (.ref (g.2.2 + (b0 + 0))), some (.int x1), some (.int x2), some (.int x3), none] [] h 0 0 _
  refine j_iload_n (k4 := 2) (dQ (by decide +kernel)) rfl ?_
  refine j_cS (own := 11) (i := 332) (y2 := 181) (d2 := 1) (mc := 0) (ms := 0) (kc := 0) (ks := 0) (As := [.int x2]) (st := []) (dQ (by decide +kernel)) hcls (by decide +kernel) (by decide) (by decide +kernel) (show 1 = jnp 181 by decide +kernel) (by decide) (show 0 ≤ 8 by decide) (x_isCode_1 (by omega) (by omega)) (fun v hv2 hq => ?_)
  obtain ⟨rfl, rfl⟩ := hq
  refine j_if_eq (off := 10) (tgt := 14) (dQ (by decide +kernel)) (by decide) (fun q => absurd (congrArg Int32.toInt q) (by rw [i32_z]; omega)) (fun _ => ?_)
  refine j_iload_n (k4 := 3) (dQ (by decide +kernel)) rfl ?_
  refine j_cS (own := 11) (i := 73) (y2 := 34) (d2 := 1) (mc := 0) (ms := 0) (kc := 0) (ks := 0) (As := [.int x3]) (st := []) (dQ (by decide +kernel)) hcls (by decide +kernel) (by decide) (by decide +kernel) (show 1 = jnp 34 by decide +kernel) (by decide) (show 0 ≤ 8 by decide) (x_isName_1 (by omega) (by omega)) (fun v hv4 hq => ?_)
  obtain ⟨rfl, rfl⟩ := hq
  refine j_if_ne (off := 9) (tgt := 20) (dQ (by decide +kernel)) (by decide) (fun _ => ?_) (fun q => absurd (fun q => absurd (congrArg Int32.toInt q) (by rw [i32_z]; omega)) q)
  refine j_iload_n (k4 := 1) (dQ (by decide +kernel)) rfl ?_
  refine j_cS (own := 11) (i := 326) (y2 := 179) (d2 := 1) (mc := 0) (ms := 0) (kc := 0) (ks := 0) (As := [.int x1]) (st := []) (dQ (by decide +kernel)) hcls (by decide +kernel) (by decide) (by decide +kernel) (show 1 = jnp 179 by decide +kernel) (by decide) (show 0 ≤ 8 by decide) (x_isBox_1 (by omega) (by omega)) (fun v hv6 hq => ?_)
  obtain ⟨rfl, rfl⟩ := hq
  refine j_if_ne (off := 10) (tgt := 34) (dQ (by decide +kernel)) (by decide) (fun _ => ?_) (fun q => absurd (fun q => absurd (congrArg Int32.toInt q) (by rw [i32_z]; omega)) q)
  refine j_aload_n (k4 := 0) (dQ (by decide +kernel)) rfl ?_
  refine j_get (own := 11) (i := 10) (ci := 11) (f := 0) (dQ (by decide +kernel)) hcls (by decide +kernel) hx (fun r hr => by cases hr; decide +kernel) px ?_
  refine j_get (own := 11) (i := 335) (ci := 7) (f := 15) (dQ (by decide +kernel)) hcls (by decide +kernel) hs (fun r hr => by cases hr; decide +kernel) ps ?_
  refine j_iload_n (k4 := 1) (dQ (by decide +kernel)) rfl ?_
  refine x_bi (n := 100) (dQ (by decide +kernel)) (by decide) ?_
  refine x_mul (z := 100 * x1.toInt) (dQ (by decide +kernel)) (by rw [cn1]; omega) (by omega) (fun r7 hr7 => ?_)
  refine j_iload_n (k4 := 2) (dQ (by decide +kernel)) rfl ?_
  refine x_add (dQ (by decide +kernel)) (by omega) (fun r8 hr8 => ?_)
  refine x_ald (100 * b + c) (dQ (by decide +kernel)) ha (by omega) (by omega) ?_
  refine j_istore (i := 4) (dQ (by decide +kernel)) (by decide +kernel) ?_
  refine j_aload_n (k4 := 0) (dQ (by decide +kernel)) rfl ?_
  refine j_get (own := 11) (i := 10) (ci := 11) (f := 0) (dQ (by decide +kernel)) hcls (by decide +kernel) hx (fun r hr => by cases hr; decide +kernel) px ?_
  refine j_get (own := 11) (i := 335) (ci := 7) (f := 15) (dQ (by decide +kernel)) hcls (by decide +kernel) hs (fun r hr => by cases hr; decide +kernel) ps ?_
  refine j_iload_n (k4 := 1) (dQ (by decide +kernel)) rfl ?_
  refine x_bi (n := 100) (dQ (by decide +kernel)) (by decide) ?_
  refine x_mul (z := 100 * x1.toInt) (dQ (by decide +kernel)) (by rw [cn1]; omega) (by omega) (fun r9 hr9 => ?_)
  refine j_iload_n (k4 := 2) (dQ (by decide +kernel)) rfl ?_
  refine x_add (dQ (by decide +kernel)) (by omega) (fun r10 hr10 => ?_)
  refine j_iload_n (k4 := 3) (dQ (by decide +kernel)) rfl ?_
  refine x_ast (100 * b + c) (dQ (by decide +kernel)) ha (by omega) (by omega) ?_
  have k11 : (h.set (b0 + 29) (.inl (0, 300, (upd f (100 * b + c) x3))))[b0 + 0]? = some (.inr (11, fx)) := by
    rw [List.getElem?_set_ne (by omega)]
    exact hx
  have k12 : (h.set (b0 + 29) (.inl (0, 300, (upd f (100 * b + c) x3))))[b0 + 1]? = some (.inr (7, fs)) := by
    rw [List.getElem?_set_ne (by omega)]
    exact hs
  have k13 : (h.set (b0 + 29) (.inl (0, 300, (upd f (100 * b + c) x3))))[b0 + 29]? = some (.inl (0, 300, (upd f (100 * b + c) x3))) := List.getElem?_set_self (List.getElem?_eq_some_iff.mp ha).1
  refine j_aload_n (k4 := 0) (dQ (by decide +kernel)) rfl ?_
  refine j_iload (i := 4) (dQ (by decide +kernel)) rfl ?_
  refine j_cV (own := 11) (i := 48) (y2 := 17) (d2 := 1) (mc := 0) (ms := 0) (kc := 0) (ks := 0) (a := b0 + 0) (As := [.int (f (100 * b + c))]) (st := []) (dQ (by decide +kernel)) hcls (by decide +kernel) (by decide) (by decide +kernel) (show 1 = jnp 17 by decide +kernel) (by decide) (show 0 ≤ 8 by decide) k11 (fun r hr => by cases hr; decide +kernel) (x_allow k11 lx) (fun v hv15 hq => ?_)
  obtain ⟨rfl, rfl⟩ := hq
  have n16 : (fx.set 7 (.int (Int32.ofInt 0))).length = 12 := by rw [List.length_set]; exact lx
  have f17 : (fx.set 7 (.int (Int32.ofInt 0)))[0]? = some (.ref (g.2.2 + (b0 + 1))) := by
    rw [List.getElem?_set_ne (by decide)]
    exact px
  have k18 : ((h.set (b0 + 29) (.inl (0, 300, (upd f (100 * b + c) x3)))).set (b0 + 0) (.inr (11, (fx.set 7 (.int (Int32.ofInt 0))))))[b0 + 0]? = some (.inr (11, (fx.set 7 (.int (Int32.ofInt 0))))) := List.getElem?_set_self (List.getElem?_eq_some_iff.mp k11).1
  have k19 : ((h.set (b0 + 29) (.inl (0, 300, (upd f (100 * b + c) x3)))).set (b0 + 0) (.inr (11, (fx.set 7 (.int (Int32.ofInt 0))))))[b0 + 1]? = some (.inr (7, fs)) := by
    rw [List.getElem?_set_ne (by omega)]
    exact k12
  have k20 : ((h.set (b0 + 29) (.inl (0, 300, (upd f (100 * b + c) x3)))).set (b0 + 0) (.inr (11, (fx.set 7 (.int (Int32.ofInt 0))))))[b0 + 29]? = some (.inl (0, 300, (upd f (100 * b + c) x3))) := by
    rw [List.getElem?_set_ne (by omega)]
    exact k13
  exact j_ret (v := some (.int (f (100 * b + c)))) ⟨by decide +kernel, Or.inl (by decide +kernel)⟩ ⟨rfl, rfl⟩ rfl
set_option maxRecDepth 8192 in
theorem xr_code {b1 : Nat} {fm : List Value} {f : Nat → Int32} (hm : h[b1 + 0]? = some (.inr (12, fm))) (lm : fm.length = 42) (pm : fm[2]? = some (.ref (g.2.2 + (b1 + 1)))) (hr : h[b1 + 1]? = some (.inl (0, 5270, f))) {x1 : Int32} {x2 : Int32} {x3 : Int32} {b c : Nat} (e1 : x1.toInt = (b : Int)) (g1 : b ≤ 2) (e2 : x2.toInt = (c : Int)) (g2 : c ≤ 99) (g3 : 1 ≤ x3.toInt ∧ x3.toInt ≤ 999) : jCal l g 307 3 [.ref (g.2.2 + (b1 + 0)), .int x1, .int x2, .int x3] h 0 0 (fun v h' => v = some (.int (f (80 + (100 * b + c)))) ∧ h' = ((h.set (b1 + 0) (.inr (12, fm.set 0 (.int (Int32.ofInt 0))))).set (b1 + 1) (.inl (0, 5270, upd f (80 + (100 * b + c)) x3))).set (b1 + 0) (.inr (12, (fm.set 0 (.int (Int32.ofInt 0))).set 1 (.int (Int32.ofInt 0))))) := by
  have hcls : jcN 12 = (jyN 307).cls := by decide +kernel
  have cn0 : (Int32.ofInt 0).toInt = 0 := by decide
  have cn1 : (Int32.ofInt 1).toInt = 1 := by decide
  have cn2 : (Int32.ofInt 80).toInt = 80 := by decide
  have cn3 : (Int32.ofInt 100).toInt = 100 := by decide
  refine jCal_of (by decide +kernel) (show 4 ≤ jmx 307 by decide +kernel) ?_
  show J l g 307 3 0 [some (.ref (g.2.2 + (b1 + 0))), some (.int x1), some (.int x2), some (.int x3), none] [] h 0 0 _
  refine j_aload_n (k4 := 0) (dQ (by decide +kernel)) rfl ?_
  refine j_iconst (n := 0) (dQ (by decide +kernel)) ?_
  refine j_put (own := 12) (i := 94) (ci := 12) (f := 0) (ty := .int) (dQ (by decide +kernel)) hcls (by decide +kernel) hm rfl (by decide +kernel) (by rw [lm]; decide) (by decide +kernel) (by decide +kernel) rfl rfl ?_
  have n1 : (fm.set 0 (.int (Int32.ofInt 0))).length = 42 := by rw [List.length_set]; exact lm
  have f2 : (fm.set 0 (.int (Int32.ofInt 0)))[2]? = some (.ref (g.2.2 + (b1 + 1))) := by
    rw [List.getElem?_set_ne (by decide)]
    exact pm
  have f3 : (fm.set 0 (.int (Int32.ofInt 0)))[0]? = some (.int (Int32.ofInt 0)) := List.getElem?_set_self (by rw [lm]; decide)
  have k4 : (h.set (b1 + 0) (.inr (12, (fm.set 0 (.int (Int32.ofInt 0))))))[b1 + 0]? = some (.inr (12, (fm.set 0 (.int (Int32.ofInt 0))))) := List.getElem?_set_self (List.getElem?_eq_some_iff.mp hm).1
  have k5 : (h.set (b1 + 0) (.inr (12, (fm.set 0 (.int (Int32.ofInt 0))))))[b1 + 1]? = some (.inl (0, 5270, f)) := by
    rw [List.getElem?_set_ne (by omega)]
    exact hr
  refine j_iload_n (k4 := 2) (dQ (by decide +kernel)) rfl ?_
  refine x_i2l (dQ (by decide +kernel)) (fun r6 hr6 => ?_)
  refine j_lconst (n := 0) (dQ (by decide +kernel)) ?_
  have hq7 : (Int64.ofNat ((0 : Fin 2) : Nat)).toInt = 0 := by decide
  refine j_ldc2 (own := 12) (i := 392) (v := 99) hcls (by decide +kernel) (by decide +kernel) ?_
  have hq8 : (99 : Int64).toInt = 99 := by decide
  refine j_cS (own := 12) (i := 100) (y2 := 205) (d2 := 1) (mc := 0) (ms := 0) (kc := 0) (ks := 0) (As := [.long r6, .long (Int64.ofNat ((0 : Fin 2) : Nat)), .long (99 : Int64)]) (st := []) (dQ (by decide +kernel)) hcls (by decide +kernel) (by decide) (by decide +kernel) (show 3 = jnp 205 by decide +kernel) (by decide) (show 0 ≤ 8 by decide) (xm_in_1 (by omega) (by omega)) (fun v hv10 hq => ?_)
  obtain ⟨rfl, rfl⟩ := hq
  refine j_if_eq (off := 10) (tgt := 24) (dQ (by decide +kernel)) (by decide) (fun q => absurd (congrArg Int32.toInt q) (by rw [i32_z]; omega)) (fun _ => ?_)
  refine j_iload_n (k4 := 3) (dQ (by decide +kernel)) rfl ?_
  refine j_cS (own := 12) (i := 301) (y2 := 249) (d2 := 2) (mc := 0) (ms := 0) (kc := 0) (ks := 0) (As := [.int x3]) (st := []) (dQ (by decide +kernel)) hcls (by decide +kernel) (by decide) (by decide +kernel) (show 1 = jnp 249 by decide +kernel) (by decide) (show 0 ≤ 8 by decide) (xm_isName_1 (by omega) (by omega)) (fun v hv12 hq => ?_)
  obtain ⟨rfl, rfl⟩ := hq
  refine j_if_ne (off := 9) (tgt := 30) (dQ (by decide +kernel)) (by decide) (fun _ => ?_) (fun q => absurd (fun q => absurd (congrArg Int32.toInt q) (by rw [i32_z]; omega)) q)
  refine j_iload_n (k4 := 1) (dQ (by decide +kernel)) rfl ?_
  refine x_i2l (dQ (by decide +kernel)) (fun r13 hr13 => ?_)
  refine j_lconst (n := 0) (dQ (by decide +kernel)) ?_
  have hq14 : (Int64.ofNat ((0 : Fin 2) : Nat)).toInt = 0 := by decide
  refine j_ldc2 (own := 12) (i := 308) (v := 2) hcls (by decide +kernel) (by decide +kernel) ?_
  have hq15 : (2 : Int64).toInt = 2 := by decide
  refine j_cS (own := 12) (i := 100) (y2 := 205) (d2 := 1) (mc := 0) (ms := 0) (kc := 0) (ks := 0) (As := [.long r13, .long (Int64.ofNat ((0 : Fin 2) : Nat)), .long (2 : Int64)]) (st := []) (dQ (by decide +kernel)) hcls (by decide +kernel) (by decide) (by decide +kernel) (show 3 = jnp 205 by decide +kernel) (by decide) (show 0 ≤ 8 by decide) (xm_in_1 (by omega) (by omega)) (fun v hv17 hq => ?_)
  obtain ⟨rfl, rfl⟩ := hq
  refine j_if_ne (off := 10) (tgt := 49) (dQ (by decide +kernel)) (by decide) (fun _ => ?_) (fun q => absurd (fun q => absurd (congrArg Int32.toInt q) (by rw [i32_z]; omega)) q)
  refine j_aload_n (k4 := 0) (dQ (by decide +kernel)) rfl ?_
  refine j_get (own := 12) (i := 7) (ci := 12) (f := 2) (dQ (by decide +kernel)) hcls (by decide +kernel) k4 (fun r hr => by cases hr; decide +kernel) f2 ?_
  refine x_bi (n := 80) (dQ (by decide +kernel)) (by decide) ?_
  refine x_bi (n := 100) (dQ (by decide +kernel)) (by decide) ?_
  refine j_iload_n (k4 := 1) (dQ (by decide +kernel)) rfl ?_
  refine x_mul (z := 100 * x1.toInt) (dQ (by decide +kernel)) (by rw [cn3]) (by omega) (fun r18 hr18 => ?_)
  refine x_add (dQ (by decide +kernel)) (by omega) (fun r19 hr19 => ?_)
  refine j_iload_n (k4 := 2) (dQ (by decide +kernel)) rfl ?_
  refine x_add (dQ (by decide +kernel)) (by omega) (fun r20 hr20 => ?_)
  refine x_ald (80 + (100 * b + c)) (dQ (by decide +kernel)) k5 (by omega) (by omega) ?_
  refine j_istore (i := 4) (dQ (by decide +kernel)) (by decide +kernel) ?_
  refine j_aload_n (k4 := 0) (dQ (by decide +kernel)) rfl ?_
  refine j_get (own := 12) (i := 7) (ci := 12) (f := 2) (dQ (by decide +kernel)) hcls (by decide +kernel) k4 (fun r hr => by cases hr; decide +kernel) f2 ?_
  refine x_bi (n := 80) (dQ (by decide +kernel)) (by decide) ?_
  refine x_bi (n := 100) (dQ (by decide +kernel)) (by decide) ?_
  refine j_iload_n (k4 := 1) (dQ (by decide +kernel)) rfl ?_
  refine x_mul (z := 100 * x1.toInt) (dQ (by decide +kernel)) (by rw [cn3]) (by omega) (fun r21 hr21 => ?_)
  refine x_add (dQ (by decide +kernel)) (by omega) (fun r22 hr22 => ?_)
  refine j_iload_n (k4 := 2) (dQ (by decide +kernel)) rfl ?_
  refine x_add (dQ (by decide +kernel)) (by omega) (fun r23 hr23 => ?_)
  refine j_iload_n (k4 := 3) (dQ (by decide +kernel)) rfl ?_
  refine x_ast (80 + (100 * b + c)) (dQ (by decide +kernel)) k5 (by omega) (by omega) ?_
  have k24 : ((h.set (b1 + 0) (.inr (12, (fm.set 0 (.int (Int32.ofInt 0)))))).set (b1 + 1) (.inl (0, 5270, (upd f (80 + (100 * b + c)) x3))))[b1 + 0]? = some (.inr (12, (fm.set 0 (.int (Int32.ofInt 0))))) := by
    rw [List.getElem?_set_ne (by omega)]
    exact k4
  have k25 : ((h.set (b1 + 0) (.inr (12, (fm.set 0 (.int (Int32.ofInt 0)))))).set (b1 + 1) (.inl (0, 5270, (upd f (80 + (100 * b + c)) x3))))[b1 + 1]? = some (.inl (0, 5270, (upd f (80 + (100 * b + c)) x3))) := List.getElem?_set_self (List.getElem?_eq_some_iff.mp k5).1
  refine j_aload_n (k4 := 0) (dQ (by decide +kernel)) rfl ?_
  refine j_iload (i := 4) (dQ (by decide +kernel)) rfl ?_
  refine j_cV (own := 12) (i := 252) (y2 := 216) (d2 := 1) (mc := 0) (ms := 0) (kc := 0) (ks := 0) (a := b1 + 0) (As := [.int (f (80 + (100 * b + c)))]) (st := []) (dQ (by decide +kernel)) hcls (by decide +kernel) (by decide) (by decide +kernel) (show 1 = jnp 216 by decide +kernel) (by decide) (show 0 ≤ 8 by decide) k24 (fun r hr => by cases hr; decide +kernel) (xm_was k24 n1) (fun v hv27 hq => ?_)
  obtain ⟨rfl, rfl⟩ := hq
  have n28 : ((fm.set 0 (.int (Int32.ofInt 0))).set 1 (.int (Int32.ofInt 0))).length = 42 := by rw [List.length_set]; exact n1
  have f29 : ((fm.set 0 (.int (Int32.ofInt 0))).set 1 (.int (Int32.ofInt 0)))[2]? = some (.ref (g.2.2 + (b1 + 1))) := by
    rw [List.getElem?_set_ne (by decide)]
    exact f2
  have f30 : ((fm.set 0 (.int (Int32.ofInt 0))).set 1 (.int (Int32.ofInt 0)))[0]? = some (.int (Int32.ofInt 0)) := by
    rw [List.getElem?_set_ne (by decide)]
    exact f3
  have k31 : (((h.set (b1 + 0) (.inr (12, (fm.set 0 (.int (Int32.ofInt 0)))))).set (b1 + 1) (.inl (0, 5270, (upd f (80 + (100 * b + c)) x3)))).set (b1 + 0) (.inr (12, ((fm.set 0 (.int (Int32.ofInt 0))).set 1 (.int (Int32.ofInt 0))))))[b1 + 0]? = some (.inr (12, ((fm.set 0 (.int (Int32.ofInt 0))).set 1 (.int (Int32.ofInt 0))))) := List.getElem?_set_self (List.getElem?_eq_some_iff.mp k24).1
  have k32 : (((h.set (b1 + 0) (.inr (12, (fm.set 0 (.int (Int32.ofInt 0)))))).set (b1 + 1) (.inl (0, 5270, (upd f (80 + (100 * b + c)) x3)))).set (b1 + 0) (.inr (12, ((fm.set 0 (.int (Int32.ofInt 0))).set 1 (.int (Int32.ofInt 0))))))[b1 + 1]? = some (.inl (0, 5270, (upd f (80 + (100 * b + c)) x3))) := by
    rw [List.getElem?_set_ne (by omega)]
    exact k25
  exact j_ret (v := some (.int (f (80 + (100 * b + c))))) ⟨by decide +kernel, Or.inl (by decide +kernel)⟩ ⟨rfl, rfl⟩ rfl
set_option maxRecDepth 8192 in
theorem xk_code_1l {b0 : Nat} {fx : List Value} (hx : h[b0 + 0]? = some (.inr (11, fx))) (lx : fx.length = 12) {x1 : Int32} {x2 : Int32} {x3 : Int32} (u : x2.toInt < 0) : jCal l g 180 2 [.ref (g.2.2 + (b0 + 0)), .int x1, .int x2, .int x3] h 0 0 (fun v h' => v = some (.int (Int32.ofInt (-1))) ∧ h' = h.set (b0 + 0) (.inr (11, fx.set 7 (.int (Int32.ofInt (-1)))))) := by
  have hcls : jcN 11 = (jyN 180).cls := by decide +kernel
  have cn0 : (Int32.ofInt 0).toInt = 0 := by decide
  have cn1 : (Int32.ofInt (-1)).toInt = -1 := by decide
  refine jCal_of (by decide +kernel) (show 4 ≤ jmx 180 by decide +kernel) ?_
  show J l g 180 2 0 [some (.ref (g.2.2 + (b0 + 0))), some (.int x1), some (.int x2), some (.int x3), none] [] h 0 0 _
  refine j_iload_n (k4 := 2) (dQ (by decide +kernel)) rfl ?_
  refine j_cS (own := 11) (i := 332) (y2 := 181) (d2 := 1) (mc := 0) (ms := 0) (kc := 0) (ks := 0) (As := [.int x2]) (st := []) (dQ (by decide +kernel)) hcls (by decide +kernel) (by decide) (by decide +kernel) (show 1 = jnp 181 by decide +kernel) (by decide) (show 0 ≤ 8 by decide) (x_isCode_0l (by omega)) (fun v hv2 hq => ?_)
  obtain ⟨rfl, rfl⟩ := hq
  refine j_if_eq (off := 10) (tgt := 14) (dQ (by decide +kernel)) (by decide) (fun _ => ?_) (fun q => absurd (i32_eq (show _ = (0 : Int32).toInt by rw [i32_z]; omega)) q)
  refine j_aload_n (k4 := 0) (dQ (by decide +kernel)) rfl ?_
  refine j_iconst (n := (-1)) (dQ (by decide +kernel)) ?_
  refine j_cV (own := 11) (i := 41) (y2 := 16) (d2 := 1) (mc := 0) (ms := 0) (kc := 0) (ks := 0) (a := b0 + 0) (As := [.int (Int32.ofInt (-1))]) (st := []) (dQ (by decide +kernel)) hcls (by decide +kernel) (by decide) (by decide +kernel) (show 1 = jnp 16 by decide +kernel) (by decide) (show 0 ≤ 8 by decide) hx (fun r hr => by cases hr; decide +kernel) (x_refuse hx lx) (fun v hv4 hq => ?_)
  obtain ⟨rfl, rfl⟩ := hq
  have n5 : (fx.set 7 (.int (Int32.ofInt (-1)))).length = 12 := by rw [List.length_set]; exact lx
  have k6 : (h.set (b0 + 0) (.inr (11, (fx.set 7 (.int (Int32.ofInt (-1)))))))[b0 + 0]? = some (.inr (11, (fx.set 7 (.int (Int32.ofInt (-1)))))) := List.getElem?_set_self (List.getElem?_eq_some_iff.mp hx).1
  exact j_ret (v := some (.int (Int32.ofInt (-1)))) ⟨by decide +kernel, Or.inl (by decide +kernel)⟩ ⟨rfl, rfl⟩ rfl
set_option maxRecDepth 8192 in
theorem xk_code_1h {b0 : Nat} {fx : List Value} (hx : h[b0 + 0]? = some (.inr (11, fx))) (lx : fx.length = 12) {x1 : Int32} {x2 : Int32} {x3 : Int32} (u : 99 < x2.toInt) : jCal l g 180 2 [.ref (g.2.2 + (b0 + 0)), .int x1, .int x2, .int x3] h 0 0 (fun v h' => v = some (.int (Int32.ofInt (-1))) ∧ h' = h.set (b0 + 0) (.inr (11, fx.set 7 (.int (Int32.ofInt (-1)))))) := by
  have hcls : jcN 11 = (jyN 180).cls := by decide +kernel
  have cn0 : (Int32.ofInt 0).toInt = 0 := by decide
  have cn1 : (Int32.ofInt (-1)).toInt = -1 := by decide
  refine jCal_of (by decide +kernel) (show 4 ≤ jmx 180 by decide +kernel) ?_
  show J l g 180 2 0 [some (.ref (g.2.2 + (b0 + 0))), some (.int x1), some (.int x2), some (.int x3), none] [] h 0 0 _
  refine j_iload_n (k4 := 2) (dQ (by decide +kernel)) rfl ?_
  refine j_cS (own := 11) (i := 332) (y2 := 181) (d2 := 1) (mc := 0) (ms := 0) (kc := 0) (ks := 0) (As := [.int x2]) (st := []) (dQ (by decide +kernel)) hcls (by decide +kernel) (by decide) (by decide +kernel) (show 1 = jnp 181 by decide +kernel) (by decide) (show 0 ≤ 8 by decide) (x_isCode_0h (by omega)) (fun v hv2 hq => ?_)
  obtain ⟨rfl, rfl⟩ := hq
  refine j_if_eq (off := 10) (tgt := 14) (dQ (by decide +kernel)) (by decide) (fun _ => ?_) (fun q => absurd (i32_eq (show _ = (0 : Int32).toInt by rw [i32_z]; omega)) q)
  refine j_aload_n (k4 := 0) (dQ (by decide +kernel)) rfl ?_
  refine j_iconst (n := (-1)) (dQ (by decide +kernel)) ?_
  refine j_cV (own := 11) (i := 41) (y2 := 16) (d2 := 1) (mc := 0) (ms := 0) (kc := 0) (ks := 0) (a := b0 + 0) (As := [.int (Int32.ofInt (-1))]) (st := []) (dQ (by decide +kernel)) hcls (by decide +kernel) (by decide) (by decide +kernel) (show 1 = jnp 16 by decide +kernel) (by decide) (show 0 ≤ 8 by decide) hx (fun r hr => by cases hr; decide +kernel) (x_refuse hx lx) (fun v hv4 hq => ?_)
  obtain ⟨rfl, rfl⟩ := hq
  have n5 : (fx.set 7 (.int (Int32.ofInt (-1)))).length = 12 := by rw [List.length_set]; exact lx
  have k6 : (h.set (b0 + 0) (.inr (11, (fx.set 7 (.int (Int32.ofInt (-1)))))))[b0 + 0]? = some (.inr (11, (fx.set 7 (.int (Int32.ofInt (-1)))))) := List.getElem?_set_self (List.getElem?_eq_some_iff.mp hx).1
  exact j_ret (v := some (.int (Int32.ofInt (-1)))) ⟨by decide +kernel, Or.inl (by decide +kernel)⟩ ⟨rfl, rfl⟩ rfl
set_option maxRecDepth 8192 in
theorem xk_code_2l {b0 : Nat} {fx : List Value} (hx : h[b0 + 0]? = some (.inr (11, fx))) (lx : fx.length = 12) {x1 : Int32} {x2 : Int32} {x3 : Int32} (g2 : 0 ≤ x2.toInt ∧ x2.toInt ≤ 99) (u : x3.toInt < 1) : jCal l g 180 2 [.ref (g.2.2 + (b0 + 0)), .int x1, .int x2, .int x3] h 0 0 (fun v h' => v = some (.int (Int32.ofInt (-1))) ∧ h' = h.set (b0 + 0) (.inr (11, fx.set 7 (.int (Int32.ofInt (-1)))))) := by
  have hcls : jcN 11 = (jyN 180).cls := by decide +kernel
  have cn0 : (Int32.ofInt 1).toInt = 1 := by decide
  have cn1 : (Int32.ofInt 0).toInt = 0 := by decide
  have cn2 : (Int32.ofInt (-1)).toInt = -1 := by decide
  refine jCal_of (by decide +kernel) (show 4 ≤ jmx 180 by decide +kernel) ?_
  show J l g 180 2 0 [some (.ref (g.2.2 + (b0 + 0))), some (.int x1), some (.int x2), some (.int x3), none] [] h 0 0 _
  refine j_iload_n (k4 := 2) (dQ (by decide +kernel)) rfl ?_
  refine j_cS (own := 11) (i := 332) (y2 := 181) (d2 := 1) (mc := 0) (ms := 0) (kc := 0) (ks := 0) (As := [.int x2]) (st := []) (dQ (by decide +kernel)) hcls (by decide +kernel) (by decide) (by decide +kernel) (show 1 = jnp 181 by decide +kernel) (by decide) (show 0 ≤ 8 by decide) (x_isCode_1 (by omega) (by omega)) (fun v hv2 hq => ?_)
  obtain ⟨rfl, rfl⟩ := hq
  refine j_if_eq (off := 10) (tgt := 14) (dQ (by decide +kernel)) (by decide) (fun q => absurd (congrArg Int32.toInt q) (by rw [i32_z]; omega)) (fun _ => ?_)
  refine j_iload_n (k4 := 3) (dQ (by decide +kernel)) rfl ?_
  refine j_cS (own := 11) (i := 73) (y2 := 34) (d2 := 1) (mc := 0) (ms := 0) (kc := 0) (ks := 0) (As := [.int x3]) (st := []) (dQ (by decide +kernel)) hcls (by decide +kernel) (by decide) (by decide +kernel) (show 1 = jnp 34 by decide +kernel) (by decide) (show 0 ≤ 8 by decide) (x_isName_0l (by omega)) (fun v hv4 hq => ?_)
  obtain ⟨rfl, rfl⟩ := hq
  refine j_if_ne (off := 9) (tgt := 20) (dQ (by decide +kernel)) (by decide) (fun q => absurd (i32_eq (show _ = (0 : Int32).toInt by rw [i32_z]; omega)) q) (fun _ => ?_)
  refine j_aload_n (k4 := 0) (dQ (by decide +kernel)) rfl ?_
  refine j_iconst (n := (-1)) (dQ (by decide +kernel)) ?_
  refine j_cV (own := 11) (i := 41) (y2 := 16) (d2 := 1) (mc := 0) (ms := 0) (kc := 0) (ks := 0) (a := b0 + 0) (As := [.int (Int32.ofInt (-1))]) (st := []) (dQ (by decide +kernel)) hcls (by decide +kernel) (by decide) (by decide +kernel) (show 1 = jnp 16 by decide +kernel) (by decide) (show 0 ≤ 8 by decide) hx (fun r hr => by cases hr; decide +kernel) (x_refuse hx lx) (fun v hv6 hq => ?_)
  obtain ⟨rfl, rfl⟩ := hq
  have n7 : (fx.set 7 (.int (Int32.ofInt (-1)))).length = 12 := by rw [List.length_set]; exact lx
  have k8 : (h.set (b0 + 0) (.inr (11, (fx.set 7 (.int (Int32.ofInt (-1)))))))[b0 + 0]? = some (.inr (11, (fx.set 7 (.int (Int32.ofInt (-1)))))) := List.getElem?_set_self (List.getElem?_eq_some_iff.mp hx).1
  exact j_ret (v := some (.int (Int32.ofInt (-1)))) ⟨by decide +kernel, Or.inl (by decide +kernel)⟩ ⟨rfl, rfl⟩ rfl
set_option maxRecDepth 8192 in
theorem xk_code_2h {b0 : Nat} {fx : List Value} (hx : h[b0 + 0]? = some (.inr (11, fx))) (lx : fx.length = 12) {x1 : Int32} {x2 : Int32} {x3 : Int32} (g2 : 0 ≤ x2.toInt ∧ x2.toInt ≤ 99) (u : 999 < x3.toInt) : jCal l g 180 2 [.ref (g.2.2 + (b0 + 0)), .int x1, .int x2, .int x3] h 0 0 (fun v h' => v = some (.int (Int32.ofInt (-1))) ∧ h' = h.set (b0 + 0) (.inr (11, fx.set 7 (.int (Int32.ofInt (-1)))))) := by
  have hcls : jcN 11 = (jyN 180).cls := by decide +kernel
  have cn0 : (Int32.ofInt 1).toInt = 1 := by decide
  have cn1 : (Int32.ofInt 0).toInt = 0 := by decide
  have cn2 : (Int32.ofInt (-1)).toInt = -1 := by decide
  refine jCal_of (by decide +kernel) (show 4 ≤ jmx 180 by decide +kernel) ?_
  show J l g 180 2 0 [some (.ref (g.2.2 + (b0 + 0))), some (.int x1), some (.int x2), some (.int x3), none] [] h 0 0 _
  refine j_iload_n (k4 := 2) (dQ (by decide +kernel)) rfl ?_
  refine j_cS (own := 11) (i := 332) (y2 := 181) (d2 := 1) (mc := 0) (ms := 0) (kc := 0) (ks := 0) (As := [.int x2]) (st := []) (dQ (by decide +kernel)) hcls (by decide +kernel) (by decide) (by decide +kernel) (show 1 = jnp 181 by decide +kernel) (by decide) (show 0 ≤ 8 by decide) (x_isCode_1 (by omega) (by omega)) (fun v hv2 hq => ?_)
  obtain ⟨rfl, rfl⟩ := hq
  refine j_if_eq (off := 10) (tgt := 14) (dQ (by decide +kernel)) (by decide) (fun q => absurd (congrArg Int32.toInt q) (by rw [i32_z]; omega)) (fun _ => ?_)
  refine j_iload_n (k4 := 3) (dQ (by decide +kernel)) rfl ?_
  refine j_cS (own := 11) (i := 73) (y2 := 34) (d2 := 1) (mc := 0) (ms := 0) (kc := 0) (ks := 0) (As := [.int x3]) (st := []) (dQ (by decide +kernel)) hcls (by decide +kernel) (by decide) (by decide +kernel) (show 1 = jnp 34 by decide +kernel) (by decide) (show 0 ≤ 8 by decide) (x_isName_0h (by omega)) (fun v hv4 hq => ?_)
  obtain ⟨rfl, rfl⟩ := hq
  refine j_if_ne (off := 9) (tgt := 20) (dQ (by decide +kernel)) (by decide) (fun q => absurd (i32_eq (show _ = (0 : Int32).toInt by rw [i32_z]; omega)) q) (fun _ => ?_)
  refine j_aload_n (k4 := 0) (dQ (by decide +kernel)) rfl ?_
  refine j_iconst (n := (-1)) (dQ (by decide +kernel)) ?_
  refine j_cV (own := 11) (i := 41) (y2 := 16) (d2 := 1) (mc := 0) (ms := 0) (kc := 0) (ks := 0) (a := b0 + 0) (As := [.int (Int32.ofInt (-1))]) (st := []) (dQ (by decide +kernel)) hcls (by decide +kernel) (by decide) (by decide +kernel) (show 1 = jnp 16 by decide +kernel) (by decide) (show 0 ≤ 8 by decide) hx (fun r hr => by cases hr; decide +kernel) (x_refuse hx lx) (fun v hv6 hq => ?_)
  obtain ⟨rfl, rfl⟩ := hq
  have n7 : (fx.set 7 (.int (Int32.ofInt (-1)))).length = 12 := by rw [List.length_set]; exact lx
  have k8 : (h.set (b0 + 0) (.inr (11, (fx.set 7 (.int (Int32.ofInt (-1)))))))[b0 + 0]? = some (.inr (11, (fx.set 7 (.int (Int32.ofInt (-1)))))) := List.getElem?_set_self (List.getElem?_eq_some_iff.mp hx).1
  exact j_ret (v := some (.int (Int32.ofInt (-1)))) ⟨by decide +kernel, Or.inl (by decide +kernel)⟩ ⟨rfl, rfl⟩ rfl
set_option maxRecDepth 8192 in
theorem xk_code_0l {b0 : Nat} {fx : List Value} (hx : h[b0 + 0]? = some (.inr (11, fx))) (lx : fx.length = 12) {x1 : Int32} {x2 : Int32} {x3 : Int32} (g2 : 0 ≤ x2.toInt ∧ x2.toInt ≤ 99) (g3 : 1 ≤ x3.toInt ∧ x3.toInt ≤ 999) (u : x1.toInt < 0) : jCal l g 180 2 [.ref (g.2.2 + (b0 + 0)), .int x1, .int x2, .int x3] h 0 0 (fun v h' => v = some (.int (Int32.ofInt (-2))) ∧ h' = h.set (b0 + 0) (.inr (11, fx.set 7 (.int (Int32.ofInt (-2)))))) := by
  have hcls : jcN 11 = (jyN 180).cls := by decide +kernel
  have cn0 : (Int32.ofInt 1).toInt = 1 := by decide
  have cn1 : (Int32.ofInt 0).toInt = 0 := by decide
  have cn2 : (Int32.ofInt (-2)).toInt = -2 := by decide
  refine jCal_of (by decide +kernel) (show 4 ≤ jmx 180 by decide +kernel) ?_
  show J l g 180 2 0 [some (.ref (g.2.2 + (b0 + 0))), some (.int x1), some (.int x2), some (.int x3), none] [] h 0 0 _
  refine j_iload_n (k4 := 2) (dQ (by decide +kernel)) rfl ?_
  refine j_cS (own := 11) (i := 332) (y2 := 181) (d2 := 1) (mc := 0) (ms := 0) (kc := 0) (ks := 0) (As := [.int x2]) (st := []) (dQ (by decide +kernel)) hcls (by decide +kernel) (by decide) (by decide +kernel) (show 1 = jnp 181 by decide +kernel) (by decide) (show 0 ≤ 8 by decide) (x_isCode_1 (by omega) (by omega)) (fun v hv2 hq => ?_)
  obtain ⟨rfl, rfl⟩ := hq
  refine j_if_eq (off := 10) (tgt := 14) (dQ (by decide +kernel)) (by decide) (fun q => absurd (congrArg Int32.toInt q) (by rw [i32_z]; omega)) (fun _ => ?_)
  refine j_iload_n (k4 := 3) (dQ (by decide +kernel)) rfl ?_
  refine j_cS (own := 11) (i := 73) (y2 := 34) (d2 := 1) (mc := 0) (ms := 0) (kc := 0) (ks := 0) (As := [.int x3]) (st := []) (dQ (by decide +kernel)) hcls (by decide +kernel) (by decide) (by decide +kernel) (show 1 = jnp 34 by decide +kernel) (by decide) (show 0 ≤ 8 by decide) (x_isName_1 (by omega) (by omega)) (fun v hv4 hq => ?_)
  obtain ⟨rfl, rfl⟩ := hq
  refine j_if_ne (off := 9) (tgt := 20) (dQ (by decide +kernel)) (by decide) (fun _ => ?_) (fun q => absurd (fun q => absurd (congrArg Int32.toInt q) (by rw [i32_z]; omega)) q)
  refine j_iload_n (k4 := 1) (dQ (by decide +kernel)) rfl ?_
  refine j_cS (own := 11) (i := 326) (y2 := 179) (d2 := 1) (mc := 0) (ms := 0) (kc := 0) (ks := 0) (As := [.int x1]) (st := []) (dQ (by decide +kernel)) hcls (by decide +kernel) (by decide) (by decide +kernel) (show 1 = jnp 179 by decide +kernel) (by decide) (show 0 ≤ 8 by decide) (x_isBox_0l (by omega)) (fun v hv6 hq => ?_)
  obtain ⟨rfl, rfl⟩ := hq
  refine j_if_ne (off := 10) (tgt := 34) (dQ (by decide +kernel)) (by decide) (fun q => absurd (i32_eq (show _ = (0 : Int32).toInt by rw [i32_z]; omega)) q) (fun _ => ?_)
  refine j_aload_n (k4 := 0) (dQ (by decide +kernel)) rfl ?_
  refine x_bi (n := (-2)) (dQ (by decide +kernel)) (by decide) ?_
  refine j_cV (own := 11) (i := 41) (y2 := 16) (d2 := 1) (mc := 0) (ms := 0) (kc := 0) (ks := 0) (a := b0 + 0) (As := [.int (Int32.ofInt (-2))]) (st := []) (dQ (by decide +kernel)) hcls (by decide +kernel) (by decide) (by decide +kernel) (show 1 = jnp 16 by decide +kernel) (by decide) (show 0 ≤ 8 by decide) hx (fun r hr => by cases hr; decide +kernel) (x_refuse hx lx) (fun v hv8 hq => ?_)
  obtain ⟨rfl, rfl⟩ := hq
  have n9 : (fx.set 7 (.int (Int32.ofInt (-2)))).length = 12 := by rw [List.length_set]; exact lx
  have k10 : (h.set (b0 + 0) (.inr (11, (fx.set 7 (.int (Int32.ofInt (-2)))))))[b0 + 0]? = some (.inr (11, (fx.set 7 (.int (Int32.ofInt (-2)))))) := List.getElem?_set_self (List.getElem?_eq_some_iff.mp hx).1
  exact j_ret (v := some (.int (Int32.ofInt (-2)))) ⟨by decide +kernel, Or.inl (by decide +kernel)⟩ ⟨rfl, rfl⟩ rfl
set_option maxRecDepth 8192 in
theorem xk_code_0h {b0 : Nat} {fx : List Value} (hx : h[b0 + 0]? = some (.inr (11, fx))) (lx : fx.length = 12) {x1 : Int32} {x2 : Int32} {x3 : Int32} (g2 : 0 ≤ x2.toInt ∧ x2.toInt ≤ 99) (g3 : 1 ≤ x3.toInt ∧ x3.toInt ≤ 999) (u : 2 < x1.toInt) : jCal l g 180 2 [.ref (g.2.2 + (b0 + 0)), .int x1, .int x2, .int x3] h 0 0 (fun v h' => v = some (.int (Int32.ofInt (-2))) ∧ h' = h.set (b0 + 0) (.inr (11, fx.set 7 (.int (Int32.ofInt (-2)))))) := by
  have hcls : jcN 11 = (jyN 180).cls := by decide +kernel
  have cn0 : (Int32.ofInt 1).toInt = 1 := by decide
  have cn1 : (Int32.ofInt 0).toInt = 0 := by decide
  have cn2 : (Int32.ofInt (-2)).toInt = -2 := by decide
  refine jCal_of (by decide +kernel) (show 4 ≤ jmx 180 by decide +kernel) ?_
  show J l g 180 2 0 [some (.ref (g.2.2 + (b0 + 0))), some (.int x1), some (.int x2), some (.int x3), none] [] h 0 0 _
  refine j_iload_n (k4 := 2) (dQ (by decide +kernel)) rfl ?_
  refine j_cS (own := 11) (i := 332) (y2 := 181) (d2 := 1) (mc := 0) (ms := 0) (kc := 0) (ks := 0) (As := [.int x2]) (st := []) (dQ (by decide +kernel)) hcls (by decide +kernel) (by decide) (by decide +kernel) (show 1 = jnp 181 by decide +kernel) (by decide) (show 0 ≤ 8 by decide) (x_isCode_1 (by omega) (by omega)) (fun v hv2 hq => ?_)
  obtain ⟨rfl, rfl⟩ := hq
  refine j_if_eq (off := 10) (tgt := 14) (dQ (by decide +kernel)) (by decide) (fun q => absurd (congrArg Int32.toInt q) (by rw [i32_z]; omega)) (fun _ => ?_)
  refine j_iload_n (k4 := 3) (dQ (by decide +kernel)) rfl ?_
  refine j_cS (own := 11) (i := 73) (y2 := 34) (d2 := 1) (mc := 0) (ms := 0) (kc := 0) (ks := 0) (As := [.int x3]) (st := []) (dQ (by decide +kernel)) hcls (by decide +kernel) (by decide) (by decide +kernel) (show 1 = jnp 34 by decide +kernel) (by decide) (show 0 ≤ 8 by decide) (x_isName_1 (by omega) (by omega)) (fun v hv4 hq => ?_)
  obtain ⟨rfl, rfl⟩ := hq
  refine j_if_ne (off := 9) (tgt := 20) (dQ (by decide +kernel)) (by decide) (fun _ => ?_) (fun q => absurd (fun q => absurd (congrArg Int32.toInt q) (by rw [i32_z]; omega)) q)
  refine j_iload_n (k4 := 1) (dQ (by decide +kernel)) rfl ?_
  refine j_cS (own := 11) (i := 326) (y2 := 179) (d2 := 1) (mc := 0) (ms := 0) (kc := 0) (ks := 0) (As := [.int x1]) (st := []) (dQ (by decide +kernel)) hcls (by decide +kernel) (by decide) (by decide +kernel) (show 1 = jnp 179 by decide +kernel) (by decide) (show 0 ≤ 8 by decide) (x_isBox_0h (by omega)) (fun v hv6 hq => ?_)
  obtain ⟨rfl, rfl⟩ := hq
  refine j_if_ne (off := 10) (tgt := 34) (dQ (by decide +kernel)) (by decide) (fun q => absurd (i32_eq (show _ = (0 : Int32).toInt by rw [i32_z]; omega)) q) (fun _ => ?_)
  refine j_aload_n (k4 := 0) (dQ (by decide +kernel)) rfl ?_
  refine x_bi (n := (-2)) (dQ (by decide +kernel)) (by decide) ?_
  refine j_cV (own := 11) (i := 41) (y2 := 16) (d2 := 1) (mc := 0) (ms := 0) (kc := 0) (ks := 0) (a := b0 + 0) (As := [.int (Int32.ofInt (-2))]) (st := []) (dQ (by decide +kernel)) hcls (by decide +kernel) (by decide) (by decide +kernel) (show 1 = jnp 16 by decide +kernel) (by decide) (show 0 ≤ 8 by decide) hx (fun r hr => by cases hr; decide +kernel) (x_refuse hx lx) (fun v hv8 hq => ?_)
  obtain ⟨rfl, rfl⟩ := hq
  have n9 : (fx.set 7 (.int (Int32.ofInt (-2)))).length = 12 := by rw [List.length_set]; exact lx
  have k10 : (h.set (b0 + 0) (.inr (11, (fx.set 7 (.int (Int32.ofInt (-2)))))))[b0 + 0]? = some (.inr (11, (fx.set 7 (.int (Int32.ofInt (-2)))))) := List.getElem?_set_self (List.getElem?_eq_some_iff.mp hx).1
  exact j_ret (v := some (.int (Int32.ofInt (-2)))) ⟨by decide +kernel, Or.inl (by decide +kernel)⟩ ⟨rfl, rfl⟩ rfl
set_option maxRecDepth 8192 in
theorem xr_code_1l {b1 : Nat} {fm : List Value} (hm : h[b1 + 0]? = some (.inr (12, fm))) (lm : fm.length = 42) {x1 : Int32} {x2 : Int32} {x3 : Int32} (u : x2.toInt < 0) : jCal l g 307 3 [.ref (g.2.2 + (b1 + 0)), .int x1, .int x2, .int x3] h 0 0 (fun v h' => v = some (.int (Int32.ofInt (-1))) ∧ h' = (h.set (b1 + 0) (.inr (12, fm.set 0 (.int (Int32.ofInt 0))))).set (b1 + 0) (.inr (12, (fm.set 0 (.int (Int32.ofInt 0))).set 1 (.int (Int32.ofInt (-1)))))) := by
  have hcls : jcN 12 = (jyN 307).cls := by decide +kernel
  have cn0 : (Int32.ofInt 0).toInt = 0 := by decide
  have cn1 : (Int32.ofInt (-1)).toInt = -1 := by decide
  refine jCal_of (by decide +kernel) (show 4 ≤ jmx 307 by decide +kernel) ?_
  show J l g 307 3 0 [some (.ref (g.2.2 + (b1 + 0))), some (.int x1), some (.int x2), some (.int x3), none] [] h 0 0 _
  refine j_aload_n (k4 := 0) (dQ (by decide +kernel)) rfl ?_
  refine j_iconst (n := 0) (dQ (by decide +kernel)) ?_
  refine j_put (own := 12) (i := 94) (ci := 12) (f := 0) (ty := .int) (dQ (by decide +kernel)) hcls (by decide +kernel) hm rfl (by decide +kernel) (by rw [lm]; decide) (by decide +kernel) (by decide +kernel) rfl rfl ?_
  have n1 : (fm.set 0 (.int (Int32.ofInt 0))).length = 42 := by rw [List.length_set]; exact lm
  have f2 : (fm.set 0 (.int (Int32.ofInt 0)))[0]? = some (.int (Int32.ofInt 0)) := List.getElem?_set_self (by rw [lm]; decide)
  have k3 : (h.set (b1 + 0) (.inr (12, (fm.set 0 (.int (Int32.ofInt 0))))))[b1 + 0]? = some (.inr (12, (fm.set 0 (.int (Int32.ofInt 0))))) := List.getElem?_set_self (List.getElem?_eq_some_iff.mp hm).1
  refine j_iload_n (k4 := 2) (dQ (by decide +kernel)) rfl ?_
  refine x_i2l (dQ (by decide +kernel)) (fun r4 hr4 => ?_)
  refine j_lconst (n := 0) (dQ (by decide +kernel)) ?_
  have hq5 : (Int64.ofNat ((0 : Fin 2) : Nat)).toInt = 0 := by decide
  refine j_ldc2 (own := 12) (i := 392) (v := 99) hcls (by decide +kernel) (by decide +kernel) ?_
  have hq6 : (99 : Int64).toInt = 99 := by decide
  refine j_cS (own := 12) (i := 100) (y2 := 205) (d2 := 1) (mc := 0) (ms := 0) (kc := 0) (ks := 0) (As := [.long r4, .long (Int64.ofNat ((0 : Fin 2) : Nat)), .long (99 : Int64)]) (st := []) (dQ (by decide +kernel)) hcls (by decide +kernel) (by decide) (by decide +kernel) (show 3 = jnp 205 by decide +kernel) (by decide) (show 0 ≤ 8 by decide) (xm_in_0l (by omega)) (fun v hv8 hq => ?_)
  obtain ⟨rfl, rfl⟩ := hq
  refine j_if_eq (off := 10) (tgt := 24) (dQ (by decide +kernel)) (by decide) (fun _ => ?_) (fun q => absurd (i32_eq (show _ = (0 : Int32).toInt by rw [i32_z]; omega)) q)
  refine j_aload_n (k4 := 0) (dQ (by decide +kernel)) rfl ?_
  refine j_iconst (n := (-1)) (dQ (by decide +kernel)) ?_
  refine j_cV (own := 12) (i := 104) (y2 := 206) (d2 := 1) (mc := 0) (ms := 0) (kc := 0) (ks := 0) (a := b1 + 0) (As := [.int (Int32.ofInt (-1))]) (st := []) (dQ (by decide +kernel)) hcls (by decide +kernel) (by decide) (by decide +kernel) (show 1 = jnp 206 by decide +kernel) (by decide) (show 0 ≤ 8 by decide) k3 (fun r hr => by cases hr; decide +kernel) (xm_tellN k3 n1 (by omega)) (fun v hv10 hq => ?_)
  obtain ⟨rfl, rfl⟩ := hq
  have n11 : ((fm.set 0 (.int (Int32.ofInt 0))).set 1 (.int (Int32.ofInt (-1)))).length = 42 := by rw [List.length_set]; exact n1
  have f12 : ((fm.set 0 (.int (Int32.ofInt 0))).set 1 (.int (Int32.ofInt (-1))))[0]? = some (.int (Int32.ofInt 0)) := by
    rw [List.getElem?_set_ne (by decide)]
    exact f2
  have k13 : ((h.set (b1 + 0) (.inr (12, (fm.set 0 (.int (Int32.ofInt 0)))))).set (b1 + 0) (.inr (12, ((fm.set 0 (.int (Int32.ofInt 0))).set 1 (.int (Int32.ofInt (-1)))))))[b1 + 0]? = some (.inr (12, ((fm.set 0 (.int (Int32.ofInt 0))).set 1 (.int (Int32.ofInt (-1)))))) := List.getElem?_set_self (List.getElem?_eq_some_iff.mp k3).1
  exact j_ret (v := some (.int (Int32.ofInt (-1)))) ⟨by decide +kernel, Or.inl (by decide +kernel)⟩ ⟨rfl, rfl⟩ rfl
set_option maxRecDepth 8192 in
theorem xr_code_1h {b1 : Nat} {fm : List Value} (hm : h[b1 + 0]? = some (.inr (12, fm))) (lm : fm.length = 42) {x1 : Int32} {x2 : Int32} {x3 : Int32} (u : 99 < x2.toInt) : jCal l g 307 3 [.ref (g.2.2 + (b1 + 0)), .int x1, .int x2, .int x3] h 0 0 (fun v h' => v = some (.int (Int32.ofInt (-1))) ∧ h' = (h.set (b1 + 0) (.inr (12, fm.set 0 (.int (Int32.ofInt 0))))).set (b1 + 0) (.inr (12, (fm.set 0 (.int (Int32.ofInt 0))).set 1 (.int (Int32.ofInt (-1)))))) := by
  have hcls : jcN 12 = (jyN 307).cls := by decide +kernel
  have cn0 : (Int32.ofInt 0).toInt = 0 := by decide
  have cn1 : (Int32.ofInt (-1)).toInt = -1 := by decide
  refine jCal_of (by decide +kernel) (show 4 ≤ jmx 307 by decide +kernel) ?_
  show J l g 307 3 0 [some (.ref (g.2.2 + (b1 + 0))), some (.int x1), some (.int x2), some (.int x3), none] [] h 0 0 _
  refine j_aload_n (k4 := 0) (dQ (by decide +kernel)) rfl ?_
  refine j_iconst (n := 0) (dQ (by decide +kernel)) ?_
  refine j_put (own := 12) (i := 94) (ci := 12) (f := 0) (ty := .int) (dQ (by decide +kernel)) hcls (by decide +kernel) hm rfl (by decide +kernel) (by rw [lm]; decide) (by decide +kernel) (by decide +kernel) rfl rfl ?_
  have n1 : (fm.set 0 (.int (Int32.ofInt 0))).length = 42 := by rw [List.length_set]; exact lm
  have f2 : (fm.set 0 (.int (Int32.ofInt 0)))[0]? = some (.int (Int32.ofInt 0)) := List.getElem?_set_self (by rw [lm]; decide)
  have k3 : (h.set (b1 + 0) (.inr (12, (fm.set 0 (.int (Int32.ofInt 0))))))[b1 + 0]? = some (.inr (12, (fm.set 0 (.int (Int32.ofInt 0))))) := List.getElem?_set_self (List.getElem?_eq_some_iff.mp hm).1
  refine j_iload_n (k4 := 2) (dQ (by decide +kernel)) rfl ?_
  refine x_i2l (dQ (by decide +kernel)) (fun r4 hr4 => ?_)
  refine j_lconst (n := 0) (dQ (by decide +kernel)) ?_
  have hq5 : (Int64.ofNat ((0 : Fin 2) : Nat)).toInt = 0 := by decide
  refine j_ldc2 (own := 12) (i := 392) (v := 99) hcls (by decide +kernel) (by decide +kernel) ?_
  have hq6 : (99 : Int64).toInt = 99 := by decide
  refine j_cS (own := 12) (i := 100) (y2 := 205) (d2 := 1) (mc := 0) (ms := 0) (kc := 0) (ks := 0) (As := [.long r4, .long (Int64.ofNat ((0 : Fin 2) : Nat)), .long (99 : Int64)]) (st := []) (dQ (by decide +kernel)) hcls (by decide +kernel) (by decide) (by decide +kernel) (show 3 = jnp 205 by decide +kernel) (by decide) (show 0 ≤ 8 by decide) (xm_in_0h (by omega) (by omega)) (fun v hv8 hq => ?_)
  obtain ⟨rfl, rfl⟩ := hq
  refine j_if_eq (off := 10) (tgt := 24) (dQ (by decide +kernel)) (by decide) (fun _ => ?_) (fun q => absurd (i32_eq (show _ = (0 : Int32).toInt by rw [i32_z]; omega)) q)
  refine j_aload_n (k4 := 0) (dQ (by decide +kernel)) rfl ?_
  refine j_iconst (n := (-1)) (dQ (by decide +kernel)) ?_
  refine j_cV (own := 12) (i := 104) (y2 := 206) (d2 := 1) (mc := 0) (ms := 0) (kc := 0) (ks := 0) (a := b1 + 0) (As := [.int (Int32.ofInt (-1))]) (st := []) (dQ (by decide +kernel)) hcls (by decide +kernel) (by decide) (by decide +kernel) (show 1 = jnp 206 by decide +kernel) (by decide) (show 0 ≤ 8 by decide) k3 (fun r hr => by cases hr; decide +kernel) (xm_tellN k3 n1 (by omega)) (fun v hv10 hq => ?_)
  obtain ⟨rfl, rfl⟩ := hq
  have n11 : ((fm.set 0 (.int (Int32.ofInt 0))).set 1 (.int (Int32.ofInt (-1)))).length = 42 := by rw [List.length_set]; exact n1
  have f12 : ((fm.set 0 (.int (Int32.ofInt 0))).set 1 (.int (Int32.ofInt (-1))))[0]? = some (.int (Int32.ofInt 0)) := by
    rw [List.getElem?_set_ne (by decide)]
    exact f2
  have k13 : ((h.set (b1 + 0) (.inr (12, (fm.set 0 (.int (Int32.ofInt 0)))))).set (b1 + 0) (.inr (12, ((fm.set 0 (.int (Int32.ofInt 0))).set 1 (.int (Int32.ofInt (-1)))))))[b1 + 0]? = some (.inr (12, ((fm.set 0 (.int (Int32.ofInt 0))).set 1 (.int (Int32.ofInt (-1)))))) := List.getElem?_set_self (List.getElem?_eq_some_iff.mp k3).1
  exact j_ret (v := some (.int (Int32.ofInt (-1)))) ⟨by decide +kernel, Or.inl (by decide +kernel)⟩ ⟨rfl, rfl⟩ rfl
set_option maxRecDepth 8192 in
theorem xr_code_2l {b1 : Nat} {fm : List Value} (hm : h[b1 + 0]? = some (.inr (12, fm))) (lm : fm.length = 42) {x1 : Int32} {x2 : Int32} {x3 : Int32} (g2 : 0 ≤ x2.toInt ∧ x2.toInt ≤ 99) (u : x3.toInt < 1) : jCal l g 307 3 [.ref (g.2.2 + (b1 + 0)), .int x1, .int x2, .int x3] h 0 0 (fun v h' => v = some (.int (Int32.ofInt (-1))) ∧ h' = (h.set (b1 + 0) (.inr (12, fm.set 0 (.int (Int32.ofInt 0))))).set (b1 + 0) (.inr (12, (fm.set 0 (.int (Int32.ofInt 0))).set 1 (.int (Int32.ofInt (-1)))))) := by
  have hcls : jcN 12 = (jyN 307).cls := by decide +kernel
  have cn0 : (Int32.ofInt 0).toInt = 0 := by decide
  have cn1 : (Int32.ofInt 1).toInt = 1 := by decide
  have cn2 : (Int32.ofInt (-1)).toInt = -1 := by decide
  refine jCal_of (by decide +kernel) (show 4 ≤ jmx 307 by decide +kernel) ?_
  show J l g 307 3 0 [some (.ref (g.2.2 + (b1 + 0))), some (.int x1), some (.int x2), some (.int x3), none] [] h 0 0 _
  refine j_aload_n (k4 := 0) (dQ (by decide +kernel)) rfl ?_
  refine j_iconst (n := 0) (dQ (by decide +kernel)) ?_
  refine j_put (own := 12) (i := 94) (ci := 12) (f := 0) (ty := .int) (dQ (by decide +kernel)) hcls (by decide +kernel) hm rfl (by decide +kernel) (by rw [lm]; decide) (by decide +kernel) (by decide +kernel) rfl rfl ?_
  have n1 : (fm.set 0 (.int (Int32.ofInt 0))).length = 42 := by rw [List.length_set]; exact lm
  have f2 : (fm.set 0 (.int (Int32.ofInt 0)))[0]? = some (.int (Int32.ofInt 0)) := List.getElem?_set_self (by rw [lm]; decide)
  have k3 : (h.set (b1 + 0) (.inr (12, (fm.set 0 (.int (Int32.ofInt 0))))))[b1 + 0]? = some (.inr (12, (fm.set 0 (.int (Int32.ofInt 0))))) := List.getElem?_set_self (List.getElem?_eq_some_iff.mp hm).1
  refine j_iload_n (k4 := 2) (dQ (by decide +kernel)) rfl ?_
  refine x_i2l (dQ (by decide +kernel)) (fun r4 hr4 => ?_)
  refine j_lconst (n := 0) (dQ (by decide +kernel)) ?_
  have hq5 : (Int64.ofNat ((0 : Fin 2) : Nat)).toInt = 0 := by decide
  refine j_ldc2 (own := 12) (i := 392) (v := 99) hcls (by decide +kernel) (by decide +kernel) ?_
  have hq6 : (99 : Int64).toInt = 99 := by decide
  refine j_cS (own := 12) (i := 100) (y2 := 205) (d2 := 1) (mc := 0) (ms := 0) (kc := 0) (ks := 0) (As := [.long r4, .long (Int64.ofNat ((0 : Fin 2) : Nat)), .long (99 : Int64)]) (st := []) (dQ (by decide +kernel)) hcls (by decide +kernel) (by decide) (by decide +kernel) (show 3 = jnp 205 by decide +kernel) (by decide) (show 0 ≤ 8 by decide) (xm_in_1 (by omega) (by omega)) (fun v hv8 hq => ?_)
  obtain ⟨rfl, rfl⟩ := hq
  refine j_if_eq (off := 10) (tgt := 24) (dQ (by decide +kernel)) (by decide) (fun q => absurd (congrArg Int32.toInt q) (by rw [i32_z]; omega)) (fun _ => ?_)
  refine j_iload_n (k4 := 3) (dQ (by decide +kernel)) rfl ?_
  refine j_cS (own := 12) (i := 301) (y2 := 249) (d2 := 2) (mc := 0) (ms := 0) (kc := 0) (ks := 0) (As := [.int x3]) (st := []) (dQ (by decide +kernel)) hcls (by decide +kernel) (by decide) (by decide +kernel) (show 1 = jnp 249 by decide +kernel) (by decide) (show 0 ≤ 8 by decide) (xm_isName_0l (by omega)) (fun v hv10 hq => ?_)
  obtain ⟨rfl, rfl⟩ := hq
  refine j_if_ne (off := 9) (tgt := 30) (dQ (by decide +kernel)) (by decide) (fun q => absurd (i32_eq (show _ = (0 : Int32).toInt by rw [i32_z]; omega)) q) (fun _ => ?_)
  refine j_aload_n (k4 := 0) (dQ (by decide +kernel)) rfl ?_
  refine j_iconst (n := (-1)) (dQ (by decide +kernel)) ?_
  refine j_cV (own := 12) (i := 104) (y2 := 206) (d2 := 1) (mc := 0) (ms := 0) (kc := 0) (ks := 0) (a := b1 + 0) (As := [.int (Int32.ofInt (-1))]) (st := []) (dQ (by decide +kernel)) hcls (by decide +kernel) (by decide) (by decide +kernel) (show 1 = jnp 206 by decide +kernel) (by decide) (show 0 ≤ 8 by decide) k3 (fun r hr => by cases hr; decide +kernel) (xm_tellN k3 n1 (by omega)) (fun v hv12 hq => ?_)
  obtain ⟨rfl, rfl⟩ := hq
  have n13 : ((fm.set 0 (.int (Int32.ofInt 0))).set 1 (.int (Int32.ofInt (-1)))).length = 42 := by rw [List.length_set]; exact n1
  have f14 : ((fm.set 0 (.int (Int32.ofInt 0))).set 1 (.int (Int32.ofInt (-1))))[0]? = some (.int (Int32.ofInt 0)) := by
    rw [List.getElem?_set_ne (by decide)]
    exact f2
  have k15 : ((h.set (b1 + 0) (.inr (12, (fm.set 0 (.int (Int32.ofInt 0)))))).set (b1 + 0) (.inr (12, ((fm.set 0 (.int (Int32.ofInt 0))).set 1 (.int (Int32.ofInt (-1)))))))[b1 + 0]? = some (.inr (12, ((fm.set 0 (.int (Int32.ofInt 0))).set 1 (.int (Int32.ofInt (-1)))))) := List.getElem?_set_self (List.getElem?_eq_some_iff.mp k3).1
  exact j_ret (v := some (.int (Int32.ofInt (-1)))) ⟨by decide +kernel, Or.inl (by decide +kernel)⟩ ⟨rfl, rfl⟩ rfl
set_option maxRecDepth 8192 in
theorem xr_code_2h {b1 : Nat} {fm : List Value} (hm : h[b1 + 0]? = some (.inr (12, fm))) (lm : fm.length = 42) {x1 : Int32} {x2 : Int32} {x3 : Int32} (g2 : 0 ≤ x2.toInt ∧ x2.toInt ≤ 99) (u : 999 < x3.toInt) : jCal l g 307 3 [.ref (g.2.2 + (b1 + 0)), .int x1, .int x2, .int x3] h 0 0 (fun v h' => v = some (.int (Int32.ofInt (-1))) ∧ h' = (h.set (b1 + 0) (.inr (12, fm.set 0 (.int (Int32.ofInt 0))))).set (b1 + 0) (.inr (12, (fm.set 0 (.int (Int32.ofInt 0))).set 1 (.int (Int32.ofInt (-1)))))) := by
  have hcls : jcN 12 = (jyN 307).cls := by decide +kernel
  have cn0 : (Int32.ofInt 0).toInt = 0 := by decide
  have cn1 : (Int32.ofInt 1).toInt = 1 := by decide
  have cn2 : (Int32.ofInt (-1)).toInt = -1 := by decide
  refine jCal_of (by decide +kernel) (show 4 ≤ jmx 307 by decide +kernel) ?_
  show J l g 307 3 0 [some (.ref (g.2.2 + (b1 + 0))), some (.int x1), some (.int x2), some (.int x3), none] [] h 0 0 _
  refine j_aload_n (k4 := 0) (dQ (by decide +kernel)) rfl ?_
  refine j_iconst (n := 0) (dQ (by decide +kernel)) ?_
  refine j_put (own := 12) (i := 94) (ci := 12) (f := 0) (ty := .int) (dQ (by decide +kernel)) hcls (by decide +kernel) hm rfl (by decide +kernel) (by rw [lm]; decide) (by decide +kernel) (by decide +kernel) rfl rfl ?_
  have n1 : (fm.set 0 (.int (Int32.ofInt 0))).length = 42 := by rw [List.length_set]; exact lm
  have f2 : (fm.set 0 (.int (Int32.ofInt 0)))[0]? = some (.int (Int32.ofInt 0)) := List.getElem?_set_self (by rw [lm]; decide)
  have k3 : (h.set (b1 + 0) (.inr (12, (fm.set 0 (.int (Int32.ofInt 0))))))[b1 + 0]? = some (.inr (12, (fm.set 0 (.int (Int32.ofInt 0))))) := List.getElem?_set_self (List.getElem?_eq_some_iff.mp hm).1
  refine j_iload_n (k4 := 2) (dQ (by decide +kernel)) rfl ?_
  refine x_i2l (dQ (by decide +kernel)) (fun r4 hr4 => ?_)
  refine j_lconst (n := 0) (dQ (by decide +kernel)) ?_
  have hq5 : (Int64.ofNat ((0 : Fin 2) : Nat)).toInt = 0 := by decide
  refine j_ldc2 (own := 12) (i := 392) (v := 99) hcls (by decide +kernel) (by decide +kernel) ?_
  have hq6 : (99 : Int64).toInt = 99 := by decide
  refine j_cS (own := 12) (i := 100) (y2 := 205) (d2 := 1) (mc := 0) (ms := 0) (kc := 0) (ks := 0) (As := [.long r4, .long (Int64.ofNat ((0 : Fin 2) : Nat)), .long (99 : Int64)]) (st := []) (dQ (by decide +kernel)) hcls (by decide +kernel) (by decide) (by decide +kernel) (show 3 = jnp 205 by decide +kernel) (by decide) (show 0 ≤ 8 by decide) (xm_in_1 (by omega) (by omega)) (fun v hv8 hq => ?_)
  obtain ⟨rfl, rfl⟩ := hq
  refine j_if_eq (off := 10) (tgt := 24) (dQ (by decide +kernel)) (by decide) (fun q => absurd (congrArg Int32.toInt q) (by rw [i32_z]; omega)) (fun _ => ?_)
  refine j_iload_n (k4 := 3) (dQ (by decide +kernel)) rfl ?_
  refine j_cS (own := 12) (i := 301) (y2 := 249) (d2 := 2) (mc := 0) (ms := 0) (kc := 0) (ks := 0) (As := [.int x3]) (st := []) (dQ (by decide +kernel)) hcls (by decide +kernel) (by decide) (by decide +kernel) (show 1 = jnp 249 by decide +kernel) (by decide) (show 0 ≤ 8 by decide) (xm_isName_0h (by omega)) (fun v hv10 hq => ?_)
  obtain ⟨rfl, rfl⟩ := hq
  refine j_if_ne (off := 9) (tgt := 30) (dQ (by decide +kernel)) (by decide) (fun q => absurd (i32_eq (show _ = (0 : Int32).toInt by rw [i32_z]; omega)) q) (fun _ => ?_)
  refine j_aload_n (k4 := 0) (dQ (by decide +kernel)) rfl ?_
  refine j_iconst (n := (-1)) (dQ (by decide +kernel)) ?_
  refine j_cV (own := 12) (i := 104) (y2 := 206) (d2 := 1) (mc := 0) (ms := 0) (kc := 0) (ks := 0) (a := b1 + 0) (As := [.int (Int32.ofInt (-1))]) (st := []) (dQ (by decide +kernel)) hcls (by decide +kernel) (by decide) (by decide +kernel) (show 1 = jnp 206 by decide +kernel) (by decide) (show 0 ≤ 8 by decide) k3 (fun r hr => by cases hr; decide +kernel) (xm_tellN k3 n1 (by omega)) (fun v hv12 hq => ?_)
  obtain ⟨rfl, rfl⟩ := hq
  have n13 : ((fm.set 0 (.int (Int32.ofInt 0))).set 1 (.int (Int32.ofInt (-1)))).length = 42 := by rw [List.length_set]; exact n1
  have f14 : ((fm.set 0 (.int (Int32.ofInt 0))).set 1 (.int (Int32.ofInt (-1))))[0]? = some (.int (Int32.ofInt 0)) := by
    rw [List.getElem?_set_ne (by decide)]
    exact f2
  have k15 : ((h.set (b1 + 0) (.inr (12, (fm.set 0 (.int (Int32.ofInt 0)))))).set (b1 + 0) (.inr (12, ((fm.set 0 (.int (Int32.ofInt 0))).set 1 (.int (Int32.ofInt (-1)))))))[b1 + 0]? = some (.inr (12, ((fm.set 0 (.int (Int32.ofInt 0))).set 1 (.int (Int32.ofInt (-1)))))) := List.getElem?_set_self (List.getElem?_eq_some_iff.mp k3).1
  exact j_ret (v := some (.int (Int32.ofInt (-1)))) ⟨by decide +kernel, Or.inl (by decide +kernel)⟩ ⟨rfl, rfl⟩ rfl
set_option maxRecDepth 8192 in
theorem xr_code_0l {b1 : Nat} {fm : List Value} (hm : h[b1 + 0]? = some (.inr (12, fm))) (lm : fm.length = 42) {x1 : Int32} {x2 : Int32} {x3 : Int32} (g2 : 0 ≤ x2.toInt ∧ x2.toInt ≤ 99) (g3 : 1 ≤ x3.toInt ∧ x3.toInt ≤ 999) (u : x1.toInt < 0) : jCal l g 307 3 [.ref (g.2.2 + (b1 + 0)), .int x1, .int x2, .int x3] h 0 0 (fun v h' => v = some (.int (Int32.ofInt (-2))) ∧ h' = (h.set (b1 + 0) (.inr (12, fm.set 0 (.int (Int32.ofInt 0))))).set (b1 + 0) (.inr (12, (fm.set 0 (.int (Int32.ofInt 0))).set 1 (.int (Int32.ofInt (-2)))))) := by
  have hcls : jcN 12 = (jyN 307).cls := by decide +kernel
  have cn0 : (Int32.ofInt 0).toInt = 0 := by decide
  have cn1 : (Int32.ofInt 1).toInt = 1 := by decide
  have cn2 : (Int32.ofInt (-2)).toInt = -2 := by decide
  refine jCal_of (by decide +kernel) (show 4 ≤ jmx 307 by decide +kernel) ?_
  show J l g 307 3 0 [some (.ref (g.2.2 + (b1 + 0))), some (.int x1), some (.int x2), some (.int x3), none] [] h 0 0 _
  refine j_aload_n (k4 := 0) (dQ (by decide +kernel)) rfl ?_
  refine j_iconst (n := 0) (dQ (by decide +kernel)) ?_
  refine j_put (own := 12) (i := 94) (ci := 12) (f := 0) (ty := .int) (dQ (by decide +kernel)) hcls (by decide +kernel) hm rfl (by decide +kernel) (by rw [lm]; decide) (by decide +kernel) (by decide +kernel) rfl rfl ?_
  have n1 : (fm.set 0 (.int (Int32.ofInt 0))).length = 42 := by rw [List.length_set]; exact lm
  have f2 : (fm.set 0 (.int (Int32.ofInt 0)))[0]? = some (.int (Int32.ofInt 0)) := List.getElem?_set_self (by rw [lm]; decide)
  have k3 : (h.set (b1 + 0) (.inr (12, (fm.set 0 (.int (Int32.ofInt 0))))))[b1 + 0]? = some (.inr (12, (fm.set 0 (.int (Int32.ofInt 0))))) := List.getElem?_set_self (List.getElem?_eq_some_iff.mp hm).1
  refine j_iload_n (k4 := 2) (dQ (by decide +kernel)) rfl ?_
  refine x_i2l (dQ (by decide +kernel)) (fun r4 hr4 => ?_)
  refine j_lconst (n := 0) (dQ (by decide +kernel)) ?_
  have hq5 : (Int64.ofNat ((0 : Fin 2) : Nat)).toInt = 0 := by decide
  refine j_ldc2 (own := 12) (i := 392) (v := 99) hcls (by decide +kernel) (by decide +kernel) ?_
  have hq6 : (99 : Int64).toInt = 99 := by decide
  refine j_cS (own := 12) (i := 100) (y2 := 205) (d2 := 1) (mc := 0) (ms := 0) (kc := 0) (ks := 0) (As := [.long r4, .long (Int64.ofNat ((0 : Fin 2) : Nat)), .long (99 : Int64)]) (st := []) (dQ (by decide +kernel)) hcls (by decide +kernel) (by decide) (by decide +kernel) (show 3 = jnp 205 by decide +kernel) (by decide) (show 0 ≤ 8 by decide) (xm_in_1 (by omega) (by omega)) (fun v hv8 hq => ?_)
  obtain ⟨rfl, rfl⟩ := hq
  refine j_if_eq (off := 10) (tgt := 24) (dQ (by decide +kernel)) (by decide) (fun q => absurd (congrArg Int32.toInt q) (by rw [i32_z]; omega)) (fun _ => ?_)
  refine j_iload_n (k4 := 3) (dQ (by decide +kernel)) rfl ?_
  refine j_cS (own := 12) (i := 301) (y2 := 249) (d2 := 2) (mc := 0) (ms := 0) (kc := 0) (ks := 0) (As := [.int x3]) (st := []) (dQ (by decide +kernel)) hcls (by decide +kernel) (by decide) (by decide +kernel) (show 1 = jnp 249 by decide +kernel) (by decide) (show 0 ≤ 8 by decide) (xm_isName_1 (by omega) (by omega)) (fun v hv10 hq => ?_)
  obtain ⟨rfl, rfl⟩ := hq
  refine j_if_ne (off := 9) (tgt := 30) (dQ (by decide +kernel)) (by decide) (fun _ => ?_) (fun q => absurd (fun q => absurd (congrArg Int32.toInt q) (by rw [i32_z]; omega)) q)
  refine j_iload_n (k4 := 1) (dQ (by decide +kernel)) rfl ?_
  refine x_i2l (dQ (by decide +kernel)) (fun r11 hr11 => ?_)
  refine j_lconst (n := 0) (dQ (by decide +kernel)) ?_
  have hq12 : (Int64.ofNat ((0 : Fin 2) : Nat)).toInt = 0 := by decide
  refine j_ldc2 (own := 12) (i := 308) (v := 2) hcls (by decide +kernel) (by decide +kernel) ?_
  have hq13 : (2 : Int64).toInt = 2 := by decide
  refine j_cS (own := 12) (i := 100) (y2 := 205) (d2 := 1) (mc := 0) (ms := 0) (kc := 0) (ks := 0) (As := [.long r11, .long (Int64.ofNat ((0 : Fin 2) : Nat)), .long (2 : Int64)]) (st := []) (dQ (by decide +kernel)) hcls (by decide +kernel) (by decide) (by decide +kernel) (show 3 = jnp 205 by decide +kernel) (by decide) (show 0 ≤ 8 by decide) (xm_in_0l (by omega)) (fun v hv15 hq => ?_)
  obtain ⟨rfl, rfl⟩ := hq
  refine j_if_ne (off := 10) (tgt := 49) (dQ (by decide +kernel)) (by decide) (fun q => absurd (i32_eq (show _ = (0 : Int32).toInt by rw [i32_z]; omega)) q) (fun _ => ?_)
  refine j_aload_n (k4 := 0) (dQ (by decide +kernel)) rfl ?_
  refine x_bi (n := (-2)) (dQ (by decide +kernel)) (by decide) ?_
  refine j_cV (own := 12) (i := 104) (y2 := 206) (d2 := 1) (mc := 0) (ms := 0) (kc := 0) (ks := 0) (a := b1 + 0) (As := [.int (Int32.ofInt (-2))]) (st := []) (dQ (by decide +kernel)) hcls (by decide +kernel) (by decide) (by decide +kernel) (show 1 = jnp 206 by decide +kernel) (by decide) (show 0 ≤ 8 by decide) k3 (fun r hr => by cases hr; decide +kernel) (xm_tellN k3 n1 (by omega)) (fun v hv17 hq => ?_)
  obtain ⟨rfl, rfl⟩ := hq
  have n18 : ((fm.set 0 (.int (Int32.ofInt 0))).set 1 (.int (Int32.ofInt (-2)))).length = 42 := by rw [List.length_set]; exact n1
  have f19 : ((fm.set 0 (.int (Int32.ofInt 0))).set 1 (.int (Int32.ofInt (-2))))[0]? = some (.int (Int32.ofInt 0)) := by
    rw [List.getElem?_set_ne (by decide)]
    exact f2
  have k20 : ((h.set (b1 + 0) (.inr (12, (fm.set 0 (.int (Int32.ofInt 0)))))).set (b1 + 0) (.inr (12, ((fm.set 0 (.int (Int32.ofInt 0))).set 1 (.int (Int32.ofInt (-2)))))))[b1 + 0]? = some (.inr (12, ((fm.set 0 (.int (Int32.ofInt 0))).set 1 (.int (Int32.ofInt (-2)))))) := List.getElem?_set_self (List.getElem?_eq_some_iff.mp k3).1
  exact j_ret (v := some (.int (Int32.ofInt (-2)))) ⟨by decide +kernel, Or.inl (by decide +kernel)⟩ ⟨rfl, rfl⟩ rfl
set_option maxRecDepth 8192 in
theorem xr_code_0h {b1 : Nat} {fm : List Value} (hm : h[b1 + 0]? = some (.inr (12, fm))) (lm : fm.length = 42) {x1 : Int32} {x2 : Int32} {x3 : Int32} (g2 : 0 ≤ x2.toInt ∧ x2.toInt ≤ 99) (g3 : 1 ≤ x3.toInt ∧ x3.toInt ≤ 999) (u : 2 < x1.toInt) : jCal l g 307 3 [.ref (g.2.2 + (b1 + 0)), .int x1, .int x2, .int x3] h 0 0 (fun v h' => v = some (.int (Int32.ofInt (-2))) ∧ h' = (h.set (b1 + 0) (.inr (12, fm.set 0 (.int (Int32.ofInt 0))))).set (b1 + 0) (.inr (12, (fm.set 0 (.int (Int32.ofInt 0))).set 1 (.int (Int32.ofInt (-2)))))) := by
  have hcls : jcN 12 = (jyN 307).cls := by decide +kernel
  have cn0 : (Int32.ofInt 0).toInt = 0 := by decide
  have cn1 : (Int32.ofInt 1).toInt = 1 := by decide
  have cn2 : (Int32.ofInt (-2)).toInt = -2 := by decide
  refine jCal_of (by decide +kernel) (show 4 ≤ jmx 307 by decide +kernel) ?_
  show J l g 307 3 0 [some (.ref (g.2.2 + (b1 + 0))), some (.int x1), some (.int x2), some (.int x3), none] [] h 0 0 _
  refine j_aload_n (k4 := 0) (dQ (by decide +kernel)) rfl ?_
  refine j_iconst (n := 0) (dQ (by decide +kernel)) ?_
  refine j_put (own := 12) (i := 94) (ci := 12) (f := 0) (ty := .int) (dQ (by decide +kernel)) hcls (by decide +kernel) hm rfl (by decide +kernel) (by rw [lm]; decide) (by decide +kernel) (by decide +kernel) rfl rfl ?_
  have n1 : (fm.set 0 (.int (Int32.ofInt 0))).length = 42 := by rw [List.length_set]; exact lm
  have f2 : (fm.set 0 (.int (Int32.ofInt 0)))[0]? = some (.int (Int32.ofInt 0)) := List.getElem?_set_self (by rw [lm]; decide)
  have k3 : (h.set (b1 + 0) (.inr (12, (fm.set 0 (.int (Int32.ofInt 0))))))[b1 + 0]? = some (.inr (12, (fm.set 0 (.int (Int32.ofInt 0))))) := List.getElem?_set_self (List.getElem?_eq_some_iff.mp hm).1
  refine j_iload_n (k4 := 2) (dQ (by decide +kernel)) rfl ?_
  refine x_i2l (dQ (by decide +kernel)) (fun r4 hr4 => ?_)
  refine j_lconst (n := 0) (dQ (by decide +kernel)) ?_
  have hq5 : (Int64.ofNat ((0 : Fin 2) : Nat)).toInt = 0 := by decide
  refine j_ldc2 (own := 12) (i := 392) (v := 99) hcls (by decide +kernel) (by decide +kernel) ?_
  have hq6 : (99 : Int64).toInt = 99 := by decide
  refine j_cS (own := 12) (i := 100) (y2 := 205) (d2 := 1) (mc := 0) (ms := 0) (kc := 0) (ks := 0) (As := [.long r4, .long (Int64.ofNat ((0 : Fin 2) : Nat)), .long (99 : Int64)]) (st := []) (dQ (by decide +kernel)) hcls (by decide +kernel) (by decide) (by decide +kernel) (show 3 = jnp 205 by decide +kernel) (by decide) (show 0 ≤ 8 by decide) (xm_in_1 (by omega) (by omega)) (fun v hv8 hq => ?_)
  obtain ⟨rfl, rfl⟩ := hq
  refine j_if_eq (off := 10) (tgt := 24) (dQ (by decide +kernel)) (by decide) (fun q => absurd (congrArg Int32.toInt q) (by rw [i32_z]; omega)) (fun _ => ?_)
  refine j_iload_n (k4 := 3) (dQ (by decide +kernel)) rfl ?_
  refine j_cS (own := 12) (i := 301) (y2 := 249) (d2 := 2) (mc := 0) (ms := 0) (kc := 0) (ks := 0) (As := [.int x3]) (st := []) (dQ (by decide +kernel)) hcls (by decide +kernel) (by decide) (by decide +kernel) (show 1 = jnp 249 by decide +kernel) (by decide) (show 0 ≤ 8 by decide) (xm_isName_1 (by omega) (by omega)) (fun v hv10 hq => ?_)
  obtain ⟨rfl, rfl⟩ := hq
  refine j_if_ne (off := 9) (tgt := 30) (dQ (by decide +kernel)) (by decide) (fun _ => ?_) (fun q => absurd (fun q => absurd (congrArg Int32.toInt q) (by rw [i32_z]; omega)) q)
  refine j_iload_n (k4 := 1) (dQ (by decide +kernel)) rfl ?_
  refine x_i2l (dQ (by decide +kernel)) (fun r11 hr11 => ?_)
  refine j_lconst (n := 0) (dQ (by decide +kernel)) ?_
  have hq12 : (Int64.ofNat ((0 : Fin 2) : Nat)).toInt = 0 := by decide
  refine j_ldc2 (own := 12) (i := 308) (v := 2) hcls (by decide +kernel) (by decide +kernel) ?_
  have hq13 : (2 : Int64).toInt = 2 := by decide
  refine j_cS (own := 12) (i := 100) (y2 := 205) (d2 := 1) (mc := 0) (ms := 0) (kc := 0) (ks := 0) (As := [.long r11, .long (Int64.ofNat ((0 : Fin 2) : Nat)), .long (2 : Int64)]) (st := []) (dQ (by decide +kernel)) hcls (by decide +kernel) (by decide) (by decide +kernel) (show 3 = jnp 205 by decide +kernel) (by decide) (show 0 ≤ 8 by decide) (xm_in_0h (by omega) (by omega)) (fun v hv15 hq => ?_)
  obtain ⟨rfl, rfl⟩ := hq
  refine j_if_ne (off := 10) (tgt := 49) (dQ (by decide +kernel)) (by decide) (fun q => absurd (i32_eq (show _ = (0 : Int32).toInt by rw [i32_z]; omega)) q) (fun _ => ?_)
  refine j_aload_n (k4 := 0) (dQ (by decide +kernel)) rfl ?_
  refine x_bi (n := (-2)) (dQ (by decide +kernel)) (by decide) ?_
  refine j_cV (own := 12) (i := 104) (y2 := 206) (d2 := 1) (mc := 0) (ms := 0) (kc := 0) (ks := 0) (a := b1 + 0) (As := [.int (Int32.ofInt (-2))]) (st := []) (dQ (by decide +kernel)) hcls (by decide +kernel) (by decide) (by decide +kernel) (show 1 = jnp 206 by decide +kernel) (by decide) (show 0 ≤ 8 by decide) k3 (fun r hr => by cases hr; decide +kernel) (xm_tellN k3 n1 (by omega)) (fun v hv17 hq => ?_)
  obtain ⟨rfl, rfl⟩ := hq
  have n18 : ((fm.set 0 (.int (Int32.ofInt 0))).set 1 (.int (Int32.ofInt (-2)))).length = 42 := by rw [List.length_set]; exact n1
  have f19 : ((fm.set 0 (.int (Int32.ofInt 0))).set 1 (.int (Int32.ofInt (-2))))[0]? = some (.int (Int32.ofInt 0)) := by
    rw [List.getElem?_set_ne (by decide)]
    exact f2
  have k20 : ((h.set (b1 + 0) (.inr (12, (fm.set 0 (.int (Int32.ofInt 0)))))).set (b1 + 0) (.inr (12, ((fm.set 0 (.int (Int32.ofInt 0))).set 1 (.int (Int32.ofInt (-2)))))))[b1 + 0]? = some (.inr (12, ((fm.set 0 (.int (Int32.ofInt 0))).set 1 (.int (Int32.ofInt (-2)))))) := List.getElem?_set_self (List.getElem?_eq_some_iff.mp k3).1
  exact j_ret (v := some (.int (Int32.ofInt (-2)))) ⟨by decide +kernel, Or.inl (by decide +kernel)⟩ ⟨rfl, rfl⟩ rfl
end XS
