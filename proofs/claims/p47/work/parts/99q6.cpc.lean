/-! call pairs by exact walks (written by wip/groupB/gen_q3.py) -/
section QG
variable {l : Launch} {g : jG} {n : Int}
theorem eu_500 (hk : kOK TTs g (EIm n) l Kx_500) {W0 : List aR} {bk0 bk : aB} {h0 h : jH} (hO : hOK TTs g (EIm n) W0 bk0 h0 bk h) {a0 : Nat} (ha0 : bk 0 = some a0) {x1 : Int32} (hx1 : (-2147483648 : Int) ≤ x1.toInt ∧ x1.toInt ≤ 2147483647) :
    jCal l g 57 2 [.ref (g.2.2 + (a0 + 0)), .int x1] h 0 0 (kPost TTs g (EIm n) Kx_500 bk h [x1.toInt]) := by
  refine hk bk h [.ref (g.2.2 + (a0 + 0)), .int x1] [x1.toInt] hO.1 hO.2.1 hO.2.2.1 hO.2.2.2.2.2 (show 2 ≤ jmx 57 by decide +kernel) rfl (fun q hq => ?_) ⟨⟨rfl, fun i e z he hz => ?_⟩, eFm_plain (plain_app (spEnv_plain _) clEnv_plain), fun F hF => absurd hF List.not_mem_nil, fun i v hv => ?_, trivial, fun q hq => ?_, fun B hB => absurd hB List.not_mem_nil⟩
  · have hq : q ∈ ([] : List (Nat × Int × Nat)) := hq
    exact absurd hq List.not_mem_nil
  · match i, he, hz with
    | 0, he, hz => cases he; cases hz; exact hx1
    | i + 1, he, _ => cases he
  · match i, hv with
    | 0, hv => cases hv; exact ⟨_, rfl, a0, ha0, rfl⟩
    | 1, hv => cases hv; exact ⟨_, rfl, x1, rfl, rfl⟩
    | 2, hv => cases hv
    | i + 3, hv => cases hv
  · exact absurd hq List.not_mem_nil
theorem eu_661 (hk : kOK TTs g (EIm n) l Kx_661) {W0 : List aR} {bk0 bk : aB} {h0 h : jH} (hO : hOK TTs g (EIm n) W0 bk0 h0 bk h) {a1 : Nat} (ha1 : bk 1 = some a1) {x1 : Int32} (hx1 : (-2147483648 : Int) ≤ x1.toInt ∧ x1.toInt ≤ 2147483647) :
    jCal l g 215 2 [.ref (g.2.2 + (a1 + 0)), .int x1] h 0 0 (kPost TTs g (EIm n) Kx_661 bk h [x1.toInt]) := by
  refine hk bk h [.ref (g.2.2 + (a1 + 0)), .int x1] [x1.toInt] hO.1 hO.2.1 hO.2.2.1 hO.2.2.2.2.2 (show 2 ≤ jmx 215 by decide +kernel) rfl (fun q hq => ?_) ⟨⟨rfl, fun i e z he hz => ?_⟩, eFm_plain (plain_app (spEnv_plain _) clEnv_plain), fun F hF => absurd hF List.not_mem_nil, fun i v hv => ?_, trivial, fun q hq => ?_, fun B hB => absurd hB List.not_mem_nil⟩
  · have hq : q ∈ ([] : List (Nat × Int × Nat)) := hq
    exact absurd hq List.not_mem_nil
  · match i, he, hz with
    | 0, he, hz => cases he; cases hz; exact hx1
    | i + 1, he, _ => cases he
  · match i, hv with
    | 0, hv => cases hv; exact ⟨_, rfl, a1, ha1, rfl⟩
    | 1, hv => cases hv; exact ⟨_, rfl, x1, rfl, rfl⟩
    | 2, hv => cases hv
    | i + 3, hv => cases hv
  · exact absurd hq List.not_mem_nil
theorem cw_18 : (apW Kx_500.2.2.2.2.2.2.2.1 [(1, 1, 1, 1)] = true ∧ apW Kx_500.2.2.2.2.2.2.2.1 [(1, 1, 5066, 5066)] = true ∧ apW Kx_661.2.2.2.2.2.2.2.1 [(1, 1, 1, 1)] = true ∧ apW Kx_661.2.2.2.2.2.2.2.1 [(1, 1, 5066, 5066)] = true) ∧ (apW Kx_500.2.2.2.2.2.2.2.1 rlFI = true ∧ apW Kx_661.2.2.2.2.2.2.2.1 rlFI = true ∧ apW Kx_500.2.2.2.2.2.2.2.1 [(1, 1, 0, 5269)] = true ∧ rlE.all (fun e => apW Kx_661.2.2.2.2.2.2.2.1 [rlX 0 0 e]) = true) := by decide +kernel
set_option maxRecDepth 16384 in
set_option maxHeartbeats 4000000 in
theorem cp_18 (hlow : ∀ (k : Nat) (K : aK), KTx[k]? = some K → kOK TTs g (EIm n) l K) {b0 b1 : Nat} {bk : aB} {h : jH} (hI : lwI g n b0 b1 bk h) {x1 : Int32} : cpS l g n b0 b1 h 57 215 [.int x1] 0 0 true (k6 bk) := by
  obtain ⟨⟨v1, v2, v3, v4⟩, v5, v6, v7, v8⟩ := cw_18
  have hx_ := eu_500 (hlow 500 _ rfl) (hI.ok []) hI.2.2.2.1 (⟨i32_lo x1, i32_hi x1⟩)
  have hm_ : ∀ bk1 h1, hOK TTs g (EIm n) Kx_500.2.2.2.2.2.2.2.1 bk h bk1 h1 → bk1 1 = some b1 → _ := fun bk1 h1 k1 p1 => eu_661 (hlow 661 _ rfl) k1 p1 (⟨i32_lo x1, i32_hi x1⟩)
  by_cases g_l : x1.toInt < 0
  · exact bad_pair hI (by decide) (by decide) hx_ hm_ (fun fsx q1 q2 q3 => xk_use_l q1 q2 q3 (by omega)) (fun h1 fsm fr m1 m2 m3 m4 m5 => xr_use_l m1 m2 m3 (by omega)) v1 v2 v3 v4 v5 v6 v7 v8
  by_cases g_h : 1 < x1.toInt
  · exact bad_pair hI (by decide) (by decide) hx_ hm_ (fun fsx q1 q2 q3 => xk_use_h q1 q2 q3 (by omega)) (fun h1 fsm fr m1 m2 m3 m4 m5 => xr_use_h m1 m2 m3 (by omega)) v1 v2 v3 v4 v5 v6 v7 v8
  obtain ⟨fsx, hx, lx, rx, nx⟩ := k_obj (o := 0) (ci := 11) hI.1 hI.2.2.2.1 rfl
  obtain ⟨fss, hs, ls, rs, ns⟩ := k_obj (o := 1) (ci := 7) hI.1 hI.2.2.2.1 rfl
  obtain ⟨t, ps3, t1, t2⟩ := ns 3 (0) (1) (by decide +kernel)
  refine ex_pair hI (by decide) (by decide) hx_ hm_ (xk_use_ok hx (lx.trans (by decide +kernel)) (rx 0 1 (by decide +kernel)) hs (ls.trans (by decide +kernel)) ps3 ⟨by omega, by omega⟩) (fun h1 fsm fr m1 m2 m3 m4 m5 => xr_use_ok m1 m2 m3 m4 ⟨by omega, by omega⟩ (rl_num hI m5 (e := (1, 3, 1, 1, 7, 1, 0)) (by decide +kernel) rfl (i := 0) (by decide) (cv_fld hs ps3))) v1 v2 v3 v4 v5 v6 v7 v8 (fun v1 h1' hE => ?_)
  obtain ⟨rfl, rfl⟩ := hE
  refine ⟨t, rfl, fun hq1 fsm fr v2 h2' _ m4 hR m5 hE2 => ?_⟩
  obtain ⟨rfl, rfl⟩ := hE2
  refine ⟨by rw [show t = t from rfl], (upd fr 7 x1), ?_, fun e he => ?_⟩
  · rw [List.getElem?_set_ne (by omega)]
    exact List.getElem?_set_self (by simp only [List.length_set]; exact (List.getElem?_eq_some_iff.mp m4).1)
  have u : ∀ o, o ≠ 0 → o ≠ 1 → o < 62 → ((h.set (b0 + 1) (.inr (7, (fss.set 3 (.int x1))))).set (b0 + 0) (.inr (11, (fsx.set 7 (.int (Int32.ofInt 0))))))[b0 + o]? = h[b0 + o]? := fun o c0 c1 c62 => by rw [List.getElem?_set_ne (by omega), List.getElem?_set_ne (by omega)]
  have w0 : ((h.set (b0 + 1) (.inr (7, (fss.set 3 (.int x1))))).set (b0 + 0) (.inr (11, (fsx.set 7 (.int (Int32.ofInt 0))))))[b0 + 0]? = some (.inr (11, (fsx.set 7 (.int (Int32.ofInt 0))))) := by exact List.getElem?_set_self (by first | exact (List.getElem?_eq_some_iff.mp hx).1 | (simp only [List.length_set]; exact (List.getElem?_eq_some_iff.mp hx).1))
  have w1 : ((h.set (b0 + 1) (.inr (7, (fss.set 3 (.int x1))))).set (b0 + 0) (.inr (11, (fsx.set 7 (.int (Int32.ofInt 0))))))[b0 + 1]? = some (.inr (7, (fss.set 3 (.int x1)))) := by rw [List.getElem?_set_ne (by omega)]; exact List.getElem?_set_self (by first | exact (List.getElem?_eq_some_iff.mp hs).1 | (simp only [List.length_set]; exact (List.getElem?_eq_some_iff.mp hs).1))
  have he' := he
  simp only [rlE, List.mem_cons, List.not_mem_nil, or_false] at he'
  rcases he' with rfl | rfl | rfl | rfl | rfl | rfl | rfl | rfl | rfl | rfl | rfl | rfl
  · refine ⟨ck_obj (o := 1) rfl w1, fun i hj => ?_⟩
    have hj : i < 1 := hj
    have i0 : i = 0 := by omega
    subst i0
    refine ⟨x1.toInt, cv_fld w1 (by show _[3]? = _; exact List.getElem?_set_self (by simp only [List.length_set, ls]; decide +kernel)), ?_⟩
    show ((upd fr 7 x1) 7).toInt = x1.toInt
    rw [upd_eq]
  · exact exR_un hR he (u 30 (by decide) (by decide) (by decide)) (fun i hi => by
      have hi : i < 1 := hi
      show (upd fr 7 x1) (8 + 1 * i) = fr (8 + 1 * i)
      rw [upd_ne (by omega)])
  · exact exR_un hR he (u 37 (by decide) (by decide) (by decide)) (fun i hi => by
      have hi : i < 1 := hi
      show (upd fr 7 x1) (3 + 1 * i) = fr (3 + 1 * i)
      rw [upd_ne (by omega)])
  · exact exR_un hR he (u 44 (by decide) (by decide) (by decide)) (fun i hi => by
      have hi : i < 1 := hi
      show (upd fr 7 x1) (5 + 1 * i) = fr (5 + 1 * i)
      rw [upd_ne (by omega)])
  · exact exR_un hR he (u 37 (by decide) (by decide) (by decide)) (fun i hi => by
      have hi : i < 1 := hi
      show (upd fr 7 x1) (4 + 1 * i) = fr (4 + 1 * i)
      rw [upd_ne (by omega)])
  · exact exR_un hR he (u 23 (by decide) (by decide) (by decide)) (fun i hi => by
      have hi : i < 12 := hi
      show (upd fr 7 x1) (52 + 1 * i) = fr (52 + 1 * i)
      rw [upd_ne (by omega)])
  · exact exR_un hR he (u 24 (by decide) (by decide) (by decide)) (fun i hi => by
      have hi : i < 12 := hi
      show (upd fr 7 x1) (64 + 1 * i) = fr (64 + 1 * i)
      rw [upd_ne (by omega)])
  · exact exR_un hR he (u 25 (by decide) (by decide) (by decide)) (fun i hi => by
      have hi : i < 12 := hi
      show (upd fr 7 x1) (5030 + 1 * i) = fr (5030 + 1 * i)
      rw [upd_ne (by omega)])
  · exact exR_un hR he (u 28 (by decide) (by decide) (by decide)) (fun i hi => by
      have hi : i < 3 := hi
      show (upd fr 7 x1) (76 + 1 * i) = fr (76 + 1 * i)
      rw [upd_ne (by omega)])
  · exact exR_un hR he (u 29 (by decide) (by decide) (by decide)) (fun i hi => by
      have hi : i < 300 := hi
      show (upd fr 7 x1) (80 + 1 * i) = fr (80 + 1 * i)
      rw [upd_ne (by omega)])
  · exact exR_un hR he (u 41 (by decide) (by decide) (by decide)) (fun i hi => by
      have hi : i < 16 := hi
      show (upd fr 7 x1) (456 + 3 * i) = fr (456 + 3 * i)
      rw [upd_ne (by omega)])
  · exact exR_un hR he (u 2 (by decide) (by decide) (by decide)) (fun i hi => by
      have hi : i < 8 := hi
      show (upd fr 7 x1) (30 + 1 * i) = fr (30 + 1 * i)
      rw [upd_ne (by omega)])
theorem eu_497 (hk : kOK TTs g (EIm n) l Kx_497) {W0 : List aR} {bk0 bk : aB} {h0 h : jH} (hO : hOK TTs g (EIm n) W0 bk0 h0 bk h) {a0 : Nat} (ha0 : bk 0 = some a0) {x1 : Int32} (hx1 : (-2147483648 : Int) ≤ x1.toInt ∧ x1.toInt ≤ 2147483647) :
    jCal l g 128 2 [.ref (g.2.2 + (a0 + 0)), .int x1] h 0 0 (kPost TTs g (EIm n) Kx_497 bk h [x1.toInt]) := by
  refine hk bk h [.ref (g.2.2 + (a0 + 0)), .int x1] [x1.toInt] hO.1 hO.2.1 hO.2.2.1 hO.2.2.2.2.2 (show 2 ≤ jmx 128 by decide +kernel) rfl (fun q hq => ?_) ⟨⟨rfl, fun i e z he hz => ?_⟩, eFm_plain (plain_app (spEnv_plain _) clEnv_plain), fun F hF => absurd hF List.not_mem_nil, fun i v hv => ?_, trivial, fun q hq => ?_, fun B hB => absurd hB List.not_mem_nil⟩
  · have hq : q ∈ ([] : List (Nat × Int × Nat)) := hq
    exact absurd hq List.not_mem_nil
  · match i, he, hz with
    | 0, he, hz => cases he; cases hz; exact hx1
    | i + 1, he, _ => cases he
  · match i, hv with
    | 0, hv => cases hv; exact ⟨_, rfl, a0, ha0, rfl⟩
    | 1, hv => cases hv; exact ⟨_, rfl, x1, rfl, rfl⟩
    | 2, hv => cases hv
    | i + 3, hv => cases hv
  · exact absurd hq List.not_mem_nil
theorem eu_658 (hk : kOK TTs g (EIm n) l Kx_658) {W0 : List aR} {bk0 bk : aB} {h0 h : jH} (hO : hOK TTs g (EIm n) W0 bk0 h0 bk h) {a1 : Nat} (ha1 : bk 1 = some a1) {x1 : Int32} (hx1 : (-2147483648 : Int) ≤ x1.toInt ∧ x1.toInt ≤ 2147483647) :
    jCal l g 279 3 [.ref (g.2.2 + (a1 + 0)), .int x1] h 0 0 (kPost TTs g (EIm n) Kx_658 bk h [x1.toInt]) := by
  refine hk bk h [.ref (g.2.2 + (a1 + 0)), .int x1] [x1.toInt] hO.1 hO.2.1 hO.2.2.1 hO.2.2.2.2.2 (show 2 ≤ jmx 279 by decide +kernel) rfl (fun q hq => ?_) ⟨⟨rfl, fun i e z he hz => ?_⟩, eFm_plain (plain_app (spEnv_plain _) clEnv_plain), fun F hF => absurd hF List.not_mem_nil, fun i v hv => ?_, trivial, fun q hq => ?_, fun B hB => absurd hB List.not_mem_nil⟩
  · have hq : q ∈ ([] : List (Nat × Int × Nat)) := hq
    exact absurd hq List.not_mem_nil
  · match i, he, hz with
    | 0, he, hz => cases he; cases hz; exact hx1
    | i + 1, he, _ => cases he
  · match i, hv with
    | 0, hv => cases hv; exact ⟨_, rfl, a1, ha1, rfl⟩
    | 1, hv => cases hv; exact ⟨_, rfl, x1, rfl, rfl⟩
    | i + 2, hv => cases hv
  · exact absurd hq List.not_mem_nil
theorem cw_30 : (apW Kx_497.2.2.2.2.2.2.2.1 [(1, 1, 1, 1)] = true ∧ apW Kx_497.2.2.2.2.2.2.2.1 [(1, 1, 5066, 5066)] = true ∧ apW Kx_658.2.2.2.2.2.2.2.1 [(1, 1, 1, 1)] = true ∧ apW Kx_658.2.2.2.2.2.2.2.1 [(1, 1, 5066, 5066)] = true) ∧ (apW Kx_497.2.2.2.2.2.2.2.1 rlFI = true ∧ apW Kx_658.2.2.2.2.2.2.2.1 rlFI = true ∧ apW Kx_497.2.2.2.2.2.2.2.1 [(1, 1, 0, 5269)] = true ∧ rlE.all (fun e => apW Kx_658.2.2.2.2.2.2.2.1 [rlX 0 0 e]) = true) := by decide +kernel
set_option maxRecDepth 16384 in
set_option maxHeartbeats 4000000 in
theorem cp_30 (hlow : ∀ (k : Nat) (K : aK), KTx[k]? = some K → kOK TTs g (EIm n) l K) {b0 b1 : Nat} {bk : aB} {h : jH} (hI : lwI g n b0 b1 bk h) {x1 : Int32} : cpS l g n b0 b1 h 128 279 [.int x1] 0 0 true (k6 bk) := by
  obtain ⟨⟨v1, v2, v3, v4⟩, v5, v6, v7, v8⟩ := cw_30
  have hx_ := eu_497 (hlow 497 _ rfl) (hI.ok []) hI.2.2.2.1 (⟨i32_lo x1, i32_hi x1⟩)
  have hm_ : ∀ bk1 h1, hOK TTs g (EIm n) Kx_497.2.2.2.2.2.2.2.1 bk h bk1 h1 → bk1 1 = some b1 → _ := fun bk1 h1 k1 p1 => eu_658 (hlow 658 _ rfl) k1 p1 (⟨i32_lo x1, i32_hi x1⟩)
  by_cases g_l : x1.toInt < 1
  · exact bad_pair hI (by decide) (by decide) hx_ hm_ (fun fsx q1 q2 q3 => xk_train_l q1 q2 q3 (by omega)) (fun h1 fsm fr m1 m2 m3 m4 m5 => xr_train_l m1 m2 m3 (by omega)) v1 v2 v3 v4 v5 v6 v7 v8
  by_cases g_h : 999 < x1.toInt
  · exact bad_pair hI (by decide) (by decide) hx_ hm_ (fun fsx q1 q2 q3 => xk_train_h q1 q2 q3 (by omega)) (fun h1 fsm fr m1 m2 m3 m4 m5 => xr_train_h m1 m2 m3 (by omega)) v1 v2 v3 v4 v5 v6 v7 v8
  obtain ⟨fsx, hx, lx, rx, nx⟩ := k_obj (o := 0) (ci := 11) hI.1 hI.2.2.2.1 rfl
  obtain ⟨fss, hs, ls, rs, ns⟩ := k_obj (o := 1) (ci := 7) hI.1 hI.2.2.2.1 rfl
  obtain ⟨fsi, hi, li, ri, ni⟩ := k_obj (o := 37) (ci := 6) hI.1 hI.2.2.2.1 rfl
  obtain ⟨t, pi0, t1, t2⟩ := ni 0 (0) (3) (by decide +kernel)
  obtain ⟨s4, pi4, s41, s42⟩ := ni 4 (0) (16) (by decide +kernel)
  obtain ⟨fa, ha, -⟩ := k_arr (o := 38) hI.1 hI.2.2.2.1 rfl
  obtain ⟨fb, hb, -⟩ := k_arr (o := 39) hI.1 hI.2.2.2.1 rfl
  obtain ⟨fc, hc, -⟩ := k_arr (o := 40) hI.1 hI.2.2.2.1 rfl
  obtain ⟨nn, et⟩ : ∃ nn : Nat, t.toInt = (nn : Int) := ⟨t.toInt.toNat, by omega⟩
  obtain ⟨am, ua, hM⟩ := men_of hI.1 hI.2.1 hI.2.2.2.1 hx
  by_cases g_full : nn = 3
  · exact bad_pair hI (by decide) (by decide) hx_ hm_ (fun fsx q1 q2 q3 => xk_train_full q1 q2 q3 hs (ls.trans (by decide +kernel)) (rs 18 37 (by decide +kernel)) hi (li.trans (by decide +kernel)) pi0 ⟨by omega, by omega⟩ et ⟨by omega, by omega⟩) (fun h1 fsm fr m1 m2 m3 m4 m5 => xr_train_full m1 m2 m3 m4 ⟨by omega, by omega⟩ et ⟨by omega, by omega⟩ (rl_num hI m5 (e := (37, 0, 1, 1, 3, 1, 0)) (by decide +kernel) rfl (i := 0) (by decide) (cv_fld hi pi0))) v1 v2 v3 v4 v5 v6 v7 v8
  refine ex_pair hI (by decide) (by decide) hx_ hm_ (xk_train_ok hx (lx.trans (by decide +kernel)) (rx 0 1 (by decide +kernel)) hs (ls.trans (by decide +kernel)) (rs 18 37 (by decide +kernel)) hi (li.trans (by decide +kernel)) pi0 (ri 1 38 (by decide +kernel)) (ri 2 39 (by decide +kernel)) (ri 3 40 (by decide +kernel)) ha hb hc ⟨by omega, by omega⟩ et ⟨by omega, by omega⟩ ua hM) (fun h1 fsm fr m1 m2 m3 m4 m5 => xr_train_ok m1 m2 m3 m4 ⟨by omega, by omega⟩ et ⟨by omega, by omega⟩ (rl_num hI m5 (e := (37, 0, 1, 1, 3, 1, 0)) (by decide +kernel) rfl (i := 0) (by decide) (cv_fld hi pi0))) v1 v2 v3 v4 v5 v6 v7 v8 (fun v1 h1' hE => ?_)
  obtain ⟨r4, hr4, r3, hr3, hv20, hF, rfl, rfl⟩ := hE
  refine ⟨r4, rfl, fun hq1 fsm fr v2 h2' _ m4 hR m5 hE2 => ?_⟩
  obtain ⟨r15m, hr15m, r18m, hr18m, rfl, rfl⟩ := hE2
  refine ⟨by rw [show r18m = r4 from i32_eq (by omega)], (upd (upd (upd fr (452 + nn) x1) (5024 + (2 * nn)) (Int32.ofInt (-1))) 3 r15m), ?_, fun e he => ?_⟩
  · rw [List.getElem?_set_ne (by omega)]
    exact List.getElem?_set_self (by simp only [List.length_set]; exact (List.getElem?_eq_some_iff.mp m4).1)
  have u : ∀ o, o ≠ 0 → o ≠ 37 → o ≠ 38 → o ≠ 39 → o ≠ 40 → o < 62 → (hv20.set (b0 + 0) (.inr (11, (fsx.set 7 (.int (Int32.ofInt 0))))))[b0 + o]? = h[b0 + o]? := fun o c0 c37 c38 c39 c40 c62 => by rw [List.getElem?_set_ne (by omega), hF _ (Ne.symm (ua _ c62)), List.getElem?_set_ne (by omega), List.getElem?_set_ne (by omega), List.getElem?_set_ne (by omega), List.getElem?_set_ne (by omega)]
  have w0 : (hv20.set (b0 + 0) (.inr (11, (fsx.set 7 (.int (Int32.ofInt 0))))))[b0 + 0]? = some (.inr (11, (fsx.set 7 (.int (Int32.ofInt 0))))) := by exact List.getElem?_set_self (by first | exact (List.getElem?_eq_some_iff.mp ((hF _ (Ne.symm (ua 0 (by decide)))).trans (by rw [List.getElem?_set_ne (by omega), List.getElem?_set_ne (by omega), List.getElem?_set_ne (by omega), List.getElem?_set_ne (by omega)]; exact hx))).1 | (simp only [List.length_set]; exact (List.getElem?_eq_some_iff.mp ((hF _ (Ne.symm (ua 0 (by decide)))).trans (by rw [List.getElem?_set_ne (by omega), List.getElem?_set_ne (by omega), List.getElem?_set_ne (by omega), List.getElem?_set_ne (by omega)]; exact hx))).1))
  have w37 : (hv20.set (b0 + 0) (.inr (11, (fsx.set 7 (.int (Int32.ofInt 0))))))[b0 + 37]? = some (.inr (6, (fsi.set 0 (.int r3)))) := by rw [List.getElem?_set_ne (by omega), hF _ (Ne.symm (ua 37 (by decide)))]; exact List.getElem?_set_self (by first | exact (List.getElem?_eq_some_iff.mp hi).1 | (simp only [List.length_set]; exact (List.getElem?_eq_some_iff.mp hi).1))
  have w38 : (hv20.set (b0 + 0) (.inr (11, (fsx.set 7 (.int (Int32.ofInt 0))))))[b0 + 38]? = some (.inl (0, 3, (upd fa nn x1))) := by rw [List.getElem?_set_ne (by omega), hF _ (Ne.symm (ua 38 (by decide))), List.getElem?_set_ne (by omega), List.getElem?_set_ne (by omega), List.getElem?_set_ne (by omega)]; exact List.getElem?_set_self (by first | exact (List.getElem?_eq_some_iff.mp ha).1 | (simp only [List.length_set]; exact (List.getElem?_eq_some_iff.mp ha).1))
  have w39 : (hv20.set (b0 + 0) (.inr (11, (fsx.set 7 (.int (Int32.ofInt 0))))))[b0 + 39]? = some (.inl (0, 3, (upd fb nn (Int32.ofInt (-1))))) := by rw [List.getElem?_set_ne (by omega), hF _ (Ne.symm (ua 39 (by decide))), List.getElem?_set_ne (by omega), List.getElem?_set_ne (by omega)]; exact List.getElem?_set_self (by first | exact (List.getElem?_eq_some_iff.mp hb).1 | (simp only [List.length_set]; exact (List.getElem?_eq_some_iff.mp hb).1))
  have w40 : (hv20.set (b0 + 0) (.inr (11, (fsx.set 7 (.int (Int32.ofInt 0))))))[b0 + 40]? = some (.inl (0, 3, (upd fc nn (Int32.ofInt 0)))) := by rw [List.getElem?_set_ne (by omega), hF _ (Ne.symm (ua 40 (by decide))), List.getElem?_set_ne (by omega)]; exact List.getElem?_set_self (by first | exact (List.getElem?_eq_some_iff.mp hc).1 | (simp only [List.length_set]; exact (List.getElem?_eq_some_iff.mp hc).1))
  have he' := he
  simp only [rlE, List.mem_cons, List.not_mem_nil, or_false] at he'
  rcases he' with rfl | rfl | rfl | rfl | rfl | rfl | rfl | rfl | rfl | rfl | rfl | rfl
  · exact exR_un hR he (u 1 (by decide) (by decide) (by decide) (by decide) (by decide) (by decide)) (fun i hi => by
      have hi : i < 1 := hi
      show (upd (upd (upd fr (452 + nn) x1) (5024 + (2 * nn)) (Int32.ofInt (-1))) 3 r15m) (7 + 1 * i) = fr (7 + 1 * i)
      rw [upd_ne (by omega), upd_ne (by omega), upd_ne (by omega)])
  · exact exR_un hR he (u 30 (by decide) (by decide) (by decide) (by decide) (by decide) (by decide)) (fun i hi => by
      have hi : i < 1 := hi
      show (upd (upd (upd fr (452 + nn) x1) (5024 + (2 * nn)) (Int32.ofInt (-1))) 3 r15m) (8 + 1 * i) = fr (8 + 1 * i)
      rw [upd_ne (by omega), upd_ne (by omega), upd_ne (by omega)])
  · refine ⟨ck_obj (o := 37) rfl w37, fun i hj => ?_⟩
    have hj : i < 1 := hj
    have i0 : i = 0 := by omega
    subst i0
    refine ⟨r3.toInt, cv_fld w37 (by show _[0]? = _; exact List.getElem?_set_self (by simp only [List.length_set, li]; decide +kernel)), ?_⟩
    show ((upd (upd (upd fr (452 + nn) x1) (5024 + (2 * nn)) (Int32.ofInt (-1))) 3 r15m) 3).toInt = r3.toInt
    rw [upd_eq]
    omega
  · exact exR_un hR he (u 44 (by decide) (by decide) (by decide) (by decide) (by decide) (by decide)) (fun i hi => by
      have hi : i < 1 := hi
      show (upd (upd (upd fr (452 + nn) x1) (5024 + (2 * nn)) (Int32.ofInt (-1))) 3 r15m) (5 + 1 * i) = fr (5 + 1 * i)
      rw [upd_ne (by omega), upd_ne (by omega), upd_ne (by omega)])
  · refine ⟨ck_obj (o := 37) rfl w37, fun i hj => ?_⟩
    have hj : i < 1 := hj
    have i0 : i = 0 := by omega
    subst i0
    refine ⟨s4.toInt, cv_fld w37 (by show _[4]? = _; rw [List.getElem?_set_ne (by decide)]; exact pi4), ?_⟩
    show ((upd (upd (upd fr (452 + nn) x1) (5024 + (2 * nn)) (Int32.ofInt (-1))) 3 r15m) 4).toInt = s4.toInt
    rw [upd_ne (by omega), upd_ne (by omega), upd_ne (by omega)]
    exact congrArg Int32.toInt (rl_num hI m5 (e := (37, 4, 1, 1, 4, 1, 0)) (by decide +kernel) rfl (i := 0) (by decide) (cv_fld hi pi4))
  · exact exR_un hR he (u 23 (by decide) (by decide) (by decide) (by decide) (by decide) (by decide)) (fun i hi => by
      have hi : i < 12 := hi
      show (upd (upd (upd fr (452 + nn) x1) (5024 + (2 * nn)) (Int32.ofInt (-1))) 3 r15m) (52 + 1 * i) = fr (52 + 1 * i)
      rw [upd_ne (by omega), upd_ne (by omega), upd_ne (by omega)])
  · exact exR_un hR he (u 24 (by decide) (by decide) (by decide) (by decide) (by decide) (by decide)) (fun i hi => by
      have hi : i < 12 := hi
      show (upd (upd (upd fr (452 + nn) x1) (5024 + (2 * nn)) (Int32.ofInt (-1))) 3 r15m) (64 + 1 * i) = fr (64 + 1 * i)
      rw [upd_ne (by omega), upd_ne (by omega), upd_ne (by omega)])
  · exact exR_un hR he (u 25 (by decide) (by decide) (by decide) (by decide) (by decide) (by decide)) (fun i hi => by
      have hi : i < 12 := hi
      show (upd (upd (upd fr (452 + nn) x1) (5024 + (2 * nn)) (Int32.ofInt (-1))) 3 r15m) (5030 + 1 * i) = fr (5030 + 1 * i)
      rw [upd_ne (by omega), upd_ne (by omega), upd_ne (by omega)])
  · exact exR_un hR he (u 28 (by decide) (by decide) (by decide) (by decide) (by decide) (by decide)) (fun i hi => by
      have hi : i < 3 := hi
      show (upd (upd (upd fr (452 + nn) x1) (5024 + (2 * nn)) (Int32.ofInt (-1))) 3 r15m) (76 + 1 * i) = fr (76 + 1 * i)
      rw [upd_ne (by omega), upd_ne (by omega), upd_ne (by omega)])
  · exact exR_un hR he (u 29 (by decide) (by decide) (by decide) (by decide) (by decide) (by decide)) (fun i hi => by
      have hi : i < 300 := hi
      show (upd (upd (upd fr (452 + nn) x1) (5024 + (2 * nn)) (Int32.ofInt (-1))) 3 r15m) (80 + 1 * i) = fr (80 + 1 * i)
      rw [upd_ne (by omega), upd_ne (by omega), upd_ne (by omega)])
  · exact exR_un hR he (u 41 (by decide) (by decide) (by decide) (by decide) (by decide) (by decide)) (fun i hi => by
      have hi : i < 16 := hi
      show (upd (upd (upd fr (452 + nn) x1) (5024 + (2 * nn)) (Int32.ofInt (-1))) 3 r15m) (456 + 3 * i) = fr (456 + 3 * i)
      rw [upd_ne (by omega), upd_ne (by omega), upd_ne (by omega)])
  · exact exR_un hR he (u 2 (by decide) (by decide) (by decide) (by decide) (by decide) (by decide)) (fun i hi => by
      have hi : i < 8 := hi
      show (upd (upd (upd fr (452 + nn) x1) (5024 + (2 * nn)) (Int32.ofInt (-1))) 3 r15m) (30 + 1 * i) = fr (30 + 1 * i)
      rw [upd_ne (by omega), upd_ne (by omega), upd_ne (by omega)])
theorem eu_447 (hk : kOK TTs g (EIm n) l Kx_447) {W0 : List aR} {bk0 bk : aB} {h0 h : jH} (hO : hOK TTs g (EIm n) W0 bk0 h0 bk h) {a0 : Nat} (ha0 : bk 0 = some a0)  :
    jCal l g 154 2 [.ref (g.2.2 + (a0 + 0))] h 0 0 (kPost TTs g (EIm n) Kx_447 bk h []) := by
  refine hk bk h [.ref (g.2.2 + (a0 + 0))] [] hO.1 hO.2.1 hO.2.2.1 hO.2.2.2.2.2 (show 1 ≤ jmx 154 by decide +kernel) rfl (fun q hq => ?_) ⟨⟨rfl, fun i e z he hz => ?_⟩, eFm_plain (plain_app (spEnv_plain _) clEnv_plain), fun F hF => absurd hF List.not_mem_nil, fun i v hv => ?_, trivial, fun q hq => ?_, fun B hB => absurd hB List.not_mem_nil⟩
  · have hq : q ∈ ([] : List (Nat × Int × Nat)) := hq
    exact absurd hq List.not_mem_nil
  · match i, he, hz with
    | i + 0, he, _ => cases he
  · match i, hv with
    | 0, hv => cases hv; exact ⟨_, rfl, a0, ha0, rfl⟩
    | 1, hv => cases hv
    | i + 2, hv => cases hv
  · exact absurd hq List.not_mem_nil
theorem eu_520 (hk : kOK TTs g (EIm n) l Kx_520) {W0 : List aR} {bk0 bk : aB} {h0 h : jH} (hO : hOK TTs g (EIm n) W0 bk0 h0 bk h) {a1 : Nat} (ha1 : bk 1 = some a1)  :
    jCal l g 282 1 [.ref (g.2.2 + (a1 + 0))] h 0 0 (kPost TTs g (EIm n) Kx_520 bk h []) := by
  refine hk bk h [.ref (g.2.2 + (a1 + 0))] [] hO.1 hO.2.1 hO.2.2.1 hO.2.2.2.2.2 (show 1 ≤ jmx 282 by decide +kernel) rfl (fun q hq => ?_) ⟨⟨rfl, fun i e z he hz => ?_⟩, eFm_plain (plain_app (spEnv_plain _) clEnv_plain), fun F hF => absurd hF List.not_mem_nil, fun i v hv => ?_, trivial, fun q hq => ?_, fun B hB => absurd hB List.not_mem_nil⟩
  · have hq : q ∈ ([] : List (Nat × Int × Nat)) := hq
    exact absurd hq List.not_mem_nil
  · match i, he, hz with
    | i + 0, he, _ => cases he
  · match i, hv with
    | 0, hv => cases hv; exact ⟨_, rfl, a1, ha1, rfl⟩
    | 1, hv => cases hv
    | i + 2, hv => cases hv
  · exact absurd hq List.not_mem_nil
theorem cw_35 : (apW Kx_447.2.2.2.2.2.2.2.1 [(1, 1, 1, 1)] = true ∧ apW Kx_447.2.2.2.2.2.2.2.1 [(1, 1, 5066, 5066)] = true ∧ apW Kx_520.2.2.2.2.2.2.2.1 [(1, 1, 1, 1)] = true ∧ apW Kx_520.2.2.2.2.2.2.2.1 [(1, 1, 5066, 5066)] = true) ∧ (apW Kx_447.2.2.2.2.2.2.2.1 rlFI = true ∧ apW Kx_520.2.2.2.2.2.2.2.1 rlFI = true ∧ apW Kx_447.2.2.2.2.2.2.2.1 [(1, 1, 0, 5269)] = true ∧ rlE.all (fun e => apW Kx_520.2.2.2.2.2.2.2.1 [rlX 0 0 e]) = true) := by decide +kernel
set_option maxRecDepth 16384 in
set_option maxHeartbeats 4000000 in
theorem cp_35 (hlow : ∀ (k : Nat) (K : aK), KTx[k]? = some K → kOK TTs g (EIm n) l K) {b0 b1 : Nat} {bk : aB} {h : jH} (hI : lwI g n b0 b1 bk h) : cpS l g n b0 b1 h 154 282 [] 0 0 true (k6 bk) := by
  obtain ⟨⟨v1, v2, v3, v4⟩, v5, v6, v7, v8⟩ := cw_35
  have hx_ := eu_447 (hlow 447 _ rfl) (hI.ok []) hI.2.2.2.1
  have hm_ : ∀ bk1 h1, hOK TTs g (EIm n) Kx_447.2.2.2.2.2.2.2.1 bk h bk1 h1 → bk1 1 = some b1 → _ := fun bk1 h1 k1 p1 => eu_520 (hlow 520 _ rfl) k1 p1
  obtain ⟨fsx, hx, lx, rx, nx⟩ := k_obj (o := 0) (ci := 11) hI.1 hI.2.2.2.1 rfl
  obtain ⟨fss, hs, ls, rs, ns⟩ := k_obj (o := 1) (ci := 7) hI.1 hI.2.2.2.1 rfl
  obtain ⟨fsi, hi, li, ri, ni⟩ := k_obj (o := 37) (ci := 6) hI.1 hI.2.2.2.1 rfl
  obtain ⟨t, pi4, t1, t2⟩ := ni 4 (0) (16) (by decide +kernel)
  obtain ⟨s0, pi0, s01, s02⟩ := ni 0 (0) (3) (by decide +kernel)
  obtain ⟨nn, et⟩ : ∃ nn : Nat, t.toInt = (nn : Int) := ⟨t.toInt.toNat, by omega⟩
  obtain ⟨am, ua, hM⟩ := men_of hI.1 hI.2.1 hI.2.2.2.1 hx
  refine ex_pair hI (by decide) (by decide) hx_ hm_ (xk_clear_ok hx (lx.trans (by decide +kernel)) (rx 0 1 (by decide +kernel)) hs (ls.trans (by decide +kernel)) (rs 18 37 (by decide +kernel)) hi (li.trans (by decide +kernel)) pi4 et ⟨by omega, by omega⟩ ua hM) (fun h1 fsm fr m1 m2 m3 m4 m5 => xr_clear_ok m1 m2 m3 m4 et ⟨by omega, by omega⟩ (rl_num hI m5 (e := (37, 4, 1, 1, 4, 1, 0)) (by decide +kernel) rfl (i := 0) (by decide) (cv_fld hi pi4))) v1 v2 v3 v4 v5 v6 v7 v8 (fun v1 h1' hE => ?_)
  obtain ⟨hv14, hF, rfl, hE3⟩ := hE
  obtain rfl : hv14 = h1' := hE3.symm
  refine ⟨t, rfl, fun hq1 fsm fr v2 h2' _ m4 hR m5 hE2 => ?_⟩
  obtain ⟨rfl, rfl⟩ := hE2
  refine ⟨by rw [show t = t from rfl], (upd (upd fr 4 (Int32.ofInt 0)) 3 (Int32.ofInt 0)), ?_, fun e he => ?_⟩
  · rw []
    exact List.getElem?_set_self (by simp only [List.length_set]; exact (List.getElem?_eq_some_iff.mp m4).1)
  have u : ∀ o, o ≠ 37 → o < 62 → hv14[b0 + o]? = h[b0 + o]? := fun o c37 c62 => by rw [hF _ (Ne.symm (ua _ c62)), List.getElem?_set_ne (by omega), List.getElem?_set_ne (by omega)]
  have w37 : hv14[b0 + 37]? = some (.inr (6, ((fsi.set 0 (.int (Int32.ofInt 0))).set 4 (.int (Int32.ofInt 0))))) := by rw [hF _ (Ne.symm (ua 37 (by decide)))]; exact List.getElem?_set_self (by first | exact (List.getElem?_eq_some_iff.mp hi).1 | (simp only [List.length_set]; exact (List.getElem?_eq_some_iff.mp hi).1))
  have he' := he
  simp only [rlE, List.mem_cons, List.not_mem_nil, or_false] at he'
  rcases he' with rfl | rfl | rfl | rfl | rfl | rfl | rfl | rfl | rfl | rfl | rfl | rfl
  · exact exR_un hR he (u 1 (by decide) (by decide)) (fun i hi => by
      have hi : i < 1 := hi
      show (upd (upd fr 4 (Int32.ofInt 0)) 3 (Int32.ofInt 0)) (7 + 1 * i) = fr (7 + 1 * i)
      rw [upd_ne (by omega), upd_ne (by omega)])
  · exact exR_un hR he (u 30 (by decide) (by decide)) (fun i hi => by
      have hi : i < 1 := hi
      show (upd (upd fr 4 (Int32.ofInt 0)) 3 (Int32.ofInt 0)) (8 + 1 * i) = fr (8 + 1 * i)
      rw [upd_ne (by omega), upd_ne (by omega)])
  · refine ⟨ck_obj (o := 37) rfl w37, fun i hj => ?_⟩
    have hj : i < 1 := hj
    have i0 : i = 0 := by omega
    subst i0
    refine ⟨(Int32.ofInt 0).toInt, cv_fld w37 (by show _[0]? = _; rw [List.getElem?_set_ne (by decide)]; exact List.getElem?_set_self (by simp only [List.length_set, li]; decide +kernel)), ?_⟩
    show ((upd (upd fr 4 (Int32.ofInt 0)) 3 (Int32.ofInt 0)) 3).toInt = (Int32.ofInt 0).toInt
    rw [upd_eq]
  · exact exR_un hR he (u 44 (by decide) (by decide)) (fun i hi => by
      have hi : i < 1 := hi
      show (upd (upd fr 4 (Int32.ofInt 0)) 3 (Int32.ofInt 0)) (5 + 1 * i) = fr (5 + 1 * i)
      rw [upd_ne (by omega), upd_ne (by omega)])
  · refine ⟨ck_obj (o := 37) rfl w37, fun i hj => ?_⟩
    have hj : i < 1 := hj
    have i0 : i = 0 := by omega
    subst i0
    refine ⟨(Int32.ofInt 0).toInt, cv_fld w37 (by show _[4]? = _; exact List.getElem?_set_self (by simp only [List.length_set, li]; decide +kernel)), ?_⟩
    show ((upd (upd fr 4 (Int32.ofInt 0)) 3 (Int32.ofInt 0)) 4).toInt = (Int32.ofInt 0).toInt
    rw [upd_ne (by omega), upd_eq]
  · exact exR_un hR he (u 23 (by decide) (by decide)) (fun i hi => by
      have hi : i < 12 := hi
      show (upd (upd fr 4 (Int32.ofInt 0)) 3 (Int32.ofInt 0)) (52 + 1 * i) = fr (52 + 1 * i)
      rw [upd_ne (by omega), upd_ne (by omega)])
  · exact exR_un hR he (u 24 (by decide) (by decide)) (fun i hi => by
      have hi : i < 12 := hi
      show (upd (upd fr 4 (Int32.ofInt 0)) 3 (Int32.ofInt 0)) (64 + 1 * i) = fr (64 + 1 * i)
      rw [upd_ne (by omega), upd_ne (by omega)])
  · exact exR_un hR he (u 25 (by decide) (by decide)) (fun i hi => by
      have hi : i < 12 := hi
      show (upd (upd fr 4 (Int32.ofInt 0)) 3 (Int32.ofInt 0)) (5030 + 1 * i) = fr (5030 + 1 * i)
      rw [upd_ne (by omega), upd_ne (by omega)])
  · exact exR_un hR he (u 28 (by decide) (by decide)) (fun i hi => by
      have hi : i < 3 := hi
      show (upd (upd fr 4 (Int32.ofInt 0)) 3 (Int32.ofInt 0)) (76 + 1 * i) = fr (76 + 1 * i)
      rw [upd_ne (by omega), upd_ne (by omega)])
  · exact exR_un hR he (u 29 (by decide) (by decide)) (fun i hi => by
      have hi : i < 300 := hi
      show (upd (upd fr 4 (Int32.ofInt 0)) 3 (Int32.ofInt 0)) (80 + 1 * i) = fr (80 + 1 * i)
      rw [upd_ne (by omega), upd_ne (by omega)])
  · exact exR_un hR he (u 41 (by decide) (by decide)) (fun i hi => by
      have hi : i < 16 := hi
      show (upd (upd fr 4 (Int32.ofInt 0)) 3 (Int32.ofInt 0)) (456 + 3 * i) = fr (456 + 3 * i)
      rw [upd_ne (by omega), upd_ne (by omega)])
  · exact exR_un hR he (u 2 (by decide) (by decide)) (fun i hi => by
      have hi : i < 8 := hi
      show (upd (upd fr 4 (Int32.ofInt 0)) 3 (Int32.ofInt 0)) (30 + 1 * i) = fr (30 + 1 * i)
      rw [upd_ne (by omega), upd_ne (by omega)])
theorem eu_458 (hk : kOK TTs g (EIm n) l Kx_458) {W0 : List aR} {bk0 bk : aB} {h0 h : jH} (hO : hOK TTs g (EIm n) W0 bk0 h0 bk h) {a0 : Nat} (ha0 : bk 0 = some a0) {x1 : Int32} (hx1 : (-2147483648 : Int) ≤ x1.toInt ∧ x1.toInt ≤ 2147483647) {x2 : Int32} (hx2 : (-2147483648 : Int) ≤ x2.toInt ∧ x2.toInt ≤ 2147483647) {x3 : Int32} (hx3 : (-2147483648 : Int) ≤ x3.toInt ∧ x3.toInt ≤ 2147483647) :
    jCal l g 156 2 [.ref (g.2.2 + (a0 + 0)), .int x1, .int x2, .int x3] h 0 0 (kPost TTs g (EIm n) Kx_458 bk h [x1.toInt, x2.toInt, x3.toInt]) := by
  refine hk bk h [.ref (g.2.2 + (a0 + 0)), .int x1, .int x2, .int x3] [x1.toInt, x2.toInt, x3.toInt] hO.1 hO.2.1 hO.2.2.1 hO.2.2.2.2.2 (show 4 ≤ jmx 156 by decide +kernel) rfl (fun q hq => ?_) ⟨⟨rfl, fun i e z he hz => ?_⟩, eFm_plain (plain_app (spEnv_plain _) clEnv_plain), fun F hF => absurd hF List.not_mem_nil, fun i v hv => ?_, trivial, fun q hq => ?_, fun B hB => absurd hB List.not_mem_nil⟩
  · have hq : q ∈ ([] : List (Nat × Int × Nat)) := hq
    exact absurd hq List.not_mem_nil
  · match i, he, hz with
    | 0, he, hz => cases he; cases hz; exact hx1
    | 1, he, hz => cases he; cases hz; exact hx2
    | 2, he, hz => cases he; cases hz; exact hx3
    | i + 3, he, _ => cases he
  · match i, hv with
    | 0, hv => cases hv; exact ⟨_, rfl, a0, ha0, rfl⟩
    | 1, hv => cases hv; exact ⟨_, rfl, x1, rfl, rfl⟩
    | 2, hv => cases hv; exact ⟨_, rfl, x2, rfl, rfl⟩
    | 3, hv => cases hv; exact ⟨_, rfl, x3, rfl, rfl⟩
    | i + 4, hv => cases hv
  · exact absurd hq List.not_mem_nil
theorem eu_534 (hk : kOK TTs g (EIm n) l Kx_534) {W0 : List aR} {bk0 bk : aB} {h0 h : jH} (hO : hOK TTs g (EIm n) W0 bk0 h0 bk h) {a1 : Nat} (ha1 : bk 1 = some a1) {x1 : Int32} (hx1 : (-2147483648 : Int) ≤ x1.toInt ∧ x1.toInt ≤ 2147483647) {x2 : Int32} (hx2 : (-2147483648 : Int) ≤ x2.toInt ∧ x2.toInt ≤ 2147483647) {x3 : Int32} (hx3 : (-2147483648 : Int) ≤ x3.toInt ∧ x3.toInt ≤ 2147483647) :
    jCal l g 292 3 [.ref (g.2.2 + (a1 + 0)), .int x1, .int x2, .int x3] h 0 0 (kPost TTs g (EIm n) Kx_534 bk h [x1.toInt, x2.toInt, x3.toInt]) := by
  refine hk bk h [.ref (g.2.2 + (a1 + 0)), .int x1, .int x2, .int x3] [x1.toInt, x2.toInt, x3.toInt] hO.1 hO.2.1 hO.2.2.1 hO.2.2.2.2.2 (show 4 ≤ jmx 292 by decide +kernel) rfl (fun q hq => ?_) ⟨⟨rfl, fun i e z he hz => ?_⟩, eFm_plain (plain_app (spEnv_plain _) clEnv_plain), fun F hF => absurd hF List.not_mem_nil, fun i v hv => ?_, trivial, fun q hq => ?_, fun B hB => absurd hB List.not_mem_nil⟩
  · have hq : q ∈ ([] : List (Nat × Int × Nat)) := hq
    exact absurd hq List.not_mem_nil
  · match i, he, hz with
    | 0, he, hz => cases he; cases hz; exact hx1
    | 1, he, hz => cases he; cases hz; exact hx2
    | 2, he, hz => cases he; cases hz; exact hx3
    | i + 3, he, _ => cases he
  · match i, hv with
    | 0, hv => cases hv; exact ⟨_, rfl, a1, ha1, rfl⟩
    | 1, hv => cases hv; exact ⟨_, rfl, x1, rfl, rfl⟩
    | 2, hv => cases hv; exact ⟨_, rfl, x2, rfl, rfl⟩
    | 3, hv => cases hv; exact ⟨_, rfl, x3, rfl, rfl⟩
    | 4, hv => cases hv
    | i + 5, hv => cases hv
  · exact absurd hq List.not_mem_nil
theorem cw_36 : (apW Kx_458.2.2.2.2.2.2.2.1 [(1, 1, 1, 1)] = true ∧ apW Kx_458.2.2.2.2.2.2.2.1 [(1, 1, 5066, 5066)] = true ∧ apW Kx_534.2.2.2.2.2.2.2.1 [(1, 1, 1, 1)] = true ∧ apW Kx_534.2.2.2.2.2.2.2.1 [(1, 1, 5066, 5066)] = true) ∧ (apW Kx_458.2.2.2.2.2.2.2.1 rlFI = true ∧ apW Kx_534.2.2.2.2.2.2.2.1 rlFI = true ∧ apW Kx_458.2.2.2.2.2.2.2.1 [(1, 1, 0, 5269)] = true ∧ rlE.all (fun e => apW Kx_534.2.2.2.2.2.2.2.1 [rlX 0 0 e]) = true) := by decide +kernel
set_option maxRecDepth 16384 in
set_option maxHeartbeats 4000000 in
theorem cp_36 (hlow : ∀ (k : Nat) (K : aK), KTx[k]? = some K → kOK TTs g (EIm n) l K) {b0 b1 : Nat} {bk : aB} {h : jH} (hI : lwI g n b0 b1 bk h) {x1 x2 x3 : Int32} : cpS l g n b0 b1 h 156 292 [.int x1, .int x2, .int x3] 0 0 true (k6 bk) := by
  obtain ⟨⟨v1, v2, v3, v4⟩, v5, v6, v7, v8⟩ := cw_36
  have hx_ := eu_458 (hlow 458 _ rfl) (hI.ok []) hI.2.2.2.1 (⟨i32_lo x1, i32_hi x1⟩) (⟨i32_lo x2, i32_hi x2⟩) (⟨i32_lo x3, i32_hi x3⟩)
  have hm_ : ∀ bk1 h1, hOK TTs g (EIm n) Kx_458.2.2.2.2.2.2.2.1 bk h bk1 h1 → bk1 1 = some b1 → _ := fun bk1 h1 k1 p1 => eu_534 (hlow 534 _ rfl) k1 p1 (⟨i32_lo x1, i32_hi x1⟩) (⟨i32_lo x2, i32_hi x2⟩) (⟨i32_lo x3, i32_hi x3⟩)
  by_cases g_0l : x1.toInt < 1
  · exact bad_pair hI (by decide) (by decide) hx_ hm_ (fun fsx q1 q2 q3 => xk_due_0l q1 q2 q3 (by omega)) (fun h1 fsm fr m1 m2 m3 m4 m5 => xr_due_0l m1 m2 m3 (by omega)) v1 v2 v3 v4 v5 v6 v7 v8
  by_cases g_0h : 999 < x1.toInt
  · exact bad_pair hI (by decide) (by decide) hx_ hm_ (fun fsx q1 q2 q3 => xk_due_0h q1 q2 q3 (by omega)) (fun h1 fsm fr m1 m2 m3 m4 m5 => xr_due_0h m1 m2 m3 (by omega)) v1 v2 v3 v4 v5 v6 v7 v8
  by_cases g_1l : x2.toInt < 0
  · exact bad_pair hI (by decide) (by decide) hx_ hm_ (fun fsx q1 q2 q3 => xk_due_1l q1 q2 q3 ⟨by omega, by omega⟩ (by omega)) (fun h1 fsm fr m1 m2 m3 m4 m5 => xr_due_1l m1 m2 m3 ⟨by omega, by omega⟩ (by omega)) v1 v2 v3 v4 v5 v6 v7 v8
  by_cases g_1h : 11 < x2.toInt
  · exact bad_pair hI (by decide) (by decide) hx_ hm_ (fun fsx q1 q2 q3 => xk_due_1h q1 q2 q3 ⟨by omega, by omega⟩ (by omega)) (fun h1 fsm fr m1 m2 m3 m4 m5 => xr_due_1h m1 m2 m3 ⟨by omega, by omega⟩ (by omega)) v1 v2 v3 v4 v5 v6 v7 v8
  by_cases g_2l : x3.toInt < 0
  · exact bad_pair hI (by decide) (by decide) hx_ hm_ (fun fsx q1 q2 q3 => xk_due_2l q1 q2 q3 ⟨by omega, by omega⟩ ⟨by omega, by omega⟩ (by omega)) (fun h1 fsm fr m1 m2 m3 m4 m5 => xr_due_2l m1 m2 m3 ⟨by omega, by omega⟩ ⟨by omega, by omega⟩ (by omega)) v1 v2 v3 v4 v5 v6 v7 v8
  by_cases g_2h : 9999 < x3.toInt
  · exact bad_pair hI (by decide) (by decide) hx_ hm_ (fun fsx q1 q2 q3 => xk_due_2h q1 q2 q3 ⟨by omega, by omega⟩ ⟨by omega, by omega⟩ (by omega)) (fun h1 fsm fr m1 m2 m3 m4 m5 => xr_due_2h m1 m2 m3 ⟨by omega, by omega⟩ ⟨by omega, by omega⟩ (by omega)) v1 v2 v3 v4 v5 v6 v7 v8
  obtain ⟨fsx, hx, lx, rx, nx⟩ := k_obj (o := 0) (ci := 11) hI.1 hI.2.2.2.1 rfl
  obtain ⟨fss, hs, ls, rs, ns⟩ := k_obj (o := 1) (ci := 7) hI.1 hI.2.2.2.1 rfl
  obtain ⟨fsi, hi, li, ri, ni⟩ := k_obj (o := 44) (ci := 8) hI.1 hI.2.2.2.1 rfl
  obtain ⟨t, pi0, t1, t2⟩ := ni 0 (0) (40) (by decide +kernel)
  obtain ⟨fa, ha, -⟩ := k_arr (o := 45) hI.1 hI.2.2.2.1 rfl
  obtain ⟨fb, hb, -⟩ := k_arr (o := 46) hI.1 hI.2.2.2.1 rfl
  obtain ⟨fc, hc, -⟩ := k_arr (o := 47) hI.1 hI.2.2.2.1 rfl
  obtain ⟨nn, et⟩ : ∃ nn : Nat, t.toInt = (nn : Int) := ⟨t.toInt.toNat, by omega⟩
  by_cases g_full : nn = 40
  · exact bad_pair hI (by decide) (by decide) hx_ hm_ (fun fsx q1 q2 q3 => xk_due_full q1 q2 q3 hs (ls.trans (by decide +kernel)) (rs 19 44 (by decide +kernel)) hi (li.trans (by decide +kernel)) pi0 ⟨by omega, by omega⟩ ⟨by omega, by omega⟩ ⟨by omega, by omega⟩ et ⟨by omega, by omega⟩) (fun h1 fsm fr m1 m2 m3 m4 m5 => xr_due_full m1 m2 m3 m4 ⟨by omega, by omega⟩ ⟨by omega, by omega⟩ ⟨by omega, by omega⟩ et ⟨by omega, by omega⟩ (rl_num hI m5 (e := (44, 0, 1, 1, 5, 1, 0)) (by decide +kernel) rfl (i := 0) (by decide) (cv_fld hi pi0))) v1 v2 v3 v4 v5 v6 v7 v8
  refine ex_pair hI (by decide) (by decide) hx_ hm_ (xk_due_ok hx (lx.trans (by decide +kernel)) (rx 0 1 (by decide +kernel)) hs (ls.trans (by decide +kernel)) (rs 19 44 (by decide +kernel)) hi (li.trans (by decide +kernel)) pi0 (ri 1 45 (by decide +kernel)) (ri 2 46 (by decide +kernel)) (ri 3 47 (by decide +kernel)) ha hb hc ⟨by omega, by omega⟩ ⟨by omega, by omega⟩ ⟨by omega, by omega⟩ et ⟨by omega, by omega⟩) (fun h1 fsm fr m1 m2 m3 m4 m5 => xr_due_ok m1 m2 m3 m4 ⟨by omega, by omega⟩ ⟨by omega, by omega⟩ ⟨by omega, by omega⟩ et ⟨by omega, by omega⟩ (rl_num hI m5 (e := (44, 0, 1, 1, 5, 1, 0)) (by decide +kernel) rfl (i := 0) (by decide) (cv_fld hi pi0))) v1 v2 v3 v4 v5 v6 v7 v8 (fun v1 h1' hE => ?_)
  obtain ⟨r7, hr7, rfl, rfl⟩ := hE
  refine ⟨r7, rfl, fun hq1 fsm fr v2 h2' _ m4 hR m5 hE2 => ?_⟩
  obtain ⟨r22m, hr22m, rfl, rfl⟩ := hE2
  refine ⟨by rw [show r22m = r7 from i32_eq (by omega)], (upd (upd (upd (upd fr (504 + (3 * nn)) x1) ((504 + (3 * nn)) + 1) x2) ((504 + (3 * nn)) + 2) x3) 5 r22m), ?_, fun e he => ?_⟩
  · rw [List.getElem?_set_ne (by omega)]
    exact List.getElem?_set_self (by simp only [List.length_set]; exact (List.getElem?_eq_some_iff.mp m4).1)
  have u : ∀ o, o ≠ 0 → o ≠ 44 → o ≠ 45 → o ≠ 46 → o ≠ 47 → o < 62 → (((((h.set (b0 + 45) (.inl (0, 40, (upd fa nn x1)))).set (b0 + 46) (.inl (0, 40, (upd fb nn x2)))).set (b0 + 47) (.inl (0, 40, (upd fc nn x3)))).set (b0 + 44) (.inr (8, (fsi.set 0 (.int r7))))).set (b0 + 0) (.inr (11, (fsx.set 7 (.int (Int32.ofInt 0))))))[b0 + o]? = h[b0 + o]? := fun o c0 c44 c45 c46 c47 c62 => by rw [List.getElem?_set_ne (by omega), List.getElem?_set_ne (by omega), List.getElem?_set_ne (by omega), List.getElem?_set_ne (by omega), List.getElem?_set_ne (by omega)]
  have w0 : (((((h.set (b0 + 45) (.inl (0, 40, (upd fa nn x1)))).set (b0 + 46) (.inl (0, 40, (upd fb nn x2)))).set (b0 + 47) (.inl (0, 40, (upd fc nn x3)))).set (b0 + 44) (.inr (8, (fsi.set 0 (.int r7))))).set (b0 + 0) (.inr (11, (fsx.set 7 (.int (Int32.ofInt 0))))))[b0 + 0]? = some (.inr (11, (fsx.set 7 (.int (Int32.ofInt 0))))) := by exact List.getElem?_set_self (by first | exact (List.getElem?_eq_some_iff.mp hx).1 | (simp only [List.length_set]; exact (List.getElem?_eq_some_iff.mp hx).1))
  have w44 : (((((h.set (b0 + 45) (.inl (0, 40, (upd fa nn x1)))).set (b0 + 46) (.inl (0, 40, (upd fb nn x2)))).set (b0 + 47) (.inl (0, 40, (upd fc nn x3)))).set (b0 + 44) (.inr (8, (fsi.set 0 (.int r7))))).set (b0 + 0) (.inr (11, (fsx.set 7 (.int (Int32.ofInt 0))))))[b0 + 44]? = some (.inr (8, (fsi.set 0 (.int r7)))) := by rw [List.getElem?_set_ne (by omega)]; exact List.getElem?_set_self (by first | exact (List.getElem?_eq_some_iff.mp hi).1 | (simp only [List.length_set]; exact (List.getElem?_eq_some_iff.mp hi).1))
  have w45 : (((((h.set (b0 + 45) (.inl (0, 40, (upd fa nn x1)))).set (b0 + 46) (.inl (0, 40, (upd fb nn x2)))).set (b0 + 47) (.inl (0, 40, (upd fc nn x3)))).set (b0 + 44) (.inr (8, (fsi.set 0 (.int r7))))).set (b0 + 0) (.inr (11, (fsx.set 7 (.int (Int32.ofInt 0))))))[b0 + 45]? = some (.inl (0, 40, (upd fa nn x1))) := by rw [List.getElem?_set_ne (by omega), List.getElem?_set_ne (by omega), List.getElem?_set_ne (by omega), List.getElem?_set_ne (by omega)]; exact List.getElem?_set_self (by first | exact (List.getElem?_eq_some_iff.mp ha).1 | (simp only [List.length_set]; exact (List.getElem?_eq_some_iff.mp ha).1))
  have w46 : (((((h.set (b0 + 45) (.inl (0, 40, (upd fa nn x1)))).set (b0 + 46) (.inl (0, 40, (upd fb nn x2)))).set (b0 + 47) (.inl (0, 40, (upd fc nn x3)))).set (b0 + 44) (.inr (8, (fsi.set 0 (.int r7))))).set (b0 + 0) (.inr (11, (fsx.set 7 (.int (Int32.ofInt 0))))))[b0 + 46]? = some (.inl (0, 40, (upd fb nn x2))) := by rw [List.getElem?_set_ne (by omega), List.getElem?_set_ne (by omega), List.getElem?_set_ne (by omega)]; exact List.getElem?_set_self (by first | exact (List.getElem?_eq_some_iff.mp hb).1 | (simp only [List.length_set]; exact (List.getElem?_eq_some_iff.mp hb).1))
  have w47 : (((((h.set (b0 + 45) (.inl (0, 40, (upd fa nn x1)))).set (b0 + 46) (.inl (0, 40, (upd fb nn x2)))).set (b0 + 47) (.inl (0, 40, (upd fc nn x3)))).set (b0 + 44) (.inr (8, (fsi.set 0 (.int r7))))).set (b0 + 0) (.inr (11, (fsx.set 7 (.int (Int32.ofInt 0))))))[b0 + 47]? = some (.inl (0, 40, (upd fc nn x3))) := by rw [List.getElem?_set_ne (by omega), List.getElem?_set_ne (by omega)]; exact List.getElem?_set_self (by first | exact (List.getElem?_eq_some_iff.mp hc).1 | (simp only [List.length_set]; exact (List.getElem?_eq_some_iff.mp hc).1))
  have he' := he
  simp only [rlE, List.mem_cons, List.not_mem_nil, or_false] at he'
  rcases he' with rfl | rfl | rfl | rfl | rfl | rfl | rfl | rfl | rfl | rfl | rfl | rfl
  · exact exR_un hR he (u 1 (by decide) (by decide) (by decide) (by decide) (by decide) (by decide)) (fun i hi => by
      have hi : i < 1 := hi
      show (upd (upd (upd (upd fr (504 + (3 * nn)) x1) ((504 + (3 * nn)) + 1) x2) ((504 + (3 * nn)) + 2) x3) 5 r22m) (7 + 1 * i) = fr (7 + 1 * i)
      rw [upd_ne (by omega), upd_ne (by omega), upd_ne (by omega), upd_ne (by omega)])
  · exact exR_un hR he (u 30 (by decide) (by decide) (by decide) (by decide) (by decide) (by decide)) (fun i hi => by
      have hi : i < 1 := hi
      show (upd (upd (upd (upd fr (504 + (3 * nn)) x1) ((504 + (3 * nn)) + 1) x2) ((504 + (3 * nn)) + 2) x3) 5 r22m) (8 + 1 * i) = fr (8 + 1 * i)
      rw [upd_ne (by omega), upd_ne (by omega), upd_ne (by omega), upd_ne (by omega)])
  · exact exR_un hR he (u 37 (by decide) (by decide) (by decide) (by decide) (by decide) (by decide)) (fun i hi => by
      have hi : i < 1 := hi
      show (upd (upd (upd (upd fr (504 + (3 * nn)) x1) ((504 + (3 * nn)) + 1) x2) ((504 + (3 * nn)) + 2) x3) 5 r22m) (3 + 1 * i) = fr (3 + 1 * i)
      rw [upd_ne (by omega), upd_ne (by omega), upd_ne (by omega), upd_ne (by omega)])
  · refine ⟨ck_obj (o := 44) rfl w44, fun i hj => ?_⟩
    have hj : i < 1 := hj
    have i0 : i = 0 := by omega
    subst i0
    refine ⟨r7.toInt, cv_fld w44 (by show _[0]? = _; exact List.getElem?_set_self (by simp only [List.length_set, li]; decide +kernel)), ?_⟩
    show ((upd (upd (upd (upd fr (504 + (3 * nn)) x1) ((504 + (3 * nn)) + 1) x2) ((504 + (3 * nn)) + 2) x3) 5 r22m) 5).toInt = r7.toInt
    rw [upd_eq]
    omega
  · exact exR_un hR he (u 37 (by decide) (by decide) (by decide) (by decide) (by decide) (by decide)) (fun i hi => by
      have hi : i < 1 := hi
      show (upd (upd (upd (upd fr (504 + (3 * nn)) x1) ((504 + (3 * nn)) + 1) x2) ((504 + (3 * nn)) + 2) x3) 5 r22m) (4 + 1 * i) = fr (4 + 1 * i)
      rw [upd_ne (by omega), upd_ne (by omega), upd_ne (by omega), upd_ne (by omega)])
  · exact exR_un hR he (u 23 (by decide) (by decide) (by decide) (by decide) (by decide) (by decide)) (fun i hi => by
      have hi : i < 12 := hi
      show (upd (upd (upd (upd fr (504 + (3 * nn)) x1) ((504 + (3 * nn)) + 1) x2) ((504 + (3 * nn)) + 2) x3) 5 r22m) (52 + 1 * i) = fr (52 + 1 * i)
      rw [upd_ne (by omega), upd_ne (by omega), upd_ne (by omega), upd_ne (by omega)])
  · exact exR_un hR he (u 24 (by decide) (by decide) (by decide) (by decide) (by decide) (by decide)) (fun i hi => by
      have hi : i < 12 := hi
      show (upd (upd (upd (upd fr (504 + (3 * nn)) x1) ((504 + (3 * nn)) + 1) x2) ((504 + (3 * nn)) + 2) x3) 5 r22m) (64 + 1 * i) = fr (64 + 1 * i)
      rw [upd_ne (by omega), upd_ne (by omega), upd_ne (by omega), upd_ne (by omega)])
  · exact exR_un hR he (u 25 (by decide) (by decide) (by decide) (by decide) (by decide) (by decide)) (fun i hi => by
      have hi : i < 12 := hi
      show (upd (upd (upd (upd fr (504 + (3 * nn)) x1) ((504 + (3 * nn)) + 1) x2) ((504 + (3 * nn)) + 2) x3) 5 r22m) (5030 + 1 * i) = fr (5030 + 1 * i)
      rw [upd_ne (by omega), upd_ne (by omega), upd_ne (by omega), upd_ne (by omega)])
  · exact exR_un hR he (u 28 (by decide) (by decide) (by decide) (by decide) (by decide) (by decide)) (fun i hi => by
      have hi : i < 3 := hi
      show (upd (upd (upd (upd fr (504 + (3 * nn)) x1) ((504 + (3 * nn)) + 1) x2) ((504 + (3 * nn)) + 2) x3) 5 r22m) (76 + 1 * i) = fr (76 + 1 * i)
      rw [upd_ne (by omega), upd_ne (by omega), upd_ne (by omega), upd_ne (by omega)])
  · exact exR_un hR he (u 29 (by decide) (by decide) (by decide) (by decide) (by decide) (by decide)) (fun i hi => by
      have hi : i < 300 := hi
      show (upd (upd (upd (upd fr (504 + (3 * nn)) x1) ((504 + (3 * nn)) + 1) x2) ((504 + (3 * nn)) + 2) x3) 5 r22m) (80 + 1 * i) = fr (80 + 1 * i)
      rw [upd_ne (by omega), upd_ne (by omega), upd_ne (by omega), upd_ne (by omega)])
  · exact exR_un hR he (u 41 (by decide) (by decide) (by decide) (by decide) (by decide) (by decide)) (fun i hi => by
      have hi : i < 16 := hi
      show (upd (upd (upd (upd fr (504 + (3 * nn)) x1) ((504 + (3 * nn)) + 1) x2) ((504 + (3 * nn)) + 2) x3) 5 r22m) (456 + 3 * i) = fr (456 + 3 * i)
      rw [upd_ne (by omega), upd_ne (by omega), upd_ne (by omega), upd_ne (by omega)])
  · exact exR_un hR he (u 2 (by decide) (by decide) (by decide) (by decide) (by decide) (by decide)) (fun i hi => by
      have hi : i < 8 := hi
      show (upd (upd (upd (upd fr (504 + (3 * nn)) x1) ((504 + (3 * nn)) + 1) x2) ((504 + (3 * nn)) + 2) x3) 5 r22m) (30 + 1 * i) = fr (30 + 1 * i)
      rw [upd_ne (by omega), upd_ne (by omega), upd_ne (by omega), upd_ne (by omega)])
theorem eu_504 (hk : kOK TTs g (EIm n) l Kx_504) {W0 : List aR} {bk0 bk : aB} {h0 h : jH} (hO : hOK TTs g (EIm n) W0 bk0 h0 bk h) {a0 : Nat} (ha0 : bk 0 = some a0) {x1 : Int32} (hx1 : (-2147483648 : Int) ≤ x1.toInt ∧ x1.toInt ≤ 2147483647) {x2 : Int32} (hx2 : (-2147483648 : Int) ≤ x2.toInt ∧ x2.toInt ≤ 2147483647) {x3 : Int32} (hx3 : (-2147483648 : Int) ≤ x3.toInt ∧ x3.toInt ≤ 2147483647) :
    jCal l g 40 2 [.ref (g.2.2 + (a0 + 0)), .int x1, .int x2, .int x3] h 0 0 (kPost TTs g (EIm n) Kx_504 bk h [x1.toInt, x2.toInt, x3.toInt]) := by
  refine hk bk h [.ref (g.2.2 + (a0 + 0)), .int x1, .int x2, .int x3] [x1.toInt, x2.toInt, x3.toInt] hO.1 hO.2.1 hO.2.2.1 hO.2.2.2.2.2 (show 4 ≤ jmx 40 by decide +kernel) rfl (fun q hq => ?_) ⟨⟨rfl, fun i e z he hz => ?_⟩, eFm_plain (plain_app (spEnv_plain _) clEnv_plain), fun F hF => absurd hF List.not_mem_nil, fun i v hv => ?_, trivial, fun q hq => ?_, fun B hB => absurd hB List.not_mem_nil⟩
  · have hq : q ∈ ([] : List (Nat × Int × Nat)) := hq
    exact absurd hq List.not_mem_nil
  · match i, he, hz with
    | 0, he, hz => cases he; cases hz; exact hx1
    | 1, he, hz => cases he; cases hz; exact hx2
    | 2, he, hz => cases he; cases hz; exact hx3
    | i + 3, he, _ => cases he
  · match i, hv with
    | 0, hv => cases hv; exact ⟨_, rfl, a0, ha0, rfl⟩
    | 1, hv => cases hv; exact ⟨_, rfl, x1, rfl, rfl⟩
    | 2, hv => cases hv; exact ⟨_, rfl, x2, rfl, rfl⟩
    | 3, hv => cases hv; exact ⟨_, rfl, x3, rfl, rfl⟩
    | i + 4, hv => cases hv
  · exact absurd hq List.not_mem_nil
theorem eu_665 (hk : kOK TTs g (EIm n) l Kx_665) {W0 : List aR} {bk0 bk : aB} {h0 h : jH} (hO : hOK TTs g (EIm n) W0 bk0 h0 bk h) {a1 : Nat} (ha1 : bk 1 = some a1) {x1 : Int32} (hx1 : (-2147483648 : Int) ≤ x1.toInt ∧ x1.toInt ≤ 2147483647) {x2 : Int32} (hx2 : (-2147483648 : Int) ≤ x2.toInt ∧ x2.toInt ≤ 2147483647) {x3 : Int32} (hx3 : (-2147483648 : Int) ≤ x3.toInt ∧ x3.toInt ≤ 2147483647) :
    jCal l g 255 3 [.ref (g.2.2 + (a1 + 0)), .int x1, .int x2, .int x3] h 0 0 (kPost TTs g (EIm n) Kx_665 bk h [x1.toInt, x2.toInt, x3.toInt]) := by
  refine hk bk h [.ref (g.2.2 + (a1 + 0)), .int x1, .int x2, .int x3] [x1.toInt, x2.toInt, x3.toInt] hO.1 hO.2.1 hO.2.2.1 hO.2.2.2.2.2 (show 4 ≤ jmx 255 by decide +kernel) rfl (fun q hq => ?_) ⟨⟨rfl, fun i e z he hz => ?_⟩, eFm_plain (plain_app (spEnv_plain _) clEnv_plain), fun F hF => absurd hF List.not_mem_nil, fun i v hv => ?_, trivial, fun q hq => ?_, fun B hB => absurd hB List.not_mem_nil⟩
  · have hq : q ∈ ([] : List (Nat × Int × Nat)) := hq
    exact absurd hq List.not_mem_nil
  · match i, he, hz with
    | 0, he, hz => cases he; cases hz; exact hx1
    | 1, he, hz => cases he; cases hz; exact hx2
    | 2, he, hz => cases he; cases hz; exact hx3
    | i + 3, he, _ => cases he
  · match i, hv with
    | 0, hv => cases hv; exact ⟨_, rfl, a1, ha1, rfl⟩
    | 1, hv => cases hv; exact ⟨_, rfl, x1, rfl, rfl⟩
    | 2, hv => cases hv; exact ⟨_, rfl, x2, rfl, rfl⟩
    | 3, hv => cases hv; exact ⟨_, rfl, x3, rfl, rfl⟩
    | 4, hv => cases hv
    | i + 5, hv => cases hv
  · exact absurd hq List.not_mem_nil
theorem cw_8 : (apW Kx_504.2.2.2.2.2.2.2.1 [(1, 1, 1, 1)] = true ∧ apW Kx_504.2.2.2.2.2.2.2.1 [(1, 1, 5066, 5066)] = true ∧ apW Kx_665.2.2.2.2.2.2.2.1 [(1, 1, 1, 1)] = true ∧ apW Kx_665.2.2.2.2.2.2.2.1 [(1, 1, 5066, 5066)] = true) ∧ (apW Kx_504.2.2.2.2.2.2.2.1 rlFI = true ∧ apW Kx_665.2.2.2.2.2.2.2.1 rlFI = true ∧ apW Kx_504.2.2.2.2.2.2.2.1 [(1, 1, 0, 5269)] = true ∧ rlE.all (fun e => apW Kx_665.2.2.2.2.2.2.2.1 [rlX 0 0 e]) = true) := by decide +kernel
set_option maxRecDepth 16384 in
set_option maxHeartbeats 4000000 in
theorem cp_8 (hlow : ∀ (k : Nat) (K : aK), KTx[k]? = some K → kOK TTs g (EIm n) l K) {b0 b1 : Nat} {bk : aB} {h : jH} (hI : lwI g n b0 b1 bk h) {x1 x2 x3 : Int32} : cpS l g n b0 b1 h 40 255 [.int x1, .int x2, .int x3] 0 0 true (k6 bk) := by
  obtain ⟨⟨v1, v2, v3, v4⟩, v5, v6, v7, v8⟩ := cw_8
  have hx_ := eu_504 (hlow 504 _ rfl) (hI.ok []) hI.2.2.2.1 (⟨i32_lo x1, i32_hi x1⟩) (⟨i32_lo x2, i32_hi x2⟩) (⟨i32_lo x3, i32_hi x3⟩)
  have hm_ : ∀ bk1 h1, hOK TTs g (EIm n) Kx_504.2.2.2.2.2.2.2.1 bk h bk1 h1 → bk1 1 = some b1 → _ := fun bk1 h1 k1 p1 => eu_665 (hlow 665 _ rfl) k1 p1 (⟨i32_lo x1, i32_hi x1⟩) (⟨i32_lo x2, i32_hi x2⟩) (⟨i32_lo x3, i32_hi x3⟩)
  by_cases g_0l : x1.toInt < 0
  · exact bad_pair hI (by decide) (by decide) hx_ hm_ (fun fsx q1 q2 q3 => xk_work_0l q1 q2 q3 (by omega)) (fun h1 fsm fr m1 m2 m3 m4 m5 => xr_work_0l m1 m2 m3 (by omega)) v1 v2 v3 v4 v5 v6 v7 v8
  by_cases g_0h : 11 < x1.toInt
  · exact bad_pair hI (by decide) (by decide) hx_ hm_ (fun fsx q1 q2 q3 => xk_work_0h q1 q2 q3 (by omega)) (fun h1 fsm fr m1 m2 m3 m4 m5 => xr_work_0h m1 m2 m3 (by omega)) v1 v2 v3 v4 v5 v6 v7 v8
  by_cases g_1l : x2.toInt < 0
  · exact bad_pair hI (by decide) (by decide) hx_ hm_ (fun fsx q1 q2 q3 => xk_work_1l q1 q2 q3 ⟨by omega, by omega⟩ (by omega)) (fun h1 fsm fr m1 m2 m3 m4 m5 => xr_work_1l m1 m2 m3 ⟨by omega, by omega⟩ (by omega)) v1 v2 v3 v4 v5 v6 v7 v8
  by_cases g_1h : 9999 < x2.toInt
  · exact bad_pair hI (by decide) (by decide) hx_ hm_ (fun fsx q1 q2 q3 => xk_work_1h q1 q2 q3 ⟨by omega, by omega⟩ (by omega)) (fun h1 fsm fr m1 m2 m3 m4 m5 => xr_work_1h m1 m2 m3 ⟨by omega, by omega⟩ (by omega)) v1 v2 v3 v4 v5 v6 v7 v8
  by_cases g_2l : x3.toInt < 0
  · exact bad_pair hI (by decide) (by decide) hx_ hm_ (fun fsx q1 q2 q3 => xk_work_2l q1 q2 q3 ⟨by omega, by omega⟩ ⟨by omega, by omega⟩ (by omega)) (fun h1 fsm fr m1 m2 m3 m4 m5 => xr_work_2l m1 m2 m3 ⟨by omega, by omega⟩ ⟨by omega, by omega⟩ (by omega)) v1 v2 v3 v4 v5 v6 v7 v8
  by_cases g_2h : 9999 < x3.toInt
  · exact bad_pair hI (by decide) (by decide) hx_ hm_ (fun fsx q1 q2 q3 => xk_work_2h q1 q2 q3 ⟨by omega, by omega⟩ ⟨by omega, by omega⟩ (by omega)) (fun h1 fsm fr m1 m2 m3 m4 m5 => xr_work_2h m1 m2 m3 ⟨by omega, by omega⟩ ⟨by omega, by omega⟩ (by omega)) v1 v2 v3 v4 v5 v6 v7 v8
  by_cases g_tf : x3.toInt < x2.toInt
  · exact bad_pair hI (by decide) (by decide) hx_ hm_ (fun fsx q1 q2 q3 => xk_work_tf q1 q2 q3 ⟨by omega, by omega⟩ ⟨by omega, by omega⟩ ⟨by omega, by omega⟩ (by omega)) (fun h1 fsm fr m1 m2 m3 m4 m5 => xr_work_tf m1 m2 m3 ⟨by omega, by omega⟩ ⟨by omega, by omega⟩ ⟨by omega, by omega⟩ (by omega)) v1 v2 v3 v4 v5 v6 v7 v8
  obtain ⟨fsx, hx, lx, rx, nx⟩ := k_obj (o := 0) (ci := 11) hI.1 hI.2.2.2.1 rfl
  obtain ⟨fss, hs, ls, rs, ns⟩ := k_obj (o := 1) (ci := 7) hI.1 hI.2.2.2.1 rfl
  obtain ⟨fsi, hi, li, ri, ni⟩ := k_obj (o := 30) (ci := 10) hI.1 hI.2.2.2.1 rfl
  obtain ⟨t, pi0, t1, t2⟩ := ni 0 (0) (8) (by decide +kernel)
  obtain ⟨fa, ha, -⟩ := k_arr (o := 31) hI.1 hI.2.2.2.1 rfl
  obtain ⟨fb, hb, -⟩ := k_arr (o := 32) hI.1 hI.2.2.2.1 rfl
  obtain ⟨fc, hc, -⟩ := k_arr (o := 33) hI.1 hI.2.2.2.1 rfl
  obtain ⟨nn, et⟩ : ∃ nn : Nat, t.toInt = (nn : Int) := ⟨t.toInt.toNat, by omega⟩
  by_cases g_full : nn = 8
  · exact bad_pair hI (by decide) (by decide) hx_ hm_ (fun fsx q1 q2 q3 => xk_work_full q1 q2 q3 hs (ls.trans (by decide +kernel)) (rs 16 30 (by decide +kernel)) hi (li.trans (by decide +kernel)) pi0 ⟨by omega, by omega⟩ ⟨by omega, by omega⟩ ⟨by omega, by omega⟩ (by omega) et ⟨by omega, by omega⟩) (fun h1 fsm fr m1 m2 m3 m4 m5 => xr_work_full m1 m2 m3 m4 ⟨by omega, by omega⟩ ⟨by omega, by omega⟩ ⟨by omega, by omega⟩ (by omega) et ⟨by omega, by omega⟩ (rl_num hI m5 (e := (30, 0, 1, 1, 8, 1, 0)) (by decide +kernel) rfl (i := 0) (by decide) (cv_fld hi pi0))) v1 v2 v3 v4 v5 v6 v7 v8
  refine ex_pair hI (by decide) (by decide) hx_ hm_ (xk_work_ok hx (lx.trans (by decide +kernel)) (rx 0 1 (by decide +kernel)) hs (ls.trans (by decide +kernel)) (rs 16 30 (by decide +kernel)) hi (li.trans (by decide +kernel)) pi0 (ri 2 31 (by decide +kernel)) (ri 3 32 (by decide +kernel)) (ri 4 33 (by decide +kernel)) ha hb hc ⟨by omega, by omega⟩ ⟨by omega, by omega⟩ ⟨by omega, by omega⟩ (by omega) et ⟨by omega, by omega⟩) (fun h1 fsm fr m1 m2 m3 m4 m5 => xr_work_ok m1 m2 m3 m4 ⟨by omega, by omega⟩ ⟨by omega, by omega⟩ ⟨by omega, by omega⟩ (by omega) et ⟨by omega, by omega⟩ (rl_num hI m5 (e := (30, 0, 1, 1, 8, 1, 0)) (by decide +kernel) rfl (i := 0) (by decide) (cv_fld hi pi0))) v1 v2 v3 v4 v5 v6 v7 v8 (fun v1 h1' hE => ?_)
  obtain ⟨r7, hr7, rfl, rfl⟩ := hE
  refine ⟨r7, rfl, fun hq1 fsm fr v2 h2' _ m4 hR m5 hE2 => ?_⟩
  obtain ⟨r22m, hr22m, rfl, rfl⟩ := hE2
  refine ⟨by rw [show r22m = r7 from i32_eq (by omega)], (upd (upd (upd (upd fr (5000 + (3 * nn)) x1) ((5000 + (3 * nn)) + 1) x2) ((5000 + (3 * nn)) + 2) x3) 8 r22m), ?_, fun e he => ?_⟩
  · rw [List.getElem?_set_ne (by omega)]
    exact List.getElem?_set_self (by simp only [List.length_set]; exact (List.getElem?_eq_some_iff.mp m4).1)
  have u : ∀ o, o ≠ 0 → o ≠ 30 → o ≠ 31 → o ≠ 32 → o ≠ 33 → o < 62 → (((((h.set (b0 + 31) (.inl (0, 8, (upd fa nn x1)))).set (b0 + 32) (.inl (0, 8, (upd fb nn x2)))).set (b0 + 33) (.inl (0, 8, (upd fc nn x3)))).set (b0 + 30) (.inr (10, (fsi.set 0 (.int r7))))).set (b0 + 0) (.inr (11, (fsx.set 7 (.int (Int32.ofInt 0))))))[b0 + o]? = h[b0 + o]? := fun o c0 c30 c31 c32 c33 c62 => by rw [List.getElem?_set_ne (by omega), List.getElem?_set_ne (by omega), List.getElem?_set_ne (by omega), List.getElem?_set_ne (by omega), List.getElem?_set_ne (by omega)]
  have w0 : (((((h.set (b0 + 31) (.inl (0, 8, (upd fa nn x1)))).set (b0 + 32) (.inl (0, 8, (upd fb nn x2)))).set (b0 + 33) (.inl (0, 8, (upd fc nn x3)))).set (b0 + 30) (.inr (10, (fsi.set 0 (.int r7))))).set (b0 + 0) (.inr (11, (fsx.set 7 (.int (Int32.ofInt 0))))))[b0 + 0]? = some (.inr (11, (fsx.set 7 (.int (Int32.ofInt 0))))) := by exact List.getElem?_set_self (by first | exact (List.getElem?_eq_some_iff.mp hx).1 | (simp only [List.length_set]; exact (List.getElem?_eq_some_iff.mp hx).1))
  have w30 : (((((h.set (b0 + 31) (.inl (0, 8, (upd fa nn x1)))).set (b0 + 32) (.inl (0, 8, (upd fb nn x2)))).set (b0 + 33) (.inl (0, 8, (upd fc nn x3)))).set (b0 + 30) (.inr (10, (fsi.set 0 (.int r7))))).set (b0 + 0) (.inr (11, (fsx.set 7 (.int (Int32.ofInt 0))))))[b0 + 30]? = some (.inr (10, (fsi.set 0 (.int r7)))) := by rw [List.getElem?_set_ne (by omega)]; exact List.getElem?_set_self (by first | exact (List.getElem?_eq_some_iff.mp hi).1 | (simp only [List.length_set]; exact (List.getElem?_eq_some_iff.mp hi).1))
  have w31 : (((((h.set (b0 + 31) (.inl (0, 8, (upd fa nn x1)))).set (b0 + 32) (.inl (0, 8, (upd fb nn x2)))).set (b0 + 33) (.inl (0, 8, (upd fc nn x3)))).set (b0 + 30) (.inr (10, (fsi.set 0 (.int r7))))).set (b0 + 0) (.inr (11, (fsx.set 7 (.int (Int32.ofInt 0))))))[b0 + 31]? = some (.inl (0, 8, (upd fa nn x1))) := by rw [List.getElem?_set_ne (by omega), List.getElem?_set_ne (by omega), List.getElem?_set_ne (by omega), List.getElem?_set_ne (by omega)]; exact List.getElem?_set_self (by first | exact (List.getElem?_eq_some_iff.mp ha).1 | (simp only [List.length_set]; exact (List.getElem?_eq_some_iff.mp ha).1))
  have w32 : (((((h.set (b0 + 31) (.inl (0, 8, (upd fa nn x1)))).set (b0 + 32) (.inl (0, 8, (upd fb nn x2)))).set (b0 + 33) (.inl (0, 8, (upd fc nn x3)))).set (b0 + 30) (.inr (10, (fsi.set 0 (.int r7))))).set (b0 + 0) (.inr (11, (fsx.set 7 (.int (Int32.ofInt 0))))))[b0 + 32]? = some (.inl (0, 8, (upd fb nn x2))) := by rw [List.getElem?_set_ne (by omega), List.getElem?_set_ne (by omega), List.getElem?_set_ne (by omega)]; exact List.getElem?_set_self (by first | exact (List.getElem?_eq_some_iff.mp hb).1 | (simp only [List.length_set]; exact (List.getElem?_eq_some_iff.mp hb).1))
  have w33 : (((((h.set (b0 + 31) (.inl (0, 8, (upd fa nn x1)))).set (b0 + 32) (.inl (0, 8, (upd fb nn x2)))).set (b0 + 33) (.inl (0, 8, (upd fc nn x3)))).set (b0 + 30) (.inr (10, (fsi.set 0 (.int r7))))).set (b0 + 0) (.inr (11, (fsx.set 7 (.int (Int32.ofInt 0))))))[b0 + 33]? = some (.inl (0, 8, (upd fc nn x3))) := by rw [List.getElem?_set_ne (by omega), List.getElem?_set_ne (by omega)]; exact List.getElem?_set_self (by first | exact (List.getElem?_eq_some_iff.mp hc).1 | (simp only [List.length_set]; exact (List.getElem?_eq_some_iff.mp hc).1))
  have he' := he
  simp only [rlE, List.mem_cons, List.not_mem_nil, or_false] at he'
  rcases he' with rfl | rfl | rfl | rfl | rfl | rfl | rfl | rfl | rfl | rfl | rfl | rfl
  · exact exR_un hR he (u 1 (by decide) (by decide) (by decide) (by decide) (by decide) (by decide)) (fun i hi => by
      have hi : i < 1 := hi
      show (upd (upd (upd (upd fr (5000 + (3 * nn)) x1) ((5000 + (3 * nn)) + 1) x2) ((5000 + (3 * nn)) + 2) x3) 8 r22m) (7 + 1 * i) = fr (7 + 1 * i)
      rw [upd_ne (by omega), upd_ne (by omega), upd_ne (by omega), upd_ne (by omega)])
  · refine ⟨ck_obj (o := 30) rfl w30, fun i hj => ?_⟩
    have hj : i < 1 := hj
    have i0 : i = 0 := by omega
    subst i0
    refine ⟨r7.toInt, cv_fld w30 (by show _[0]? = _; exact List.getElem?_set_self (by simp only [List.length_set, li]; decide +kernel)), ?_⟩
    show ((upd (upd (upd (upd fr (5000 + (3 * nn)) x1) ((5000 + (3 * nn)) + 1) x2) ((5000 + (3 * nn)) + 2) x3) 8 r22m) 8).toInt = r7.toInt
    rw [upd_eq]
    omega
  · exact exR_un hR he (u 37 (by decide) (by decide) (by decide) (by decide) (by decide) (by decide)) (fun i hi => by
      have hi : i < 1 := hi
      show (upd (upd (upd (upd fr (5000 + (3 * nn)) x1) ((5000 + (3 * nn)) + 1) x2) ((5000 + (3 * nn)) + 2) x3) 8 r22m) (3 + 1 * i) = fr (3 + 1 * i)
      rw [upd_ne (by omega), upd_ne (by omega), upd_ne (by omega), upd_ne (by omega)])
  · exact exR_un hR he (u 44 (by decide) (by decide) (by decide) (by decide) (by decide) (by decide)) (fun i hi => by
      have hi : i < 1 := hi
      show (upd (upd (upd (upd fr (5000 + (3 * nn)) x1) ((5000 + (3 * nn)) + 1) x2) ((5000 + (3 * nn)) + 2) x3) 8 r22m) (5 + 1 * i) = fr (5 + 1 * i)
      rw [upd_ne (by omega), upd_ne (by omega), upd_ne (by omega), upd_ne (by omega)])
  · exact exR_un hR he (u 37 (by decide) (by decide) (by decide) (by decide) (by decide) (by decide)) (fun i hi => by
      have hi : i < 1 := hi
      show (upd (upd (upd (upd fr (5000 + (3 * nn)) x1) ((5000 + (3 * nn)) + 1) x2) ((5000 + (3 * nn)) + 2) x3) 8 r22m) (4 + 1 * i) = fr (4 + 1 * i)
      rw [upd_ne (by omega), upd_ne (by omega), upd_ne (by omega), upd_ne (by omega)])
  · exact exR_un hR he (u 23 (by decide) (by decide) (by decide) (by decide) (by decide) (by decide)) (fun i hi => by
      have hi : i < 12 := hi
      show (upd (upd (upd (upd fr (5000 + (3 * nn)) x1) ((5000 + (3 * nn)) + 1) x2) ((5000 + (3 * nn)) + 2) x3) 8 r22m) (52 + 1 * i) = fr (52 + 1 * i)
      rw [upd_ne (by omega), upd_ne (by omega), upd_ne (by omega), upd_ne (by omega)])
  · exact exR_un hR he (u 24 (by decide) (by decide) (by decide) (by decide) (by decide) (by decide)) (fun i hi => by
      have hi : i < 12 := hi
      show (upd (upd (upd (upd fr (5000 + (3 * nn)) x1) ((5000 + (3 * nn)) + 1) x2) ((5000 + (3 * nn)) + 2) x3) 8 r22m) (64 + 1 * i) = fr (64 + 1 * i)
      rw [upd_ne (by omega), upd_ne (by omega), upd_ne (by omega), upd_ne (by omega)])
  · exact exR_un hR he (u 25 (by decide) (by decide) (by decide) (by decide) (by decide) (by decide)) (fun i hi => by
      have hi : i < 12 := hi
      show (upd (upd (upd (upd fr (5000 + (3 * nn)) x1) ((5000 + (3 * nn)) + 1) x2) ((5000 + (3 * nn)) + 2) x3) 8 r22m) (5030 + 1 * i) = fr (5030 + 1 * i)
      rw [upd_ne (by omega), upd_ne (by omega), upd_ne (by omega), upd_ne (by omega)])
  · exact exR_un hR he (u 28 (by decide) (by decide) (by decide) (by decide) (by decide) (by decide)) (fun i hi => by
      have hi : i < 3 := hi
      show (upd (upd (upd (upd fr (5000 + (3 * nn)) x1) ((5000 + (3 * nn)) + 1) x2) ((5000 + (3 * nn)) + 2) x3) 8 r22m) (76 + 1 * i) = fr (76 + 1 * i)
      rw [upd_ne (by omega), upd_ne (by omega), upd_ne (by omega), upd_ne (by omega)])
  · exact exR_un hR he (u 29 (by decide) (by decide) (by decide) (by decide) (by decide) (by decide)) (fun i hi => by
      have hi : i < 300 := hi
      show (upd (upd (upd (upd fr (5000 + (3 * nn)) x1) ((5000 + (3 * nn)) + 1) x2) ((5000 + (3 * nn)) + 2) x3) 8 r22m) (80 + 1 * i) = fr (80 + 1 * i)
      rw [upd_ne (by omega), upd_ne (by omega), upd_ne (by omega), upd_ne (by omega)])
  · exact exR_un hR he (u 41 (by decide) (by decide) (by decide) (by decide) (by decide) (by decide)) (fun i hi => by
      have hi : i < 16 := hi
      show (upd (upd (upd (upd fr (5000 + (3 * nn)) x1) ((5000 + (3 * nn)) + 1) x2) ((5000 + (3 * nn)) + 2) x3) 8 r22m) (456 + 3 * i) = fr (456 + 3 * i)
      rw [upd_ne (by omega), upd_ne (by omega), upd_ne (by omega), upd_ne (by omega)])
  · exact exR_un hR he (u 2 (by decide) (by decide) (by decide) (by decide) (by decide) (by decide)) (fun i hi => by
      have hi : i < 8 := hi
      show (upd (upd (upd (upd fr (5000 + (3 * nn)) x1) ((5000 + (3 * nn)) + 1) x2) ((5000 + (3 * nn)) + 2) x3) 8 r22m) (30 + 1 * i) = fr (30 + 1 * i)
      rw [upd_ne (by omega), upd_ne (by omega), upd_ne (by omega), upd_ne (by omega)])
end QG
