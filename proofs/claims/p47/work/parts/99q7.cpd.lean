/-! call pairs by exact walks (written by wip/groupB/gen_q4.py) -/
section QH
variable {l : Launch} {g : jG} {n : Int}
theorem eu_492 (hk : kOK TTs g (EIm n) l Kx_492) {W0 : List aR} {bk0 bk : aB} {h0 h : jH} (hO : hOK TTs g (EIm n) W0 bk0 h0 bk h) {a0 : Nat} (ha0 : bk 0 = some a0) {x1 : Int32} (hx1 : (-2147483648 : Int) ≤ x1.toInt ∧ x1.toInt ≤ 2147483647) {x2 : Int32} (hx2 : (-2147483648 : Int) ≤ x2.toInt ∧ x2.toInt ≤ 2147483647) {x3 : Int32} (hx3 : (-2147483648 : Int) ≤ x3.toInt ∧ x3.toInt ≤ 2147483647) :
    jCal l g 130 2 [.ref (g.2.2 + (a0 + 0)), .int x1, .int x2, .int x3] h 0 0 (kPost TTs g (EIm n) Kx_492 bk h [x1.toInt, x2.toInt, x3.toInt]) := by
  refine hk bk h [.ref (g.2.2 + (a0 + 0)), .int x1, .int x2, .int x3] [x1.toInt, x2.toInt, x3.toInt] hO.1 hO.2.1 hO.2.2.1 hO.2.2.2.2.2 (show 4 ≤ jmx 130 by decide +kernel) rfl (fun q hq => ?_) ⟨⟨rfl, fun i e z he hz => ?_⟩, eFm_plain (plain_app (spEnv_plain _) clEnv_plain), fun F hF => absurd hF List.not_mem_nil, fun i v hv => ?_, trivial, fun q hq => ?_, fun B hB => absurd hB List.not_mem_nil⟩
  · have hq : q ∈ ([] : List (Nat × Int × Nat)) := hq
    exact absurd hq List.not_mem_nil
  · match i, he, hz with
    | 0, he, hz => cases he; cases hz; exact hx1
    | 1, he, hz => cases he; cases hz; exact hx2
    | 2, he, hz => cases he; cases hz; exact hx3
    | i + 3, he, _ => cases he
  · match i, hv with
    | 0, hv => cases hv; exact ⟨_, rfl, a0, ha0, rfl⟩
    | 1, hv => cases hv; exact ⟨_, rfl, x1, rfl, rfl⟩
    | 2, hv => cases hv; exact ⟨_, rfl, x2, rfl, rfl⟩
    | 3, hv => cases hv; exact ⟨_, rfl, x3, rfl, rfl⟩
    | i + 4, hv => cases hv
  · exact absurd hq List.not_mem_nil
theorem eu_653 (hk : kOK TTs g (EIm n) l Kx_653) {W0 : List aR} {bk0 bk : aB} {h0 h : jH} (hO : hOK TTs g (EIm n) W0 bk0 h0 bk h) {a1 : Nat} (ha1 : bk 1 = some a1) {x1 : Int32} (hx1 : (-2147483648 : Int) ≤ x1.toInt ∧ x1.toInt ≤ 2147483647) {x2 : Int32} (hx2 : (-2147483648 : Int) ≤ x2.toInt ∧ x2.toInt ≤ 2147483647) {x3 : Int32} (hx3 : (-2147483648 : Int) ≤ x3.toInt ∧ x3.toInt ≤ 2147483647) :
    jCal l g 280 3 [.ref (g.2.2 + (a1 + 0)), .int x1, .int x2, .int x3] h 0 0 (kPost TTs g (EIm n) Kx_653 bk h [x1.toInt, x2.toInt, x3.toInt]) := by
  refine hk bk h [.ref (g.2.2 + (a1 + 0)), .int x1, .int x2, .int x3] [x1.toInt, x2.toInt, x3.toInt] hO.1 hO.2.1 hO.2.2.1 hO.2.2.2.2.2 (show 4 ≤ jmx 280 by decide +kernel) rfl (fun q hq => ?_) ⟨⟨rfl, fun i e z he hz => ?_⟩, eFm_plain (plain_app (spEnv_plain _) clEnv_plain), fun F hF => absurd hF List.not_mem_nil, fun i v hv => ?_, trivial, fun q hq => ?_, fun B hB => absurd hB List.not_mem_nil⟩
  · have hq : q ∈ ([] : List (Nat × Int × Nat)) := hq
    exact absurd hq List.not_mem_nil
  · match i, he, hz with
    | 0, he, hz => cases he; cases hz; exact hx1
    | 1, he, hz => cases he; cases hz; exact hx2
    | 2, he, hz => cases he; cases hz; exact hx3
    | i + 3, he, _ => cases he
  · match i, hv with
    | 0, hv => cases hv; exact ⟨_, rfl, a1, ha1, rfl⟩
    | 1, hv => cases hv; exact ⟨_, rfl, x1, rfl, rfl⟩
    | 2, hv => cases hv; exact ⟨_, rfl, x2, rfl, rfl⟩
    | 3, hv => cases hv; exact ⟨_, rfl, x3, rfl, rfl⟩
    | i + 4, hv => cases hv
  · exact absurd hq List.not_mem_nil
theorem cw_31 : (apW Kx_492.2.2.2.2.2.2.2.1 [(1, 1, 1, 1)] = true ∧ apW Kx_492.2.2.2.2.2.2.2.1 [(1, 1, 5066, 5066)] = true ∧ apW Kx_653.2.2.2.2.2.2.2.1 [(1, 1, 1, 1)] = true ∧ apW Kx_653.2.2.2.2.2.2.2.1 [(1, 1, 5066, 5066)] = true) ∧ (apW Kx_492.2.2.2.2.2.2.2.1 rlFI = true ∧ apW Kx_653.2.2.2.2.2.2.2.1 rlFI = true ∧ apW Kx_492.2.2.2.2.2.2.2.1 [(1, 1, 0, 5269)] = true ∧ rlE.all (fun e => apW Kx_653.2.2.2.2.2.2.2.1 [rlX 0 0 e]) = true) := by decide +kernel
set_option maxRecDepth 16384 in
set_option maxHeartbeats 4000000 in
theorem cp_31 (hlow : ∀ (k : Nat) (K : aK), KTx[k]? = some K → kOK TTs g (EIm n) l K) {b0 b1 : Nat} {bk : aB} {h : jH} (hI : lwI g n b0 b1 bk h) {x1 x2 x3 : Int32} : cpS l g n b0 b1 h 130 280 [.int x1, .int x2, .int x3] 0 0 true (k6 bk) := by
  obtain ⟨⟨v1, v2, v3, v4⟩, v5, v6, v7, v8⟩ := cw_31
  have hx_ := eu_492 (hlow 492 _ rfl) (hI.ok []) hI.2.2.2.1 (⟨i32_lo x1, i32_hi x1⟩) (⟨i32_lo x2, i32_hi x2⟩) (⟨i32_lo x3, i32_hi x3⟩)
  have hm_ : ∀ bk1 h1, hOK TTs g (EIm n) Kx_492.2.2.2.2.2.2.2.1 bk h bk1 h1 → bk1 1 = some b1 → _ := fun bk1 h1 k1 p1 => eu_653 (hlow 653 _ rfl) k1 p1 (⟨i32_lo x1, i32_hi x1⟩) (⟨i32_lo x2, i32_hi x2⟩) (⟨i32_lo x3, i32_hi x3⟩)
  by_cases g_bl : x2.toInt < -1
  · exact bad_pair hI (by decide) (by decide) hx_ hm_ (fun fsx q1 q2 q3 => xk_start_bl q1 q2 q3 (by omega)) (fun h1 fsm fr m1 m2 m3 m4 m5 => xr_start_bl m1 m2 m3 (by omega)) v1 v2 v3 v4 v5 v6 v7 v8
  by_cases g_bh : 11 < x2.toInt
  · exact bad_pair hI (by decide) (by decide) hx_ hm_ (fun fsx q1 q2 q3 => xk_start_bh q1 q2 q3 (by omega)) (fun h1 fsm fr m1 m2 m3 m4 m5 => xr_start_bh m1 m2 m3 (by omega)) v1 v2 v3 v4 v5 v6 v7 v8
  by_cases g_ml : x3.toInt < 0
  · exact bad_pair hI (by decide) (by decide) hx_ hm_ (fun fsx q1 q2 q3 => by
      by_cases q : x2.toInt = -1
      · exact xk_start_mln q1 q2 q3 (by omega) (by omega)
      · exact xk_start_mlp q1 q2 q3 ⟨by omega, by omega⟩ (by omega)) (fun h1 fsm fr m1 m2 m3 m4 m5 => xr_start_ml m1 m2 m3 ⟨by omega, by omega⟩ (by omega)) v1 v2 v3 v4 v5 v6 v7 v8
  by_cases g_mh : 9999 < x3.toInt
  · exact bad_pair hI (by decide) (by decide) hx_ hm_ (fun fsx q1 q2 q3 => by
      by_cases q : x2.toInt = -1
      · exact xk_start_mhn q1 q2 q3 (by omega) (by omega)
      · exact xk_start_mhp q1 q2 q3 ⟨by omega, by omega⟩ (by omega)) (fun h1 fsm fr m1 m2 m3 m4 m5 => xr_start_mh m1 m2 m3 ⟨by omega, by omega⟩ (by omega)) v1 v2 v3 v4 v5 v6 v7 v8
  obtain ⟨fsx, hx, lx, rx, nx⟩ := k_obj (o := 0) (ci := 11) hI.1 hI.2.2.2.1 rfl
  obtain ⟨fss, hs, ls, rs, ns⟩ := k_obj (o := 1) (ci := 7) hI.1 hI.2.2.2.1 rfl
  obtain ⟨fsi, hi, li, ri, ni⟩ := k_obj (o := 37) (ci := 6) hI.1 hI.2.2.2.1 rfl
  obtain ⟨t, pi0, t1, t2⟩ := ni 0 (0) (3) (by decide +kernel)
  obtain ⟨s4, pi4, s41, s42⟩ := ni 4 (0) (16) (by decide +kernel)
  obtain ⟨nn, et⟩ : ∃ nn : Nat, t.toInt = (nn : Int) := ⟨t.toInt.toNat, by omega⟩
  by_cases g_tl : x1.toInt < 0
  · exact bad_pair hI (by decide) (by decide) hx_ hm_ (fun fsx q1 q2 q3 => by
      by_cases q : x2.toInt = -1
      · exact xk_start_tln q1 q2 q3 (by omega) ⟨by omega, by omega⟩ (by omega)
      · exact xk_start_tlp q1 q2 q3 ⟨by omega, by omega⟩ ⟨by omega, by omega⟩ (by omega)) (fun h1 fsm fr m1 m2 m3 m4 m5 => xr_start_tl m1 m2 m3 m4 ⟨by omega, by omega⟩ ⟨by omega, by omega⟩ (by omega) et ⟨by omega, by omega⟩ (rl_num hI m5 (e := (37, 0, 1, 1, 3, 1, 0)) (by decide +kernel) rfl (i := 0) (by decide) (cv_fld hi pi0))) v1 v2 v3 v4 v5 v6 v7 v8
  by_cases g_th : (nn : Int) ≤ x1.toInt
  · exact bad_pair hI (by decide) (by decide) hx_ hm_ (fun fsx q1 q2 q3 => by
      by_cases q : x2.toInt = -1
      · exact xk_start_thn q1 q2 q3 hs (ls.trans (by decide +kernel)) (rs 18 37 (by decide +kernel)) hi (li.trans (by decide +kernel)) pi0 (by omega) ⟨by omega, by omega⟩ (by omega) et ⟨by omega, by omega⟩
      · exact xk_start_thp q1 q2 q3 hs (ls.trans (by decide +kernel)) (rs 18 37 (by decide +kernel)) hi (li.trans (by decide +kernel)) pi0 ⟨by omega, by omega⟩ ⟨by omega, by omega⟩ (by omega) et ⟨by omega, by omega⟩) (fun h1 fsm fr m1 m2 m3 m4 m5 => xr_start_th m1 m2 m3 m4 ⟨by omega, by omega⟩ ⟨by omega, by omega⟩ (by omega) et ⟨by omega, by omega⟩ (rl_num hI m5 (e := (37, 0, 1, 1, 3, 1, 0)) (by decide +kernel) rfl (i := 0) (by decide) (cv_fld hi pi0))) v1 v2 v3 v4 v5 v6 v7 v8
  obtain ⟨fb, hb, -⟩ := k_arr (o := 39) hI.1 hI.2.2.2.1 rfl
  obtain ⟨fc, hc, -⟩ := k_arr (o := 40) hI.1 hI.2.2.2.1 rfl
  obtain ⟨am, ua, hM⟩ := men_of hI.1 hI.2.1 hI.2.2.2.1 hx
  obtain ⟨c, e1⟩ : ∃ c : Nat, x1.toInt = (c : Int) := ⟨x1.toInt.toNat, by omega⟩
  have ex : jCal l g 130 2 [.ref (g.2.2 + (b0 + 0)), .int x1, .int x2, .int x3] h 0 0 (fun v h' => ∃ hv16, FgM (am + 0) ((h.set (b0 + 39) (.inl (0, 3, (upd fb c x2)))).set (b0 + 40) (.inl (0, 3, (upd fc c x3)))) hv16 ∧ v = some (.int (Int32.ofInt 0)) ∧ h' = (hv16.set (b0 + 0) (.inr (11, (fsx.set 7 (.int (Int32.ofInt 0))))))) := by
    by_cases q : x2.toInt = -1
    · exact xk_start_okn hx (lx.trans (by decide +kernel)) (rx 0 1 (by decide +kernel)) hs (ls.trans (by decide +kernel)) (rs 18 37 (by decide +kernel)) hi (li.trans (by decide +kernel)) pi0 (ri 2 39 (by decide +kernel)) (ri 3 40 (by decide +kernel)) hb hc (by omega) ⟨by omega, by omega⟩ e1 (by omega) et ⟨by omega, by omega⟩ ua hM
    · exact xk_start_okp hx (lx.trans (by decide +kernel)) (rx 0 1 (by decide +kernel)) hs (ls.trans (by decide +kernel)) (rs 18 37 (by decide +kernel)) hi (li.trans (by decide +kernel)) pi0 (ri 2 39 (by decide +kernel)) (ri 3 40 (by decide +kernel)) hb hc ⟨by omega, by omega⟩ ⟨by omega, by omega⟩ e1 (by omega) et ⟨by omega, by omega⟩ ua hM
  refine ex_pair hI (by decide) (by decide) hx_ hm_ ex (fun h1 fsm fr m1 m2 m3 m4 m5 => xr_start_ok m1 m2 m3 m4 ⟨by omega, by omega⟩ ⟨by omega, by omega⟩ e1 (by omega) et ⟨by omega, by omega⟩ (rl_num hI m5 (e := (37, 0, 1, 1, 3, 1, 0)) (by decide +kernel) rfl (i := 0) (by decide) (cv_fld hi pi0))) v1 v2 v3 v4 v5 v6 v7 v8 (fun v1 h1' hE => ?_)
  obtain ⟨hv16, hF, rfl, rfl⟩ := hE
  refine ⟨(Int32.ofInt 0), rfl, fun hq1 fsm fr v2 h2' _ m4 hR m5 hE2 => ?_⟩
  obtain ⟨rfl, rfl⟩ := hE2
  refine ⟨by rw [show (Int32.ofInt 0) = (Int32.ofInt 0) from rfl], (upd (upd fr (5024 + (2 * c)) x2) ((5024 + (2 * c)) + 1) x3), ?_, fun e he => ?_⟩
  · rw [List.getElem?_set_ne (by omega)]
    exact List.getElem?_set_self (by simp only [List.length_set]; exact (List.getElem?_eq_some_iff.mp m4).1)
  have u : ∀ o, o ≠ 0 → o ≠ 39 → o ≠ 40 → o < 62 → (hv16.set (b0 + 0) (.inr (11, (fsx.set 7 (.int (Int32.ofInt 0))))))[b0 + o]? = h[b0 + o]? := fun o c0 c39 c40 c62 => by rw [List.getElem?_set_ne (by omega), hF _ (Ne.symm (ua _ c62)), List.getElem?_set_ne (by omega), List.getElem?_set_ne (by omega)]
  have w0 : (hv16.set (b0 + 0) (.inr (11, (fsx.set 7 (.int (Int32.ofInt 0))))))[b0 + 0]? = some (.inr (11, (fsx.set 7 (.int (Int32.ofInt 0))))) := by exact List.getElem?_set_self (by first | exact (List.getElem?_eq_some_iff.mp ((hF _ (Ne.symm (ua 0 (by decide)))).trans (by rw [List.getElem?_set_ne (by omega), List.getElem?_set_ne (by omega)]; exact hx))).1 | (simp only [List.length_set]; exact (List.getElem?_eq_some_iff.mp ((hF _ (Ne.symm (ua 0 (by decide)))).trans (by rw [List.getElem?_set_ne (by omega), List.getElem?_set_ne (by omega)]; exact hx))).1))
  have w39 : (hv16.set (b0 + 0) (.inr (11, (fsx.set 7 (.int (Int32.ofInt 0))))))[b0 + 39]? = some (.inl (0, 3, (upd fb c x2))) := by rw [List.getElem?_set_ne (by omega), hF _ (Ne.symm (ua 39 (by decide))), List.getElem?_set_ne (by omega)]; exact List.getElem?_set_self (by first | exact (List.getElem?_eq_some_iff.mp hb).1 | (simp only [List.length_set]; exact (List.getElem?_eq_some_iff.mp hb).1))
  have w40 : (hv16.set (b0 + 0) (.inr (11, (fsx.set 7 (.int (Int32.ofInt 0))))))[b0 + 40]? = some (.inl (0, 3, (upd fc c x3))) := by rw [List.getElem?_set_ne (by omega), hF _ (Ne.symm (ua 40 (by decide)))]; exact List.getElem?_set_self (by first | exact (List.getElem?_eq_some_iff.mp hc).1 | (simp only [List.length_set]; exact (List.getElem?_eq_some_iff.mp hc).1))
  have he' := he
  simp only [rlE, List.mem_cons, List.not_mem_nil, or_false] at he'
  rcases he' with rfl | rfl | rfl | rfl | rfl | rfl | rfl | rfl | rfl | rfl | rfl | rfl
  · exact exR_un hR he (u 1 (by decide) (by decide) (by decide) (by decide)) (fun i hi => by
      have hi : i < 1 := hi
      show (upd (upd fr (5024 + (2 * c)) x2) ((5024 + (2 * c)) + 1) x3) (7 + 1 * i) = fr (7 + 1 * i)
      rw [upd_ne (by omega), upd_ne (by omega)])
  · exact exR_un hR he (u 30 (by decide) (by decide) (by decide) (by decide)) (fun i hi => by
      have hi : i < 1 := hi
      show (upd (upd fr (5024 + (2 * c)) x2) ((5024 + (2 * c)) + 1) x3) (8 + 1 * i) = fr (8 + 1 * i)
      rw [upd_ne (by omega), upd_ne (by omega)])
  · exact exR_un hR he (u 37 (by decide) (by decide) (by decide) (by decide)) (fun i hi => by
      have hi : i < 1 := hi
      show (upd (upd fr (5024 + (2 * c)) x2) ((5024 + (2 * c)) + 1) x3) (3 + 1 * i) = fr (3 + 1 * i)
      rw [upd_ne (by omega), upd_ne (by omega)])
  · exact exR_un hR he (u 44 (by decide) (by decide) (by decide) (by decide)) (fun i hi => by
      have hi : i < 1 := hi
      show (upd (upd fr (5024 + (2 * c)) x2) ((5024 + (2 * c)) + 1) x3) (5 + 1 * i) = fr (5 + 1 * i)
      rw [upd_ne (by omega), upd_ne (by omega)])
  · exact exR_un hR he (u 37 (by decide) (by decide) (by decide) (by decide)) (fun i hi => by
      have hi : i < 1 := hi
      show (upd (upd fr (5024 + (2 * c)) x2) ((5024 + (2 * c)) + 1) x3) (4 + 1 * i) = fr (4 + 1 * i)
      rw [upd_ne (by omega), upd_ne (by omega)])
  · exact exR_un hR he (u 23 (by decide) (by decide) (by decide) (by decide)) (fun i hi => by
      have hi : i < 12 := hi
      show (upd (upd fr (5024 + (2 * c)) x2) ((5024 + (2 * c)) + 1) x3) (52 + 1 * i) = fr (52 + 1 * i)
      rw [upd_ne (by omega), upd_ne (by omega)])
  · exact exR_un hR he (u 24 (by decide) (by decide) (by decide) (by decide)) (fun i hi => by
      have hi : i < 12 := hi
      show (upd (upd fr (5024 + (2 * c)) x2) ((5024 + (2 * c)) + 1) x3) (64 + 1 * i) = fr (64 + 1 * i)
      rw [upd_ne (by omega), upd_ne (by omega)])
  · exact exR_un hR he (u 25 (by decide) (by decide) (by decide) (by decide)) (fun i hi => by
      have hi : i < 12 := hi
      show (upd (upd fr (5024 + (2 * c)) x2) ((5024 + (2 * c)) + 1) x3) (5030 + 1 * i) = fr (5030 + 1 * i)
      rw [upd_ne (by omega), upd_ne (by omega)])
  · exact exR_un hR he (u 28 (by decide) (by decide) (by decide) (by decide)) (fun i hi => by
      have hi : i < 3 := hi
      show (upd (upd fr (5024 + (2 * c)) x2) ((5024 + (2 * c)) + 1) x3) (76 + 1 * i) = fr (76 + 1 * i)
      rw [upd_ne (by omega), upd_ne (by omega)])
  · exact exR_un hR he (u 29 (by decide) (by decide) (by decide) (by decide)) (fun i hi => by
      have hi : i < 300 := hi
      show (upd (upd fr (5024 + (2 * c)) x2) ((5024 + (2 * c)) + 1) x3) (80 + 1 * i) = fr (80 + 1 * i)
      rw [upd_ne (by omega), upd_ne (by omega)])
  · exact exR_un hR he (u 41 (by decide) (by decide) (by decide) (by decide)) (fun i hi => by
      have hi : i < 16 := hi
      show (upd (upd fr (5024 + (2 * c)) x2) ((5024 + (2 * c)) + 1) x3) (456 + 3 * i) = fr (456 + 3 * i)
      rw [upd_ne (by omega), upd_ne (by omega)])
  · exact exR_un hR he (u 2 (by decide) (by decide) (by decide) (by decide)) (fun i hi => by
      have hi : i < 8 := hi
      show (upd (upd fr (5024 + (2 * c)) x2) ((5024 + (2 * c)) + 1) x3) (30 + 1 * i) = fr (30 + 1 * i)
      rw [upd_ne (by omega), upd_ne (by omega)])
theorem eu_488 (hk : kOK TTs g (EIm n) l Kx_488) {W0 : List aR} {bk0 bk : aB} {h0 h : jH} (hO : hOK TTs g (EIm n) W0 bk0 h0 bk h) {a0 : Nat} (ha0 : bk 0 = some a0) {x1 : Int32} (hx1 : (-2147483648 : Int) ≤ x1.toInt ∧ x1.toInt ≤ 2147483647) {x2 : Int32} (hx2 : (-2147483648 : Int) ≤ x2.toInt ∧ x2.toInt ≤ 2147483647) {x3 : Int32} (hx3 : (-2147483648 : Int) ≤ x3.toInt ∧ x3.toInt ≤ 2147483647) :
    jCal l g 131 2 [.ref (g.2.2 + (a0 + 0)), .int x1, .int x2, .int x3] h 0 0 (kPost TTs g (EIm n) Kx_488 bk h [x1.toInt, x2.toInt, x3.toInt]) := by
  refine hk bk h [.ref (g.2.2 + (a0 + 0)), .int x1, .int x2, .int x3] [x1.toInt, x2.toInt, x3.toInt] hO.1 hO.2.1 hO.2.2.1 hO.2.2.2.2.2 (show 4 ≤ jmx 131 by decide +kernel) rfl (fun q hq => ?_) ⟨⟨rfl, fun i e z he hz => ?_⟩, eFm_plain (plain_app (spEnv_plain _) clEnv_plain), fun F hF => absurd hF List.not_mem_nil, fun i v hv => ?_, trivial, fun q hq => ?_, fun B hB => absurd hB List.not_mem_nil⟩
  · have hq : q ∈ ([] : List (Nat × Int × Nat)) := hq
    exact absurd hq List.not_mem_nil
  · match i, he, hz with
    | 0, he, hz => cases he; cases hz; exact hx1
    | 1, he, hz => cases he; cases hz; exact hx2
    | 2, he, hz => cases he; cases hz; exact hx3
    | i + 3, he, _ => cases he
  · match i, hv with
    | 0, hv => cases hv; exact ⟨_, rfl, a0, ha0, rfl⟩
    | 1, hv => cases hv; exact ⟨_, rfl, x1, rfl, rfl⟩
    | 2, hv => cases hv; exact ⟨_, rfl, x2, rfl, rfl⟩
    | 3, hv => cases hv; exact ⟨_, rfl, x3, rfl, rfl⟩
    | 4, hv => cases hv
    | i + 5, hv => cases hv
  · exact absurd hq List.not_mem_nil
theorem eu_649 (hk : kOK TTs g (EIm n) l Kx_649) {W0 : List aR} {bk0 bk : aB} {h0 h : jH} (hO : hOK TTs g (EIm n) W0 bk0 h0 bk h) {a1 : Nat} (ha1 : bk 1 = some a1) {x1 : Int32} (hx1 : (-2147483648 : Int) ≤ x1.toInt ∧ x1.toInt ≤ 2147483647) {x2 : Int32} (hx2 : (-2147483648 : Int) ≤ x2.toInt ∧ x2.toInt ≤ 2147483647) {x3 : Int32} (hx3 : (-2147483648 : Int) ≤ x3.toInt ∧ x3.toInt ≤ 2147483647) :
    jCal l g 281 3 [.ref (g.2.2 + (a1 + 0)), .int x1, .int x2, .int x3] h 0 0 (kPost TTs g (EIm n) Kx_649 bk h [x1.toInt, x2.toInt, x3.toInt]) := by
  refine hk bk h [.ref (g.2.2 + (a1 + 0)), .int x1, .int x2, .int x3] [x1.toInt, x2.toInt, x3.toInt] hO.1 hO.2.1 hO.2.2.1 hO.2.2.2.2.2 (show 4 ≤ jmx 281 by decide +kernel) rfl (fun q hq => ?_) ⟨⟨rfl, fun i e z he hz => ?_⟩, eFm_plain (plain_app (spEnv_plain _) clEnv_plain), fun F hF => absurd hF List.not_mem_nil, fun i v hv => ?_, trivial, fun q hq => ?_, fun B hB => absurd hB List.not_mem_nil⟩
  · have hq : q ∈ ([] : List (Nat × Int × Nat)) := hq
    exact absurd hq List.not_mem_nil
  · match i, he, hz with
    | 0, he, hz => cases he; cases hz; exact hx1
    | 1, he, hz => cases he; cases hz; exact hx2
    | 2, he, hz => cases he; cases hz; exact hx3
    | i + 3, he, _ => cases he
  · match i, hv with
    | 0, hv => cases hv; exact ⟨_, rfl, a1, ha1, rfl⟩
    | 1, hv => cases hv; exact ⟨_, rfl, x1, rfl, rfl⟩
    | 2, hv => cases hv; exact ⟨_, rfl, x2, rfl, rfl⟩
    | 3, hv => cases hv; exact ⟨_, rfl, x3, rfl, rfl⟩
    | 4, hv => cases hv
    | i + 5, hv => cases hv
  · exact absurd hq List.not_mem_nil
theorem cw_32 : (apW Kx_488.2.2.2.2.2.2.2.1 [(1, 1, 1, 1)] = true ∧ apW Kx_488.2.2.2.2.2.2.2.1 [(1, 1, 5066, 5066)] = true ∧ apW Kx_649.2.2.2.2.2.2.2.1 [(1, 1, 1, 1)] = true ∧ apW Kx_649.2.2.2.2.2.2.2.1 [(1, 1, 5066, 5066)] = true) ∧ (apW Kx_488.2.2.2.2.2.2.2.1 rlFI = true ∧ apW Kx_649.2.2.2.2.2.2.2.1 rlFI = true ∧ apW Kx_488.2.2.2.2.2.2.2.1 [(1, 1, 0, 5269)] = true ∧ rlE.all (fun e => apW Kx_649.2.2.2.2.2.2.2.1 [rlX 0 0 e]) = true) := by decide +kernel
set_option maxRecDepth 16384 in
set_option maxHeartbeats 4000000 in
theorem cp_32 (hlow : ∀ (k : Nat) (K : aK), KTx[k]? = some K → kOK TTs g (EIm n) l K) {b0 b1 : Nat} {bk : aB} {h : jH} (hI : lwI g n b0 b1 bk h) {x1 x2 x3 : Int32} : cpS l g n b0 b1 h 131 281 [.int x1, .int x2, .int x3] 0 0 true (k6 bk) := by
  obtain ⟨⟨v1, v2, v3, v4⟩, v5, v6, v7, v8⟩ := cw_32
  have hx_ := eu_488 (hlow 488 _ rfl) (hI.ok []) hI.2.2.2.1 (⟨i32_lo x1, i32_hi x1⟩) (⟨i32_lo x2, i32_hi x2⟩) (⟨i32_lo x3, i32_hi x3⟩)
  have hm_ : ∀ bk1 h1, hOK TTs g (EIm n) Kx_488.2.2.2.2.2.2.2.1 bk h bk1 h1 → bk1 1 = some b1 → _ := fun bk1 h1 k1 p1 => eu_649 (hlow 649 _ rfl) k1 p1 (⟨i32_lo x1, i32_hi x1⟩) (⟨i32_lo x2, i32_hi x2⟩) (⟨i32_lo x3, i32_hi x3⟩)
  by_cases g_0l : x1.toInt < 0
  · exact bad_pair hI (by decide) (by decide) hx_ hm_ (fun fsx q1 q2 q3 => xk_see_0l q1 q2 q3 (by omega)) (fun h1 fsm fr m1 m2 m3 m4 m5 => xr_see_0l m1 m2 m3 (by omega)) v1 v2 v3 v4 v5 v6 v7 v8
  by_cases g_0h : 9999 < x1.toInt
  · exact bad_pair hI (by decide) (by decide) hx_ hm_ (fun fsx q1 q2 q3 => xk_see_0h q1 q2 q3 (by omega)) (fun h1 fsm fr m1 m2 m3 m4 m5 => xr_see_0h m1 m2 m3 (by omega)) v1 v2 v3 v4 v5 v6 v7 v8
  by_cases g_1l : x2.toInt < 0
  · exact bad_pair hI (by decide) (by decide) hx_ hm_ (fun fsx q1 q2 q3 => xk_see_1l q1 q2 q3 ⟨by omega, by omega⟩ (by omega)) (fun h1 fsm fr m1 m2 m3 m4 m5 => xr_see_1l m1 m2 m3 ⟨by omega, by omega⟩ (by omega)) v1 v2 v3 v4 v5 v6 v7 v8
  by_cases g_1h : 11 < x2.toInt
  · exact bad_pair hI (by decide) (by decide) hx_ hm_ (fun fsx q1 q2 q3 => xk_see_1h q1 q2 q3 ⟨by omega, by omega⟩ (by omega)) (fun h1 fsm fr m1 m2 m3 m4 m5 => xr_see_1h m1 m2 m3 ⟨by omega, by omega⟩ (by omega)) v1 v2 v3 v4 v5 v6 v7 v8
  by_cases g_2l : x3.toInt < 0
  · exact bad_pair hI (by decide) (by decide) hx_ hm_ (fun fsx q1 q2 q3 => xk_see_2l q1 q2 q3 ⟨by omega, by omega⟩ ⟨by omega, by omega⟩ (by omega)) (fun h1 fsm fr m1 m2 m3 m4 m5 => xr_see_2l m1 m2 m3 ⟨by omega, by omega⟩ ⟨by omega, by omega⟩ (by omega)) v1 v2 v3 v4 v5 v6 v7 v8
  by_cases g_2h : 999 < x3.toInt
  · exact bad_pair hI (by decide) (by decide) hx_ hm_ (fun fsx q1 q2 q3 => xk_see_2h q1 q2 q3 ⟨by omega, by omega⟩ ⟨by omega, by omega⟩ (by omega)) (fun h1 fsm fr m1 m2 m3 m4 m5 => xr_see_2h m1 m2 m3 ⟨by omega, by omega⟩ ⟨by omega, by omega⟩ (by omega)) v1 v2 v3 v4 v5 v6 v7 v8
  obtain ⟨fsx, hx, lx, rx, nx⟩ := k_obj (o := 0) (ci := 11) hI.1 hI.2.2.2.1 rfl
  obtain ⟨fss, hs, ls, rs, ns⟩ := k_obj (o := 1) (ci := 7) hI.1 hI.2.2.2.1 rfl
  obtain ⟨fsi, hi, li, ri, ni⟩ := k_obj (o := 37) (ci := 6) hI.1 hI.2.2.2.1 rfl
  obtain ⟨t, pi4, t1, t2⟩ := ni 4 (0) (16) (by decide +kernel)
  obtain ⟨s0, pi0, s01, s02⟩ := ni 0 (0) (3) (by decide +kernel)
  obtain ⟨fa, ha, -⟩ := k_arr (o := 41) hI.1 hI.2.2.2.1 rfl
  obtain ⟨fb, hb, -⟩ := k_arr (o := 42) hI.1 hI.2.2.2.1 rfl
  obtain ⟨fc, hc, -⟩ := k_arr (o := 43) hI.1 hI.2.2.2.1 rfl
  obtain ⟨nn, et⟩ : ∃ nn : Nat, t.toInt = (nn : Int) := ⟨t.toInt.toNat, by omega⟩
  have hz : ∀ (fr : Nat → Int32), (∀ fr', h[b1 + 1]? = some (.inl (0, 5270, fr')) → ∀ r, r < 5270 → fr r = fr' r) → 0 < nn → fr (456 + 3 * nn - 3) = fa (nn - 1) := fun fr m5 h0 => by
    have := rl_num hI m5 (e := (41, 0, 1, 16, 456, 3, 0)) (by decide +kernel) rfl (i := nn - 1) (show nn - 1 < 16 by omega) (t := fa (nn - 1)) (by rw [show rlz (41, 0, 1, 16, 456, 3, 0) (nn - 1) = nn - 1 from by show 0 + 1 * (nn - 1) = nn - 1; omega]; exact cv_arr ha _)
    rw [show rlr (41, 0, 1, 16, 456, 3, 0) (nn - 1) = 456 + 3 * nn - 3 from by show 456 + 3 * (nn - 1) = _; omega] at this
    exact this
  by_cases g_old : 0 < nn ∧ x1.toInt < (fa (nn - 1)).toInt
  · exact bad_pair hI (by decide) (by decide) hx_ hm_ (fun fsx q1 q2 q3 => by
      by_cases q : x3.toInt = 0
      · exact xk_see_oldz q1 q2 q3 hs (ls.trans (by decide +kernel)) (rs 18 37 (by decide +kernel)) hi (li.trans (by decide +kernel)) pi4 (ri 5 41 (by decide +kernel)) (ri 6 42 (by decide +kernel)) (ri 7 43 (by decide +kernel)) ha hb hc ⟨by omega, by omega⟩ ⟨by omega, by omega⟩ (by omega) (by omega) et ⟨by omega, by omega⟩
      · exact xk_see_oldp q1 q2 q3 hs (ls.trans (by decide +kernel)) (rs 18 37 (by decide +kernel)) hi (li.trans (by decide +kernel)) pi4 (ri 5 41 (by decide +kernel)) (ri 6 42 (by decide +kernel)) (ri 7 43 (by decide +kernel)) ha hb hc ⟨by omega, by omega⟩ ⟨by omega, by omega⟩ ⟨by omega, by omega⟩ (by omega) et ⟨by omega, by omega⟩) (fun h1 fsm fr m1 m2 m3 m4 m5 => xr_see_old m1 m2 m3 m4 ⟨by omega, by omega⟩ ⟨by omega, by omega⟩ ⟨by omega, by omega⟩ (by rw [hz fr m5 (by omega)]; omega) et ⟨by omega, by omega⟩ (rl_num hI m5 (e := (37, 4, 1, 1, 4, 1, 0)) (by decide +kernel) rfl (i := 0) (by decide) (cv_fld hi pi4))) v1 v2 v3 v4 v5 v6 v7 v8
  by_cases g_full : nn = 16
  · exact bad_pair hI (by decide) (by decide) hx_ hm_ (fun fsx q1 q2 q3 => by
      by_cases q : x3.toInt = 0
      · exact xk_see_fullz q1 q2 q3 hs (ls.trans (by decide +kernel)) (rs 18 37 (by decide +kernel)) hi (li.trans (by decide +kernel)) pi4 (ri 5 41 (by decide +kernel)) (ri 6 42 (by decide +kernel)) (ri 7 43 (by decide +kernel)) ha hb hc ⟨by omega, by omega⟩ ⟨by omega, by omega⟩ (by omega) (by omega) et ⟨by omega, by omega⟩
      · exact xk_see_fullp q1 q2 q3 hs (ls.trans (by decide +kernel)) (rs 18 37 (by decide +kernel)) hi (li.trans (by decide +kernel)) pi4 (ri 5 41 (by decide +kernel)) (ri 6 42 (by decide +kernel)) (ri 7 43 (by decide +kernel)) ha hb hc ⟨by omega, by omega⟩ ⟨by omega, by omega⟩ ⟨by omega, by omega⟩ (by omega) et ⟨by omega, by omega⟩) (fun h1 fsm fr m1 m2 m3 m4 m5 => xr_see_full m1 m2 m3 m4 ⟨by omega, by omega⟩ ⟨by omega, by omega⟩ ⟨by omega, by omega⟩ (by rw [hz fr m5 (by omega)]; omega) et ⟨by omega, by omega⟩ (rl_num hI m5 (e := (37, 4, 1, 1, 4, 1, 0)) (by decide +kernel) rfl (i := 0) (by decide) (cv_fld hi pi4))) v1 v2 v3 v4 v5 v6 v7 v8
  obtain ⟨am, ua, hM⟩ := men_of hI.1 hI.2.1 hI.2.2.2.1 hx
  by_cases g_z : nn = 0
  · skip
    have ex : jCal l g 131 2 [.ref (g.2.2 + (b0 + 0)), .int x1, .int x2, .int x3] h 0 0 (fun v h' => ∃ r15 : Int32, r15.toInt = ((((nn + 1) - 1) : Nat) : Int) ∧ ∃ r14 : Int32, r14.toInt = (((nn + 1) : Nat) : Int) ∧ ∃ hv31, FgM (am + 0) ((((h.set (b0 + 41) (.inl (0, 16, (upd fa nn x1)))).set (b0 + 42) (.inl (0, 16, (upd fb nn x2)))).set (b0 + 43) (.inl (0, 16, (upd fc nn x3)))).set (b0 + 37) (.inr (6, (fsi.set 4 (.int r14))))) hv31 ∧ v = some (.int r15) ∧ h' = (hv31.set (b0 + 0) (.inr (11, (fsx.set 7 (.int (Int32.ofInt 0))))))) := by
      by_cases q : x3.toInt = 0
      · exact xk_see_okzz hx (lx.trans (by decide +kernel)) (rx 0 1 (by decide +kernel)) hs (ls.trans (by decide +kernel)) (rs 18 37 (by decide +kernel)) hi (li.trans (by decide +kernel)) pi4 (ri 5 41 (by decide +kernel)) (ri 6 42 (by decide +kernel)) (ri 7 43 (by decide +kernel)) ha hb hc ⟨by omega, by omega⟩ ⟨by omega, by omega⟩ (by omega) et ⟨by omega, by omega⟩ ua hM
      · exact xk_see_okzp hx (lx.trans (by decide +kernel)) (rx 0 1 (by decide +kernel)) hs (ls.trans (by decide +kernel)) (rs 18 37 (by decide +kernel)) hi (li.trans (by decide +kernel)) pi4 (ri 5 41 (by decide +kernel)) (ri 6 42 (by decide +kernel)) (ri 7 43 (by decide +kernel)) ha hb hc ⟨by omega, by omega⟩ ⟨by omega, by omega⟩ ⟨by omega, by omega⟩ et ⟨by omega, by omega⟩ ua hM
    refine ex_pair hI (by decide) (by decide) hx_ hm_ ex (fun h1 fsm fr m1 m2 m3 m4 m5 => xr_see_okz m1 m2 m3 m4 ⟨by omega, by omega⟩ ⟨by omega, by omega⟩ ⟨by omega, by omega⟩ et ⟨by omega, by omega⟩ (rl_num hI m5 (e := (37, 4, 1, 1, 4, 1, 0)) (by decide +kernel) rfl (i := 0) (by decide) (cv_fld hi pi4))) v1 v2 v3 v4 v5 v6 v7 v8 (fun v1 h1' hE => ?_)
    obtain ⟨r15, hr15, r14, hr14, hv31, hF, rfl, rfl⟩ := hE
    refine ⟨r15, rfl, fun hq1 fsm fr v2 h2' _ m4 hR m5 hE2 => ?_⟩
    obtain ⟨r29m, hr29m, rfl, rfl⟩ := hE2
    refine ⟨by rw [show t = r15 from i32_eq (by omega)], (upd (upd (upd (upd fr (456 + (3 * nn)) x1) ((456 + (3 * nn)) + 1) x2) ((456 + (3 * nn)) + 2) x3) 4 r29m), ?_, fun e he => ?_⟩
    · rw [List.getElem?_set_ne (by omega)]
      exact List.getElem?_set_self (by simp only [List.length_set]; exact (List.getElem?_eq_some_iff.mp m4).1)
    have u : ∀ o, o ≠ 0 → o ≠ 37 → o ≠ 41 → o ≠ 42 → o ≠ 43 → o < 62 → (hv31.set (b0 + 0) (.inr (11, (fsx.set 7 (.int (Int32.ofInt 0))))))[b0 + o]? = h[b0 + o]? := fun o c0 c37 c41 c42 c43 c62 => by rw [List.getElem?_set_ne (by omega), hF _ (Ne.symm (ua _ c62)), List.getElem?_set_ne (by omega), List.getElem?_set_ne (by omega), List.getElem?_set_ne (by omega), List.getElem?_set_ne (by omega)]
    have w0 : (hv31.set (b0 + 0) (.inr (11, (fsx.set 7 (.int (Int32.ofInt 0))))))[b0 + 0]? = some (.inr (11, (fsx.set 7 (.int (Int32.ofInt 0))))) := by exact List.getElem?_set_self (by first | exact (List.getElem?_eq_some_iff.mp ((hF _ (Ne.symm (ua 0 (by decide)))).trans (by rw [List.getElem?_set_ne (by omega), List.getElem?_set_ne (by omega), List.getElem?_set_ne (by omega), List.getElem?_set_ne (by omega)]; exact hx))).1 | (simp only [List.length_set]; exact (List.getElem?_eq_some_iff.mp ((hF _ (Ne.symm (ua 0 (by decide)))).trans (by rw [List.getElem?_set_ne (by omega), List.getElem?_set_ne (by omega), List.getElem?_set_ne (by omega), List.getElem?_set_ne (by omega)]; exact hx))).1))
    have w37 : (hv31.set (b0 + 0) (.inr (11, (fsx.set 7 (.int (Int32.ofInt 0))))))[b0 + 37]? = some (.inr (6, (fsi.set 4 (.int r14)))) := by rw [List.getElem?_set_ne (by omega), hF _ (Ne.symm (ua 37 (by decide)))]; exact List.getElem?_set_self (by first | exact (List.getElem?_eq_some_iff.mp hi).1 | (simp only [List.length_set]; exact (List.getElem?_eq_some_iff.mp hi).1))
    have w41 : (hv31.set (b0 + 0) (.inr (11, (fsx.set 7 (.int (Int32.ofInt 0))))))[b0 + 41]? = some (.inl (0, 16, (upd fa nn x1))) := by rw [List.getElem?_set_ne (by omega), hF _ (Ne.symm (ua 41 (by decide))), List.getElem?_set_ne (by omega), List.getElem?_set_ne (by omega), List.getElem?_set_ne (by omega)]; exact List.getElem?_set_self (by first | exact (List.getElem?_eq_some_iff.mp ha).1 | (simp only [List.length_set]; exact (List.getElem?_eq_some_iff.mp ha).1))
    have w42 : (hv31.set (b0 + 0) (.inr (11, (fsx.set 7 (.int (Int32.ofInt 0))))))[b0 + 42]? = some (.inl (0, 16, (upd fb nn x2))) := by rw [List.getElem?_set_ne (by omega), hF _ (Ne.symm (ua 42 (by decide))), List.getElem?_set_ne (by omega), List.getElem?_set_ne (by omega)]; exact List.getElem?_set_self (by first | exact (List.getElem?_eq_some_iff.mp hb).1 | (simp only [List.length_set]; exact (List.getElem?_eq_some_iff.mp hb).1))
    have w43 : (hv31.set (b0 + 0) (.inr (11, (fsx.set 7 (.int (Int32.ofInt 0))))))[b0 + 43]? = some (.inl (0, 16, (upd fc nn x3))) := by rw [List.getElem?_set_ne (by omega), hF _ (Ne.symm (ua 43 (by decide))), List.getElem?_set_ne (by omega)]; exact List.getElem?_set_self (by first | exact (List.getElem?_eq_some_iff.mp hc).1 | (simp only [List.length_set]; exact (List.getElem?_eq_some_iff.mp hc).1))
    have he' := he
    simp only [rlE, List.mem_cons, List.not_mem_nil, or_false] at he'
    rcases he' with rfl | rfl | rfl | rfl | rfl | rfl | rfl | rfl | rfl | rfl | rfl | rfl
    · exact exR_un hR he (u 1 (by decide) (by decide) (by decide) (by decide) (by decide) (by decide)) (fun i hi => by
        have hi : i < 1 := hi
        show (upd (upd (upd (upd fr (456 + (3 * nn)) x1) ((456 + (3 * nn)) + 1) x2) ((456 + (3 * nn)) + 2) x3) 4 r29m) (7 + 1 * i) = fr (7 + 1 * i)
        rw [upd_ne (by omega), upd_ne (by omega), upd_ne (by omega), upd_ne (by omega)])
    · exact exR_un hR he (u 30 (by decide) (by decide) (by decide) (by decide) (by decide) (by decide)) (fun i hi => by
        have hi : i < 1 := hi
        show (upd (upd (upd (upd fr (456 + (3 * nn)) x1) ((456 + (3 * nn)) + 1) x2) ((456 + (3 * nn)) + 2) x3) 4 r29m) (8 + 1 * i) = fr (8 + 1 * i)
        rw [upd_ne (by omega), upd_ne (by omega), upd_ne (by omega), upd_ne (by omega)])
    · refine ⟨ck_obj (o := 37) rfl w37, fun i hj => ?_⟩
      have hj : i < 1 := hj
      have i0 : i = 0 := by omega
      subst i0
      refine ⟨s0.toInt, cv_fld w37 (by show _[0]? = _; rw [List.getElem?_set_ne (by decide)]; exact pi0), ?_⟩
      show ((upd (upd (upd (upd fr (456 + (3 * nn)) x1) ((456 + (3 * nn)) + 1) x2) ((456 + (3 * nn)) + 2) x3) 4 r29m) 3).toInt = s0.toInt
      rw [upd_ne (by omega), upd_ne (by omega), upd_ne (by omega), upd_ne (by omega)]
      exact congrArg Int32.toInt (rl_num hI m5 (e := (37, 0, 1, 1, 3, 1, 0)) (by decide +kernel) rfl (i := 0) (by decide) (cv_fld hi pi0))
    · exact exR_un hR he (u 44 (by decide) (by decide) (by decide) (by decide) (by decide) (by decide)) (fun i hi => by
        have hi : i < 1 := hi
        show (upd (upd (upd (upd fr (456 + (3 * nn)) x1) ((456 + (3 * nn)) + 1) x2) ((456 + (3 * nn)) + 2) x3) 4 r29m) (5 + 1 * i) = fr (5 + 1 * i)
        rw [upd_ne (by omega), upd_ne (by omega), upd_ne (by omega), upd_ne (by omega)])
    · refine ⟨ck_obj (o := 37) rfl w37, fun i hj => ?_⟩
      have hj : i < 1 := hj
      have i0 : i = 0 := by omega
      subst i0
      refine ⟨r14.toInt, cv_fld w37 (by show _[4]? = _; exact List.getElem?_set_self (by simp only [List.length_set, li]; decide +kernel)), ?_⟩
      show ((upd (upd (upd (upd fr (456 + (3 * nn)) x1) ((456 + (3 * nn)) + 1) x2) ((456 + (3 * nn)) + 2) x3) 4 r29m) 4).toInt = r14.toInt
      rw [upd_eq]
      omega
    · exact exR_un hR he (u 23 (by decide) (by decide) (by decide) (by decide) (by decide) (by decide)) (fun i hi => by
        have hi : i < 12 := hi
        show (upd (upd (upd (upd fr (456 + (3 * nn)) x1) ((456 + (3 * nn)) + 1) x2) ((456 + (3 * nn)) + 2) x3) 4 r29m) (52 + 1 * i) = fr (52 + 1 * i)
        rw [upd_ne (by omega), upd_ne (by omega), upd_ne (by omega), upd_ne (by omega)])
    · exact exR_un hR he (u 24 (by decide) (by decide) (by decide) (by decide) (by decide) (by decide)) (fun i hi => by
        have hi : i < 12 := hi
        show (upd (upd (upd (upd fr (456 + (3 * nn)) x1) ((456 + (3 * nn)) + 1) x2) ((456 + (3 * nn)) + 2) x3) 4 r29m) (64 + 1 * i) = fr (64 + 1 * i)
        rw [upd_ne (by omega), upd_ne (by omega), upd_ne (by omega), upd_ne (by omega)])
    · exact exR_un hR he (u 25 (by decide) (by decide) (by decide) (by decide) (by decide) (by decide)) (fun i hi => by
        have hi : i < 12 := hi
        show (upd (upd (upd (upd fr (456 + (3 * nn)) x1) ((456 + (3 * nn)) + 1) x2) ((456 + (3 * nn)) + 2) x3) 4 r29m) (5030 + 1 * i) = fr (5030 + 1 * i)
        rw [upd_ne (by omega), upd_ne (by omega), upd_ne (by omega), upd_ne (by omega)])
    · exact exR_un hR he (u 28 (by decide) (by decide) (by decide) (by decide) (by decide) (by decide)) (fun i hi => by
        have hi : i < 3 := hi
        show (upd (upd (upd (upd fr (456 + (3 * nn)) x1) ((456 + (3 * nn)) + 1) x2) ((456 + (3 * nn)) + 2) x3) 4 r29m) (76 + 1 * i) = fr (76 + 1 * i)
        rw [upd_ne (by omega), upd_ne (by omega), upd_ne (by omega), upd_ne (by omega)])
    · exact exR_un hR he (u 29 (by decide) (by decide) (by decide) (by decide) (by decide) (by decide)) (fun i hi => by
        have hi : i < 300 := hi
        show (upd (upd (upd (upd fr (456 + (3 * nn)) x1) ((456 + (3 * nn)) + 1) x2) ((456 + (3 * nn)) + 2) x3) 4 r29m) (80 + 1 * i) = fr (80 + 1 * i)
        rw [upd_ne (by omega), upd_ne (by omega), upd_ne (by omega), upd_ne (by omega)])
    · refine ⟨ck_arr (o := 41) rfl w41, fun i hj => ?_⟩
      have hj : i < 16 := hj
      refine ⟨(upd fa nn x1 i).toInt, ?_, ?_⟩
      · rw [show rlz (41, 0, 1, 16, 456, 3, 0) i = i from by show 0 + 1 * i = i; omega]
        exact cv_arr w41 i
      · show ((upd (upd (upd (upd fr (456 + (3 * nn)) x1) ((456 + (3 * nn)) + 1) x2) ((456 + (3 * nn)) + 2) x3) 4 r29m) (456 + 3 * i)).toInt = (upd fa nn x1 i).toInt
        by_cases q : i = nn
        · subst q
          rw [upd_ne (by omega), upd_ne (by omega), upd_ne (by omega), upd_eq, upd_eq]
        · rw [upd_ne (by omega), upd_ne (by omega), upd_ne (by omega), upd_ne (by omega), upd_ne q]
          exact congrArg Int32.toInt (rl_num hI m5 he rfl (i := i) hj (t := fa i) (by rw [show rlz (41, 0, 1, 16, 456, 3, 0) i = i from by show 0 + 1 * i = i; omega]; exact cv_arr ha i))
    · exact exR_un hR he (u 2 (by decide) (by decide) (by decide) (by decide) (by decide) (by decide)) (fun i hi => by
        have hi : i < 8 := hi
        show (upd (upd (upd (upd fr (456 + (3 * nn)) x1) ((456 + (3 * nn)) + 1) x2) ((456 + (3 * nn)) + 2) x3) 4 r29m) (30 + 1 * i) = fr (30 + 1 * i)
        rw [upd_ne (by omega), upd_ne (by omega), upd_ne (by omega), upd_ne (by omega)])
  · skip
    have ex : jCal l g 131 2 [.ref (g.2.2 + (b0 + 0)), .int x1, .int x2, .int x3] h 0 0 (fun v h' => ∃ r15 : Int32, r15.toInt = ((((nn + 1) - 1) : Nat) : Int) ∧ ∃ r14 : Int32, r14.toInt = (((nn + 1) : Nat) : Int) ∧ ∃ hv31, FgM (am + 0) ((((h.set (b0 + 41) (.inl (0, 16, (upd fa nn x1)))).set (b0 + 42) (.inl (0, 16, (upd fb nn x2)))).set (b0 + 43) (.inl (0, 16, (upd fc nn x3)))).set (b0 + 37) (.inr (6, (fsi.set 4 (.int r14))))) hv31 ∧ v = some (.int r15) ∧ h' = (hv31.set (b0 + 0) (.inr (11, (fsx.set 7 (.int (Int32.ofInt 0))))))) := by
      by_cases q : x3.toInt = 0
      · exact xk_see_okz hx (lx.trans (by decide +kernel)) (rx 0 1 (by decide +kernel)) hs (ls.trans (by decide +kernel)) (rs 18 37 (by decide +kernel)) hi (li.trans (by decide +kernel)) pi4 (ri 5 41 (by decide +kernel)) (ri 6 42 (by decide +kernel)) (ri 7 43 (by decide +kernel)) ha hb hc ⟨by omega, by omega⟩ ⟨by omega, by omega⟩ (by omega) (by omega) et ⟨by omega, by omega⟩ ua hM
      · exact xk_see_okp hx (lx.trans (by decide +kernel)) (rx 0 1 (by decide +kernel)) hs (ls.trans (by decide +kernel)) (rs 18 37 (by decide +kernel)) hi (li.trans (by decide +kernel)) pi4 (ri 5 41 (by decide +kernel)) (ri 6 42 (by decide +kernel)) (ri 7 43 (by decide +kernel)) ha hb hc ⟨by omega, by omega⟩ ⟨by omega, by omega⟩ ⟨by omega, by omega⟩ (by omega) et ⟨by omega, by omega⟩ ua hM
    refine ex_pair hI (by decide) (by decide) hx_ hm_ ex (fun h1 fsm fr m1 m2 m3 m4 m5 => xr_see_ok m1 m2 m3 m4 ⟨by omega, by omega⟩ ⟨by omega, by omega⟩ ⟨by omega, by omega⟩ (by rw [hz fr m5 (by omega)]; omega) et ⟨by omega, by omega⟩ (rl_num hI m5 (e := (37, 4, 1, 1, 4, 1, 0)) (by decide +kernel) rfl (i := 0) (by decide) (cv_fld hi pi4))) v1 v2 v3 v4 v5 v6 v7 v8 (fun v1 h1' hE => ?_)
    obtain ⟨r15, hr15, r14, hr14, hv31, hF, rfl, rfl⟩ := hE
    refine ⟨r15, rfl, fun hq1 fsm fr v2 h2' _ m4 hR m5 hE2 => ?_⟩
    obtain ⟨r32m, hr32m, rfl, rfl⟩ := hE2
    refine ⟨by rw [show t = r15 from i32_eq (by omega)], (upd (upd (upd (upd fr (456 + (3 * nn)) x1) ((456 + (3 * nn)) + 1) x2) ((456 + (3 * nn)) + 2) x3) 4 r32m), ?_, fun e he => ?_⟩
    · rw [List.getElem?_set_ne (by omega)]
      exact List.getElem?_set_self (by simp only [List.length_set]; exact (List.getElem?_eq_some_iff.mp m4).1)
    have u : ∀ o, o ≠ 0 → o ≠ 37 → o ≠ 41 → o ≠ 42 → o ≠ 43 → o < 62 → (hv31.set (b0 + 0) (.inr (11, (fsx.set 7 (.int (Int32.ofInt 0))))))[b0 + o]? = h[b0 + o]? := fun o c0 c37 c41 c42 c43 c62 => by rw [List.getElem?_set_ne (by omega), hF _ (Ne.symm (ua _ c62)), List.getElem?_set_ne (by omega), List.getElem?_set_ne (by omega), List.getElem?_set_ne (by omega), List.getElem?_set_ne (by omega)]
    have w0 : (hv31.set (b0 + 0) (.inr (11, (fsx.set 7 (.int (Int32.ofInt 0))))))[b0 + 0]? = some (.inr (11, (fsx.set 7 (.int (Int32.ofInt 0))))) := by exact List.getElem?_set_self (by first | exact (List.getElem?_eq_some_iff.mp ((hF _ (Ne.symm (ua 0 (by decide)))).trans (by rw [List.getElem?_set_ne (by omega), List.getElem?_set_ne (by omega), List.getElem?_set_ne (by omega), List.getElem?_set_ne (by omega)]; exact hx))).1 | (simp only [List.length_set]; exact (List.getElem?_eq_some_iff.mp ((hF _ (Ne.symm (ua 0 (by decide)))).trans (by rw [List.getElem?_set_ne (by omega), List.getElem?_set_ne (by omega), List.getElem?_set_ne (by omega), List.getElem?_set_ne (by omega)]; exact hx))).1))
    have w37 : (hv31.set (b0 + 0) (.inr (11, (fsx.set 7 (.int (Int32.ofInt 0))))))[b0 + 37]? = some (.inr (6, (fsi.set 4 (.int r14)))) := by rw [List.getElem?_set_ne (by omega), hF _ (Ne.symm (ua 37 (by decide)))]; exact List.getElem?_set_self (by first | exact (List.getElem?_eq_some_iff.mp hi).1 | (simp only [List.length_set]; exact (List.getElem?_eq_some_iff.mp hi).1))
    have w41 : (hv31.set (b0 + 0) (.inr (11, (fsx.set 7 (.int (Int32.ofInt 0))))))[b0 + 41]? = some (.inl (0, 16, (upd fa nn x1))) := by rw [List.getElem?_set_ne (by omega), hF _ (Ne.symm (ua 41 (by decide))), List.getElem?_set_ne (by omega), List.getElem?_set_ne (by omega), List.getElem?_set_ne (by omega)]; exact List.getElem?_set_self (by first | exact (List.getElem?_eq_some_iff.mp ha).1 | (simp only [List.length_set]; exact (List.getElem?_eq_some_iff.mp ha).1))
    have w42 : (hv31.set (b0 + 0) (.inr (11, (fsx.set 7 (.int (Int32.ofInt 0))))))[b0 + 42]? = some (.inl (0, 16, (upd fb nn x2))) := by rw [List.getElem?_set_ne (by omega), hF _ (Ne.symm (ua 42 (by decide))), List.getElem?_set_ne (by omega), List.getElem?_set_ne (by omega)]; exact List.getElem?_set_self (by first | exact (List.getElem?_eq_some_iff.mp hb).1 | (simp only [List.length_set]; exact (List.getElem?_eq_some_iff.mp hb).1))
    have w43 : (hv31.set (b0 + 0) (.inr (11, (fsx.set 7 (.int (Int32.ofInt 0))))))[b0 + 43]? = some (.inl (0, 16, (upd fc nn x3))) := by rw [List.getElem?_set_ne (by omega), hF _ (Ne.symm (ua 43 (by decide))), List.getElem?_set_ne (by omega)]; exact List.getElem?_set_self (by first | exact (List.getElem?_eq_some_iff.mp hc).1 | (simp only [List.length_set]; exact (List.getElem?_eq_some_iff.mp hc).1))
    have he' := he
    simp only [rlE, List.mem_cons, List.not_mem_nil, or_false] at he'
    rcases he' with rfl | rfl | rfl | rfl | rfl | rfl | rfl | rfl | rfl | rfl | rfl | rfl
    · exact exR_un hR he (u 1 (by decide) (by decide) (by decide) (by decide) (by decide) (by decide)) (fun i hi => by
        have hi : i < 1 := hi
        show (upd (upd (upd (upd fr (456 + (3 * nn)) x1) ((456 + (3 * nn)) + 1) x2) ((456 + (3 * nn)) + 2) x3) 4 r32m) (7 + 1 * i) = fr (7 + 1 * i)
        rw [upd_ne (by omega), upd_ne (by omega), upd_ne (by omega), upd_ne (by omega)])
    · exact exR_un hR he (u 30 (by decide) (by decide) (by decide) (by decide) (by decide) (by decide)) (fun i hi => by
        have hi : i < 1 := hi
        show (upd (upd (upd (upd fr (456 + (3 * nn)) x1) ((456 + (3 * nn)) + 1) x2) ((456 + (3 * nn)) + 2) x3) 4 r32m) (8 + 1 * i) = fr (8 + 1 * i)
        rw [upd_ne (by omega), upd_ne (by omega), upd_ne (by omega), upd_ne (by omega)])
    · refine ⟨ck_obj (o := 37) rfl w37, fun i hj => ?_⟩
      have hj : i < 1 := hj
      have i0 : i = 0 := by omega
      subst i0
      refine ⟨s0.toInt, cv_fld w37 (by show _[0]? = _; rw [List.getElem?_set_ne (by decide)]; exact pi0), ?_⟩
      show ((upd (upd (upd (upd fr (456 + (3 * nn)) x1) ((456 + (3 * nn)) + 1) x2) ((456 + (3 * nn)) + 2) x3) 4 r32m) 3).toInt = s0.toInt
      rw [upd_ne (by omega), upd_ne (by omega), upd_ne (by omega), upd_ne (by omega)]
      exact congrArg Int32.toInt (rl_num hI m5 (e := (37, 0, 1, 1, 3, 1, 0)) (by decide +kernel) rfl (i := 0) (by decide) (cv_fld hi pi0))
    · exact exR_un hR he (u 44 (by decide) (by decide) (by decide) (by decide) (by decide) (by decide)) (fun i hi => by
        have hi : i < 1 := hi
        show (upd (upd (upd (upd fr (456 + (3 * nn)) x1) ((456 + (3 * nn)) + 1) x2) ((456 + (3 * nn)) + 2) x3) 4 r32m) (5 + 1 * i) = fr (5 + 1 * i)
        rw [upd_ne (by omega), upd_ne (by omega), upd_ne (by omega), upd_ne (by omega)])
    · refine ⟨ck_obj (o := 37) rfl w37, fun i hj => ?_⟩
      have hj : i < 1 := hj
      have i0 : i = 0 := by omega
      subst i0
      refine ⟨r14.toInt, cv_fld w37 (by show _[4]? = _; exact List.getElem?_set_self (by simp only [List.length_set, li]; decide +kernel)), ?_⟩
      show ((upd (upd (upd (upd fr (456 + (3 * nn)) x1) ((456 + (3 * nn)) + 1) x2) ((456 + (3 * nn)) + 2) x3) 4 r32m) 4).toInt = r14.toInt
      rw [upd_eq]
      omega
    · exact exR_un hR he (u 23 (by decide) (by decide) (by decide) (by decide) (by decide) (by decide)) (fun i hi => by
        have hi : i < 12 := hi
        show (upd (upd (upd (upd fr (456 + (3 * nn)) x1) ((456 + (3 * nn)) + 1) x2) ((456 + (3 * nn)) + 2) x3) 4 r32m) (52 + 1 * i) = fr (52 + 1 * i)
        rw [upd_ne (by omega), upd_ne (by omega), upd_ne (by omega), upd_ne (by omega)])
    · exact exR_un hR he (u 24 (by decide) (by decide) (by decide) (by decide) (by decide) (by decide)) (fun i hi => by
        have hi : i < 12 := hi
        show (upd (upd (upd (upd fr (456 + (3 * nn)) x1) ((456 + (3 * nn)) + 1) x2) ((456 + (3 * nn)) + 2) x3) 4 r32m) (64 + 1 * i) = fr (64 + 1 * i)
        rw [upd_ne (by omega), upd_ne (by omega), upd_ne (by omega), upd_ne (by omega)])
    · exact exR_un hR he (u 25 (by decide) (by decide) (by decide) (by decide) (by decide) (by decide)) (fun i hi => by
        have hi : i < 12 := hi
        show (upd (upd (upd (upd fr (456 + (3 * nn)) x1) ((456 + (3 * nn)) + 1) x2) ((456 + (3 * nn)) + 2) x3) 4 r32m) (5030 + 1 * i) = fr (5030 + 1 * i)
        rw [upd_ne (by omega), upd_ne (by omega), upd_ne (by omega), upd_ne (by omega)])
    · exact exR_un hR he (u 28 (by decide) (by decide) (by decide) (by decide) (by decide) (by decide)) (fun i hi => by
        have hi : i < 3 := hi
        show (upd (upd (upd (upd fr (456 + (3 * nn)) x1) ((456 + (3 * nn)) + 1) x2) ((456 + (3 * nn)) + 2) x3) 4 r32m) (76 + 1 * i) = fr (76 + 1 * i)
        rw [upd_ne (by omega), upd_ne (by omega), upd_ne (by omega), upd_ne (by omega)])
    · exact exR_un hR he (u 29 (by decide) (by decide) (by decide) (by decide) (by decide) (by decide)) (fun i hi => by
        have hi : i < 300 := hi
        show (upd (upd (upd (upd fr (456 + (3 * nn)) x1) ((456 + (3 * nn)) + 1) x2) ((456 + (3 * nn)) + 2) x3) 4 r32m) (80 + 1 * i) = fr (80 + 1 * i)
        rw [upd_ne (by omega), upd_ne (by omega), upd_ne (by omega), upd_ne (by omega)])
    · refine ⟨ck_arr (o := 41) rfl w41, fun i hj => ?_⟩
      have hj : i < 16 := hj
      refine ⟨(upd fa nn x1 i).toInt, ?_, ?_⟩
      · rw [show rlz (41, 0, 1, 16, 456, 3, 0) i = i from by show 0 + 1 * i = i; omega]
        exact cv_arr w41 i
      · show ((upd (upd (upd (upd fr (456 + (3 * nn)) x1) ((456 + (3 * nn)) + 1) x2) ((456 + (3 * nn)) + 2) x3) 4 r32m) (456 + 3 * i)).toInt = (upd fa nn x1 i).toInt
        by_cases q : i = nn
        · subst q
          rw [upd_ne (by omega), upd_ne (by omega), upd_ne (by omega), upd_eq, upd_eq]
        · rw [upd_ne (by omega), upd_ne (by omega), upd_ne (by omega), upd_ne (by omega), upd_ne q]
          exact congrArg Int32.toInt (rl_num hI m5 he rfl (i := i) hj (t := fa i) (by rw [show rlz (41, 0, 1, 16, 456, 3, 0) i = i from by show 0 + 1 * i = i; omega]; exact cv_arr ha i))
    · exact exR_un hR he (u 2 (by decide) (by decide) (by decide) (by decide) (by decide) (by decide)) (fun i hi => by
        have hi : i < 8 := hi
        show (upd (upd (upd (upd fr (456 + (3 * nn)) x1) ((456 + (3 * nn)) + 1) x2) ((456 + (3 * nn)) + 2) x3) 4 r32m) (30 + 1 * i) = fr (30 + 1 * i)
        rw [upd_ne (by omega), upd_ne (by omega), upd_ne (by omega), upd_ne (by omega)])
end QH
