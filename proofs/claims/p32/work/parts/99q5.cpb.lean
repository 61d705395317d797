/-! call pairs by exact walks (written by wip/groupB/gen_q2.py) -/
section QF
variable {l : Launch} {g : jG} {n : Int}
theorem eu_474 (hk : kOK TTs g (EIm n) l Kx_474) {W0 : List aR} {bk0 bk : aB} {h0 h : jH} (hO : hOK TTs g (EIm n) W0 bk0 h0 bk h) {a0 : Nat} (ha0 : bk 0 = some a0) {x1 : Int32} (hx1 : (-2147483648 : Int) ≤ x1.toInt ∧ x1.toInt ≤ 2147483647) {x2 : Int32} (hx2 : (-2147483648 : Int) ≤ x2.toInt ∧ x2.toInt ≤ 2147483647) :
    jCal l g 13 2 [.ref (g.2.2 + (a0 + 0)), .int x1, .int x2] h 0 0 (kPost TTs g (EIm n) Kx_474 bk h [x1.toInt, x2.toInt]) := by
  refine hk bk h [.ref (g.2.2 + (a0 + 0)), .int x1, .int x2] [x1.toInt, x2.toInt] hO.1 hO.2.1 hO.2.2.1 hO.2.2.2.2.2 (show 3 ≤ jmx 13 by decide +kernel) rfl (fun q hq => ?_) ⟨⟨rfl, fun i e z he hz => ?_⟩, eFm_plain (plain_app (spEnv_plain _) clEnv_plain), fun F hF => absurd hF List.not_mem_nil, fun i v hv => ?_, trivial, fun q hq => ?_, fun B hB => absurd hB List.not_mem_nil⟩
  · have hq : q ∈ ([] : List (Nat × Int × Nat)) := hq
    exact absurd hq List.not_mem_nil
  · match i, he, hz with
    | 0, he, hz => cases he; cases hz; exact hx1
    | 1, he, hz => cases he; cases hz; exact hx2
    | i + 2, he, _ => cases he
  · match i, hv with
    | 0, hv => cases hv; exact ⟨_, rfl, a0, ha0, rfl⟩
    | 1, hv => cases hv; exact ⟨_, rfl, x1, rfl, rfl⟩
    | 2, hv => cases hv; exact ⟨_, rfl, x2, rfl, rfl⟩
    | 3, hv => cases hv
    | i + 4, hv => cases hv
  · exact absurd hq List.not_mem_nil
theorem eu_632 (hk : kOK TTs g (EIm n) l Kx_632) {W0 : List aR} {bk0 bk : aB} {h0 h : jH} (hO : hOK TTs g (EIm n) W0 bk0 h0 bk h) {a1 : Nat} (ha1 : bk 1 = some a1) {x1 : Int32} (hx1 : (-2147483648 : Int) ≤ x1.toInt ∧ x1.toInt ≤ 2147483647) {x2 : Int32} (hx2 : (-2147483648 : Int) ≤ x2.toInt ∧ x2.toInt ≤ 2147483647) :
    jCal l g 234 3 [.ref (g.2.2 + (a1 + 0)), .int x1, .int x2] h 0 0 (kPost TTs g (EIm n) Kx_632 bk h [x1.toInt, x2.toInt]) := by
  refine hk bk h [.ref (g.2.2 + (a1 + 0)), .int x1, .int x2] [x1.toInt, x2.toInt] hO.1 hO.2.1 hO.2.2.1 hO.2.2.2.2.2 (show 3 ≤ jmx 234 by decide +kernel) rfl (fun q hq => ?_) ⟨⟨rfl, fun i e z he hz => ?_⟩, eFm_plain (plain_app (spEnv_plain _) clEnv_plain), fun F hF => absurd hF List.not_mem_nil, fun i v hv => ?_, trivial, fun q hq => ?_, fun B hB => absurd hB List.not_mem_nil⟩
  · have hq : q ∈ ([] : List (Nat × Int × Nat)) := hq
    exact absurd hq List.not_mem_nil
  · match i, he, hz with
    | 0, he, hz => cases he; cases hz; exact hx1
    | 1, he, hz => cases he; cases hz; exact hx2
    | i + 2, he, _ => cases he
  · match i, hv with
    | 0, hv => cases hv; exact ⟨_, rfl, a1, ha1, rfl⟩
    | 1, hv => cases hv; exact ⟨_, rfl, x1, rfl, rfl⟩
    | 2, hv => cases hv; exact ⟨_, rfl, x2, rfl, rfl⟩
    | 3, hv => cases hv
    | i + 4, hv => cases hv
  · exact absurd hq List.not_mem_nil
theorem cw_0 : (apW Kx_474.2.2.2.2.2.2.2.1 [(1, 1, 1, 1)] = true ∧ apW Kx_474.2.2.2.2.2.2.2.1 [(1, 1, 5066, 5066)] = true ∧ apW Kx_632.2.2.2.2.2.2.2.1 [(1, 1, 1, 1)] = true ∧ apW Kx_632.2.2.2.2.2.2.2.1 [(1, 1, 5066, 5066)] = true) ∧ (apW Kx_474.2.2.2.2.2.2.2.1 rlFI = true ∧ apW Kx_632.2.2.2.2.2.2.2.1 rlFI = true ∧ apW Kx_474.2.2.2.2.2.2.2.1 [(1, 1, 0, 5269)] = true ∧ rlE.all (fun e => apW Kx_632.2.2.2.2.2.2.2.1 [rlX 0 0 e]) = true) := by decide +kernel
set_option maxRecDepth 16384 in
set_option maxHeartbeats 4000000 in
theorem cp_0 (hlow : ∀ (k : Nat) (K : aK), KTx[k]? = some K → kOK TTs g (EIm n) l K) {b0 b1 : Nat} {bk : aB} {h : jH} (hI : lwI g n b0 b1 bk h) {x1 x2 : Int32} : cpS l g n b0 b1 h 13 234 [.int x1, .int x2] 0 0 true (k6 bk) := by
  obtain ⟨⟨v1, v2, v3, v4⟩, v5, v6, v7, v8⟩ := cw_0
  have hx := eu_474 (hlow 474 _ rfl) (hI.ok []) hI.2.2.2.1 (⟨i32_lo x1, i32_hi x1⟩) (⟨i32_lo x2, i32_hi x2⟩)
  have hm : ∀ bk1 h1, hOK TTs g (EIm n) Kx_474.2.2.2.2.2.2.2.1 bk h bk1 h1 → bk1 1 = some b1 → _ := fun bk1 h1 k1 p1 => eu_632 (hlow 632 _ rfl) k1 p1 (⟨i32_lo x1, i32_hi x1⟩) (⟨i32_lo x2, i32_hi x2⟩)
  by_cases g_0l : x1.toInt < 0
  · exact bad_pair hI (by decide) (by decide) hx hm (fun fsx q1 q2 q3 => xk_lies_0l q1 q2 (by omega)) (fun h1 fsm fr m1 m2 m3 m4 m5 => xr_lies_0l m1 m2 (by omega)) v1 v2 v3 v4 v5 v6 v7 v8
  by_cases g_0h : 11 < x1.toInt
  · exact bad_pair hI (by decide) (by decide) hx hm (fun fsx q1 q2 q3 => xk_lies_0h q1 q2 (by omega)) (fun h1 fsm fr m1 m2 m3 m4 m5 => xr_lies_0h m1 m2 (by omega)) v1 v2 v3 v4 v5 v6 v7 v8
  by_cases g_1l : x2.toInt < -1
  · exact bad_pair hI (by decide) (by decide) hx hm (fun fsx q1 q2 q3 => xk_lies_1l q1 q2 ⟨by omega, by omega⟩ (by omega)) (fun h1 fsm fr m1 m2 m3 m4 m5 => xr_lies_1l m1 m2 ⟨by omega, by omega⟩ (by omega)) v1 v2 v3 v4 v5 v6 v7 v8
  by_cases g_1h : 15 < x2.toInt
  · exact bad_pair hI (by decide) (by decide) hx hm (fun fsx q1 q2 q3 => xk_lies_1h q1 q2 ⟨by omega, by omega⟩ (by omega)) (fun h1 fsm fr m1 m2 m3 m4 m5 => xr_lies_1h m1 m2 ⟨by omega, by omega⟩ (by omega)) v1 v2 v3 v4 v5 v6 v7 v8
  obtain ⟨fx, hfx, lfx, rfx, -⟩ := k_obj (o := 0) (ci := 11) hI.1 hI.2.2.2.1 rfl
  obtain ⟨fs, hfs, lfs, rfs, -⟩ := k_obj (o := 1) (ci := 7) hI.1 hI.2.2.2.1 rfl
  obtain ⟨f, hfa, -⟩ := k_arr (o := 23) hI.1 hI.2.2.2.1 rfl
  obtain ⟨b, e1⟩ : ∃ b : Nat, x1.toInt = (b : Int) := ⟨x1.toInt.toNat, by omega⟩
  have ex : jCal l g 13 2 [.ref (g.2.2 + (b0 + 0)), .int x1, .int x2] h 0 0 (fun v h' => v = some (.int (f b)) ∧ h' = (h.set (b0 + 23) (.inl (0, 12, upd f b x2))).set (b0 + 0) (.inr (11, fx.set 7 (.int (Int32.ofInt 0))))) := by
    by_cases q : x2.toInt < 0
    · exact xk_liesn hfx (lfx.trans (by decide +kernel)) (rfx 0 1 (by decide +kernel)) hfs (rfs 9 23 (by decide +kernel)) hfa e1 (by omega) ⟨by omega, by omega⟩
    · exact xk_lies hfx (lfx.trans (by decide +kernel)) (rfx 0 1 (by decide +kernel)) hfs (rfs 9 23 (by decide +kernel)) hfa e1 (by omega) ⟨by omega, by omega⟩
  refine ex_pair hI (by decide) (by decide) hx hm ex (fun h1 fm fr m1 m2 m3 m4 _ => xr_lies m1 m2 m3 m4 e1 (by omega) ⟨by omega, by omega⟩) v1 v2 v3 v4 v5 v6 v7 v8 (fun v1 h1' hE => ?_)
  obtain ⟨rfl, rfl⟩ := hE
  refine ⟨f b, rfl, fun hq fm fr v2 h2' _ hr hR hs hE2 => ?_⟩
  obtain ⟨rfl, rfl⟩ := hE2
  have hix : fr (52 + b) = f b := by
    have := rl_num hI hs (e := (23, 0, 1, 12, 52, 1, 0)) (by decide +kernel) rfl (i := b) (show b < 12 by omega) (t := f b) (by rw [show rlz (23, 0, 1, 12, 52, 1, 0) b = b from by show 0 + 1 * _ = _; omega]; exact cv_arr hfa _)
    rw [show rlr (23, 0, 1, 12, 52, 1, 0) b = 52 + b from by show 52 + 1 * _ = _; omega] at this
    exact this
  refine ⟨by rw [hix], upd fr (52 + b) x2, ?_, fun e he => ?_⟩
  · rw [List.getElem?_set_ne (by omega)]
    exact List.getElem?_set_self (by rw [List.length_set]; exact (List.getElem?_eq_some_iff.mp hr).1)
  have u : ∀ o, o ≠ 0 → o ≠ 23 → ((h.set (b0 + 23) (.inl (0, 12, upd f b x2))).set (b0 + 0) (.inr (11, fx.set 7 (.int (Int32.ofInt 0)))))[b0 + o]? = h[b0 + o]? := fun o h1 h2 => by rw [List.getElem?_set_ne (by omega), List.getElem?_set_ne (by omega)]
  have ua : ((h.set (b0 + 23) (.inl (0, 12, upd f b x2))).set (b0 + 0) (.inr (11, fx.set 7 (.int (Int32.ofInt 0)))))[b0 + 23]? = some (.inl (0, 12, upd f b x2)) := by
    rw [List.getElem?_set_ne (by omega)]
    exact List.getElem?_set_self (List.getElem?_eq_some_iff.mp hfa).1
  have he' := he
  simp only [rlE, List.mem_cons, List.not_mem_nil, or_false] at he'
  rcases he' with rfl | rfl | rfl | rfl | rfl | rfl | rfl | rfl | rfl | rfl | rfl | rfl
  · exact exR_un hR he (u 1 (by decide) (by decide)) (fun i hi => by
      have hi : i < 1 := hi
      show upd fr _ _ (7 + 1 * i) = fr (7 + 1 * i)
      exact upd_ne (by omega))
  · exact exR_un hR he (u 30 (by decide) (by decide)) (fun i hi => by
      have hi : i < 1 := hi
      show upd fr _ _ (8 + 1 * i) = fr (8 + 1 * i)
      exact upd_ne (by omega))
  · exact exR_un hR he (u 37 (by decide) (by decide)) (fun i hi => by
      have hi : i < 1 := hi
      show upd fr _ _ (3 + 1 * i) = fr (3 + 1 * i)
      exact upd_ne (by omega))
  · exact exR_un hR he (u 44 (by decide) (by decide)) (fun i hi => by
      have hi : i < 1 := hi
      show upd fr _ _ (5 + 1 * i) = fr (5 + 1 * i)
      exact upd_ne (by omega))
  · exact exR_un hR he (u 37 (by decide) (by decide)) (fun i hi => by
      have hi : i < 1 := hi
      show upd fr _ _ (4 + 1 * i) = fr (4 + 1 * i)
      exact upd_ne (by omega))
  · refine ⟨ck_arr (o := 23) rfl ua, fun i hi => ?_⟩
    have hi : i < 12 := hi
    refine ⟨(upd f b x2 i).toInt, ?_, ?_⟩
    · rw [show rlz (23, 0, 1, 12, 52, 1, 0) i = i from by show 0 + 1 * i = i; omega]
      exact cv_arr ua i
    · show (upd fr (52 + b) x2 (52 + 1 * i)).toInt = (upd f b x2 i).toInt
      by_cases q : i = b
      · rw [q, Nat.one_mul, upd_eq, upd_eq]
      · rw [upd_ne (by omega), upd_ne q]
        have := rl_num hI hs he rfl (i := i) hi (t := f i) (by rw [show rlz (23, 0, 1, 12, 52, 1, 0) i = i from by show 0 + 1 * i = i; omega]; exact cv_arr hfa i)
        exact congrArg Int32.toInt this
  · exact exR_un hR he (u 24 (by decide) (by decide)) (fun i hi => by
      have hi : i < 12 := hi
      show upd fr _ _ (64 + 1 * i) = fr (64 + 1 * i)
      exact upd_ne (by omega))
  · exact exR_un hR he (u 25 (by decide) (by decide)) (fun i hi => by
      have hi : i < 12 := hi
      show upd fr _ _ (5030 + 1 * i) = fr (5030 + 1 * i)
      exact upd_ne (by omega))
  · exact exR_un hR he (u 28 (by decide) (by decide)) (fun i hi => by
      have hi : i < 3 := hi
      show upd fr _ _ (76 + 1 * i) = fr (76 + 1 * i)
      exact upd_ne (by omega))
  · exact exR_un hR he (u 29 (by decide) (by decide)) (fun i hi => by
      have hi : i < 300 := hi
      show upd fr _ _ (80 + 1 * i) = fr (80 + 1 * i)
      exact upd_ne (by omega))
  · exact exR_un hR he (u 41 (by decide) (by decide)) (fun i hi => by
      have hi : i < 16 := hi
      show upd fr _ _ (456 + 3 * i) = fr (456 + 3 * i)
      exact upd_ne (by omega))
  · exact exR_un hR he (u 2 (by decide) (by decide)) (fun i hi => by
      have hi : i < 8 := hi
      show upd fr _ _ (30 + 1 * i) = fr (30 + 1 * i)
      exact upd_ne (by omega))
theorem eu_493 (hk : kOK TTs g (EIm n) l Kx_493) {W0 : List aR} {bk0 bk : aB} {h0 h : jH} (hO : hOK TTs g (EIm n) W0 bk0 h0 bk h) {a0 : Nat} (ha0 : bk 0 = some a0) {x1 : Int32} (hx1 : (-2147483648 : Int) ≤ x1.toInt ∧ x1.toInt ≤ 2147483647) {x2 : Int32} (hx2 : (-2147483648 : Int) ≤ x2.toInt ∧ x2.toInt ≤ 2147483647) :
    jCal l g 162 2 [.ref (g.2.2 + (a0 + 0)), .int x1, .int x2] h 0 0 (kPost TTs g (EIm n) Kx_493 bk h [x1.toInt, x2.toInt]) := by
  refine hk bk h [.ref (g.2.2 + (a0 + 0)), .int x1, .int x2] [x1.toInt, x2.toInt] hO.1 hO.2.1 hO.2.2.1 hO.2.2.2.2.2 (show 3 ≤ jmx 162 by decide +kernel) rfl (fun q hq => ?_) ⟨⟨rfl, fun i e z he hz => ?_⟩, eFm_plain (plain_app (spEnv_plain _) clEnv_plain), fun F hF => absurd hF List.not_mem_nil, fun i v hv => ?_, trivial, fun q hq => ?_, fun B hB => absurd hB List.not_mem_nil⟩
  · have hq : q ∈ ([] : List (Nat × Int × Nat)) := hq
    exact absurd hq List.not_mem_nil
  · match i, he, hz with
    | 0, he, hz => cases he; cases hz; exact hx1
    | 1, he, hz => cases he; cases hz; exact hx2
    | i + 2, he, _ => cases he
  · match i, hv with
    | 0, hv => cases hv; exact ⟨_, rfl, a0, ha0, rfl⟩
    | 1, hv => cases hv; exact ⟨_, rfl, x1, rfl, rfl⟩
    | 2, hv => cases hv; exact ⟨_, rfl, x2, rfl, rfl⟩
    | 3, hv => cases hv
    | i + 4, hv => cases hv
  · exact absurd hq List.not_mem_nil
theorem eu_654 (hk : kOK TTs g (EIm n) l Kx_654) {W0 : List aR} {bk0 bk : aB} {h0 h : jH} (hO : hOK TTs g (EIm n) W0 bk0 h0 bk h) {a1 : Nat} (ha1 : bk 1 = some a1) {x1 : Int32} (hx1 : (-2147483648 : Int) ≤ x1.toInt ∧ x1.toInt ≤ 2147483647) {x2 : Int32} (hx2 : (-2147483648 : Int) ≤ x2.toInt ∧ x2.toInt ≤ 2147483647) :
    jCal l g 295 3 [.ref (g.2.2 + (a1 + 0)), .int x1, .int x2] h 0 0 (kPost TTs g (EIm n) Kx_654 bk h [x1.toInt, x2.toInt]) := by
  refine hk bk h [.ref (g.2.2 + (a1 + 0)), .int x1, .int x2] [x1.toInt, x2.toInt] hO.1 hO.2.1 hO.2.2.1 hO.2.2.2.2.2 (show 3 ≤ jmx 295 by decide +kernel) rfl (fun q hq => ?_) ⟨⟨rfl, fun i e z he hz => ?_⟩, eFm_plain (plain_app (spEnv_plain _) clEnv_plain), fun F hF => absurd hF List.not_mem_nil, fun i v hv => ?_, trivial, fun q hq => ?_, fun B hB => absurd hB List.not_mem_nil⟩
  · have hq : q ∈ ([] : List (Nat × Int × Nat)) := hq
    exact absurd hq List.not_mem_nil
  · match i, he, hz with
    | 0, he, hz => cases he; cases hz; exact hx1
    | 1, he, hz => cases he; cases hz; exact hx2
    | i + 2, he, _ => cases he
  · match i, hv with
    | 0, hv => cases hv; exact ⟨_, rfl, a1, ha1, rfl⟩
    | 1, hv => cases hv; exact ⟨_, rfl, x1, rfl, rfl⟩
    | 2, hv => cases hv; exact ⟨_, rfl, x2, rfl, rfl⟩
    | 3, hv => cases hv
    | i + 4, hv => cases hv
  · exact absurd hq List.not_mem_nil
theorem cw_38 : (apW Kx_493.2.2.2.2.2.2.2.1 [(1, 1, 1, 1)] = true ∧ apW Kx_493.2.2.2.2.2.2.2.1 [(1, 1, 5066, 5066)] = true ∧ apW Kx_654.2.2.2.2.2.2.2.1 [(1, 1, 1, 1)] = true ∧ apW Kx_654.2.2.2.2.2.2.2.1 [(1, 1, 5066, 5066)] = true) ∧ (apW Kx_493.2.2.2.2.2.2.2.1 rlFI = true ∧ apW Kx_654.2.2.2.2.2.2.2.1 rlFI = true ∧ apW Kx_493.2.2.2.2.2.2.2.1 [(1, 1, 0, 5269)] = true ∧ rlE.all (fun e => apW Kx_654.2.2.2.2.2.2.2.1 [rlX 0 0 e]) = true) := by decide +kernel
set_option maxRecDepth 16384 in
set_option maxHeartbeats 4000000 in
theorem cp_38 (hlow : ∀ (k : Nat) (K : aK), KTx[k]? = some K → kOK TTs g (EIm n) l K) {b0 b1 : Nat} {bk : aB} {h : jH} (hI : lwI g n b0 b1 bk h) {x1 x2 : Int32} : cpS l g n b0 b1 h 162 295 [.int x1, .int x2] 0 0 true (k6 bk) := by
  obtain ⟨⟨v1, v2, v3, v4⟩, v5, v6, v7, v8⟩ := cw_38
  have hx := eu_493 (hlow 493 _ rfl) (hI.ok []) hI.2.2.2.1 (⟨i32_lo x1, i32_hi x1⟩) (⟨i32_lo x2, i32_hi x2⟩)
  have hm : ∀ bk1 h1, hOK TTs g (EIm n) Kx_493.2.2.2.2.2.2.2.1 bk h bk1 h1 → bk1 1 = some b1 → _ := fun bk1 h1 k1 p1 => eu_654 (hlow 654 _ rfl) k1 p1 (⟨i32_lo x1, i32_hi x1⟩) (⟨i32_lo x2, i32_hi x2⟩)
  by_cases g_0l : x1.toInt < 0
  · exact bad_pair hI (by decide) (by decide) hx hm (fun fsx q1 q2 q3 => xk_station_0l q1 q2 (by omega)) (fun h1 fsm fr m1 m2 m3 m4 m5 => xr_station_0l m1 m2 (by omega)) v1 v2 v3 v4 v5 v6 v7 v8
  by_cases g_0h : 11 < x1.toInt
  · exact bad_pair hI (by decide) (by decide) hx hm (fun fsx q1 q2 q3 => xk_station_0h q1 q2 (by omega)) (fun h1 fsm fr m1 m2 m3 m4 m5 => xr_station_0h m1 m2 (by omega)) v1 v2 v3 v4 v5 v6 v7 v8
  by_cases g_1l : x2.toInt < -1
  · exact bad_pair hI (by decide) (by decide) hx hm (fun fsx q1 q2 q3 => xk_station_1l q1 q2 ⟨by omega, by omega⟩ (by omega)) (fun h1 fsm fr m1 m2 m3 m4 m5 => xr_station_1l m1 m2 ⟨by omega, by omega⟩ (by omega)) v1 v2 v3 v4 v5 v6 v7 v8
  by_cases g_1h : 5 < x2.toInt
  · exact bad_pair hI (by decide) (by decide) hx hm (fun fsx q1 q2 q3 => xk_station_1h q1 q2 ⟨by omega, by omega⟩ (by omega)) (fun h1 fsm fr m1 m2 m3 m4 m5 => xr_station_1h m1 m2 ⟨by omega, by omega⟩ (by omega)) v1 v2 v3 v4 v5 v6 v7 v8
  obtain ⟨fx, hfx, lfx, rfx, -⟩ := k_obj (o := 0) (ci := 11) hI.1 hI.2.2.2.1 rfl
  obtain ⟨fs, hfs, lfs, rfs, -⟩ := k_obj (o := 1) (ci := 7) hI.1 hI.2.2.2.1 rfl
  obtain ⟨f, hfa, -⟩ := k_arr (o := 25) hI.1 hI.2.2.2.1 rfl
  obtain ⟨b, e1⟩ : ∃ b : Nat, x1.toInt = (b : Int) := ⟨x1.toInt.toNat, by omega⟩
  refine ex_pair hI (by decide) (by decide) hx hm (xk_station hfx (lfx.trans (by decide +kernel)) (rfx 0 1 (by decide +kernel)) hfs (rfs 11 25 (by decide +kernel)) hfa e1 (by omega) ⟨by omega, by omega⟩) (fun h1 fm fr m1 m2 m3 m4 _ => xr_station m1 m2 m3 m4 e1 (by omega) ⟨by omega, by omega⟩) v1 v2 v3 v4 v5 v6 v7 v8 (fun v1 h1' hE => ?_)
  obtain ⟨rfl, rfl⟩ := hE
  refine ⟨f b, rfl, fun hq fm fr v2 h2' _ hr hR hs hE2 => ?_⟩
  obtain ⟨rfl, rfl⟩ := hE2
  have hix : fr (5030 + b) = f b := by
    have := rl_num hI hs (e := (25, 0, 1, 12, 5030, 1, 0)) (by decide +kernel) rfl (i := b) (show b < 12 by omega) (t := f b) (by rw [show rlz (25, 0, 1, 12, 5030, 1, 0) b = b from by show 0 + 1 * _ = _; omega]; exact cv_arr hfa _)
    rw [show rlr (25, 0, 1, 12, 5030, 1, 0) b = 5030 + b from by show 5030 + 1 * _ = _; omega] at this
    exact this
  refine ⟨by rw [hix], upd fr (5030 + b) x2, ?_, fun e he => ?_⟩
  · rw [List.getElem?_set_ne (by omega)]
    exact List.getElem?_set_self (by rw [List.length_set]; exact (List.getElem?_eq_some_iff.mp hr).1)
  have u : ∀ o, o ≠ 0 → o ≠ 25 → ((h.set (b0 + 25) (.inl (0, 12, upd f b x2))).set (b0 + 0) (.inr (11, fx.set 7 (.int (Int32.ofInt 0)))))[b0 + o]? = h[b0 + o]? := fun o h1 h2 => by rw [List.getElem?_set_ne (by omega), List.getElem?_set_ne (by omega)]
  have ua : ((h.set (b0 + 25) (.inl (0, 12, upd f b x2))).set (b0 + 0) (.inr (11, fx.set 7 (.int (Int32.ofInt 0)))))[b0 + 25]? = some (.inl (0, 12, upd f b x2)) := by
    rw [List.getElem?_set_ne (by omega)]
    exact List.getElem?_set_self (List.getElem?_eq_some_iff.mp hfa).1
  have he' := he
  simp only [rlE, List.mem_cons, List.not_mem_nil, or_false] at he'
  rcases he' with rfl | rfl | rfl | rfl | rfl | rfl | rfl | rfl | rfl | rfl | rfl | rfl
  · exact exR_un hR he (u 1 (by decide) (by decide)) (fun i hi => by
      have hi : i < 1 := hi
      show upd fr _ _ (7 + 1 * i) = fr (7 + 1 * i)
      exact upd_ne (by omega))
  · exact exR_un hR he (u 30 (by decide) (by decide)) (fun i hi => by
      have hi : i < 1 := hi
      show upd fr _ _ (8 + 1 * i) = fr (8 + 1 * i)
      exact upd_ne (by omega))
  · exact exR_un hR he (u 37 (by decide) (by decide)) (fun i hi => by
      have hi : i < 1 := hi
      show upd fr _ _ (3 + 1 * i) = fr (3 + 1 * i)
      exact upd_ne (by omega))
  · exact exR_un hR he (u 44 (by decide) (by decide)) (fun i hi => by
      have hi : i < 1 := hi
      show upd fr _ _ (5 + 1 * i) = fr (5 + 1 * i)
      exact upd_ne (by omega))
  · exact exR_un hR he (u 37 (by decide) (by decide)) (fun i hi => by
      have hi : i < 1 := hi
      show upd fr _ _ (4 + 1 * i) = fr (4 + 1 * i)
      exact upd_ne (by omega))
  · exact exR_un hR he (u 23 (by decide) (by decide)) (fun i hi => by
      have hi : i < 12 := hi
      show upd fr _ _ (52 + 1 * i) = fr (52 + 1 * i)
      exact upd_ne (by omega))
  · exact exR_un hR he (u 24 (by decide) (by decide)) (fun i hi => by
      have hi : i < 12 := hi
      show upd fr _ _ (64 + 1 * i) = fr (64 + 1 * i)
      exact upd_ne (by omega))
  · refine ⟨ck_arr (o := 25) rfl ua, fun i hi => ?_⟩
    have hi : i < 12 := hi
    refine ⟨(upd f b x2 i).toInt, ?_, ?_⟩
    · rw [show rlz (25, 0, 1, 12, 5030, 1, 0) i = i from by show 0 + 1 * i = i; omega]
      exact cv_arr ua i
    · show (upd fr (5030 + b) x2 (5030 + 1 * i)).toInt = (upd f b x2 i).toInt
      by_cases q : i = b
      · rw [q, Nat.one_mul, upd_eq, upd_eq]
      · rw [upd_ne (by omega), upd_ne q]
        have := rl_num hI hs he rfl (i := i) hi (t := f i) (by rw [show rlz (25, 0, 1, 12, 5030, 1, 0) i = i from by show 0 + 1 * i = i; omega]; exact cv_arr hfa i)
        exact congrArg Int32.toInt this
  · exact exR_un hR he (u 28 (by decide) (by decide)) (fun i hi => by
      have hi : i < 3 := hi
      show upd fr _ _ (76 + 1 * i) = fr (76 + 1 * i)
      exact upd_ne (by omega))
  · exact exR_un hR he (u 29 (by decide) (by decide)) (fun i hi => by
      have hi : i < 300 := hi
      show upd fr _ _ (80 + 1 * i) = fr (80 + 1 * i)
      exact upd_ne (by omega))
  · exact exR_un hR he (u 41 (by decide) (by decide)) (fun i hi => by
      have hi : i < 16 := hi
      show upd fr _ _ (456 + 3 * i) = fr (456 + 3 * i)
      exact upd_ne (by omega))
  · exact exR_un hR he (u 2 (by decide) (by decide)) (fun i hi => by
      have hi : i < 8 := hi
      show upd fr _ _ (30 + 1 * i) = fr (30 + 1 * i)
      exact upd_ne (by omega))
theorem eu_449 (hk : kOK TTs g (EIm n) l Kx_449) {W0 : List aR} {bk0 bk : aB} {h0 h : jH} (hO : hOK TTs g (EIm n) W0 bk0 h0 bk h) {a0 : Nat} (ha0 : bk 0 = some a0) {x1 : Int32} (hx1 : (-2147483648 : Int) ≤ x1.toInt ∧ x1.toInt ≤ 2147483647) {x2 : Int32} (hx2 : (-2147483648 : Int) ≤ x2.toInt ∧ x2.toInt ≤ 2147483647) :
    jCal l g 178 2 [.ref (g.2.2 + (a0 + 0)), .int x1, .int x2] h 0 0 (kPost TTs g (EIm n) Kx_449 bk h [x1.toInt, x2.toInt]) := by
  refine hk bk h [.ref (g.2.2 + (a0 + 0)), .int x1, .int x2] [x1.toInt, x2.toInt] hO.1 hO.2.1 hO.2.2.1 hO.2.2.2.2.2 (show 3 ≤ jmx 178 by decide +kernel) rfl (fun q hq => ?_) ⟨⟨rfl, fun i e z he hz => ?_⟩, eFm_plain (plain_app (spEnv_plain _) clEnv_plain), fun F hF => absurd hF List.not_mem_nil, fun i v hv => ?_, trivial, fun q hq => ?_, fun B hB => absurd hB List.not_mem_nil⟩
  · have hq : q ∈ ([] : List (Nat × Int × Nat)) := hq
    exact absurd hq List.not_mem_nil
  · match i, he, hz with
    | 0, he, hz => cases he; cases hz; exact hx1
    | 1, he, hz => cases he; cases hz; exact hx2
    | i + 2, he, _ => cases he
  · match i, hv with
    | 0, hv => cases hv; exact ⟨_, rfl, a0, ha0, rfl⟩
    | 1, hv => cases hv; exact ⟨_, rfl, x1, rfl, rfl⟩
    | 2, hv => cases hv; exact ⟨_, rfl, x2, rfl, rfl⟩
    | 3, hv => cases hv
    | i + 4, hv => cases hv
  · exact absurd hq List.not_mem_nil
theorem eu_521 (hk : kOK TTs g (EIm n) l Kx_521) {W0 : List aR} {bk0 bk : aB} {h0 h : jH} (hO : hOK TTs g (EIm n) W0 bk0 h0 bk h) {a1 : Nat} (ha1 : bk 1 = some a1) {x1 : Int32} (hx1 : (-2147483648 : Int) ≤ x1.toInt ∧ x1.toInt ≤ 2147483647) {x2 : Int32} (hx2 : (-2147483648 : Int) ≤ x2.toInt ∧ x2.toInt ≤ 2147483647) :
    jCal l g 306 2 [.ref (g.2.2 + (a1 + 0)), .int x1, .int x2] h 0 0 (kPost TTs g (EIm n) Kx_521 bk h [x1.toInt, x2.toInt]) := by
  refine hk bk h [.ref (g.2.2 + (a1 + 0)), .int x1, .int x2] [x1.toInt, x2.toInt] hO.1 hO.2.1 hO.2.2.1 hO.2.2.2.2.2 (show 3 ≤ jmx 306 by decide +kernel) rfl (fun q hq => ?_) ⟨⟨rfl, fun i e z he hz => ?_⟩, eFm_plain (plain_app (spEnv_plain _) clEnv_plain), fun F hF => absurd hF List.not_mem_nil, fun i v hv => ?_, trivial, fun q hq => ?_, fun B hB => absurd hB List.not_mem_nil⟩
  · have hq : q ∈ ([] : List (Nat × Int × Nat)) := hq
    exact absurd hq List.not_mem_nil
  · match i, he, hz with
    | 0, he, hz => cases he; cases hz; exact hx1
    | 1, he, hz => cases he; cases hz; exact hx2
    | i + 2, he, _ => cases he
  · match i, hv with
    | 0, hv => cases hv; exact ⟨_, rfl, a1, ha1, rfl⟩
    | 1, hv => cases hv; exact ⟨_, rfl, x1, rfl, rfl⟩
    | 2, hv => cases hv; exact ⟨_, rfl, x2, rfl, rfl⟩
    | 3, hv => cases hv
    | i + 4, hv => cases hv
  · exact absurd hq List.not_mem_nil
theorem cw_44 : (apW Kx_449.2.2.2.2.2.2.2.1 [(1, 1, 1, 1)] = true ∧ apW Kx_449.2.2.2.2.2.2.2.1 [(1, 1, 5066, 5066)] = true ∧ apW Kx_521.2.2.2.2.2.2.2.1 [(1, 1, 1, 1)] = true ∧ apW Kx_521.2.2.2.2.2.2.2.1 [(1, 1, 5066, 5066)] = true) ∧ (apW Kx_449.2.2.2.2.2.2.2.1 rlFI = true ∧ apW Kx_521.2.2.2.2.2.2.2.1 rlFI = true ∧ apW Kx_449.2.2.2.2.2.2.2.1 [(1, 1, 0, 5269)] = true ∧ rlE.all (fun e => apW Kx_521.2.2.2.2.2.2.2.1 [rlX 0 0 e]) = true) := by decide +kernel
set_option maxRecDepth 16384 in
set_option maxHeartbeats 4000000 in
theorem cp_44 (hlow : ∀ (k : Nat) (K : aK), KTx[k]? = some K → kOK TTs g (EIm n) l K) {b0 b1 : Nat} {bk : aB} {h : jH} (hI : lwI g n b0 b1 bk h) {x1 x2 : Int32} : cpS l g n b0 b1 h 178 306 [.int x1, .int x2] 0 0 true (k6 bk) := by
  obtain ⟨⟨v1, v2, v3, v4⟩, v5, v6, v7, v8⟩ := cw_44
  have hx := eu_449 (hlow 449 _ rfl) (hI.ok []) hI.2.2.2.1 (⟨i32_lo x1, i32_hi x1⟩) (⟨i32_lo x2, i32_hi x2⟩)
  have hm : ∀ bk1 h1, hOK TTs g (EIm n) Kx_449.2.2.2.2.2.2.2.1 bk h bk1 h1 → bk1 1 = some b1 → _ := fun bk1 h1 k1 p1 => eu_521 (hlow 521 _ rfl) k1 p1 (⟨i32_lo x1, i32_hi x1⟩) (⟨i32_lo x2, i32_hi x2⟩)
  by_cases g_1l : x2.toInt < -30
  · exact bad_pair hI (by decide) (by decide) hx hm (fun fsx q1 q2 q3 => xk_clock_1l q1 q2 (by omega)) (fun h1 fsm fr m1 m2 m3 m4 m5 => xr_clock_1l m1 m2 (by omega)) v1 v2 v3 v4 v5 v6 v7 v8
  by_cases g_1h : 30 < x2.toInt
  · exact bad_pair hI (by decide) (by decide) hx hm (fun fsx q1 q2 q3 => xk_clock_1h q1 q2 (by omega)) (fun h1 fsm fr m1 m2 m3 m4 m5 => xr_clock_1h m1 m2 (by omega)) v1 v2 v3 v4 v5 v6 v7 v8
  by_cases g_0l : x1.toInt < 0
  · exact bad_pair hI (by decide) (by decide) hx hm (fun fsx q1 q2 q3 => xk_clock_0l q1 q2 ⟨by omega, by omega⟩ (by omega)) (fun h1 fsm fr m1 m2 m3 m4 m5 => xr_clock_0l m1 m2 ⟨by omega, by omega⟩ (by omega)) v1 v2 v3 v4 v5 v6 v7 v8
  by_cases g_0h : 2 < x1.toInt
  · exact bad_pair hI (by decide) (by decide) hx hm (fun fsx q1 q2 q3 => xk_clock_0h q1 q2 ⟨by omega, by omega⟩ (by omega)) (fun h1 fsm fr m1 m2 m3 m4 m5 => xr_clock_0h m1 m2 ⟨by omega, by omega⟩ (by omega)) v1 v2 v3 v4 v5 v6 v7 v8
  obtain ⟨fx, hfx, lfx, rfx, -⟩ := k_obj (o := 0) (ci := 11) hI.1 hI.2.2.2.1 rfl
  obtain ⟨fs, hfs, lfs, rfs, -⟩ := k_obj (o := 1) (ci := 7) hI.1 hI.2.2.2.1 rfl
  obtain ⟨f, hfa, -⟩ := k_arr (o := 28) hI.1 hI.2.2.2.1 rfl
  obtain ⟨b, e1⟩ : ∃ b : Nat, x1.toInt = (b : Int) := ⟨x1.toInt.toNat, by omega⟩
  refine ex_pair hI (by decide) (by decide) hx hm (xk_clock hfx (lfx.trans (by decide +kernel)) (rfx 0 1 (by decide +kernel)) hfs (rfs 14 28 (by decide +kernel)) hfa e1 (by omega) ⟨by omega, by omega⟩) (fun h1 fm fr m1 m2 m3 m4 _ => xr_clock m1 m2 m3 m4 e1 (by omega) ⟨by omega, by omega⟩) v1 v2 v3 v4 v5 v6 v7 v8 (fun v1 h1' hE => ?_)
  obtain ⟨rfl, rfl⟩ := hE
  refine ⟨f b, rfl, fun hq fm fr v2 h2' _ hr hR hs hE2 => ?_⟩
  obtain ⟨rfl, rfl⟩ := hE2
  have hix : fr (76 + b) = f b := by
    have := rl_num hI hs (e := (28, 0, 1, 3, 76, 1, 0)) (by decide +kernel) rfl (i := b) (show b < 3 by omega) (t := f b) (by rw [show rlz (28, 0, 1, 3, 76, 1, 0) b = b from by show 0 + 1 * _ = _; omega]; exact cv_arr hfa _)
    rw [show rlr (28, 0, 1, 3, 76, 1, 0) b = 76 + b from by show 76 + 1 * _ = _; omega] at this
    exact this
  refine ⟨by rw [hix], upd fr (76 + b) x2, ?_, fun e he => ?_⟩
  · rw [List.getElem?_set_ne (by omega)]
    exact List.getElem?_set_self (by rw [List.length_set]; exact (List.getElem?_eq_some_iff.mp hr).1)
  have u : ∀ o, o ≠ 0 → o ≠ 28 → ((h.set (b0 + 28) (.inl (0, 3, upd f b x2))).set (b0 + 0) (.inr (11, fx.set 7 (.int (Int32.ofInt 0)))))[b0 + o]? = h[b0 + o]? := fun o h1 h2 => by rw [List.getElem?_set_ne (by omega), List.getElem?_set_ne (by omega)]
  have ua : ((h.set (b0 + 28) (.inl (0, 3, upd f b x2))).set (b0 + 0) (.inr (11, fx.set 7 (.int (Int32.ofInt 0)))))[b0 + 28]? = some (.inl (0, 3, upd f b x2)) := by
    rw [List.getElem?_set_ne (by omega)]
    exact List.getElem?_set_self (List.getElem?_eq_some_iff.mp hfa).1
  have he' := he
  simp only [rlE, List.mem_cons, List.not_mem_nil, or_false] at he'
  rcases he' with rfl | rfl | rfl | rfl | rfl | rfl | rfl | rfl | rfl | rfl | rfl | rfl
  · exact exR_un hR he (u 1 (by decide) (by decide)) (fun i hi => by
      have hi : i < 1 := hi
      show upd fr _ _ (7 + 1 * i) = fr (7 + 1 * i)
      exact upd_ne (by omega))
  · exact exR_un hR he (u 30 (by decide) (by decide)) (fun i hi => by
      have hi : i < 1 := hi
      show upd fr _ _ (8 + 1 * i) = fr (8 + 1 * i)
      exact upd_ne (by omega))
  · exact exR_un hR he (u 37 (by decide) (by decide)) (fun i hi => by
      have hi : i < 1 := hi
      show upd fr _ _ (3 + 1 * i) = fr (3 + 1 * i)
      exact upd_ne (by omega))
  · exact exR_un hR he (u 44 (by decide) (by decide)) (fun i hi => by
      have hi : i < 1 := hi
      show upd fr _ _ (5 + 1 * i) = fr (5 + 1 * i)
      exact upd_ne (by omega))
  · exact exR_un hR he (u 37 (by decide) (by decide)) (fun i hi => by
      have hi : i < 1 := hi
      show upd fr _ _ (4 + 1 * i) = fr (4 + 1 * i)
      exact upd_ne (by omega))
  · exact exR_un hR he (u 23 (by decide) (by decide)) (fun i hi => by
      have hi : i < 12 := hi
      show upd fr _ _ (52 + 1 * i) = fr (52 + 1 * i)
      exact upd_ne (by omega))
  · exact exR_un hR he (u 24 (by decide) (by decide)) (fun i hi => by
      have hi : i < 12 := hi
      show upd fr _ _ (64 + 1 * i) = fr (64 + 1 * i)
      exact upd_ne (by omega))
  · exact exR_un hR he (u 25 (by decide) (by decide)) (fun i hi => by
      have hi : i < 12 := hi
      show upd fr _ _ (5030 + 1 * i) = fr (5030 + 1 * i)
      exact upd_ne (by omega))
  · refine ⟨ck_arr (o := 28) rfl ua, fun i hi => ?_⟩
    have hi : i < 3 := hi
    refine ⟨(upd f b x2 i).toInt, ?_, ?_⟩
    · rw [show rlz (28, 0, 1, 3, 76, 1, 0) i = i from by show 0 + 1 * i = i; omega]
      exact cv_arr ua i
    · show (upd fr (76 + b) x2 (76 + 1 * i)).toInt = (upd f b x2 i).toInt
      by_cases q : i = b
      · rw [q, Nat.one_mul, upd_eq, upd_eq]
      · rw [upd_ne (by omega), upd_ne q]
        have := rl_num hI hs he rfl (i := i) hi (t := f i) (by rw [show rlz (28, 0, 1, 3, 76, 1, 0) i = i from by show 0 + 1 * i = i; omega]; exact cv_arr hfa i)
        exact congrArg Int32.toInt this
  · exact exR_un hR he (u 29 (by decide) (by decide)) (fun i hi => by
      have hi : i < 300 := hi
      show upd fr _ _ (80 + 1 * i) = fr (80 + 1 * i)
      exact upd_ne (by omega))
  · exact exR_un hR he (u 41 (by decide) (by decide)) (fun i hi => by
      have hi : i < 16 := hi
      show upd fr _ _ (456 + 3 * i) = fr (456 + 3 * i)
      exact upd_ne (by omega))
  · exact exR_un hR he (u 2 (by decide) (by decide)) (fun i hi => by
      have hi : i < 8 := hi
      show upd fr _ _ (30 + 1 * i) = fr (30 + 1 * i)
      exact upd_ne (by omega))
theorem eu_453 (hk : kOK TTs g (EIm n) l Kx_453) {W0 : List aR} {bk0 bk : aB} {h0 h : jH} (hO : hOK TTs g (EIm n) W0 bk0 h0 bk h) {a0 : Nat} (ha0 : bk 0 = some a0) {x1 : Int32} (hx1 : (-2147483648 : Int) ≤ x1.toInt ∧ x1.toInt ≤ 2147483647) {x2 : Int32} (hx2 : (-2147483648 : Int) ≤ x2.toInt ∧ x2.toInt ≤ 2147483647) {x3 : Int32} (hx3 : (-2147483648 : Int) ≤ x3.toInt ∧ x3.toInt ≤ 2147483647) :
    jCal l g 180 2 [.ref (g.2.2 + (a0 + 0)), .int x1, .int x2, .int x3] h 0 0 (kPost TTs g (EIm n) Kx_453 bk h [x1.toInt, x2.toInt, x3.toInt]) := by
  refine hk bk h [.ref (g.2.2 + (a0 + 0)), .int x1, .int x2, .int x3] [x1.toInt, x2.toInt, x3.toInt] hO.1 hO.2.1 hO.2.2.1 hO.2.2.2.2.2 (show 4 ≤ jmx 180 by decide +kernel) rfl (fun q hq => ?_) ⟨⟨rfl, fun i e z he hz => ?_⟩, eFm_plain (plain_app (spEnv_plain _) clEnv_plain), fun F hF => absurd hF List.not_mem_nil, fun i v hv => ?_, trivial, fun q hq => ?_, fun B hB => absurd hB List.not_mem_nil⟩
  · have hq : q ∈ ([] : List (Nat × Int × Nat)) := hq
    exact absurd hq List.not_mem_nil
  · match i, he, hz with
    | 0, he, hz => cases he; cases hz; exact hx1
    | 1, he, hz => cases he; cases hz; exact hx2
    | 2, he, hz => cases he; cases hz; exact hx3
    | i + 3, he, _ => cases he
  · match i, hv with
    | 0, hv => cases hv; exact ⟨_, rfl, a0, ha0, rfl⟩
    | 1, hv => cases hv; exact ⟨_, rfl, x1, rfl, rfl⟩
    | 2, hv => cases hv; exact ⟨_, rfl, x2, rfl, rfl⟩
    | 3, hv => cases hv; exact ⟨_, rfl, x3, rfl, rfl⟩
    | 4, hv => cases hv
    | i + 5, hv => cases hv
  · exact absurd hq List.not_mem_nil
theorem eu_525 (hk : kOK TTs g (EIm n) l Kx_525) {W0 : List aR} {bk0 bk : aB} {h0 h : jH} (hO : hOK TTs g (EIm n) W0 bk0 h0 bk h) {a1 : Nat} (ha1 : bk 1 = some a1) {x1 : Int32} (hx1 : (-2147483648 : Int) ≤ x1.toInt ∧ x1.toInt ≤ 2147483647) {x2 : Int32} (hx2 : (-2147483648 : Int) ≤ x2.toInt ∧ x2.toInt ≤ 2147483647) {x3 : Int32} (hx3 : (-2147483648 : Int) ≤ x3.toInt ∧ x3.toInt ≤ 2147483647) :
    jCal l g 307 3 [.ref (g.2.2 + (a1 + 0)), .int x1, .int x2, .int x3] h 0 0 (kPost TTs g (EIm n) Kx_525 bk h [x1.toInt, x2.toInt, x3.toInt]) := by
  refine hk bk h [.ref (g.2.2 + (a1 + 0)), .int x1, .int x2, .int x3] [x1.toInt, x2.toInt, x3.toInt] hO.1 hO.2.1 hO.2.2.1 hO.2.2.2.2.2 (show 4 ≤ jmx 307 by decide +kernel) rfl (fun q hq => ?_) ⟨⟨rfl, fun i e z he hz => ?_⟩, eFm_plain (plain_app (spEnv_plain _) clEnv_plain), fun F hF => absurd hF List.not_mem_nil, fun i v hv => ?_, trivial, fun q hq => ?_, fun B hB => absurd hB List.not_mem_nil⟩
  · have hq : q ∈ ([] : List (Nat × Int × Nat)) := hq
    exact absurd hq List.not_mem_nil
  · match i, he, hz with
    | 0, he, hz => cases he; cases hz; exact hx1
    | 1, he, hz => cases he; cases hz; exact hx2
    | 2, he, hz => cases he; cases hz; exact hx3
    | i + 3, he, _ => cases he
  · match i, hv with
    | 0, hv => cases hv; exact ⟨_, rfl, a1, ha1, rfl⟩
    | 1, hv => cases hv; exact ⟨_, rfl, x1, rfl, rfl⟩
    | 2, hv => cases hv; exact ⟨_, rfl, x2, rfl, rfl⟩
    | 3, hv => cases hv; exact ⟨_, rfl, x3, rfl, rfl⟩
    | 4, hv => cases hv
    | i + 5, hv => cases hv
  · exact absurd hq List.not_mem_nil
theorem cw_45 : (apW Kx_453.2.2.2.2.2.2.2.1 [(1, 1, 1, 1)] = true ∧ apW Kx_453.2.2.2.2.2.2.2.1 [(1, 1, 5066, 5066)] = true ∧ apW Kx_525.2.2.2.2.2.2.2.1 [(1, 1, 1, 1)] = true ∧ apW Kx_525.2.2.2.2.2.2.2.1 [(1, 1, 5066, 5066)] = true) ∧ (apW Kx_453.2.2.2.2.2.2.2.1 rlFI = true ∧ apW Kx_525.2.2.2.2.2.2.2.1 rlFI = true ∧ apW Kx_453.2.2.2.2.2.2.2.1 [(1, 1, 0, 5269)] = true ∧ rlE.all (fun e => apW Kx_525.2.2.2.2.2.2.2.1 [rlX 0 0 e]) = true) := by decide +kernel
set_option maxRecDepth 16384 in
set_option maxHeartbeats 4000000 in
theorem cp_45 (hlow : ∀ (k : Nat) (K : aK), KTx[k]? = some K → kOK TTs g (EIm n) l K) {b0 b1 : Nat} {bk : aB} {h : jH} (hI : lwI g n b0 b1 bk h) {x1 x2 x3 : Int32} : cpS l g n b0 b1 h 180 307 [.int x1, .int x2, .int x3] 0 0 true (k6 bk) := by
  obtain ⟨⟨v1, v2, v3, v4⟩, v5, v6, v7, v8⟩ := cw_45
  have hx := eu_453 (hlow 453 _ rfl) (hI.ok []) hI.2.2.2.1 (⟨i32_lo x1, i32_hi x1⟩) (⟨i32_lo x2, i32_hi x2⟩) (⟨i32_lo x3, i32_hi x3⟩)
  have hm : ∀ bk1 h1, hOK TTs g (EIm n) Kx_453.2.2.2.2.2.2.2.1 bk h bk1 h1 → bk1 1 = some b1 → _ := fun bk1 h1 k1 p1 => eu_525 (hlow 525 _ rfl) k1 p1 (⟨i32_lo x1, i32_hi x1⟩) (⟨i32_lo x2, i32_hi x2⟩) (⟨i32_lo x3, i32_hi x3⟩)
  by_cases g_1l : x2.toInt < 0
  · exact bad_pair hI (by decide) (by decide) hx hm (fun fsx q1 q2 q3 => xk_code_1l q1 q2 (by omega)) (fun h1 fsm fr m1 m2 m3 m4 m5 => xr_code_1l m1 m2 (by omega)) v1 v2 v3 v4 v5 v6 v7 v8
  by_cases g_1h : 99 < x2.toInt
  · exact bad_pair hI (by decide) (by decide) hx hm (fun fsx q1 q2 q3 => xk_code_1h q1 q2 (by omega)) (fun h1 fsm fr m1 m2 m3 m4 m5 => xr_code_1h m1 m2 (by omega)) v1 v2 v3 v4 v5 v6 v7 v8
  by_cases g_2l : x3.toInt < 1
  · exact bad_pair hI (by decide) (by decide) hx hm (fun fsx q1 q2 q3 => xk_code_2l q1 q2 ⟨by omega, by omega⟩ (by omega)) (fun h1 fsm fr m1 m2 m3 m4 m5 => xr_code_2l m1 m2 ⟨by omega, by omega⟩ (by omega)) v1 v2 v3 v4 v5 v6 v7 v8
  by_cases g_2h : 999 < x3.toInt
  · exact bad_pair hI (by decide) (by decide) hx hm (fun fsx q1 q2 q3 => xk_code_2h q1 q2 ⟨by omega, by omega⟩ (by omega)) (fun h1 fsm fr m1 m2 m3 m4 m5 => xr_code_2h m1 m2 ⟨by omega, by omega⟩ (by omega)) v1 v2 v3 v4 v5 v6 v7 v8
  by_cases g_0l : x1.toInt < 0
  · exact bad_pair hI (by decide) (by decide) hx hm (fun fsx q1 q2 q3 => xk_code_0l q1 q2 ⟨by omega, by omega⟩ ⟨by omega, by omega⟩ (by omega)) (fun h1 fsm fr m1 m2 m3 m4 m5 => xr_code_0l m1 m2 ⟨by omega, by omega⟩ ⟨by omega, by omega⟩ (by omega)) v1 v2 v3 v4 v5 v6 v7 v8
  by_cases g_0h : 2 < x1.toInt
  · exact bad_pair hI (by decide) (by decide) hx hm (fun fsx q1 q2 q3 => xk_code_0h q1 q2 ⟨by omega, by omega⟩ ⟨by omega, by omega⟩ (by omega)) (fun h1 fsm fr m1 m2 m3 m4 m5 => xr_code_0h m1 m2 ⟨by omega, by omega⟩ ⟨by omega, by omega⟩ (by omega)) v1 v2 v3 v4 v5 v6 v7 v8
  obtain ⟨fx, hfx, lfx, rfx, -⟩ := k_obj (o := 0) (ci := 11) hI.1 hI.2.2.2.1 rfl
  obtain ⟨fs, hfs, lfs, rfs, -⟩ := k_obj (o := 1) (ci := 7) hI.1 hI.2.2.2.1 rfl
  obtain ⟨f, hfa, -⟩ := k_arr (o := 29) hI.1 hI.2.2.2.1 rfl
  obtain ⟨b, e1⟩ : ∃ b : Nat, x1.toInt = (b : Int) := ⟨x1.toInt.toNat, by omega⟩
  obtain ⟨c, e2⟩ : ∃ c : Nat, x2.toInt = (c : Int) := ⟨x2.toInt.toNat, by omega⟩
  refine ex_pair hI (by decide) (by decide) hx hm (xk_code hfx (lfx.trans (by decide +kernel)) (rfx 0 1 (by decide +kernel)) hfs (rfs 15 29 (by decide +kernel)) hfa e1 (by omega) e2 (by omega) ⟨by omega, by omega⟩) (fun h1 fm fr m1 m2 m3 m4 _ => xr_code m1 m2 m3 m4 e1 (by omega) e2 (by omega) ⟨by omega, by omega⟩) v1 v2 v3 v4 v5 v6 v7 v8 (fun v1 h1' hE => ?_)
  obtain ⟨rfl, rfl⟩ := hE
  refine ⟨f (100 * b + c), rfl, fun hq fm fr v2 h2' _ hr hR hs hE2 => ?_⟩
  obtain ⟨rfl, rfl⟩ := hE2
  have hix : fr (80 + (100 * b + c)) = f (100 * b + c) := by
    have := rl_num hI hs (e := (29, 0, 1, 300, 80, 1, 0)) (by decide +kernel) rfl (i := (100 * b + c)) (show (100 * b + c) < 300 by omega) (t := f (100 * b + c)) (by rw [show rlz (29, 0, 1, 300, 80, 1, 0) (100 * b + c) = (100 * b + c) from by show 0 + 1 * _ = _; omega]; exact cv_arr hfa _)
    rw [show rlr (29, 0, 1, 300, 80, 1, 0) (100 * b + c) = 80 + (100 * b + c) from by show 80 + 1 * _ = _; omega] at this
    exact this
  refine ⟨by rw [hix], upd fr (80 + (100 * b + c)) x3, ?_, fun e he => ?_⟩
  · rw [List.getElem?_set_ne (by omega)]
    exact List.getElem?_set_self (by rw [List.length_set]; exact (List.getElem?_eq_some_iff.mp hr).1)
  have u : ∀ o, o ≠ 0 → o ≠ 29 → ((h.set (b0 + 29) (.inl (0, 300, upd f (100 * b + c) x3))).set (b0 + 0) (.inr (11, fx.set 7 (.int (Int32.ofInt 0)))))[b0 + o]? = h[b0 + o]? := fun o h1 h2 => by rw [List.getElem?_set_ne (by omega), List.getElem?_set_ne (by omega)]
  have ua : ((h.set (b0 + 29) (.inl (0, 300, upd f (100 * b + c) x3))).set (b0 + 0) (.inr (11, fx.set 7 (.int (Int32.ofInt 0)))))[b0 + 29]? = some (.inl (0, 300, upd f (100 * b + c) x3)) := by
    rw [List.getElem?_set_ne (by omega)]
    exact List.getElem?_set_self (List.getElem?_eq_some_iff.mp hfa).1
  have he' := he
  simp only [rlE, List.mem_cons, List.not_mem_nil, or_false] at he'
  rcases he' with rfl | rfl | rfl | rfl | rfl | rfl | rfl | rfl | rfl | rfl | rfl | rfl
  · exact exR_un hR he (u 1 (by decide) (by decide)) (fun i hi => by
      have hi : i < 1 := hi
      show upd fr _ _ (7 + 1 * i) = fr (7 + 1 * i)
      exact upd_ne (by omega))
  · exact exR_un hR he (u 30 (by decide) (by decide)) (fun i hi => by
      have hi : i < 1 := hi
      show upd fr _ _ (8 + 1 * i) = fr (8 + 1 * i)
      exact upd_ne (by omega))
  · exact exR_un hR he (u 37 (by decide) (by decide)) (fun i hi => by
      have hi : i < 1 := hi
      show upd fr _ _ (3 + 1 * i) = fr (3 + 1 * i)
      exact upd_ne (by omega))
  · exact exR_un hR he (u 44 (by decide) (by decide)) (fun i hi => by
      have hi : i < 1 := hi
      show upd fr _ _ (5 + 1 * i) = fr (5 + 1 * i)
      exact upd_ne (by omega))
  · exact exR_un hR he (u 37 (by decide) (by decide)) (fun i hi => by
      have hi : i < 1 := hi
      show upd fr _ _ (4 + 1 * i) = fr (4 + 1 * i)
      exact upd_ne (by omega))
  · exact exR_un hR he (u 23 (by decide) (by decide)) (fun i hi => by
      have hi : i < 12 := hi
      show upd fr _ _ (52 + 1 * i) = fr (52 + 1 * i)
      exact upd_ne (by omega))
  · exact exR_un hR he (u 24 (by decide) (by decide)) (fun i hi => by
      have hi : i < 12 := hi
      show upd fr _ _ (64 + 1 * i) = fr (64 + 1 * i)
      exact upd_ne (by omega))
  · exact exR_un hR he (u 25 (by decide) (by decide)) (fun i hi => by
      have hi : i < 12 := hi
      show upd fr _ _ (5030 + 1 * i) = fr (5030 + 1 * i)
      exact upd_ne (by omega))
  · exact exR_un hR he (u 28 (by decide) (by decide)) (fun i hi => by
      have hi : i < 3 := hi
      show upd fr _ _ (76 + 1 * i) = fr (76 + 1 * i)
      exact upd_ne (by omega))
  · refine ⟨ck_arr (o := 29) rfl ua, fun i hi => ?_⟩
    have hi : i < 300 := hi
    refine ⟨(upd f (100 * b + c) x3 i).toInt, ?_, ?_⟩
    · rw [show rlz (29, 0, 1, 300, 80, 1, 0) i = i from by show 0 + 1 * i = i; omega]
      exact cv_arr ua i
    · show (upd fr (80 + (100 * b + c)) x3 (80 + 1 * i)).toInt = (upd f (100 * b + c) x3 i).toInt
      by_cases q : i = (100 * b + c)
      · rw [q, Nat.one_mul, upd_eq, upd_eq]
      · rw [upd_ne (by omega), upd_ne q]
        have := rl_num hI hs he rfl (i := i) hi (t := f i) (by rw [show rlz (29, 0, 1, 300, 80, 1, 0) i = i from by show 0 + 1 * i = i; omega]; exact cv_arr hfa i)
        exact congrArg Int32.toInt this
  · exact exR_un hR he (u 41 (by decide) (by decide)) (fun i hi => by
      have hi : i < 16 := hi
      show upd fr _ _ (456 + 3 * i) = fr (456 + 3 * i)
      exact upd_ne (by omega))
  · exact exR_un hR he (u 2 (by decide) (by decide)) (fun i hi => by
      have hi : i < 8 := hi
      show upd fr _ _ (30 + 1 * i) = fr (30 + 1 * i)
      exact upd_ne (by omega))
theorem eu_442 (hk : kOK TTs g (EIm n) l Kx_442) {W0 : List aR} {bk0 bk : aB} {h0 h : jH} (hO : hOK TTs g (EIm n) W0 bk0 h0 bk h) {a0 : Nat} (ha0 : bk 0 = some a0) {x1 : Int32} (hx1 : (-2147483648 : Int) ≤ x1.toInt ∧ x1.toInt ≤ 2147483647) {x2 : Int32} (hx2 : (-2147483648 : Int) ≤ x2.toInt ∧ x2.toInt ≤ 2147483647) :
    jCal l g 183 2 [.ref (g.2.2 + (a0 + 0)), .int x1, .int x2] h 0 0 (kPost TTs g (EIm n) Kx_442 bk h [x1.toInt, x2.toInt]) := by
  refine hk bk h [.ref (g.2.2 + (a0 + 0)), .int x1, .int x2] [x1.toInt, x2.toInt] hO.1 hO.2.1 hO.2.2.1 hO.2.2.2.2.2 (show 3 ≤ jmx 183 by decide +kernel) rfl (fun q hq => ?_) ⟨⟨rfl, fun i e z he hz => ?_⟩, eFm_plain (plain_app (spEnv_plain _) clEnv_plain), fun F hF => absurd hF List.not_mem_nil, fun i v hv => ?_, trivial, fun q hq => ?_, fun B hB => absurd hB List.not_mem_nil⟩
  · have hq : q ∈ ([] : List (Nat × Int × Nat)) := hq
    exact absurd hq List.not_mem_nil
  · match i, he, hz with
    | 0, he, hz => cases he; cases hz; exact hx1
    | 1, he, hz => cases he; cases hz; exact hx2
    | i + 2, he, _ => cases he
  · match i, hv with
    | 0, hv => cases hv; exact ⟨_, rfl, a0, ha0, rfl⟩
    | 1, hv => cases hv; exact ⟨_, rfl, x1, rfl, rfl⟩
    | 2, hv => cases hv; exact ⟨_, rfl, x2, rfl, rfl⟩
    | 3, hv => cases hv
    | i + 4, hv => cases hv
  · exact absurd hq List.not_mem_nil
theorem eu_511 (hk : kOK TTs g (EIm n) l Kx_511) {W0 : List aR} {bk0 bk : aB} {h0 h : jH} (hO : hOK TTs g (EIm n) W0 bk0 h0 bk h) {a1 : Nat} (ha1 : bk 1 = some a1) {x1 : Int32} (hx1 : (-2147483648 : Int) ≤ x1.toInt ∧ x1.toInt ≤ 2147483647) {x2 : Int32} (hx2 : (-2147483648 : Int) ≤ x2.toInt ∧ x2.toInt ≤ 2147483647) :
    jCal l g 309 3 [.ref (g.2.2 + (a1 + 0)), .int x1, .int x2] h 0 0 (kPost TTs g (EIm n) Kx_511 bk h [x1.toInt, x2.toInt]) := by
  refine hk bk h [.ref (g.2.2 + (a1 + 0)), .int x1, .int x2] [x1.toInt, x2.toInt] hO.1 hO.2.1 hO.2.2.1 hO.2.2.2.2.2 (show 3 ≤ jmx 309 by decide +kernel) rfl (fun q hq => ?_) ⟨⟨rfl, fun i e z he hz => ?_⟩, eFm_plain (plain_app (spEnv_plain _) clEnv_plain), fun F hF => absurd hF List.not_mem_nil, fun i v hv => ?_, trivial, fun q hq => ?_, fun B hB => absurd hB List.not_mem_nil⟩
  · have hq : q ∈ ([] : List (Nat × Int × Nat)) := hq
    exact absurd hq List.not_mem_nil
  · match i, he, hz with
    | 0, he, hz => cases he; cases hz; exact hx1
    | 1, he, hz => cases he; cases hz; exact hx2
    | i + 2, he, _ => cases he
  · match i, hv with
    | 0, hv => cases hv; exact ⟨_, rfl, a1, ha1, rfl⟩
    | 1, hv => cases hv; exact ⟨_, rfl, x1, rfl, rfl⟩
    | 2, hv => cases hv; exact ⟨_, rfl, x2, rfl, rfl⟩
    | 3, hv => cases hv
    | i + 4, hv => cases hv
  · exact absurd hq List.not_mem_nil
theorem cw_47 : (apW Kx_442.2.2.2.2.2.2.2.1 [(1, 1, 1, 1)] = true ∧ apW Kx_442.2.2.2.2.2.2.2.1 [(1, 1, 5066, 5066)] = true ∧ apW Kx_511.2.2.2.2.2.2.2.1 [(1, 1, 1, 1)] = true ∧ apW Kx_511.2.2.2.2.2.2.2.1 [(1, 1, 5066, 5066)] = true) ∧ (apW Kx_442.2.2.2.2.2.2.2.1 rlFI = true ∧ apW Kx_511.2.2.2.2.2.2.2.1 rlFI = true ∧ apW Kx_442.2.2.2.2.2.2.2.1 [(1, 1, 0, 5269)] = true ∧ rlE.all (fun e => apW Kx_511.2.2.2.2.2.2.2.1 [rlX 0 0 e]) = true) := by decide +kernel
set_option maxRecDepth 16384 in
set_option maxHeartbeats 4000000 in
theorem cp_47 (hlow : ∀ (k : Nat) (K : aK), KTx[k]? = some K → kOK TTs g (EIm n) l K) {b0 b1 : Nat} {bk : aB} {h : jH} (hI : lwI g n b0 b1 bk h) {x1 x2 : Int32} : cpS l g n b0 b1 h 183 309 [.int x1, .int x2] 0 0 true (k6 bk) := by
  obtain ⟨⟨v1, v2, v3, v4⟩, v5, v6, v7, v8⟩ := cw_47
  have hx := eu_442 (hlow 442 _ rfl) (hI.ok []) hI.2.2.2.1 (⟨i32_lo x1, i32_hi x1⟩) (⟨i32_lo x2, i32_hi x2⟩)
  have hm : ∀ bk1 h1, hOK TTs g (EIm n) Kx_442.2.2.2.2.2.2.2.1 bk h bk1 h1 → bk1 1 = some b1 → _ := fun bk1 h1 k1 p1 => eu_511 (hlow 511 _ rfl) k1 p1 (⟨i32_lo x1, i32_hi x1⟩) (⟨i32_lo x2, i32_hi x2⟩)
  by_cases g_0l : x1.toInt < 0
  · exact bad_pair hI (by decide) (by decide) hx hm (fun fsx q1 q2 q3 => xk_bad_0l q1 q2 (by omega)) (fun h1 fsm fr m1 m2 m3 m4 m5 => xr_bad_0l m1 m2 (by omega)) v1 v2 v3 v4 v5 v6 v7 v8
  by_cases g_0h : 11 < x1.toInt
  · exact bad_pair hI (by decide) (by decide) hx hm (fun fsx q1 q2 q3 => xk_bad_0h q1 q2 (by omega)) (fun h1 fsm fr m1 m2 m3 m4 m5 => xr_bad_0h m1 m2 (by omega)) v1 v2 v3 v4 v5 v6 v7 v8
  by_cases g_1l : x2.toInt < 0
  · exact bad_pair hI (by decide) (by decide) hx hm (fun fsx q1 q2 q3 => xk_bad_1l q1 q2 ⟨by omega, by omega⟩ (by omega)) (fun h1 fsm fr m1 m2 m3 m4 m5 => xr_bad_1l m1 m2 ⟨by omega, by omega⟩ (by omega)) v1 v2 v3 v4 v5 v6 v7 v8
  by_cases g_1h : 1023 < x2.toInt
  · exact bad_pair hI (by decide) (by decide) hx hm (fun fsx q1 q2 q3 => xk_bad_1h q1 q2 ⟨by omega, by omega⟩ (by omega)) (fun h1 fsm fr m1 m2 m3 m4 m5 => xr_bad_1h m1 m2 ⟨by omega, by omega⟩ (by omega)) v1 v2 v3 v4 v5 v6 v7 v8
  obtain ⟨fx, hfx, lfx, rfx, -⟩ := k_obj (o := 0) (ci := 11) hI.1 hI.2.2.2.1 rfl
  obtain ⟨fs, hfs, lfs, rfs, -⟩ := k_obj (o := 1) (ci := 7) hI.1 hI.2.2.2.1 rfl
  obtain ⟨f, hfa, -⟩ := k_arr (o := 24) hI.1 hI.2.2.2.1 rfl
  obtain ⟨b, e1⟩ : ∃ b : Nat, x1.toInt = (b : Int) := ⟨x1.toInt.toNat, by omega⟩
  refine ex_pair hI (by decide) (by decide) hx hm (xk_bad hfx (lfx.trans (by decide +kernel)) (rfx 0 1 (by decide +kernel)) hfs (rfs 10 24 (by decide +kernel)) hfa e1 (by omega) ⟨by omega, by omega⟩) (fun h1 fm fr m1 m2 m3 m4 _ => xr_bad m1 m2 m3 m4 e1 (by omega) ⟨by omega, by omega⟩) v1 v2 v3 v4 v5 v6 v7 v8 (fun v1 h1' hE => ?_)
  obtain ⟨rfl, rfl⟩ := hE
  refine ⟨f b, rfl, fun hq fm fr v2 h2' _ hr hR hs hE2 => ?_⟩
  obtain ⟨rfl, rfl⟩ := hE2
  have hix : fr (64 + b) = f b := by
    have := rl_num hI hs (e := (24, 0, 1, 12, 64, 1, 0)) (by decide +kernel) rfl (i := b) (show b < 12 by omega) (t := f b) (by rw [show rlz (24, 0, 1, 12, 64, 1, 0) b = b from by show 0 + 1 * _ = _; omega]; exact cv_arr hfa _)
    rw [show rlr (24, 0, 1, 12, 64, 1, 0) b = 64 + b from by show 64 + 1 * _ = _; omega] at this
    exact this
  refine ⟨by rw [hix], upd fr (64 + b) x2, ?_, fun e he => ?_⟩
  · rw [List.getElem?_set_ne (by omega)]
    exact List.getElem?_set_self (by rw [List.length_set]; exact (List.getElem?_eq_some_iff.mp hr).1)
  have u : ∀ o, o ≠ 0 → o ≠ 24 → ((h.set (b0 + 24) (.inl (0, 12, upd f b x2))).set (b0 + 0) (.inr (11, fx.set 7 (.int (Int32.ofInt 0)))))[b0 + o]? = h[b0 + o]? := fun o h1 h2 => by rw [List.getElem?_set_ne (by omega), List.getElem?_set_ne (by omega)]
  have ua : ((h.set (b0 + 24) (.inl (0, 12, upd f b x2))).set (b0 + 0) (.inr (11, fx.set 7 (.int (Int32.ofInt 0)))))[b0 + 24]? = some (.inl (0, 12, upd f b x2)) := by
    rw [List.getElem?_set_ne (by omega)]
    exact List.getElem?_set_self (List.getElem?_eq_some_iff.mp hfa).1
  have he' := he
  simp only [rlE, List.mem_cons, List.not_mem_nil, or_false] at he'
  rcases he' with rfl | rfl | rfl | rfl | rfl | rfl | rfl | rfl | rfl | rfl | rfl | rfl
  · exact exR_un hR he (u 1 (by decide) (by decide)) (fun i hi => by
      have hi : i < 1 := hi
      show upd fr _ _ (7 + 1 * i) = fr (7 + 1 * i)
      exact upd_ne (by omega))
  · exact exR_un hR he (u 30 (by decide) (by decide)) (fun i hi => by
      have hi : i < 1 := hi
      show upd fr _ _ (8 + 1 * i) = fr (8 + 1 * i)
      exact upd_ne (by omega))
  · exact exR_un hR he (u 37 (by decide) (by decide)) (fun i hi => by
      have hi : i < 1 := hi
      show upd fr _ _ (3 + 1 * i) = fr (3 + 1 * i)
      exact upd_ne (by omega))
  · exact exR_un hR he (u 44 (by decide) (by decide)) (fun i hi => by
      have hi : i < 1 := hi
      show upd fr _ _ (5 + 1 * i) = fr (5 + 1 * i)
      exact upd_ne (by omega))
  · exact exR_un hR he (u 37 (by decide) (by decide)) (fun i hi => by
      have hi : i < 1 := hi
      show upd fr _ _ (4 + 1 * i) = fr (4 + 1 * i)
      exact upd_ne (by omega))
  · exact exR_un hR he (u 23 (by decide) (by decide)) (fun i hi => by
      have hi : i < 12 := hi
      show upd fr _ _ (52 + 1 * i) = fr (52 + 1 * i)
      exact upd_ne (by omega))
  · refine ⟨ck_arr (o := 24) rfl ua, fun i hi => ?_⟩
    have hi : i < 12 := hi
    refine ⟨(upd f b x2 i).toInt, ?_, ?_⟩
    · rw [show rlz (24, 0, 1, 12, 64, 1, 0) i = i from by show 0 + 1 * i = i; omega]
      exact cv_arr ua i
    · show (upd fr (64 + b) x2 (64 + 1 * i)).toInt = (upd f b x2 i).toInt
      by_cases q : i = b
      · rw [q, Nat.one_mul, upd_eq, upd_eq]
      · rw [upd_ne (by omega), upd_ne q]
        have := rl_num hI hs he rfl (i := i) hi (t := f i) (by rw [show rlz (24, 0, 1, 12, 64, 1, 0) i = i from by show 0 + 1 * i = i; omega]; exact cv_arr hfa i)
        exact congrArg Int32.toInt this
  · exact exR_un hR he (u 25 (by decide) (by decide)) (fun i hi => by
      have hi : i < 12 := hi
      show upd fr _ _ (5030 + 1 * i) = fr (5030 + 1 * i)
      exact upd_ne (by omega))
  · exact exR_un hR he (u 28 (by decide) (by decide)) (fun i hi => by
      have hi : i < 3 := hi
      show upd fr _ _ (76 + 1 * i) = fr (76 + 1 * i)
      exact upd_ne (by omega))
  · exact exR_un hR he (u 29 (by decide) (by decide)) (fun i hi => by
      have hi : i < 300 := hi
      show upd fr _ _ (80 + 1 * i) = fr (80 + 1 * i)
      exact upd_ne (by omega))
  · exact exR_un hR he (u 41 (by decide) (by decide)) (fun i hi => by
      have hi : i < 16 := hi
      show upd fr _ _ (456 + 3 * i) = fr (456 + 3 * i)
      exact upd_ne (by omega))
  · exact exR_un hR he (u 2 (by decide) (by decide)) (fun i hi => by
      have hi : i < 8 := hi
      show upd fr _ _ (30 + 1 * i) = fr (30 + 1 * i)
      exact upd_ne (by omega))
end QF
