/-! call pair by exact walks: signal (written by wip/groupB/gen_q5.py) -/
section QI
variable {l : Launch} {g : jG} {n : Int}
theorem eu_489 (hk : kOK TTs g (EIm n) l Kx_489) {W0 : List aR} {bk0 bk : aB} {h0 h : jH} (hO : hOK TTs g (EIm n) W0 bk0 h0 bk h) {a0 : Nat} (ha0 : bk 0 = some a0) {x1 : Int32} (hx1 : (-2147483648 : Int) ≤ x1.toInt ∧ x1.toInt ≤ 2147483647) {x2 : Int32} (hx2 : (-2147483648 : Int) ≤ x2.toInt ∧ x2.toInt ≤ 2147483647) :
    jCal l g 18 2 [.ref (g.2.2 + (a0 + 0)), .int x1, .int x2] h 0 0 (kPost TTs g (EIm n) Kx_489 bk h [x1.toInt, x2.toInt]) := by
  refine hk bk h [.ref (g.2.2 + (a0 + 0)), .int x1, .int x2] [x1.toInt, x2.toInt] hO.1 hO.2.1 hO.2.2.1 hO.2.2.2.2.2 (show 3 ≤ jmx 18 by decide +kernel) rfl (fun q hq => ?_) ⟨⟨rfl, fun i e z he hz => ?_⟩, eFm_plain (plain_app (spEnv_plain _) clEnv_plain), fun F hF => absurd hF List.not_mem_nil, fun i v hv => ?_, trivial, fun q hq => ?_, fun B hB => absurd hB List.not_mem_nil⟩
  · have hq : q ∈ ([] : List (Nat × Int × Nat)) := hq
    exact absurd hq List.not_mem_nil
  · match i, he, hz with
    | 0, he, hz => cases he; cases hz; exact hx1
    | 1, he, hz => cases he; cases hz; exact hx2
    | i + 2, he, _ => cases he
  · match i, hv with
    | 0, hv => cases hv; exact ⟨_, rfl, a0, ha0, rfl⟩
    | 1, hv => cases hv; exact ⟨_, rfl, x1, rfl, rfl⟩
    | 2, hv => cases hv; exact ⟨_, rfl, x2, rfl, rfl⟩
    | 3, hv => cases hv
    | i + 4, hv => cases hv
  · exact absurd hq List.not_mem_nil
theorem eu_650 (hk : kOK TTs g (EIm n) l Kx_650) {W0 : List aR} {bk0 bk : aB} {h0 h : jH} (hO : hOK TTs g (EIm n) W0 bk0 h0 bk h) {a1 : Nat} (ha1 : bk 1 = some a1) {x1 : Int32} (hx1 : (-2147483648 : Int) ≤ x1.toInt ∧ x1.toInt ≤ 2147483647) {x2 : Int32} (hx2 : (-2147483648 : Int) ≤ x2.toInt ∧ x2.toInt ≤ 2147483647) :
    jCal l g 236 2 [.ref (g.2.2 + (a1 + 0)), .int x1, .int x2] h 0 0 (kPost TTs g (EIm n) Kx_650 bk h [x1.toInt, x2.toInt]) := by
  refine hk bk h [.ref (g.2.2 + (a1 + 0)), .int x1, .int x2] [x1.toInt, x2.toInt] hO.1 hO.2.1 hO.2.2.1 hO.2.2.2.2.2 (show 3 ≤ jmx 236 by decide +kernel) rfl (fun q hq => ?_) ⟨⟨rfl, fun i e z he hz => ?_⟩, eFm_plain (plain_app (spEnv_plain _) clEnv_plain), fun F hF => absurd hF List.not_mem_nil, fun i v hv => ?_, trivial, fun q hq => ?_, fun B hB => absurd hB List.not_mem_nil⟩
  · have hq : q ∈ ([] : List (Nat × Int × Nat)) := hq
    exact absurd hq List.not_mem_nil
  · match i, he, hz with
    | 0, he, hz => cases he; cases hz; exact hx1
    | 1, he, hz => cases he; cases hz; exact hx2
    | i + 2, he, _ => cases he
  · match i, hv with
    | 0, hv => cases hv; exact ⟨_, rfl, a1, ha1, rfl⟩
    | 1, hv => cases hv; exact ⟨_, rfl, x1, rfl, rfl⟩
    | 2, hv => cases hv; exact ⟨_, rfl, x2, rfl, rfl⟩
    | 3, hv => cases hv
    | i + 4, hv => cases hv
  · exact absurd hq List.not_mem_nil
theorem cw_1 : (apW Kx_489.2.2.2.2.2.2.2.1 [(1, 1, 1, 1)] = true ∧ apW Kx_489.2.2.2.2.2.2.2.1 [(1, 1, 5066, 5066)] = true ∧ apW Kx_650.2.2.2.2.2.2.2.1 [(1, 1, 1, 1)] = true ∧ apW Kx_650.2.2.2.2.2.2.2.1 [(1, 1, 5066, 5066)] = true) ∧ (apW Kx_489.2.2.2.2.2.2.2.1 rlFI = true ∧ apW Kx_650.2.2.2.2.2.2.2.1 rlFI = true ∧ apW Kx_489.2.2.2.2.2.2.2.1 [(1, 1, 0, 5269)] = true ∧ rlE.all (fun e => apW Kx_650.2.2.2.2.2.2.2.1 [rlX 0 0 e]) = true) := by decide +kernel
set_option maxRecDepth 16384 in
set_option maxHeartbeats 4000000 in
theorem cp_1 (hlow : ∀ (k : Nat) (K : aK), KTx[k]? = some K → kOK TTs g (EIm n) l K) {b0 b1 : Nat} {bk : aB} {h : jH} (hI : lwI g n b0 b1 bk h) {x1 x2 : Int32} : cpS l g n b0 b1 h 18 236 [.int x1, .int x2] 0 0 true (k6 bk) := by
  obtain ⟨⟨v1, v2, v3, v4⟩, v5, v6, v7, v8⟩ := cw_1
  have hx_ := eu_489 (hlow 489 _ rfl) (hI.ok []) hI.2.2.2.1 (⟨i32_lo x1, i32_hi x1⟩) (⟨i32_lo x2, i32_hi x2⟩)
  have hm_ : ∀ bk1 h1, hOK TTs g (EIm n) Kx_489.2.2.2.2.2.2.2.1 bk h bk1 h1 → bk1 1 = some b1 → _ := fun bk1 h1 k1 p1 => eu_650 (hlow 650 _ rfl) k1 p1 (⟨i32_lo x1, i32_hi x1⟩) (⟨i32_lo x2, i32_hi x2⟩)
  by_cases g_0l : x1.toInt < 0
  · exact bad_pair hI (by decide) (by decide) hx_ hm_ (fun fsx q1 q2 q3 => xk_signal_0l q1 q2 q3 (by omega)) (fun h1 fsm fr m1 m2 m3 m4 m5 => xr_signal_0l m1 m2 m3 (by omega)) v1 v2 v3 v4 v5 v6 v7 v8
  by_cases g_0h : 7 < x1.toInt
  · exact bad_pair hI (by decide) (by decide) hx_ hm_ (fun fsx q1 q2 q3 => xk_signal_0h q1 q2 q3 (by omega)) (fun h1 fsm fr m1 m2 m3 m4 m5 => xr_signal_0h m1 m2 m3 (by omega)) v1 v2 v3 v4 v5 v6 v7 v8
  by_cases g_1l : x2.toInt < 0
  · exact bad_pair hI (by decide) (by decide) hx_ hm_ (fun fsx q1 q2 q3 => xk_signal_1l q1 q2 q3 ⟨by omega, by omega⟩ (by omega)) (fun h1 fsm fr m1 m2 m3 m4 m5 => xr_signal_1l m1 m2 m3 ⟨by omega, by omega⟩ (by omega)) v1 v2 v3 v4 v5 v6 v7 v8
  by_cases g_1h : 1 < x2.toInt
  · exact bad_pair hI (by decide) (by decide) hx_ hm_ (fun fsx q1 q2 q3 => xk_signal_1h q1 q2 q3 ⟨by omega, by omega⟩ (by omega)) (fun h1 fsm fr m1 m2 m3 m4 m5 => xr_signal_1h m1 m2 m3 ⟨by omega, by omega⟩ (by omega)) v1 v2 v3 v4 v5 v6 v7 v8
  obtain ⟨fsx, hx, lx, rx, nx⟩ := k_obj (o := 0) (ci := 11) hI.1 hI.2.2.2.1 rfl
  obtain ⟨fss, hs, ls, rs, ns⟩ := k_obj (o := 1) (ci := 7) hI.1 hI.2.2.2.1 rfl
  obtain ⟨fsi, hi, li, ri, ni⟩ := k_obj (o := 2) (ci := 0) hI.1 hI.2.2.2.1 rfl
  obtain ⟨t, pi2, -, -⟩ := ni 2 (-2147483648) (2147483647) (by decide +kernel)
  obtain ⟨c, e1⟩ : ∃ c : Nat, x1.toInt = (c : Int) := ⟨x1.toInt.toNat, by omega⟩
  have ec : x1 = nI c := i32_eq (e1.trans (i32_ofInt (n := (c : Int)) (by omega) (by omega)).symm)
  refine ex_pair hI (by decide) (by decide) hx_ hm_ (xk_signal_ok hx (lx.trans (by decide +kernel)) (rx 0 1 (by decide +kernel)) hs (ls.trans (by decide +kernel)) (rs 0 2 (by decide +kernel)) hi (li.trans (by decide +kernel)) pi2 ⟨by omega, by omega⟩ ⟨by omega, by omega⟩) (fun h1 fsm fr m1 m2 m3 m4 m5 => xr_signal_ok m1 m2 m3 m4 e1 (by omega) ⟨by omega, by omega⟩) v1 v2 v3 v4 v5 v6 v7 v8 (fun v1 h1' hE => ?_)
  obtain ⟨rfl, rfl⟩ := hE
  refine ⟨((t >>> (x1 &&& 31)) &&& (Int32.ofInt 1)), rfl, fun hq1 fsm fr v2 h2' _ m4 hR m5 hE2 => ?_⟩
  obtain ⟨rfl, rfl⟩ := hE2
  have hold : ∀ i, i < 8 → (fr (30 + i)).toInt = sgB t.toInt i := fun i hi8 => by
    obtain ⟨x, q1, q2⟩ := (hR (2, 2, 0, 8, 30, 1, 1) (by decide +kernel)).2 i hi8
    have q3 : x = t.toInt := cv_fun (show cv h (b0 + 2) 2 x by rw [show rlz (2, 2, 0, 8, 30, 1, 1) i = 2 from by show 2 + 0 * i = 2; omega] at q1; exact q1) (cv_fld hi pi2)
    subst q3
    have q2 : (fr (30 + 1 * i)).toInt = sgB t.toInt i := q2
    rw [Nat.one_mul] at q2
    exact q2
  have hans : (fr (30 + c)) = ((t >>> (x1 &&& 31)) &&& (Int32.ofInt 1)) := i32_eq (by
    rw [show (fr (30 + c)) = fr (30 + c) from rfl, hold c (by omega), ec]
    unfold sgB
    rw [show Int32.ofInt t.toInt = t from i32_eq (i32_ofInt (i32_lo t) (i32_hi t))])
  refine ⟨by rw [hans], (upd fr (30 + c) x2), ?_, fun e he => ?_⟩
  · rw [List.getElem?_set_ne (by omega)]
    exact List.getElem?_set_self (by simp only [List.length_set]; exact (List.getElem?_eq_some_iff.mp m4).1)
  have u : ∀ o, o ≠ 0 → o ≠ 2 → ((h.set (b0 + 2) (.inr (0, (fsi.set 2 (.int ((t &&& (((Int32.ofInt 1) <<< (x1 &&& 31)) ^^^ (Int32.ofInt (-1)))) ||| (x2 <<< (x1 &&& 31)))))))).set (b0 + 0) (.inr (11, (fsx.set 7 (.int (Int32.ofInt 0))))))[b0 + o]? = h[b0 + o]? := fun o c0 c2 => by rw [List.getElem?_set_ne (by omega), List.getElem?_set_ne (by omega)]
  have w2 : ((h.set (b0 + 2) (.inr (0, (fsi.set 2 (.int ((t &&& (((Int32.ofInt 1) <<< (x1 &&& 31)) ^^^ (Int32.ofInt (-1)))) ||| (x2 <<< (x1 &&& 31)))))))).set (b0 + 0) (.inr (11, (fsx.set 7 (.int (Int32.ofInt 0))))))[b0 + 2]? = some (.inr (0, (fsi.set 2 (.int ((t &&& (((Int32.ofInt 1) <<< (x1 &&& 31)) ^^^ (Int32.ofInt (-1)))) ||| (x2 <<< (x1 &&& 31))))))) := by rw [List.getElem?_set_ne (by omega)]; exact List.getElem?_set_self (List.getElem?_eq_some_iff.mp hi).1
  have he' := he
  simp only [rlE, List.mem_cons, List.not_mem_nil, or_false] at he'
  rcases he' with rfl | rfl | rfl | rfl | rfl | rfl | rfl | rfl | rfl | rfl | rfl | rfl
  · exact exR_un hR he (u 1 (by decide) (by decide)) (fun i hj => by
      have hj : i < 1 := hj
      show (upd fr (30 + c) x2) (7 + 1 * i) = fr (7 + 1 * i)
      rw [upd_ne (by omega)])
  · exact exR_un hR he (u 30 (by decide) (by decide)) (fun i hj => by
      have hj : i < 1 := hj
      show (upd fr (30 + c) x2) (8 + 1 * i) = fr (8 + 1 * i)
      rw [upd_ne (by omega)])
  · exact exR_un hR he (u 37 (by decide) (by decide)) (fun i hj => by
      have hj : i < 1 := hj
      show (upd fr (30 + c) x2) (3 + 1 * i) = fr (3 + 1 * i)
      rw [upd_ne (by omega)])
  · exact exR_un hR he (u 44 (by decide) (by decide)) (fun i hj => by
      have hj : i < 1 := hj
      show (upd fr (30 + c) x2) (5 + 1 * i) = fr (5 + 1 * i)
      rw [upd_ne (by omega)])
  · exact exR_un hR he (u 37 (by decide) (by decide)) (fun i hj => by
      have hj : i < 1 := hj
      show (upd fr (30 + c) x2) (4 + 1 * i) = fr (4 + 1 * i)
      rw [upd_ne (by omega)])
  · exact exR_un hR he (u 23 (by decide) (by decide)) (fun i hj => by
      have hj : i < 12 := hj
      show (upd fr (30 + c) x2) (52 + 1 * i) = fr (52 + 1 * i)
      rw [upd_ne (by omega)])
  · exact exR_un hR he (u 24 (by decide) (by decide)) (fun i hj => by
      have hj : i < 12 := hj
      show (upd fr (30 + c) x2) (64 + 1 * i) = fr (64 + 1 * i)
      rw [upd_ne (by omega)])
  · exact exR_un hR he (u 25 (by decide) (by decide)) (fun i hj => by
      have hj : i < 12 := hj
      show (upd fr (30 + c) x2) (5030 + 1 * i) = fr (5030 + 1 * i)
      rw [upd_ne (by omega)])
  · exact exR_un hR he (u 28 (by decide) (by decide)) (fun i hj => by
      have hj : i < 3 := hj
      show (upd fr (30 + c) x2) (76 + 1 * i) = fr (76 + 1 * i)
      rw [upd_ne (by omega)])
  · exact exR_un hR he (u 29 (by decide) (by decide)) (fun i hj => by
      have hj : i < 300 := hj
      show (upd fr (30 + c) x2) (80 + 1 * i) = fr (80 + 1 * i)
      rw [upd_ne (by omega)])
  · exact exR_un hR he (u 41 (by decide) (by decide)) (fun i hj => by
      have hj : i < 16 := hj
      show (upd fr (30 + c) x2) (456 + 3 * i) = fr (456 + 3 * i)
      rw [upd_ne (by omega)])
  · refine ⟨ck_obj (o := 2) rfl w2, fun i hj => ?_⟩
    have hj : i < 8 := hj
    refine ⟨(((t &&& (((Int32.ofInt 1) <<< (x1 &&& 31)) ^^^ (Int32.ofInt (-1)))) ||| (x2 <<< (x1 &&& 31)))).toInt, by rw [show rlz (2, 2, 0, 8, 30, 1, 1) i = 2 from by show 2 + 0 * i = 2; omega]; exact cv_fld w2 (List.getElem?_set_self (by rw [li]; decide +kernel)), ?_⟩
    show ((upd fr (30 + c) x2) (30 + 1 * i)).toInt = sgB (((t &&& (((Int32.ofInt 1) <<< (x1 &&& 31)) ^^^ (Int32.ofInt (-1)))) ||| (x2 <<< (x1 &&& 31)))).toInt i
    rw [ec, sg_new t x2 (c := c) (i := i) (by omega) hj (by omega), Nat.one_mul]
    by_cases q : i = c
    · subst q
      rw [if_pos rfl, upd_eq]
    · rw [if_neg q, upd_ne (by omega)]
      exact hold i hj
end QI
