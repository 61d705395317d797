section
/-! a signal's bit -/
section SG
theorem sg_and (y : Int32) : (y &&& Int32.ofInt 1) = if y.toBitVec.getLsbD 0 then 1 else 0 := by
  apply Int32.toBitVec_inj.mp
  rw [Int32.toBitVec_and, show (Int32.ofInt 1).toBitVec = 1#32 from by decide, BitVec.and_one_eq_setWidth_ofBool_getLsbD]
  cases y.toBitVec.getLsbD 0 <;> decide
theorem sg_shr (y : Int32) {i : Nat} (hi : i < 8) : (y >>> (nI i &&& 31)).toBitVec.getLsbD 0 = y.toBitVec.getLsbD i := by
  have h : ∀ k : Nat, k < 8 → (y >>> (nI k &&& 31)).toBitVec = y.toBitVec.sshiftRight k := fun k hk => by
    rw [Int32.toBitVec_shiftRight]
    match k, hk with
    | 0, _ | 1, _ | 2, _ | 3, _ | 4, _ | 5, _ | 6, _ | 7, _ => rfl
  rw [h i hi, BitVec.getLsbD_sshiftRight]
  rw [if_pos (by omega), Nat.add_zero]
  simp
theorem sgB_eq (y : Int32) {i : Nat} (hi : i < 8) : sgB y.toInt i = if y.toBitVec.getLsbD i then 1 else 0 := by
  unfold sgB
  rw [show Int32.ofInt y.toInt = y from i32_eq (i32_ofInt (i32_lo y) (i32_hi y)), sg_and, sg_shr y hi]
  cases y.toBitVec.getLsbD i <;> decide
theorem sg_shl (x : Int32) {c : Nat} (hc : c < 8) : (x <<< (nI c &&& 31)).toBitVec = x.toBitVec <<< c := by
  rw [Int32.toBitVec_shiftLeft]
  match c, hc with
  | 0, _ | 1, _ | 2, _ | 3, _ | 4, _ | 5, _ | 6, _ | 7, _ => rfl
theorem sg_new (t x : Int32) {c i : Nat} (hc : c < 8) (hi : i < 8) (hx : x.toInt = 0 ∨ x.toInt = 1) : sgB ((t &&& ((Int32.ofInt 1 <<< (nI c &&& 31)) ^^^ Int32.ofInt (-1))) ||| (x <<< (nI c &&& 31))).toInt i = if i = c then x.toInt else sgB t.toInt i := by
  rw [sgB_eq _ hi, sgB_eq _ hi, Int32.toBitVec_or, Int32.toBitVec_and, Int32.toBitVec_xor, sg_shl _ hc, sg_shl _ hc, BitVec.getLsbD_or, BitVec.getLsbD_and, BitVec.getLsbD_xor, BitVec.getLsbD_shiftLeft, BitVec.getLsbD_shiftLeft]
  rw [show (Int32.ofInt 1).toBitVec = 1#32 from by decide, show (Int32.ofInt (-1)).toBitVec = BitVec.allOnes 32 from by decide, BitVec.getLsbD_allOnes]
  have e1 : x = 0 ∨ x = 1 := by
    rcases hx with h | h
    · exact Or.inl (i32_eq (by rw [h]; decide))
    · exact Or.inr (i32_eq (by rw [h]; decide))
  by_cases q : i = c
  · subst q
    rw [if_pos rfl]
    rcases e1 with rfl | rfl
    · simp [show i < 32 by omega]
    · simp [show i < 32 by omega]
  · rw [if_neg q]
    have hb : ∀ k : Nat, 0 < k → (1#32).getLsbD k = false := fun k hk => by
      rw [BitVec.getLsbD_one]
      simp
      omega
    have hx0 : ∀ k : Nat, 0 < k → x.toBitVec.getLsbD k = false := fun k hk => by
      rcases e1 with rfl | rfl
      · simp
      · exact hb k hk
    by_cases h : i < c
    · simp [h, show i < 32 by omega]
    · rw [hb (i - c) (by omega), hx0 (i - c) (by omega)]
      simp [show i < 32 by omega]
end SG
end
section
/-! call pair by exact walks: signal (written by wip/groupB/gen_q5.py) -/
section QI
variable {l : Launch} {g : jG} {n : Int}
theorem eu_489 (hk : kOK TTs g (EIm n) l Kx_489) {W0 : List aR} {bk0 bk : aB} {h0 h : jH} (hO : hOK TTs g (EIm n) W0 bk0 h0 bk h) {a0 : Nat} (ha0 : bk 0 = some a0) {x1 : Int32} (hx1 : (-2147483648 : Int) ≤ x1.toInt ∧ x1.toInt ≤ 2147483647) {x2 : Int32} (hx2 : (-2147483648 : Int) ≤ x2.toInt ∧ x2.toInt ≤ 2147483647) :
    jCal l g 18 2 [.ref (g.2.2 + (a0 + 0)), .int x1, .int x2] h 0 0 (kPost TTs g (EIm n) Kx_489 bk h [x1.toInt, x2.toInt]) := by
  refine hk bk h [.ref (g.2.2 + (a0 + 0)), .int x1, .int x2] [x1.toInt, x2.toInt] hO.1 hO.2.1 hO.2.2.1 hO.2.2.2.2.2 (show 3 ≤ jmx 18 by decide +kernel) rfl (fun q hq => ?_) ⟨⟨rfl, fun i e z he hz => ?_⟩, eFm_plain (plain_app (spEnv_plain _) clEnv_plain), fun F hF => absurd hF List.not_mem_nil, fun i v hv => ?_, trivial, fun q hq => ?_, fun B hB => absurd hB List.not_mem_nil⟩
  · have hq : q ∈ ([] : List (Nat × Int × Nat)) := hq
    exact absurd hq List.not_mem_nil
  · match i, he, hz with
    | 0, he, hz => cases he; cases hz; exact hx1
    | 1, he, hz => cases he; cases hz; exact hx2
    | i + 2, he, _ => cases he
  · match i, hv with
    | 0, hv => cases hv; exact ⟨_, rfl, a0, ha0, rfl⟩
    | 1, hv => cases hv; exact ⟨_, rfl, x1, rfl, rfl⟩
    | 2, hv => cases hv; exact ⟨_, rfl, x2, rfl, rfl⟩
    | 3, hv => cases hv
    | i + 4, hv => cases hv
  · exact absurd hq List.not_mem_nil
theorem eu_650 (hk : kOK TTs g (EIm n) l Kx_650) {W0 : List aR} {bk0 bk : aB} {h0 h : jH} (hO : hOK TTs g (EIm n) W0 bk0 h0 bk h) {a1 : Nat} (ha1 : bk 1 = some a1) {x1 : Int32} (hx1 : (-2147483648 : Int) ≤ x1.toInt ∧ x1.toInt ≤ 2147483647) {x2 : Int32} (hx2 : (-2147483648 : Int) ≤ x2.toInt ∧ x2.toInt ≤ 2147483647) :
    jCal l g 236 2 [.ref (g.2.2 + (a1 + 0)), .int x1, .int x2] h 0 0 (kPost TTs g (EIm n) Kx_650 bk h [x1.toInt, x2.toInt]) := by
  refine hk bk h [.ref (g.2.2 + (a1 + 0)), .int x1, .int x2] [x1.toInt, x2.toInt] hO.1 hO.2.1 hO.2.2.1 hO.2.2.2.2.2 (show 3 ≤ jmx 236 by decide +kernel) rfl (fun q hq => ?_) ⟨⟨rfl, fun i e z he hz => ?_⟩, eFm_plain (plain_app (spEnv_plain _) clEnv_plain), fun F hF => absurd hF List.not_mem_nil, fun i v hv => ?_, trivial, fun q hq => ?_, fun B hB => absurd hB List.not_mem_nil⟩
  · have hq : q ∈ ([] : List (Nat × Int × Nat)) := hq
    exact absurd hq List.not_mem_nil
  · match i, he, hz with
    | 0, he, hz => cases he; cases hz; exact hx1
    | 1, he, hz => cases he; cases hz; exact hx2
    | i + 2, he, _ => cases he
  · match i, hv with
    | 0, hv => cases hv; exact ⟨_, rfl, a1, ha1, rfl⟩
    | 1, hv => cases hv; exact ⟨_, rfl, x1, rfl, rfl⟩
    | 2, hv => cases hv; exact ⟨_, rfl, x2, rfl, rfl⟩
    | 3, hv => cases hv
    | i + 4, hv => cases hv
  · exact absurd hq List.not_mem_nil
theorem cw_1 : (apW Kx_489.2.2.2.2.2.2.2.1 [(1, 1, 1, 1)] = true ∧ apW Kx_489.2.2.2.2.2.2.2.1 [(1, 1, 5066, 5066)] = true ∧ apW Kx_650.2.2.2.2.2.2.2.1 [(1, 1, 1, 1)] = true ∧ apW Kx_650.2.2.2.2.2.2.2.1 [(1, 1, 5066, 5066)] = true) ∧ (apW Kx_489.2.2.2.2.2.2.2.1 rlFI = true ∧ apW Kx_650.2.2.2.2.2.2.2.1 rlFI = true ∧ apW Kx_489.2.2.2.2.2.2.2.1 [(1, 1, 0, 5269)] = true ∧ rlE.all (fun e => apW Kx_650.2.2.2.2.2.2.2.1 [rlX 0 0 e]) = true) := by decide +kernel
set_option maxRecDepth 16384 in
set_option maxHeartbeats 4000000 in
theorem cp_1 (hlow : ∀ (k : Nat) (K : aK), KTx[k]? = some K → kOK TTs g (EIm n) l K) {b0 b1 : Nat} {bk : aB} {h : jH} (hI : lwI g n b0 b1 bk h) {x1 x2 : Int32} : cpS l g n b0 b1 h 18 236 [.int x1, .int x2] 0 0 true (k6 bk) := by
  obtain ⟨⟨v1, v2, v3, v4⟩, v5, v6, v7, v8⟩ := cw_1
  have hx_ := eu_489 (hlow 489 _ rfl) (hI.ok []) hI.2.2.2.1 (⟨i32_lo x1, i32_hi x1⟩) (⟨i32_lo x2, i32_hi x2⟩)
  have hm_ : ∀ bk1 h1, hOK TTs g (EIm n) Kx_489.2.2.2.2.2.2.2.1 bk h bk1 h1 → bk1 1 = some b1 → _ := fun bk1 h1 k1 p1 => eu_650 (hlow 650 _ rfl) k1 p1 (⟨i32_lo x1, i32_hi x1⟩) (⟨i32_lo x2, i32_hi x2⟩)
  by_cases g_0l : x1.toInt < 0
  · exact bad_pair hI (by decide) (by decide) hx_ hm_ (fun fsx q1 q2 q3 => xk_signal_0l q1 q2 q3 (by omega)) (fun h1 fsm fr m1 m2 m3 m4 m5 => xr_signal_0l m1 m2 m3 (by omega)) v1 v2 v3 v4 v5 v6 v7 v8
  by_cases g_0h : 7 < x1.toInt
  · exact bad_pair hI (by decide) (by decide) hx_ hm_ (fun fsx q1 q2 q3 => xk_signal_0h q1 q2 q3 (by omega)) (fun h1 fsm fr m1 m2 m3 m4 m5 => xr_signal_0h m1 m2 m3 (by omega)) v1 v2 v3 v4 v5 v6 v7 v8
  by_cases g_1l : x2.toInt < 0
  · exact bad_pair hI (by decide) (by decide) hx_ hm_ (fun fsx q1 q2 q3 => xk_signal_1l q1 q2 q3 ⟨by omega, by omega⟩ (by omega)) (fun h1 fsm fr m1 m2 m3 m4 m5 => xr_signal_1l m1 m2 m3 ⟨by omega, by omega⟩ (by omega)) v1 v2 v3 v4 v5 v6 v7 v8
  by_cases g_1h : 1 < x2.toInt
  · exact bad_pair hI (by decide) (by decide) hx_ hm_ (fun fsx q1 q2 q3 => xk_signal_1h q1 q2 q3 ⟨by omega, by omega⟩ (by omega)) (fun h1 fsm fr m1 m2 m3 m4 m5 => xr_signal_1h m1 m2 m3 ⟨by omega, by omega⟩ (by omega)) v1 v2 v3 v4 v5 v6 v7 v8
  obtain ⟨fsx, hx, lx, rx, nx⟩ := k_obj (o := 0) (ci := 11) hI.1 hI.2.2.2.1 rfl
  obtain ⟨fss, hs, ls, rs, ns⟩ := k_obj (o := 1) (ci := 7) hI.1 hI.2.2.2.1 rfl
  obtain ⟨fsi, hi, li, ri, ni⟩ := k_obj (o := 2) (ci := 0) hI.1 hI.2.2.2.1 rfl
  obtain ⟨t, pi2, -, -⟩ := ni 2 (-2147483648) (2147483647) (by decide +kernel)
  obtain ⟨c, e1⟩ : ∃ c : Nat, x1.toInt = (c : Int) := ⟨x1.toInt.toNat, by omega⟩
  have ec : x1 = nI c := i32_eq (e1.trans (i32_ofInt (n := (c : Int)) (by omega) (by omega)).symm)
  refine ex_pair hI (by decide) (by decide) hx_ hm_ (xk_signal_ok hx (lx.trans (by decide +kernel)) (rx 0 1 (by decide +kernel)) hs (ls.trans (by decide +kernel)) (rs 0 2 (by decide +kernel)) hi (li.trans (by decide +kernel)) pi2 ⟨by omega, by omega⟩ ⟨by omega, by omega⟩) (fun h1 fsm fr m1 m2 m3 m4 m5 => xr_signal_ok m1 m2 m3 m4 e1 (by omega) ⟨by omega, by omega⟩) v1 v2 v3 v4 v5 v6 v7 v8 (fun v1 h1' hE => ?_)
  obtain ⟨rfl, rfl⟩ := hE
  refine ⟨((t >>> (x1 &&& 31)) &&& (Int32.ofInt 1)), rfl, fun hq1 fsm fr v2 h2' _ m4 hR m5 hE2 => ?_⟩
  obtain ⟨rfl, rfl⟩ := hE2
  have hold : ∀ i, i < 8 → (fr (30 + i)).toInt = sgB t.toInt i := fun i hi8 => by
    obtain ⟨x, q1, q2⟩ := (hR (2, 2, 0, 8, 30, 1, 1) (by decide +kernel)).2 i hi8
    have q3 : x = t.toInt := cv_fun (show cv h (b0 + 2) 2 x by rw [show rlz (2, 2, 0, 8, 30, 1, 1) i = 2 from by show 2 + 0 * i = 2; omega] at q1; exact q1) (cv_fld hi pi2)
    subst q3
    have q2 : (fr (30 + 1 * i)).toInt = sgB t.toInt i := q2
    rw [Nat.one_mul] at q2
    exact q2
  have hans : (fr (30 + c)) = ((t >>> (x1 &&& 31)) &&& (Int32.ofInt 1)) := i32_eq (by
    rw [show (fr (30 + c)) = fr (30 + c) from rfl, hold c (by omega), ec]
    unfold sgB
    rw [show Int32.ofInt t.toInt = t from i32_eq (i32_ofInt (i32_lo t) (i32_hi t))])
  refine ⟨by rw [hans], (upd fr (30 + c) x2), ?_, fun e he => ?_⟩
  · rw [List.getElem?_set_ne (by omega)]
    exact List.getElem?_set_self (by simp only [List.length_set]; exact (List.getElem?_eq_some_iff.mp m4).1)
  have u : ∀ o, o ≠ 0 → o ≠ 2 → ((h.set (b0 + 2) (.inr (0, (fsi.set 2 (.int ((t &&& (((Int32.ofInt 1) <<< (x1 &&& 31)) ^^^ (Int32.ofInt (-1)))) ||| (x2 <<< (x1 &&& 31)))))))).set (b0 + 0) (.inr (11, (fsx.set 7 (.int (Int32.ofInt 0))))))[b0 + o]? = h[b0 + o]? := fun o c0 c2 => by rw [List.getElem?_set_ne (by omega), List.getElem?_set_ne (by omega)]
  have w2 : ((h.set (b0 + 2) (.inr (0, (fsi.set 2 (.int ((t &&& (((Int32.ofInt 1) <<< (x1 &&& 31)) ^^^ (Int32.ofInt (-1)))) ||| (x2 <<< (x1 &&& 31)))))))).set (b0 + 0) (.inr (11, (fsx.set 7 (.int (Int32.ofInt 0))))))[b0 + 2]? = some (.inr (0, (fsi.set 2 (.int ((t &&& (((Int32.ofInt 1) <<< (x1 &&& 31)) ^^^ (Int32.ofInt (-1)))) ||| (x2 <<< (x1 &&& 31))))))) := by rw [List.getElem?_set_ne (by omega)]; exact List.getElem?_set_self (List.getElem?_eq_some_iff.mp hi).1
  have he' := he
  simp only [rlE, List.mem_cons, List.not_mem_nil, or_false] at he'
  rcases he' with rfl | rfl | rfl | rfl | rfl | rfl | rfl | rfl | rfl | rfl | rfl | rfl
  · exact exR_un hR he (u 1 (by decide) (by decide)) (fun i hj => by
      have hj : i < 1 := hj
      show (upd fr (30 + c) x2) (7 + 1 * i) = fr (7 + 1 * i)
      rw [upd_ne (by omega)])
  · exact exR_un hR he (u 30 (by decide) (by decide)) (fun i hj => by
      have hj : i < 1 := hj
      show (upd fr (30 + c) x2) (8 + 1 * i) = fr (8 + 1 * i)
      rw [upd_ne (by omega)])
  · exact exR_un hR he (u 37 (by decide) (by decide)) (fun i hj => by
      have hj : i < 1 := hj
      show (upd fr (30 + c) x2) (3 + 1 * i) = fr (3 + 1 * i)
      rw [upd_ne (by omega)])
  · exact exR_un hR he (u 44 (by decide) (by decide)) (fun i hj => by
      have hj : i < 1 := hj
      show (upd fr (30 + c) x2) (5 + 1 * i) = fr (5 + 1 * i)
      rw [upd_ne (by omega)])
  · exact exR_un hR he (u 37 (by decide) (by decide)) (fun i hj => by
      have hj : i < 1 := hj
      show (upd fr (30 + c) x2) (4 + 1 * i) = fr (4 + 1 * i)
      rw [upd_ne (by omega)])
  · exact exR_un hR he (u 23 (by decide) (by decide)) (fun i hj => by
      have hj : i < 12 := hj
      show (upd fr (30 + c) x2) (52 + 1 * i) = fr (52 + 1 * i)
      rw [upd_ne (by omega)])
  · exact exR_un hR he (u 24 (by decide) (by decide)) (fun i hj => by
      have hj : i < 12 := hj
      show (upd fr (30 + c) x2) (64 + 1 * i) = fr (64 + 1 * i)
      rw [upd_ne (by omega)])
  · exact exR_un hR he (u 25 (by decide) (by decide)) (fun i hj => by
      have hj : i < 12 := hj
      show (upd fr (30 + c) x2) (5030 + 1 * i) = fr (5030 + 1 * i)
      rw [upd_ne (by omega)])
  · exact exR_un hR he (u 28 (by decide) (by decide)) (fun i hj => by
      have hj : i < 3 := hj
      show (upd fr (30 + c) x2) (76 + 1 * i) = fr (76 + 1 * i)
      rw [upd_ne (by omega)])
  · exact exR_un hR he (u 29 (by decide) (by decide)) (fun i hj => by
      have hj : i < 300 := hj
      show (upd fr (30 + c) x2) (80 + 1 * i) = fr (80 + 1 * i)
      rw [upd_ne (by omega)])
  · exact exR_un hR he (u 41 (by decide) (by decide)) (fun i hj => by
      have hj : i < 16 := hj
      show (upd fr (30 + c) x2) (456 + 3 * i) = fr (456 + 3 * i)
      rw [upd_ne (by omega)])
  · refine ⟨ck_obj (o := 2) rfl w2, fun i hj => ?_⟩
    have hj : i < 8 := hj
    refine ⟨(((t &&& (((Int32.ofInt 1) <<< (x1 &&& 31)) ^^^ (Int32.ofInt (-1)))) ||| (x2 <<< (x1 &&& 31)))).toInt, by rw [show rlz (2, 2, 0, 8, 30, 1, 1) i = 2 from by show 2 + 0 * i = 2; omega]; exact cv_fld w2 (List.getElem?_set_self (by rw [li]; decide +kernel)), ?_⟩
    show ((upd fr (30 + c) x2) (30 + 1 * i)).toInt = sgB (((t &&& (((Int32.ofInt 1) <<< (x1 &&& 31)) ^^^ (Int32.ofInt (-1)))) ||| (x2 <<< (x1 &&& 31)))).toInt i
    rw [ec, sg_new t x2 (c := c) (i := i) (by omega) hj (by omega), Nat.one_mul]
    by_cases q : i = c
    · subst q
      rw [if_pos rfl, upd_eq]
    · rw [if_neg q, upd_ne (by omega)]
      exact hold i hj
end QI
end
section
/-! mend, mended where the Mender isn't there; back of the reference with bad arguments -/
section MW
variable {l : Launch} {g : jG} {n : Int}
def mdNK : aK := (134, [some (2, 0, 0, 0, 0), some (0, -2147483648, -1, 0, 0), none], [], [], [(0, -1, -1, 0, 0, [])], [], [], [(0, 0, 11, 11), (0, 34, 3, 3), (0, 36, 0, 143), (6, 0, 0, 11), (6, 1, 0, 15), (6, 2, 0, 15), (6, 3, 0, 4912), (6, 4, 0, 4912), (6, 5, 0, 4912), (6, 6, 0, 271)], 10, 0, 0)
theorem mdN_ent : chk (TTs, KTx, KIx, [(0, 0, 11, 11), (0, 34, 3, 3), (0, 36, 0, 143), (6, 0, 0, 11), (6, 1, 0, 15), (6, 2, 0, 15), (6, 3, 0, 4912), (6, 4, 0, 4912), (6, 5, 0, 4912), (6, 6, 0, 271)], Pm, 134, 11, 10, 742) mdNK [] [] none 300 true 0 (spState [] mdNK.2.1 mdNK.2.2.1 mdNK.2.2.2.1 []) 0 0 = true := by decide +kernel
theorem pt_mdN {W0 W1 : List aR} {bk0 bk : aB} {h0 h : jH} (hO : hOK TTs g (EIm n) W0 bk0 h0 bk h) {a0 : Nat} (ha0 : bk 0 = some a0) {x1 : Int32} (hx1 : (-2147483648 : Int) ≤ x1.toInt ∧ x1.toInt ≤ -1) {o2 : Option Value} :
    PT TTs g (EIm n) W1 bk h [x1.toInt] 134 [x1.toInt] bk [some (.ref (g.2.2 + (a0 + 0))), some (.int x1), o2] [] h (spState [] [some (2, 0, 0, 0, 0), some (0, -2147483648, -1, 0, 0), none] [] [] []) ∧ eIv [x1.toInt] (spEnv [some (2, 0, 0, 0, 0), some (0, -2147483648, -1, 0, 0), none] ++ clEnv []) := by
  have hI : eIv [x1.toInt] (spEnv [some (2, 0, 0, 0, 0), some (0, -2147483648, -1, 0, 0), none] ++ clEnv []) := by
    refine ⟨rfl, fun i e z he hz => ?_⟩
    match i, he, hz with
    | 0, he, hz => cases he; cases hz; exact hx1
    | i + 1, he, _ => cases he
  refine ⟨⟨⟨hI, eFm_plain (plain_app (spEnv_plain _) clEnv_plain), fun F hF => absurd hF List.not_mem_nil, fun i v hv => ?_, trivial, fun q hq => ?_, fun B hB => ?_⟩, ⟨hO.1, hO.2.1, hO.2.2.1, UN.rf, fun _ _ q => q, hO.2.2.2.2.2⟩, (show 3 = jmx 134 by decide +kernel), fun i z hz => hz⟩, hI⟩
  · match i, hv with
    | 0, hv => cases hv; exact ⟨_, rfl, a0, ha0, rfl⟩
    | 1, hv => cases hv; exact ⟨_, rfl, x1, rfl, rfl⟩
    | 2, hv => cases hv
    | i + 3, hv => cases hv
  · exact absurd hq List.not_mem_nil
  · exact absurd hB List.not_mem_nil
set_option maxRecDepth 16384 in
theorem mdN_run (hlow : ∀ (k : Nat) (K : aK), KTx[k]? = some K → kOK TTs g (EIm n) l K) {W0 : List aR} {bk0 bk : aB} {h0 h : jH} (hO0 : hOK TTs g (EIm n) W0 bk0 h0 bk h) {b : Nat} (hb : bk 0 = some b) {x1 : Int32} (hx1 : (-2147483648 : Int) ≤ x1.toInt ∧ x1.toInt ≤ -1) : jCal l g 134 10 [.ref (g.2.2 + (b + 0)), .int x1] h 0 0 (kPost TTs g (EIm n) mdNK bk h [x1.toInt]) := by
  have hcls : jcN 11 = (jyN 134).cls := by decide +kernel
  have hM : mOK TTs g (EIm n) Pm KTx l mdNK.1 11 742 := ⟨TTs_cl, TTs_sg, EIm_ok, hcls, fun k K hK _ => hlow k K hK⟩
  refine jCal_of (by decide +kernel) (show 2 ≤ jmx 134 by decide +kernel) ?_
  show J l g 134 10 0 [some (.ref (g.2.2 + (b + 0))), some (.int x1), none] [] h 0 0 _
  obtain ⟨hp, hI⟩ := pt_mdN (W1 := mdNK.2.2.2.2.2.2.2.1) (o2 := none) hO0 hb hx1
  exact chk_okQ (K := mdNK) (KI := KIx) (ev' := [x1.toInt]) hM hI rfl (fun i z hz => hz) (fun v h' hq => hq) (fun C hC => absurd hC List.not_mem_nil) 300 true 0 _ _ _ mdN_ent _ bk _ [] h hp
def mdPK : aK := (134, [some (2, 0, 0, 0, 0), some (0, 2, 2147483647, 0, 0), none], [], [], [(0, -1, -1, 0, 0, [])], [], [], [(0, 0, 11, 11), (0, 34, 3, 3), (0, 36, 0, 143), (6, 0, 0, 11), (6, 1, 0, 15), (6, 2, 0, 15), (6, 3, 0, 4912), (6, 4, 0, 4912), (6, 5, 0, 4912), (6, 6, 0, 271)], 10, 0, 0)
theorem mdP_ent : chk (TTs, KTx, KIx, [(0, 0, 11, 11), (0, 34, 3, 3), (0, 36, 0, 143), (6, 0, 0, 11), (6, 1, 0, 15), (6, 2, 0, 15), (6, 3, 0, 4912), (6, 4, 0, 4912), (6, 5, 0, 4912), (6, 6, 0, 271)], Pm, 134, 11, 10, 742) mdPK [] [] none 300 true 0 (spState [] mdPK.2.1 mdPK.2.2.1 mdPK.2.2.2.1 []) 0 0 = true := by decide +kernel
theorem pt_mdP {W0 W1 : List aR} {bk0 bk : aB} {h0 h : jH} (hO : hOK TTs g (EIm n) W0 bk0 h0 bk h) {a0 : Nat} (ha0 : bk 0 = some a0) {x1 : Int32} (hx1 : (2 : Int) ≤ x1.toInt ∧ x1.toInt ≤ 2147483647) {o2 : Option Value} :
    PT TTs g (EIm n) W1 bk h [x1.toInt] 134 [x1.toInt] bk [some (.ref (g.2.2 + (a0 + 0))), some (.int x1), o2] [] h (spState [] [some (2, 0, 0, 0, 0), some (0, 2, 2147483647, 0, 0), none] [] [] []) ∧ eIv [x1.toInt] (spEnv [some (2, 0, 0, 0, 0), some (0, 2, 2147483647, 0, 0), none] ++ clEnv []) := by
  have hI : eIv [x1.toInt] (spEnv [some (2, 0, 0, 0, 0), some (0, 2, 2147483647, 0, 0), none] ++ clEnv []) := by
    refine ⟨rfl, fun i e z he hz => ?_⟩
    match i, he, hz with
    | 0, he, hz => cases he; cases hz; exact hx1
    | i + 1, he, _ => cases he
  refine ⟨⟨⟨hI, eFm_plain (plain_app (spEnv_plain _) clEnv_plain), fun F hF => absurd hF List.not_mem_nil, fun i v hv => ?_, trivial, fun q hq => ?_, fun B hB => ?_⟩, ⟨hO.1, hO.2.1, hO.2.2.1, UN.rf, fun _ _ q => q, hO.2.2.2.2.2⟩, (show 3 = jmx 134 by decide +kernel), fun i z hz => hz⟩, hI⟩
  · match i, hv with
    | 0, hv => cases hv; exact ⟨_, rfl, a0, ha0, rfl⟩
    | 1, hv => cases hv; exact ⟨_, rfl, x1, rfl, rfl⟩
    | 2, hv => cases hv
    | i + 3, hv => cases hv
  · exact absurd hq List.not_mem_nil
  · exact absurd hB List.not_mem_nil
set_option maxRecDepth 16384 in
theorem mdP_run (hlow : ∀ (k : Nat) (K : aK), KTx[k]? = some K → kOK TTs g (EIm n) l K) {W0 : List aR} {bk0 bk : aB} {h0 h : jH} (hO0 : hOK TTs g (EIm n) W0 bk0 h0 bk h) {b : Nat} (hb : bk 0 = some b) {x1 : Int32} (hx1 : (2 : Int) ≤ x1.toInt ∧ x1.toInt ≤ 2147483647) : jCal l g 134 10 [.ref (g.2.2 + (b + 0)), .int x1] h 0 0 (kPost TTs g (EIm n) mdPK bk h [x1.toInt]) := by
  have hcls : jcN 11 = (jyN 134).cls := by decide +kernel
  have hM : mOK TTs g (EIm n) Pm KTx l mdPK.1 11 742 := ⟨TTs_cl, TTs_sg, EIm_ok, hcls, fun k K hK _ => hlow k K hK⟩
  refine jCal_of (by decide +kernel) (show 2 ≤ jmx 134 by decide +kernel) ?_
  show J l g 134 10 0 [some (.ref (g.2.2 + (b + 0))), some (.int x1), none] [] h 0 0 _
  obtain ⟨hp, hI⟩ := pt_mdP (W1 := mdPK.2.2.2.2.2.2.2.1) (o2 := none) hO0 hb hx1
  exact chk_okQ (K := mdPK) (KI := KIx) (ev' := [x1.toInt]) hM hI rfl (fun i z hz => hz) (fun v h' hq => hq) (fun C hC => absurd hC List.not_mem_nil) 300 true 0 _ _ _ mdP_ent _ bk _ [] h hp
def meNK : aK := (152, [some (2, 0, 0, 0, 0), some (0, -2147483648, -1, 0, 0), some (0, -2147483648, 2147483647, 0, 0), none], [], [], [(0, -1, -1, 0, 0, [])], [], [], [(0, 0, 11, 11), (0, 34, 3, 3), (0, 36, 0, 143), (6, 0, 0, 11), (6, 1, 0, 15), (6, 2, 0, 15), (6, 3, 0, 4912), (6, 4, 0, 4912), (6, 5, 0, 4912), (6, 6, 0, 271)], 10, 0, 0)
theorem meN_ent : chk (TTs, KTx, KIx, [(0, 0, 11, 11), (0, 34, 3, 3), (0, 36, 0, 143), (6, 0, 0, 11), (6, 1, 0, 15), (6, 2, 0, 15), (6, 3, 0, 4912), (6, 4, 0, 4912), (6, 5, 0, 4912), (6, 6, 0, 271)], Pm, 152, 11, 10, 742) meNK [] [] none 300 true 0 (spState [] meNK.2.1 meNK.2.2.1 meNK.2.2.2.1 []) 0 0 = true := by decide +kernel
theorem pt_meN {W0 W1 : List aR} {bk0 bk : aB} {h0 h : jH} (hO : hOK TTs g (EIm n) W0 bk0 h0 bk h) {a0 : Nat} (ha0 : bk 0 = some a0) {x1 : Int32} (hx1 : (-2147483648 : Int) ≤ x1.toInt ∧ x1.toInt ≤ -1) {x2 : Int32} (hx2 : (-2147483648 : Int) ≤ x2.toInt ∧ x2.toInt ≤ 2147483647) {o3 : Option Value} :
    PT TTs g (EIm n) W1 bk h [x1.toInt, x2.toInt] 152 [x1.toInt, x2.toInt] bk [some (.ref (g.2.2 + (a0 + 0))), some (.int x1), some (.int x2), o3] [] h (spState [] [some (2, 0, 0, 0, 0), some (0, -2147483648, -1, 0, 0), some (0, -2147483648, 2147483647, 0, 0), none] [] [] []) ∧ eIv [x1.toInt, x2.toInt] (spEnv [some (2, 0, 0, 0, 0), some (0, -2147483648, -1, 0, 0), some (0, -2147483648, 2147483647, 0, 0), none] ++ clEnv []) := by
  have hI : eIv [x1.toInt, x2.toInt] (spEnv [some (2, 0, 0, 0, 0), some (0, -2147483648, -1, 0, 0), some (0, -2147483648, 2147483647, 0, 0), none] ++ clEnv []) := by
    refine ⟨rfl, fun i e z he hz => ?_⟩
    match i, he, hz with
    | 0, he, hz => cases he; cases hz; exact hx1
    | 1, he, hz => cases he; cases hz; exact hx2
    | i + 2, he, _ => cases he
  refine ⟨⟨⟨hI, eFm_plain (plain_app (spEnv_plain _) clEnv_plain), fun F hF => absurd hF List.not_mem_nil, fun i v hv => ?_, trivial, fun q hq => ?_, fun B hB => ?_⟩, ⟨hO.1, hO.2.1, hO.2.2.1, UN.rf, fun _ _ q => q, hO.2.2.2.2.2⟩, (show 4 = jmx 152 by decide +kernel), fun i z hz => hz⟩, hI⟩
  · match i, hv with
    | 0, hv => cases hv; exact ⟨_, rfl, a0, ha0, rfl⟩
    | 1, hv => cases hv; exact ⟨_, rfl, x1, rfl, rfl⟩
    | 2, hv => cases hv; exact ⟨_, rfl, x2, rfl, rfl⟩
    | 3, hv => cases hv
    | i + 4, hv => cases hv
  · exact absurd hq List.not_mem_nil
  · exact absurd hB List.not_mem_nil
set_option maxRecDepth 16384 in
theorem meN_run (hlow : ∀ (k : Nat) (K : aK), KTx[k]? = some K → kOK TTs g (EIm n) l K) {W0 : List aR} {bk0 bk : aB} {h0 h : jH} (hO0 : hOK TTs g (EIm n) W0 bk0 h0 bk h) {b : Nat} (hb : bk 0 = some b) {x1 : Int32} (hx1 : (-2147483648 : Int) ≤ x1.toInt ∧ x1.toInt ≤ -1) {x2 : Int32} (hx2 : (-2147483648 : Int) ≤ x2.toInt ∧ x2.toInt ≤ 2147483647) : jCal l g 152 10 [.ref (g.2.2 + (b + 0)), .int x1, .int x2] h 0 0 (kPost TTs g (EIm n) meNK bk h [x1.toInt, x2.toInt]) := by
  have hcls : jcN 11 = (jyN 152).cls := by decide +kernel
  have hM : mOK TTs g (EIm n) Pm KTx l meNK.1 11 742 := ⟨TTs_cl, TTs_sg, EIm_ok, hcls, fun k K hK _ => hlow k K hK⟩
  refine jCal_of (by decide +kernel) (show 3 ≤ jmx 152 by decide +kernel) ?_
  show J l g 152 10 0 [some (.ref (g.2.2 + (b + 0))), some (.int x1), some (.int x2), none] [] h 0 0 _
  obtain ⟨hp, hI⟩ := pt_meN (W1 := meNK.2.2.2.2.2.2.2.1) (o3 := none) hO0 hb hx1 hx2
  exact chk_okQ (K := meNK) (KI := KIx) (ev' := [x1.toInt, x2.toInt]) hM hI rfl (fun i z hz => hz) (fun v h' hq => hq) (fun C hC => absurd hC List.not_mem_nil) 300 true 0 _ _ _ meN_ent _ bk _ [] h hp
def mePK : aK := (152, [some (2, 0, 0, 0, 0), some (0, 0, 2147483647, 0, 0), some (0, -2147483648, 2147483647, 0, 0), none], [(0, 37, 4, 0, 16)], [([(0, 1), (2, -1)], 0)], [(0, -1, -1, 0, 0, [])], [], [], [(0, 0, 11, 11), (0, 34, 3, 3), (0, 36, 0, 143), (6, 0, 0, 11), (6, 1, 0, 15), (6, 2, 0, 15), (6, 3, 0, 4912), (6, 4, 0, 4912), (6, 5, 0, 4912), (6, 6, 0, 271)], 10, 0, 0)
theorem meP_ent : chk (TTs, KTx, KIx, [(0, 0, 11, 11), (0, 34, 3, 3), (0, 36, 0, 143), (6, 0, 0, 11), (6, 1, 0, 15), (6, 2, 0, 15), (6, 3, 0, 4912), (6, 4, 0, 4912), (6, 5, 0, 4912), (6, 6, 0, 271)], Pm, 152, 11, 10, 742) mePK [] [] none 300 true 0 (spState [] mePK.2.1 mePK.2.2.1 mePK.2.2.2.1 []) 0 0 = true := by decide +kernel
theorem pt_meP {W0 W1 : List aR} {bk0 bk : aB} {h0 h : jH} (hO : hOK TTs g (EIm n) W0 bk0 h0 bk h) {a0 : Nat} (ha0 : bk 0 = some a0) {x1 : Int32} (hx1 : (0 : Int) ≤ x1.toInt ∧ x1.toInt ≤ 2147483647) {x2 : Int32} (hx2 : (-2147483648 : Int) ≤ x2.toInt ∧ x2.toInt ≤ 2147483647) {o3 : Option Value} {c0 : Int32} (hc0 : (0 : Int) ≤ c0.toInt ∧ c0.toInt ≤ 16) {fc0 : List Value} (ec0 : h[a0 + 37]? = some (.inr (6, fc0))) (pc0 : fc0[4]? = some (.int c0)) (hfc : fcOK [x1.toInt, x2.toInt, c0.toInt] [([(0, 1), (2, -1)], 0)]) :
    PT TTs g (EIm n) W1 bk h [x1.toInt, x2.toInt, c0.toInt] 152 [x1.toInt, x2.toInt, c0.toInt] bk [some (.ref (g.2.2 + (a0 + 0))), some (.int x1), some (.int x2), o3] [] h (spState [] [some (2, 0, 0, 0, 0), some (0, 0, 2147483647, 0, 0), some (0, -2147483648, 2147483647, 0, 0), none] [(0, 37, 4, 0, 16)] [([(0, 1), (2, -1)], 0)] []) ∧ eIv [x1.toInt, x2.toInt, c0.toInt] (spEnv [some (2, 0, 0, 0, 0), some (0, 0, 2147483647, 0, 0), some (0, -2147483648, 2147483647, 0, 0), none] ++ clEnv [(0, 37, 4, 0, 16)]) := by
  have hI : eIv [x1.toInt, x2.toInt, c0.toInt] (spEnv [some (2, 0, 0, 0, 0), some (0, 0, 2147483647, 0, 0), some (0, -2147483648, 2147483647, 0, 0), none] ++ clEnv [(0, 37, 4, 0, 16)]) := by
    refine ⟨rfl, fun i e z he hz => ?_⟩
    match i, he, hz with
    | 0, he, hz => cases he; cases hz; exact hx1
    | 1, he, hz => cases he; cases hz; exact hx2
    | 2, he, hz => cases he; cases hz; exact hc0
    | i + 3, he, _ => cases he
  refine ⟨⟨⟨hI, eFm_plain (plain_app (spEnv_plain _) clEnv_plain), hfc, fun i v hv => ?_, trivial, fun q hq => ?_, fun B hB => ?_⟩, ⟨hO.1, hO.2.1, hO.2.2.1, UN.rf, fun _ _ q => q, hO.2.2.2.2.2⟩, (show 4 = jmx 152 by decide +kernel), fun i z hz => hz⟩, hI⟩
  · match i, hv with
    | 0, hv => cases hv; exact ⟨_, rfl, a0, ha0, rfl⟩
    | 1, hv => cases hv; exact ⟨_, rfl, x1, rfl, rfl⟩
    | 2, hv => cases hv; exact ⟨_, rfl, x2, rfl, rfl⟩
    | 3, hv => cases hv
    | i + 4, hv => cases hv
  · have hq2 : q = (0, 37, fcon ((4 : Nat) : Int), 2) := List.mem_singleton.mp hq
    subst hq2
    exact ⟨((4 : Nat) : Int), a0, _, c0.toInt, fcon_ok, ha0, ec0, ⟨by decide, c0, pc0, rfl⟩, rfl⟩
  · exact absurd hB List.not_mem_nil
set_option maxRecDepth 16384 in
theorem meP_run (hlow : ∀ (k : Nat) (K : aK), KTx[k]? = some K → kOK TTs g (EIm n) l K) {W0 : List aR} {bk0 bk : aB} {h0 h : jH} (hO0 : hOK TTs g (EIm n) W0 bk0 h0 bk h) {b : Nat} (hb : bk 0 = some b) {x1 : Int32} (hx1 : (0 : Int) ≤ x1.toInt ∧ x1.toInt ≤ 2147483647) {x2 : Int32} (hx2 : (-2147483648 : Int) ≤ x2.toInt ∧ x2.toInt ≤ 2147483647) {c0 : Int32} (hc0 : (0 : Int) ≤ c0.toInt ∧ c0.toInt ≤ 16) {fc0 : List Value} (ec0 : h[b + 37]? = some (.inr (6, fc0))) (pc0 : fc0[4]? = some (.int c0)) (hfc : fcOK [x1.toInt, x2.toInt, c0.toInt] [([(0, 1), (2, -1)], 0)]) : jCal l g 152 10 [.ref (g.2.2 + (b + 0)), .int x1, .int x2] h 0 0 (kPost TTs g (EIm n) mePK bk h [x1.toInt, x2.toInt, c0.toInt]) := by
  have hcls : jcN 11 = (jyN 152).cls := by decide +kernel
  have hM : mOK TTs g (EIm n) Pm KTx l mePK.1 11 742 := ⟨TTs_cl, TTs_sg, EIm_ok, hcls, fun k K hK _ => hlow k K hK⟩
  refine jCal_of (by decide +kernel) (show 3 ≤ jmx 152 by decide +kernel) ?_
  show J l g 152 10 0 [some (.ref (g.2.2 + (b + 0))), some (.int x1), some (.int x2), none] [] h 0 0 _
  obtain ⟨hp, hI⟩ := pt_meP (W1 := mePK.2.2.2.2.2.2.2.1) (o3 := none) hO0 hb hx1 hx2 hc0 ec0 pc0 hfc
  exact chk_okQ (K := mePK) (KI := KIx) (ev' := [x1.toInt, x2.toInt, c0.toInt]) hM hI rfl (fun i z hz => hz) (fun v h' hq => hq) (fun C hC => absurd hC List.not_mem_nil) 300 true 0 _ _ _ meP_ent _ bk _ [] h hp
def meMK : aK := (152, [some (2, 0, 0, 0, 0), some (0, -2147483648, 2147483647, 0, 0), some (0, -2147483648, -1, 0, 0), none], [], [], [(0, -1, -1, 0, 0, [])], [], [], [(0, 0, 11, 11), (0, 34, 3, 3), (0, 36, 0, 143), (6, 0, 0, 11), (6, 1, 0, 15), (6, 2, 0, 15), (6, 3, 0, 4912), (6, 4, 0, 4912), (6, 5, 0, 4912), (6, 6, 0, 271)], 10, 0, 0)
theorem meM_ent : chk (TTs, KTx, KIx, [(0, 0, 11, 11), (0, 34, 3, 3), (0, 36, 0, 143), (6, 0, 0, 11), (6, 1, 0, 15), (6, 2, 0, 15), (6, 3, 0, 4912), (6, 4, 0, 4912), (6, 5, 0, 4912), (6, 6, 0, 271)], Pm, 152, 11, 10, 742) meMK [] [] none 300 true 0 (spState [] meMK.2.1 meMK.2.2.1 meMK.2.2.2.1 []) 0 0 = true := by decide +kernel
theorem pt_meM {W0 W1 : List aR} {bk0 bk : aB} {h0 h : jH} (hO : hOK TTs g (EIm n) W0 bk0 h0 bk h) {a0 : Nat} (ha0 : bk 0 = some a0) {x1 : Int32} (hx1 : (-2147483648 : Int) ≤ x1.toInt ∧ x1.toInt ≤ 2147483647) {x2 : Int32} (hx2 : (-2147483648 : Int) ≤ x2.toInt ∧ x2.toInt ≤ -1) {o3 : Option Value} :
    PT TTs g (EIm n) W1 bk h [x1.toInt, x2.toInt] 152 [x1.toInt, x2.toInt] bk [some (.ref (g.2.2 + (a0 + 0))), some (.int x1), some (.int x2), o3] [] h (spState [] [some (2, 0, 0, 0, 0), some (0, -2147483648, 2147483647, 0, 0), some (0, -2147483648, -1, 0, 0), none] [] [] []) ∧ eIv [x1.toInt, x2.toInt] (spEnv [some (2, 0, 0, 0, 0), some (0, -2147483648, 2147483647, 0, 0), some (0, -2147483648, -1, 0, 0), none] ++ clEnv []) := by
  have hI : eIv [x1.toInt, x2.toInt] (spEnv [some (2, 0, 0, 0, 0), some (0, -2147483648, 2147483647, 0, 0), some (0, -2147483648, -1, 0, 0), none] ++ clEnv []) := by
    refine ⟨rfl, fun i e z he hz => ?_⟩
    match i, he, hz with
    | 0, he, hz => cases he; cases hz; exact hx1
    | 1, he, hz => cases he; cases hz; exact hx2
    | i + 2, he, _ => cases he
  refine ⟨⟨⟨hI, eFm_plain (plain_app (spEnv_plain _) clEnv_plain), fun F hF => absurd hF List.not_mem_nil, fun i v hv => ?_, trivial, fun q hq => ?_, fun B hB => ?_⟩, ⟨hO.1, hO.2.1, hO.2.2.1, UN.rf, fun _ _ q => q, hO.2.2.2.2.2⟩, (show 4 = jmx 152 by decide +kernel), fun i z hz => hz⟩, hI⟩
  · match i, hv with
    | 0, hv => cases hv; exact ⟨_, rfl, a0, ha0, rfl⟩
    | 1, hv => cases hv; exact ⟨_, rfl, x1, rfl, rfl⟩
    | 2, hv => cases hv; exact ⟨_, rfl, x2, rfl, rfl⟩
    | 3, hv => cases hv
    | i + 4, hv => cases hv
  · exact absurd hq List.not_mem_nil
  · exact absurd hB List.not_mem_nil
set_option maxRecDepth 16384 in
theorem meM_run (hlow : ∀ (k : Nat) (K : aK), KTx[k]? = some K → kOK TTs g (EIm n) l K) {W0 : List aR} {bk0 bk : aB} {h0 h : jH} (hO0 : hOK TTs g (EIm n) W0 bk0 h0 bk h) {b : Nat} (hb : bk 0 = some b) {x1 : Int32} (hx1 : (-2147483648 : Int) ≤ x1.toInt ∧ x1.toInt ≤ 2147483647) {x2 : Int32} (hx2 : (-2147483648 : Int) ≤ x2.toInt ∧ x2.toInt ≤ -1) : jCal l g 152 10 [.ref (g.2.2 + (b + 0)), .int x1, .int x2] h 0 0 (kPost TTs g (EIm n) meMK bk h [x1.toInt, x2.toInt]) := by
  have hcls : jcN 11 = (jyN 152).cls := by decide +kernel
  have hM : mOK TTs g (EIm n) Pm KTx l meMK.1 11 742 := ⟨TTs_cl, TTs_sg, EIm_ok, hcls, fun k K hK _ => hlow k K hK⟩
  refine jCal_of (by decide +kernel) (show 3 ≤ jmx 152 by decide +kernel) ?_
  show J l g 152 10 0 [some (.ref (g.2.2 + (b + 0))), some (.int x1), some (.int x2), none] [] h 0 0 _
  obtain ⟨hp, hI⟩ := pt_meM (W1 := meMK.2.2.2.2.2.2.2.1) (o3 := none) hO0 hb hx1 hx2
  exact chk_okQ (K := meMK) (KI := KIx) (ev' := [x1.toInt, x2.toInt]) hM hI rfl (fun i z hz => hz) (fun v h' hq => hq) (fun C hC => absurd hC List.not_mem_nil) 300 true 0 _ _ _ meM_ent _ bk _ [] h hp
def meQK : aK := (152, [some (2, 0, 0, 0, 0), some (0, -2147483648, 2147483647, 0, 0), some (0, 2, 2147483647, 0, 0), none], [], [], [(0, -1, -1, 0, 0, [])], [], [], [(0, 0, 11, 11), (0, 34, 3, 3), (0, 36, 0, 143), (6, 0, 0, 11), (6, 1, 0, 15), (6, 2, 0, 15), (6, 3, 0, 4912), (6, 4, 0, 4912), (6, 5, 0, 4912), (6, 6, 0, 271)], 10, 0, 0)
theorem meQ_ent : chk (TTs, KTx, KIx, [(0, 0, 11, 11), (0, 34, 3, 3), (0, 36, 0, 143), (6, 0, 0, 11), (6, 1, 0, 15), (6, 2, 0, 15), (6, 3, 0, 4912), (6, 4, 0, 4912), (6, 5, 0, 4912), (6, 6, 0, 271)], Pm, 152, 11, 10, 742) meQK [] [] none 300 true 0 (spState [] meQK.2.1 meQK.2.2.1 meQK.2.2.2.1 []) 0 0 = true := by decide +kernel
theorem pt_meQ {W0 W1 : List aR} {bk0 bk : aB} {h0 h : jH} (hO : hOK TTs g (EIm n) W0 bk0 h0 bk h) {a0 : Nat} (ha0 : bk 0 = some a0) {x1 : Int32} (hx1 : (-2147483648 : Int) ≤ x1.toInt ∧ x1.toInt ≤ 2147483647) {x2 : Int32} (hx2 : (2 : Int) ≤ x2.toInt ∧ x2.toInt ≤ 2147483647) {o3 : Option Value} :
    PT TTs g (EIm n) W1 bk h [x1.toInt, x2.toInt] 152 [x1.toInt, x2.toInt] bk [some (.ref (g.2.2 + (a0 + 0))), some (.int x1), some (.int x2), o3] [] h (spState [] [some (2, 0, 0, 0, 0), some (0, -2147483648, 2147483647, 0, 0), some (0, 2, 2147483647, 0, 0), none] [] [] []) ∧ eIv [x1.toInt, x2.toInt] (spEnv [some (2, 0, 0, 0, 0), some (0, -2147483648, 2147483647, 0, 0), some (0, 2, 2147483647, 0, 0), none] ++ clEnv []) := by
  have hI : eIv [x1.toInt, x2.toInt] (spEnv [some (2, 0, 0, 0, 0), some (0, -2147483648, 2147483647, 0, 0), some (0, 2, 2147483647, 0, 0), none] ++ clEnv []) := by
    refine ⟨rfl, fun i e z he hz => ?_⟩
    match i, he, hz with
    | 0, he, hz => cases he; cases hz; exact hx1
    | 1, he, hz => cases he; cases hz; exact hx2
    | i + 2, he, _ => cases he
  refine ⟨⟨⟨hI, eFm_plain (plain_app (spEnv_plain _) clEnv_plain), fun F hF => absurd hF List.not_mem_nil, fun i v hv => ?_, trivial, fun q hq => ?_, fun B hB => ?_⟩, ⟨hO.1, hO.2.1, hO.2.2.1, UN.rf, fun _ _ q => q, hO.2.2.2.2.2⟩, (show 4 = jmx 152 by decide +kernel), fun i z hz => hz⟩, hI⟩
  · match i, hv with
    | 0, hv => cases hv; exact ⟨_, rfl, a0, ha0, rfl⟩
    | 1, hv => cases hv; exact ⟨_, rfl, x1, rfl, rfl⟩
    | 2, hv => cases hv; exact ⟨_, rfl, x2, rfl, rfl⟩
    | 3, hv => cases hv
    | i + 4, hv => cases hv
  · exact absurd hq List.not_mem_nil
  · exact absurd hB List.not_mem_nil
set_option maxRecDepth 16384 in
theorem meQ_run (hlow : ∀ (k : Nat) (K : aK), KTx[k]? = some K → kOK TTs g (EIm n) l K) {W0 : List aR} {bk0 bk : aB} {h0 h : jH} (hO0 : hOK TTs g (EIm n) W0 bk0 h0 bk h) {b : Nat} (hb : bk 0 = some b) {x1 : Int32} (hx1 : (-2147483648 : Int) ≤ x1.toInt ∧ x1.toInt ≤ 2147483647) {x2 : Int32} (hx2 : (2 : Int) ≤ x2.toInt ∧ x2.toInt ≤ 2147483647) : jCal l g 152 10 [.ref (g.2.2 + (b + 0)), .int x1, .int x2] h 0 0 (kPost TTs g (EIm n) meQK bk h [x1.toInt, x2.toInt]) := by
  have hcls : jcN 11 = (jyN 152).cls := by decide +kernel
  have hM : mOK TTs g (EIm n) Pm KTx l meQK.1 11 742 := ⟨TTs_cl, TTs_sg, EIm_ok, hcls, fun k K hK _ => hlow k K hK⟩
  refine jCal_of (by decide +kernel) (show 3 ≤ jmx 152 by decide +kernel) ?_
  show J l g 152 10 0 [some (.ref (g.2.2 + (b + 0))), some (.int x1), some (.int x2), none] [] h 0 0 _
  obtain ⟨hp, hI⟩ := pt_meQ (W1 := meQK.2.2.2.2.2.2.2.1) (o3 := none) hO0 hb hx1 hx2
  exact chk_okQ (K := meQK) (KI := KIx) (ev' := [x1.toInt, x2.toInt]) hM hI rfl (fun i z hz => hz) (fun v h' hq => hq) (fun C hC => absurd hC List.not_mem_nil) 300 true 0 _ _ _ meQ_ent _ bk _ [] h hp
def mbNK : aK := (207, [some (2, 0, 0, 1, 0), some (0, -2147483648, -1, 0, 0), none], [], [], [(0, -1, -1, 0, 0, [])], [], [], [(1, 0, 0, 1)], 2, 0, 0)
theorem mbN_ent : chk (TTs, KTx, KIx, [(1, 0, 0, 1)], Pm, 207, 12, 2, 742) mbNK [] [] none 300 true 0 (spState [] mbNK.2.1 mbNK.2.2.1 mbNK.2.2.2.1 []) 0 0 = true := by decide +kernel
theorem pt_mbN {W0 W1 : List aR} {bk0 bk : aB} {h0 h : jH} (hO : hOK TTs g (EIm n) W0 bk0 h0 bk h) {a1 : Nat} (ha1 : bk 1 = some a1) {x1 : Int32} (hx1 : (-2147483648 : Int) ≤ x1.toInt ∧ x1.toInt ≤ -1) {o2 : Option Value} :
    PT TTs g (EIm n) W1 bk h [x1.toInt] 207 [x1.toInt] bk [some (.ref (g.2.2 + (a1 + 0))), some (.int x1), o2] [] h (spState [] [some (2, 0, 0, 1, 0), some (0, -2147483648, -1, 0, 0), none] [] [] []) ∧ eIv [x1.toInt] (spEnv [some (2, 0, 0, 1, 0), some (0, -2147483648, -1, 0, 0), none] ++ clEnv []) := by
  have hI : eIv [x1.toInt] (spEnv [some (2, 0, 0, 1, 0), some (0, -2147483648, -1, 0, 0), none] ++ clEnv []) := by
    refine ⟨rfl, fun i e z he hz => ?_⟩
    match i, he, hz with
    | 0, he, hz => cases he; cases hz; exact hx1
    | i + 1, he, _ => cases he
  refine ⟨⟨⟨hI, eFm_plain (plain_app (spEnv_plain _) clEnv_plain), fun F hF => absurd hF List.not_mem_nil, fun i v hv => ?_, trivial, fun q hq => ?_, fun B hB => ?_⟩, ⟨hO.1, hO.2.1, hO.2.2.1, UN.rf, fun _ _ q => q, hO.2.2.2.2.2⟩, (show 3 = jmx 207 by decide +kernel), fun i z hz => hz⟩, hI⟩
  · match i, hv with
    | 0, hv => cases hv; exact ⟨_, rfl, a1, ha1, rfl⟩
    | 1, hv => cases hv; exact ⟨_, rfl, x1, rfl, rfl⟩
    | 2, hv => cases hv
    | i + 3, hv => cases hv
  · exact absurd hq List.not_mem_nil
  · exact absurd hB List.not_mem_nil
set_option maxRecDepth 16384 in
theorem mbN_run (hlow : ∀ (k : Nat) (K : aK), KTx[k]? = some K → kOK TTs g (EIm n) l K) {W0 : List aR} {bk0 bk : aB} {h0 h : jH} (hO0 : hOK TTs g (EIm n) W0 bk0 h0 bk h) {b : Nat} (hb : bk 1 = some b) {x1 : Int32} (hx1 : (-2147483648 : Int) ≤ x1.toInt ∧ x1.toInt ≤ -1) : jCal l g 207 2 [.ref (g.2.2 + (b + 0)), .int x1] h 0 0 (kPost TTs g (EIm n) mbNK bk h [x1.toInt]) := by
  have hcls : jcN 12 = (jyN 207).cls := by decide +kernel
  have hM : mOK TTs g (EIm n) Pm KTx l mbNK.1 12 742 := ⟨TTs_cl, TTs_sg, EIm_ok, hcls, fun k K hK _ => hlow k K hK⟩
  refine jCal_of (by decide +kernel) (show 2 ≤ jmx 207 by decide +kernel) ?_
  show J l g 207 2 0 [some (.ref (g.2.2 + (b + 0))), some (.int x1), none] [] h 0 0 _
  obtain ⟨hp, hI⟩ := pt_mbN (W1 := mbNK.2.2.2.2.2.2.2.1) (o2 := none) hO0 hb hx1
  exact chk_okQ (K := mbNK) (KI := KIx) (ev' := [x1.toInt]) hM hI rfl (fun i z hz => hz) (fun v h' hq => hq) (fun C hC => absurd hC List.not_mem_nil) 300 true 0 _ _ _ mbN_ent _ bk _ [] h hp
def mbPK : aK := (207, [some (2, 0, 0, 1, 0), some (0, 2, 2147483647, 0, 0), none], [], [], [(0, -1, -1, 0, 0, [])], [], [], [(1, 0, 0, 1)], 2, 0, 0)
theorem mbP_ent : chk (TTs, KTx, KIx, [(1, 0, 0, 1)], Pm, 207, 12, 2, 742) mbPK [] [] none 300 true 0 (spState [] mbPK.2.1 mbPK.2.2.1 mbPK.2.2.2.1 []) 0 0 = true := by decide +kernel
theorem pt_mbP {W0 W1 : List aR} {bk0 bk : aB} {h0 h : jH} (hO : hOK TTs g (EIm n) W0 bk0 h0 bk h) {a1 : Nat} (ha1 : bk 1 = some a1) {x1 : Int32} (hx1 : (2 : Int) ≤ x1.toInt ∧ x1.toInt ≤ 2147483647) {o2 : Option Value} :
    PT TTs g (EIm n) W1 bk h [x1.toInt] 207 [x1.toInt] bk [some (.ref (g.2.2 + (a1 + 0))), some (.int x1), o2] [] h (spState [] [some (2, 0, 0, 1, 0), some (0, 2, 2147483647, 0, 0), none] [] [] []) ∧ eIv [x1.toInt] (spEnv [some (2, 0, 0, 1, 0), some (0, 2, 2147483647, 0, 0), none] ++ clEnv []) := by
  have hI : eIv [x1.toInt] (spEnv [some (2, 0, 0, 1, 0), some (0, 2, 2147483647, 0, 0), none] ++ clEnv []) := by
    refine ⟨rfl, fun i e z he hz => ?_⟩
    match i, he, hz with
    | 0, he, hz => cases he; cases hz; exact hx1
    | i + 1, he, _ => cases he
  refine ⟨⟨⟨hI, eFm_plain (plain_app (spEnv_plain _) clEnv_plain), fun F hF => absurd hF List.not_mem_nil, fun i v hv => ?_, trivial, fun q hq => ?_, fun B hB => ?_⟩, ⟨hO.1, hO.2.1, hO.2.2.1, UN.rf, fun _ _ q => q, hO.2.2.2.2.2⟩, (show 3 = jmx 207 by decide +kernel), fun i z hz => hz⟩, hI⟩
  · match i, hv with
    | 0, hv => cases hv; exact ⟨_, rfl, a1, ha1, rfl⟩
    | 1, hv => cases hv; exact ⟨_, rfl, x1, rfl, rfl⟩
    | 2, hv => cases hv
    | i + 3, hv => cases hv
  · exact absurd hq List.not_mem_nil
  · exact absurd hB List.not_mem_nil
set_option maxRecDepth 16384 in
theorem mbP_run (hlow : ∀ (k : Nat) (K : aK), KTx[k]? = some K → kOK TTs g (EIm n) l K) {W0 : List aR} {bk0 bk : aB} {h0 h : jH} (hO0 : hOK TTs g (EIm n) W0 bk0 h0 bk h) {b : Nat} (hb : bk 1 = some b) {x1 : Int32} (hx1 : (2 : Int) ≤ x1.toInt ∧ x1.toInt ≤ 2147483647) : jCal l g 207 2 [.ref (g.2.2 + (b + 0)), .int x1] h 0 0 (kPost TTs g (EIm n) mbPK bk h [x1.toInt]) := by
  have hcls : jcN 12 = (jyN 207).cls := by decide +kernel
  have hM : mOK TTs g (EIm n) Pm KTx l mbPK.1 12 742 := ⟨TTs_cl, TTs_sg, EIm_ok, hcls, fun k K hK _ => hlow k K hK⟩
  refine jCal_of (by decide +kernel) (show 2 ≤ jmx 207 by decide +kernel) ?_
  show J l g 207 2 0 [some (.ref (g.2.2 + (b + 0))), some (.int x1), none] [] h 0 0 _
  obtain ⟨hp, hI⟩ := pt_mbP (W1 := mbPK.2.2.2.2.2.2.2.1) (o2 := none) hO0 hb hx1
  exact chk_okQ (K := mbPK) (KI := KIx) (ev' := [x1.toInt]) hM hI rfl (fun i z hz => hz) (fun v h' hq => hq) (fun C hC => absurd hC List.not_mem_nil) 300 true 0 _ _ _ mbP_ent _ bk _ [] h hp
theorem lm_480 (hk : kOK TTs g (EIm n) l Kx_480) {W0 : List aR} {bk0 bk : aB} {h0 h : jH} (hO : hOK TTs g (EIm n) W0 bk0 h0 bk h) {a0 : Nat} (ha0 : bk 0 = some a0)  :
    jCal l g 135 9 [.ref (g.2.2 + (a0 + 0))] h 7 20000 (kPost TTs g (EIm n) Kx_480 bk h []) := by
  refine hk bk h [.ref (g.2.2 + (a0 + 0))] [] hO.1 hO.2.1 hO.2.2.1 hO.2.2.2.2.2 (show 1 ≤ jmx 135 by decide +kernel) rfl (fun q hq => ?_) ⟨⟨rfl, fun i e z he hz => ?_⟩, eFm_plain (plain_app (spEnv_plain _) clEnv_plain), fun F hF => absurd hF List.not_mem_nil, fun i v hv => ?_, trivial, fun q hq => ?_, fun B hB => absurd hB List.not_mem_nil⟩
  · have hq : q ∈ ([] : List (Nat × Int × Nat)) := hq
    exact absurd hq List.not_mem_nil
  · match i, he, hz with
    | i + 0, he, _ => cases he
  · match i, hv with
    | 0, hv => cases hv; exact ⟨_, rfl, a0, ha0, rfl⟩
    | i + 1, hv => cases hv
  · exact absurd hq List.not_mem_nil
theorem isf_ok {h : jH} {d : Nat} {x : Int32} (hx : (0 : Int) ≤ x.toInt ∧ x.toInt ≤ 1) : jCal l g 19 d [.int x] h 0 0 (fun v h' => v = some (.int 1) ∧ h' = h) := by
  refine jCal_of (by decide +kernel) (show 1 ≤ jmx 19 by decide +kernel) ?_
  show J l g 19 d 0 [some (.int x)] [] h 0 0 _
  refine j_iload_n (k4 := 0) (dQ (by decide +kernel)) rfl ?_
  refine j_if_eq (off := 8) (tgt := 9) (dQ (by decide +kernel)) (by decide) (fun _ => ?_) (fun hne => ?_)
  · refine j_iconst (n := 1) (dQ (by decide +kernel)) ?_
    refine j_goto (off := 4) (tgt := 14) (dQ (by decide +kernel)) (by decide) ?_
    exact j_ret (v := some (.int 1)) ⟨by decide +kernel, Or.inr (Or.inl ⟨by decide +kernel, Or.inr rfl⟩)⟩ ⟨rfl, rfl⟩ rfl
  · refine j_iload_n (k4 := 0) (dQ (by decide +kernel)) rfl ?_
    refine j_iconst (n := 1) (dQ (by decide +kernel)) ?_
    refine j_icmp_ne (off := 7) (tgt := 13) (dQ (by decide +kernel)) (by decide) (fun hn1 => ?_) (fun _ => ?_)
    · exfalso
      have h0 : x.toInt ≠ 0 := fun e => hne (i32_eq (by rw [e]; rfl))
      exact hn1 (i32_eq (by rw [show x.toInt = 1 by omega]; rfl))
    · refine j_iconst (n := 1) (dQ (by decide +kernel)) ?_
      refine j_goto (off := 4) (tgt := 14) (dQ (by decide +kernel)) (by decide) ?_
      exact j_ret (v := some (.int 1)) ⟨by decide +kernel, Or.inr (Or.inl ⟨by decide +kernel, Or.inr rfl⟩)⟩ ⟨rfl, rfl⟩ rfl
theorem ty_st1 : tyAt TTs 0 1 = some (.inr (7, match tyAt TTs 0 1 with | some (.inr q) => q.2 | _ => [])) := rfl
set_option maxRecDepth 16384 in
theorem mdG_run (hlow : ∀ (k : Nat) (K : aK), KTx[k]? = some K → kOK TTs g (EIm n) l K) {W0 : List aR} {bk0 bk : aB} {h0 h : jH} (hO0 : hOK TTs g (EIm n) W0 bk0 h0 bk h) {b : Nat} (hb : bk 0 = some b) {x1 : Int32} (hx1 : (0 : Int) ≤ x1.toInt ∧ x1.toInt ≤ 1) : jCal l g 134 10 [.ref (g.2.2 + (b + 0)), .int x1] h 7 20000 (fun v h' => ∃ x : Int32, v = some (.int x) ∧ ∃ bk', hOK TTs g (EIm n) mdK.2.2.2.2.2.2.2.1 bk h bk' h' ∧ ∃ b6, bk' 6 = some b6) := by
  have hcls : jcN 11 = (jyN 134).cls := by decide +kernel
  have hO2 : hOK TTs g (EIm n) mdK.2.2.2.2.2.2.2.1 bk h bk h := hOK.rf hO0.1 hO0.2.1 hO0.2.2.1 hO0.2.2.2.2.2
  obtain ⟨c, hc, fs, rfl, -, hfs⟩ := hO0.1 0 b 0 _ hb ty_x0
  have hc : h[b + 0]? = some (.inr (11, fs)) := hc
  refine jCal_of (by decide +kernel) (show 2 ≤ jmx 134 by decide +kernel) ?_
  show J l g 134 10 0 [some (.ref (g.2.2 + (b + 0))), some (.int x1), none] [] h (0 + 7) (0 + 20000) _
  refine j_iload_n (k4 := 1) (dQ (by decide +kernel)) rfl ?_
  refine j_cS (own := 11) (i := 51) (y2 := 19) (d2 := 1) (mc := 0) (ms := 0) (kc := 7) (ks := 20000) (As := [.int x1]) (st := []) (dQ (by decide +kernel)) hcls (by decide +kernel) (by decide) (by decide +kernel) (show 1 = jnp 19 by decide +kernel) (by decide) (by decide) (isf_ok hx1) (fun v h' hq => ?_)
  obtain ⟨rfl, eh⟩ := hq
  rw [eh]
  refine j_if_ne (off := 5) (tgt := 9) (dQ (by decide +kernel)) (by decide) (fun _ => ?_) (fun e => absurd (by decide) e)
  show J l g 134 10 9 _ [] h (7 + 0) (20000 + 0) _
  refine j_aload_n (k4 := 0) (dQ (by decide +kernel)) rfl ?_
  refine j_cV (own := 11) (i := 264) (y2 := 135) (d2 := 9) (mc := 7) (ms := 20000) (kc := 0) (ks := 0) (a := b + 0) (As := []) (st := []) (dQ (by decide +kernel)) hcls (by decide +kernel) (by decide) (by decide +kernel) (show 0 = jnp 135 by decide +kernel) (by decide) (by decide) hc (fun r hr => by cases hr; decide +kernel) (lm_480 (hlow 480 _ rfl) hO2 hb) (fun v h3 hq => ?_)
  obtain ⟨bk3, os, k1, -, qq, hq1, hq2⟩ := hq
  have hq3 : qq = (2, 0, 0, 6, 0, []) := List.mem_singleton.mp hq1
  subst hq3
  obtain ⟨⟨b6', hb6', rfl⟩, -⟩ := hq2
  have hb6' : bk3 6 = some b6' := hb6'
  have hb3 := k1.2.2.2.2.1 0 b hb
  have k1 : hOK TTs g (EIm n) Kx_480.2.2.2.2.2.2.2.1 bk h bk3 h3 := k1
  have hO3 := hO2.tr (W' := Kx_480.2.2.2.2.2.2.2.1) (by decide +kernel) k1
  refine j_astore_n (k4 := 2) (dQ (by decide +kernel)) (by decide +kernel) ?_
  obtain ⟨hp3, hI3⟩ := pt_mdr (W1 := mdR.2.2.2.2.2.2.2.1) hO3 hb6' hb3 (x1 := x1) hx1
  have hMr : mOK TTs g (EIm n) Pm KTx l mdR.1 11 742 := ⟨TTs_cl, TTs_sg, EIm_ok, hcls, fun k K hK _ => hlow k K hK⟩
  refine chk_okQ (K := mdR) (KI := KIx) (bk0 := bk3) (h0 := h3) (ev := [x1.toInt]) (ev' := [x1.toInt]) hMr hI3 rfl (fun i z hz => hz) (fun v h' hq => ?_) (fun C hC => absurd hC List.not_mem_nil) 300 true 14 _ _ _ md_rest _ bk3 _ [] h3 hp3
  obtain ⟨bk4, os, k4, k5, qq, hq1, hq2⟩ := hq
  have hos : os = [] := List.eq_nil_of_length_eq_zero k5.1
  subst hos
  have hq3 : qq = (0, -2147483648, 2147483647, 0, 0, []) := List.mem_singleton.mp hq1
  subst hq3
  obtain ⟨r, rfl, r1, -, -⟩ := hq2
  exact ⟨r, rfl, bk4, hO3.tr (W' := mdR.2.2.2.2.2.2.2.1) (by decide +kernel) k4, b6', k4.2.2.2.2.1 6 b6' hb6'⟩
set_option maxRecDepth 16384 in
theorem meG_run (hlow : ∀ (k : Nat) (K : aK), KTx[k]? = some K → kOK TTs g (EIm n) l K) {W0 : List aR} {bk0 bk : aB} {h0 h : jH} (hO0 : hOK TTs g (EIm n) W0 bk0 h0 bk h) {b : Nat} (hb : bk 0 = some b) {x1 : Int32} (hx1 : (0 : Int) ≤ x1.toInt ∧ x1.toInt ≤ 15) {x2 : Int32} (hx2 : (0 : Int) ≤ x2.toInt ∧ x2.toInt ≤ 1) {c0 : Int32} {fc0 : List Value} (ec0 : h[b + 37]? = some (.inr (6, fc0))) (pc0 : fc0[4]? = some (.int c0)) (hlt : x1.toInt < c0.toInt) : jCal l g 152 10 [.ref (g.2.2 + (b + 0)), .int x1, .int x2] h 7 20000 (fun v h' => ∃ x : Int32, v = some (.int x) ∧ ∃ bk', hOK TTs g (EIm n) meK.2.2.2.2.2.2.2.1 bk h bk' h' ∧ ∃ b6, bk' 6 = some b6) := by
  have hcls : jcN 11 = (jyN 152).cls := by decide +kernel
  have hO2 : hOK TTs g (EIm n) meK.2.2.2.2.2.2.2.1 bk h bk h := hOK.rf hO0.1 hO0.2.1 hO0.2.2.1 hO0.2.2.2.2.2
  obtain ⟨c, hc, fs, rfl, -, hfs⟩ := hO0.1 0 b 0 _ hb ty_x0
  have hc : h[b + 0]? = some (.inr (11, fs)) := hc
  refine jCal_of (by decide +kernel) (show 3 ≤ jmx 152 by decide +kernel) ?_
  show J l g 152 10 0 [some (.ref (g.2.2 + (b + 0))), some (.int x1), some (.int x2), none] [] h (0 + 7) (0 + 20000) _
  obtain ⟨v0, hv0, bn, hbn, rfl⟩ := hfs 0 (2, 0, 0, 0, 1) rfl
  have hbn : bk 0 = some bn := hbn
  cases hb.symm.trans hbn
  obtain ⟨cS, hcS, fS, rfl, -, hfS⟩ := hO0.1 0 b 1 _ hb ty_st1
  have hcS : h[b + 1]? = some (.inr (7, fS)) := hcS
  obtain ⟨v1, hv1, bn1, hbn1, rfl⟩ := hfS 18 (2, 0, 0, 0, 37) rfl
  have hbn1 : bk 0 = some bn1 := hbn1
  cases hb.symm.trans hbn1
  refine j_iload_n (k4 := 1) (dQ (by decide +kernel)) rfl ?_
  refine j_if_lt (off := 24) (tgt := 25) (dQ (by decide +kernel)) (by decide) (fun e => ?_) (fun _ => ?_)
  · have e2 := Int32.lt_iff_toInt_lt.mp e
    rw [show (0 : Int32).toInt = 0 from rfl] at e2
    omega
  refine j_iload_n (k4 := 1) (dQ (by decide +kernel)) rfl ?_
  refine j_aload_n (k4 := 0) (dQ (by decide +kernel)) rfl ?_
  refine j_get (own := 11) (i := 10) (ci := 11) (f := 0) (dQ (by decide +kernel)) hcls (by decide +kernel) hc (fun r hr => by cases hr; decide +kernel) hv0 ?_
  refine j_get (own := 11) (i := 239) (ci := 7) (f := 18) (dQ (by decide +kernel)) hcls (by decide +kernel) hcS (fun r hr => by cases hr; decide +kernel) hv1 ?_
  refine j_get (own := 11) (i := 280) (ci := 6) (f := 4) (dQ (by decide +kernel)) hcls (by decide +kernel) ec0 (fun r hr => by cases hr; decide +kernel) pc0 ?_
  refine j_icmp_ge (off := 10) (tgt := 25) (dQ (by decide +kernel)) (by decide) (fun e => ?_) (fun _ => ?_)
  · have e2 := Int32.le_iff_toInt_le.mp e
    omega
  refine j_iload_n (k4 := 2) (dQ (by decide +kernel)) rfl ?_
  refine j_cS (own := 11) (i := 51) (y2 := 19) (d2 := 1) (mc := 0) (ms := 0) (kc := 7) (ks := 20000) (As := [.int x2]) (st := []) (dQ (by decide +kernel)) hcls (by decide +kernel) (by decide) (by decide +kernel) (show 1 = jnp 19 by decide +kernel) (by decide) (by decide) (isf_ok hx2) (fun v h' hq => ?_)
  obtain ⟨rfl, eh⟩ := hq
  rw [eh]
  refine j_if_ne (off := 5) (tgt := 27) (dQ (by decide +kernel)) (by decide) (fun _ => ?_) (fun e => absurd (by decide) e)
  show J l g 152 10 27 _ [] h (7 + 0) (20000 + 0) _
  refine j_aload_n (k4 := 0) (dQ (by decide +kernel)) rfl ?_
  refine j_cV (own := 11) (i := 264) (y2 := 135) (d2 := 9) (mc := 7) (ms := 20000) (kc := 0) (ks := 0) (a := b + 0) (As := []) (st := []) (dQ (by decide +kernel)) hcls (by decide +kernel) (by decide) (by decide +kernel) (show 0 = jnp 135 by decide +kernel) (by decide) (by decide) hc (fun r hr => by cases hr; decide +kernel) (lm_480 (hlow 480 _ rfl) hO2 hb) (fun v h3 hq => ?_)
  obtain ⟨bk3, os, k1, -, qq, hq1, hq2⟩ := hq
  have hq3 : qq = (2, 0, 0, 6, 0, []) := List.mem_singleton.mp hq1
  subst hq3
  obtain ⟨⟨b6', hb6', rfl⟩, -⟩ := hq2
  have hb6' : bk3 6 = some b6' := hb6'
  have hb3 := k1.2.2.2.2.1 0 b hb
  have k1 : hOK TTs g (EIm n) Kx_480.2.2.2.2.2.2.2.1 bk h bk3 h3 := k1
  have hO3 := hO2.tr (W' := Kx_480.2.2.2.2.2.2.2.1) (by decide +kernel) k1
  refine j_astore_n (k4 := 3) (dQ (by decide +kernel)) (by decide +kernel) ?_
  obtain ⟨hp3, hI3⟩ := pt_mer (W1 := meR.2.2.2.2.2.2.2.1) hO3 hb6' hb3 (x1 := x1) hx1 (x2 := x2) hx2
  have hMr : mOK TTs g (EIm n) Pm KTx l meR.1 11 742 := ⟨TTs_cl, TTs_sg, EIm_ok, hcls, fun k K hK _ => hlow k K hK⟩
  refine chk_okQ (K := meR) (KI := KIx) (bk0 := bk3) (h0 := h3) (ev := [x1.toInt, x2.toInt]) (ev' := [x1.toInt, x2.toInt]) hMr hI3 rfl (fun i z hz => hz) (fun v h' hq => ?_) (fun C hC => absurd hC List.not_mem_nil) 300 true 32 _ _ _ me_rest _ bk3 _ [] h3 hp3
  obtain ⟨bk4, os, k4, k5, qq, hq1, hq2⟩ := hq
  have hos : os = [] := List.eq_nil_of_length_eq_zero k5.1
  subst hos
  have hq3 : qq = (0, -2147483648, 2147483647, 0, 0, []) := List.mem_singleton.mp hq1
  subst hq3
  obtain ⟨r, rfl, r1, -, -⟩ := hq2
  exact ⟨r, rfl, bk4, hO3.tr (W' := meR.2.2.2.2.2.2.2.1) (by decide +kernel) k4, b6', k4.2.2.2.2.1 6 b6' hb6'⟩
end MW
end
section
/-! call pairs: mend, mended, image, back (written by wip/groupB/gen_q6.py) -/
section QJ
variable {l : Launch} {g : jG} {n : Int}
section XB
variable {h : jH}
set_option maxRecDepth 8192 in
theorem xk_back_l {b0 : Nat} {fsx : List Value} {x1 : Int32} (hx : h[b0 + 0]? = some (.inr (11, fsx))) (lx : fsx.length = 12) (px0 : fsx[0]? = some (.ref (g.2.2 + (b0 + 1)))) (u : x1.toInt < 0) : jCal l g 200 4 [.ref (g.2.2 + (b0 + 0)), .int x1] h 0 0 (fun v h' => v = some (.int (Int32.ofInt (-1))) ∧ h' = (h.set (b0 + 0) (.inr (11, (fsx.set 7 (.int (Int32.ofInt (-1)))))))) := by
  have hcls : jcN 11 = (jyN 200).cls := by decide +kernel
  have cn0 : (Int32.ofInt (-1)).toInt = -1 := by decide
  refine jCal_of (by decide +kernel) (show 2 ≤ jmx 200 by decide +kernel) ?_
  show J l g 200 4 0 [some (.ref (g.2.2 + (b0 + 0))), some (.int x1), none] [] h 0 0 _
  refine j_iload_n (k4 := 1) (dQ (by decide +kernel)) rfl ?_
  refine j_if_lt (off := 8) (tgt := 9) (dQ (by decide +kernel)) (by decide) (fun _ => ?_) (fun q => absurd (i32_lt.mpr (by rw [i32_z]; omega)) q)
  refine j_aload_n (k4 := 0) (dQ (by decide +kernel)) rfl ?_
  refine j_iconst (n := (-1)) (dQ (by decide +kernel)) ?_
  refine j_cV (own := 11) (i := 41) (y2 := 16) (d2 := 1) (mc := 0) (ms := 0) (kc := 0) (ks := 0) (a := b0 + 0) (As := [.int (Int32.ofInt (-1))]) (st := []) (dQ (by decide +kernel)) hcls (by decide +kernel) (by decide) (by decide +kernel) (show 1 = jnp 16 by decide +kernel) (by decide) (show 0 ≤ 8 by decide) hx (fun r hr => by cases hr; decide +kernel) (x_refuse hx lx) (fun v hv2 hq => ?_)
  obtain ⟨rfl, rfl⟩ := hq
  have n3 : (fsx.set 7 (.int (Int32.ofInt (-1)))).length = 12 := by rw [List.length_set]; exact lx
  have f4 : (fsx.set 7 (.int (Int32.ofInt (-1))))[0]? = some (.ref (g.2.2 + (b0 + 1))) := by
    rw [List.getElem?_set_ne (by decide)]
    exact px0
  have k5 : (h.set (b0 + 0) (.inr (11, (fsx.set 7 (.int (Int32.ofInt (-1)))))))[b0 + 0]? = some (.inr (11, (fsx.set 7 (.int (Int32.ofInt (-1)))))) := List.getElem?_set_self (List.getElem?_eq_some_iff.mp hx).1
  exact j_ret (v := some (.int (Int32.ofInt (-1)))) ⟨by decide +kernel, Or.inl (by decide +kernel)⟩ ⟨rfl, rfl⟩ rfl
set_option maxRecDepth 8192 in
theorem xk_back_h {b0 : Nat} {fsx : List Value} {x1 : Int32} (hx : h[b0 + 0]? = some (.inr (11, fsx))) (lx : fsx.length = 12) (px0 : fsx[0]? = some (.ref (g.2.2 + (b0 + 1)))) (u : 1 < x1.toInt) : jCal l g 200 4 [.ref (g.2.2 + (b0 + 0)), .int x1] h 0 0 (fun v h' => v = some (.int (Int32.ofInt (-1))) ∧ h' = (h.set (b0 + 0) (.inr (11, (fsx.set 7 (.int (Int32.ofInt (-1)))))))) := by
  have hcls : jcN 11 = (jyN 200).cls := by decide +kernel
  have cn0 : (Int32.ofInt 2).toInt = 2 := by decide
  have cn1 : (Int32.ofInt (-1)).toInt = -1 := by decide
  refine jCal_of (by decide +kernel) (show 2 ≤ jmx 200 by decide +kernel) ?_
  show J l g 200 4 0 [some (.ref (g.2.2 + (b0 + 0))), some (.int x1), none] [] h 0 0 _
  refine j_iload_n (k4 := 1) (dQ (by decide +kernel)) rfl ?_
  refine j_if_lt (off := 8) (tgt := 9) (dQ (by decide +kernel)) (by decide) (fun q => absurd (i32_lt.mp q) (by rw [i32_z]; omega)) (fun _ => ?_)
  refine j_iload_n (k4 := 1) (dQ (by decide +kernel)) rfl ?_
  refine j_iconst (n := 2) (dQ (by decide +kernel)) ?_
  refine j_icmp_lt (off := 9) (tgt := 15) (dQ (by decide +kernel)) (by decide) (fun q => absurd (i32_lt.mp q) (by omega)) (fun _ => ?_)
  refine j_aload_n (k4 := 0) (dQ (by decide +kernel)) rfl ?_
  refine j_iconst (n := (-1)) (dQ (by decide +kernel)) ?_
  refine j_cV (own := 11) (i := 41) (y2 := 16) (d2 := 1) (mc := 0) (ms := 0) (kc := 0) (ks := 0) (a := b0 + 0) (As := [.int (Int32.ofInt (-1))]) (st := []) (dQ (by decide +kernel)) hcls (by decide +kernel) (by decide) (by decide +kernel) (show 1 = jnp 16 by decide +kernel) (by decide) (show 0 ≤ 8 by decide) hx (fun r hr => by cases hr; decide +kernel) (x_refuse hx lx) (fun v hv2 hq => ?_)
  obtain ⟨rfl, rfl⟩ := hq
  have n3 : (fsx.set 7 (.int (Int32.ofInt (-1)))).length = 12 := by rw [List.length_set]; exact lx
  have f4 : (fsx.set 7 (.int (Int32.ofInt (-1))))[0]? = some (.ref (g.2.2 + (b0 + 1))) := by
    rw [List.getElem?_set_ne (by decide)]
    exact px0
  have k5 : (h.set (b0 + 0) (.inr (11, (fsx.set 7 (.int (Int32.ofInt (-1)))))))[b0 + 0]? = some (.inr (11, (fsx.set 7 (.int (Int32.ofInt (-1)))))) := List.getElem?_set_self (List.getElem?_eq_some_iff.mp hx).1
  exact j_ret (v := some (.int (Int32.ofInt (-1)))) ⟨by decide +kernel, Or.inl (by decide +kernel)⟩ ⟨rfl, rfl⟩ rfl
end XB
theorem bu_644 (hk : kOK TTs g (EIm n) l Kx_644) {W0 : List aR} {bk0 bk : aB} {h0 h : jH} (hO : hOK TTs g (EIm n) W0 bk0 h0 bk h) {a1 : Nat} (ha1 : bk 1 = some a1) {x1 : Int32} (hx1 : (-2147483648 : Int) ≤ x1.toInt ∧ x1.toInt ≤ 2147483647) :
    jCal l g 283 5 [.ref (g.2.2 + (a1 + 0)), .int x1] h 0 0 (kPost TTs g (EIm n) Kx_644 bk h [x1.toInt]) := by
  refine hk bk h [.ref (g.2.2 + (a1 + 0)), .int x1] [x1.toInt] hO.1 hO.2.1 hO.2.2.1 hO.2.2.2.2.2 (show 2 ≤ jmx 283 by decide +kernel) rfl (fun q hq => ?_) ⟨⟨rfl, fun i e z he hz => ?_⟩, eFm_plain (plain_app (spEnv_plain _) clEnv_plain), fun F hF => absurd hF List.not_mem_nil, fun i v hv => ?_, trivial, fun q hq => ?_, fun B hB => absurd hB List.not_mem_nil⟩
  · have hq : q ∈ ([] : List (Nat × Int × Nat)) := hq
    exact absurd hq List.not_mem_nil
  · match i, he, hz with
    | 0, he, hz => cases he; cases hz; exact hx1
    | i + 1, he, _ => cases he
  · match i, hv with
    | 0, hv => cases hv; exact ⟨_, rfl, a1, ha1, rfl⟩
    | 1, hv => cases hv; exact ⟨_, rfl, x1, rfl, rfl⟩
    | i + 2, hv => cases hv
  · exact absurd hq List.not_mem_nil
theorem bu_645 (hk : kOK TTs g (EIm n) l Kx_645) {W0 : List aR} {bk0 bk : aB} {h0 h : jH} (hO : hOK TTs g (EIm n) W0 bk0 h0 bk h) {a1 : Nat} (ha1 : bk 1 = some a1) {x1 : Int32} (hx1 : (-2147483648 : Int) ≤ x1.toInt ∧ x1.toInt ≤ 2147483647) {x2 : Int32} (hx2 : (-2147483648 : Int) ≤ x2.toInt ∧ x2.toInt ≤ 2147483647) :
    jCal l g 291 5 [.ref (g.2.2 + (a1 + 0)), .int x1, .int x2] h 0 0 (kPost TTs g (EIm n) Kx_645 bk h [x1.toInt, x2.toInt]) := by
  refine hk bk h [.ref (g.2.2 + (a1 + 0)), .int x1, .int x2] [x1.toInt, x2.toInt] hO.1 hO.2.1 hO.2.2.1 hO.2.2.2.2.2 (show 3 ≤ jmx 291 by decide +kernel) rfl (fun q hq => ?_) ⟨⟨rfl, fun i e z he hz => ?_⟩, eFm_plain (plain_app (spEnv_plain _) clEnv_plain), fun F hF => absurd hF List.not_mem_nil, fun i v hv => ?_, trivial, fun q hq => ?_, fun B hB => absurd hB List.not_mem_nil⟩
  · have hq : q ∈ ([] : List (Nat × Int × Nat)) := hq
    exact absurd hq List.not_mem_nil
  · match i, he, hz with
    | 0, he, hz => cases he; cases hz; exact hx1
    | 1, he, hz => cases he; cases hz; exact hx2
    | i + 2, he, _ => cases he
  · match i, hv with
    | 0, hv => cases hv; exact ⟨_, rfl, a1, ha1, rfl⟩
    | 1, hv => cases hv; exact ⟨_, rfl, x1, rfl, rfl⟩
    | 2, hv => cases hv; exact ⟨_, rfl, x2, rfl, rfl⟩
    | 3, hv => cases hv
    | 4, hv => cases hv
    | 5, hv => cases hv
    | 6, hv => cases hv
    | 7, hv => cases hv
    | 8, hv => cases hv
    | i + 9, hv => cases hv
  · exact absurd hq List.not_mem_nil
theorem bu_724 (hk : kOK TTs g (EIm n) l Kx_724) {W0 : List aR} {bk0 bk : aB} {h0 h : jH} (hO : hOK TTs g (EIm n) W0 bk0 h0 bk h) {a1 : Nat} (ha1 : bk 1 = some a1) {x1 : Int32} (hx1 : (-2147483648 : Int) ≤ x1.toInt ∧ x1.toInt ≤ -1) :
    jCal l g 204 2 [.ref (g.2.2 + (a1 + 0)), .int x1] h 0 0 (kPost TTs g (EIm n) Kx_724 bk h [x1.toInt]) := by
  refine hk bk h [.ref (g.2.2 + (a1 + 0)), .int x1] [x1.toInt] hO.1 hO.2.1 hO.2.2.1 hO.2.2.2.2.2 (show 2 ≤ jmx 204 by decide +kernel) rfl (fun q hq => ?_) ⟨⟨rfl, fun i e z he hz => ?_⟩, eFm_plain (plain_app (spEnv_plain _) clEnv_plain), fun F hF => absurd hF List.not_mem_nil, fun i v hv => ?_, trivial, fun q hq => ?_, fun B hB => absurd hB List.not_mem_nil⟩
  · have hq : q ∈ ([] : List (Nat × Int × Nat)) := hq
    exact absurd hq List.not_mem_nil
  · match i, he, hz with
    | 0, he, hz => cases he; cases hz; exact hx1
    | i + 1, he, _ => cases he
  · match i, hv with
    | 0, hv => cases hv; exact ⟨_, rfl, a1, ha1, rfl⟩
    | 1, hv => cases hv; exact ⟨_, rfl, x1, rfl, rfl⟩
    | 2, hv => cases hv
    | i + 3, hv => cases hv
  · exact absurd hq List.not_mem_nil
theorem bu_725 (hk : kOK TTs g (EIm n) l Kx_725) {W0 : List aR} {bk0 bk : aB} {h0 h : jH} (hO : hOK TTs g (EIm n) W0 bk0 h0 bk h) {a1 : Nat} (ha1 : bk 1 = some a1) {x1 : Int32} (hx1 : (2 : Int) ≤ x1.toInt ∧ x1.toInt ≤ 2147483647) :
    jCal l g 204 2 [.ref (g.2.2 + (a1 + 0)), .int x1] h 0 0 (kPost TTs g (EIm n) Kx_725 bk h [x1.toInt]) := by
  refine hk bk h [.ref (g.2.2 + (a1 + 0)), .int x1] [x1.toInt] hO.1 hO.2.1 hO.2.2.1 hO.2.2.2.2.2 (show 2 ≤ jmx 204 by decide +kernel) rfl (fun q hq => ?_) ⟨⟨rfl, fun i e z he hz => ?_⟩, eFm_plain (plain_app (spEnv_plain _) clEnv_plain), fun F hF => absurd hF List.not_mem_nil, fun i v hv => ?_, trivial, fun q hq => ?_, fun B hB => absurd hB List.not_mem_nil⟩
  · have hq : q ∈ ([] : List (Nat × Int × Nat)) := hq
    exact absurd hq List.not_mem_nil
  · match i, he, hz with
    | 0, he, hz => cases he; cases hz; exact hx1
    | i + 1, he, _ => cases he
  · match i, hv with
    | 0, hv => cases hv; exact ⟨_, rfl, a1, ha1, rfl⟩
    | 1, hv => cases hv; exact ⟨_, rfl, x1, rfl, rfl⟩
    | 2, hv => cases hv
    | i + 3, hv => cases hv
  · exact absurd hq List.not_mem_nil
theorem bu_726 (hk : kOK TTs g (EIm n) l Kx_726) {W0 : List aR} {bk0 bk : aB} {h0 h : jH} (hO : hOK TTs g (EIm n) W0 bk0 h0 bk h) {a0 : Nat} (ha0 : bk 0 = some a0) {x1 : Int32} (hx1 : (-2147483648 : Int) ≤ x1.toInt ∧ x1.toInt ≤ -1) :
    jCal l g 193 2 [.ref (g.2.2 + (a0 + 0)), .int x1] h 0 0 (kPost TTs g (EIm n) Kx_726 bk h [x1.toInt]) := by
  refine hk bk h [.ref (g.2.2 + (a0 + 0)), .int x1] [x1.toInt] hO.1 hO.2.1 hO.2.2.1 hO.2.2.2.2.2 (show 2 ≤ jmx 193 by decide +kernel) rfl (fun q hq => ?_) ⟨⟨rfl, fun i e z he hz => ?_⟩, eFm_plain (plain_app (spEnv_plain _) clEnv_plain), fun F hF => absurd hF List.not_mem_nil, fun i v hv => ?_, trivial, fun q hq => ?_, fun B hB => absurd hB List.not_mem_nil⟩
  · have hq : q ∈ ([] : List (Nat × Int × Nat)) := hq
    exact absurd hq List.not_mem_nil
  · match i, he, hz with
    | 0, he, hz => cases he; cases hz; exact hx1
    | i + 1, he, _ => cases he
  · match i, hv with
    | 0, hv => cases hv; exact ⟨_, rfl, a0, ha0, rfl⟩
    | 1, hv => cases hv; exact ⟨_, rfl, x1, rfl, rfl⟩
    | 2, hv => cases hv
    | i + 3, hv => cases hv
  · exact absurd hq List.not_mem_nil
theorem bu_727 (hk : kOK TTs g (EIm n) l Kx_727) {W0 : List aR} {bk0 bk : aB} {h0 h : jH} (hO : hOK TTs g (EIm n) W0 bk0 h0 bk h) {a0 : Nat} (ha0 : bk 0 = some a0) {x1 : Int32} (hx1 : (2 : Int) ≤ x1.toInt ∧ x1.toInt ≤ 2147483647) :
    jCal l g 193 2 [.ref (g.2.2 + (a0 + 0)), .int x1] h 0 0 (kPost TTs g (EIm n) Kx_727 bk h [x1.toInt]) := by
  refine hk bk h [.ref (g.2.2 + (a0 + 0)), .int x1] [x1.toInt] hO.1 hO.2.1 hO.2.2.1 hO.2.2.2.2.2 (show 2 ≤ jmx 193 by decide +kernel) rfl (fun q hq => ?_) ⟨⟨rfl, fun i e z he hz => ?_⟩, eFm_plain (plain_app (spEnv_plain _) clEnv_plain), fun F hF => absurd hF List.not_mem_nil, fun i v hv => ?_, trivial, fun q hq => ?_, fun B hB => absurd hB List.not_mem_nil⟩
  · have hq : q ∈ ([] : List (Nat × Int × Nat)) := hq
    exact absurd hq List.not_mem_nil
  · match i, he, hz with
    | 0, he, hz => cases he; cases hz; exact hx1
    | i + 1, he, _ => cases he
  · match i, hv with
    | 0, hv => cases hv; exact ⟨_, rfl, a0, ha0, rfl⟩
    | 1, hv => cases hv; exact ⟨_, rfl, x1, rfl, rfl⟩
    | 2, hv => cases hv
    | i + 3, hv => cases hv
  · exact absurd hq List.not_mem_nil
theorem bu_441 (hk : kOK TTs g (EIm n) l Kx_441) {W0 : List aR} {bk0 bk : aB} {h0 h : jH} (hO : hOK TTs g (EIm n) W0 bk0 h0 bk h) {a0 : Nat} (ha0 : bk 0 = some a0) {x1 : Int32} (hx1 : (-2147483648 : Int) ≤ x1.toInt ∧ x1.toInt ≤ 2147483647) :
    jCal l g 200 4 [.ref (g.2.2 + (a0 + 0)), .int x1] h 0 0 (kPost TTs g (EIm n) Kx_441 bk h [x1.toInt]) := by
  refine hk bk h [.ref (g.2.2 + (a0 + 0)), .int x1] [x1.toInt] hO.1 hO.2.1 hO.2.2.1 hO.2.2.2.2.2 (show 2 ≤ jmx 200 by decide +kernel) rfl (fun q hq => ?_) ⟨⟨rfl, fun i e z he hz => ?_⟩, eFm_plain (plain_app (spEnv_plain _) clEnv_plain), fun F hF => absurd hF List.not_mem_nil, fun i v hv => ?_, trivial, fun q hq => ?_, fun B hB => absurd hB List.not_mem_nil⟩
  · have hq : q ∈ ([] : List (Nat × Int × Nat)) := hq
    exact absurd hq List.not_mem_nil
  · match i, he, hz with
    | 0, he, hz => cases he; cases hz; exact hx1
    | i + 1, he, _ => cases he
  · match i, hv with
    | 0, hv => cases hv; exact ⟨_, rfl, a0, ha0, rfl⟩
    | 1, hv => cases hv; exact ⟨_, rfl, x1, rfl, rfl⟩
    | 2, hv => cases hv
    | i + 3, hv => cases hv
  · exact absurd hq List.not_mem_nil
theorem cp_ofR {b0 b1 y1 y2 d1 mc ms : Nat} {h : jH} {As : List Value} {P1 : Option Value → jH → Prop} (hd : d1 ≤ 40) (hx : jCal l g y1 d1 (.ref (g.2.2 + (b0 + 0)) :: As) h mc ms P1) (hP1 : ∀ v h1, P1 v h1 → ∃ x : Int32, v = some (.int x) ∧ ∃ bk1, lwI g n b0 b1 bk1 h1 ∧ ∃ b6, bk1 6 = some b6) (hm : ∀ bk1 h1, lwI g n b0 b1 bk1 h1 → ∃ (d2 : Nat) (P2 : Option Value → jH → Prop), d2 ≤ 40 ∧ jCal l g y2 d2 (.ref (g.2.2 + (b1 + 0)) :: As) h1 0 0 P2 ∧ ∀ v h2, P2 v h2 → lwQ g (n + 40) b0 b1 bk1 v h2) : cpS l g n b0 b1 h y1 y2 As mc ms false (fun bk2 => ¬ bk2 6 = none) := by
  refine ⟨d1, mc, ms, P1, hd, Nat.le_refl _, Nat.le_refl _, hx, fun v h1 hp => ?_⟩
  obtain ⟨x1, rfl, bk1, hI1, b6, hb6⟩ := hP1 v h1 hp
  obtain ⟨d2, P2, e1, e2, e3⟩ := hm bk1 h1 hI1
  refine ⟨x1, d2, P2, rfl, e1, e2, lw_m hI1, fun v2 h2 hp2 => ?_⟩
  obtain ⟨x2, rfl, bk2, hI2, h62⟩ := e3 v2 h2 hp2
  exact ⟨x2, rfl, fun h => Bool.noConfusion h, bk2, hI2, fun e => by rw [h62 b6 hb6] at e; cases e⟩
set_option maxRecDepth 16384 in
theorem cp_33 (hlow : ∀ (k : Nat) (K : aK), KTx[k]? = some K → kOK TTs g (EIm n) l K) {b0 b1 : Nat} {bk : aB} {h : jH} (hI : lwI g n b0 b1 bk h) {z1 : Int32} : cpS l g n b0 b1 h 134 283 [.int z1] 0 0 false (k6 bk) ∨ (bk 6 = none ∧ cpS l g n b0 b1 h 134 283 [.int z1] 7 20000 false (fun bk2 => ¬ bk2 6 = none)) := by
  have m2 : ∀ bk1 h1, lwI g n b0 b1 bk1 h1 → ∃ (d2 : Nat) (P2 : Option Value → jH → Prop), d2 ≤ 40 ∧ jCal l g 283 d2 (.ref (g.2.2 + (b1 + 0)) :: [.int z1]) h1 0 0 P2 ∧ ∀ v h2, P2 v h2 → lwQ g (n + 40) b0 b1 bk1 v h2 := fun bk1 h1 hI1 => ⟨5, _, by decide, bu_644 (hlow 644 _ rfl) (hI1.ok []) hI1.2.2.2.2.1 ⟨i32_lo _, i32_hi _⟩, fun v h2 hq => lwP hI1 hq (by decide +kernel) (by decide +kernel) (by decide +kernel) (by decide +kernel) (show n ≤ n + 40 by omega)⟩
  cases h6 : bk 6 with
  | some b6 => exact Or.inl (cp_of (d1 := 10) (by decide) (md0_run hlow (hI.ok []) hI.2.2.2.1 h6) (fun v h1 hq => lwP hI hq (by decide +kernel) (by decide +kernel) (by decide +kernel) (by decide +kernel) (Int.le_refl n)) m2)
  | none =>
    by_cases a1 : z1.toInt < 0
    · exact Or.inl (cp_of (d1 := 10) (by decide) (mdN_run hlow (hI.ok []) hI.2.2.2.1 ⟨i32_lo _, by omega⟩) (fun v h1 hq => lwP hI hq (by decide +kernel) (by decide +kernel) (by decide +kernel) (by decide +kernel) (Int.le_refl n)) m2)
    by_cases a2 : 2 ≤ z1.toInt
    · exact Or.inl (cp_of (d1 := 10) (by decide) (mdP_run hlow (hI.ok []) hI.2.2.2.1 ⟨a2, i32_hi _⟩) (fun v h1 hq => lwP hI hq (by decide +kernel) (by decide +kernel) (by decide +kernel) (by decide +kernel) (Int.le_refl n)) m2)
    refine Or.inr ⟨rfl, cp_ofR (d1 := 10) (by decide) (mdG_run hlow (hI.ok []) hI.2.2.2.1 ⟨by omega, by omega⟩) (fun v h1 hq => ?_) m2⟩
    obtain ⟨x1, rfl, bk1, hO1, b6, hb6⟩ := hq
    exact ⟨x1, rfl, bkF bk1, hI.stepN hO1 (Int.le_refl n) (by decide +kernel) (by decide +kernel) (by decide +kernel), b6, (bkF_ne (by decide)).trans hb6⟩
set_option maxRecDepth 16384 in
theorem cp_34 (hlow : ∀ (k : Nat) (K : aK), KTx[k]? = some K → kOK TTs g (EIm n) l K) {b0 b1 : Nat} {bk : aB} {h : jH} (hI : lwI g n b0 b1 bk h) {z1 z2 : Int32} : cpS l g n b0 b1 h 152 291 [.int z1, .int z2] 0 0 false (k6 bk) ∨ (bk 6 = none ∧ cpS l g n b0 b1 h 152 291 [.int z1, .int z2] 7 20000 false (fun bk2 => ¬ bk2 6 = none)) := by
  have m2 : ∀ bk1 h1, lwI g n b0 b1 bk1 h1 → ∃ (d2 : Nat) (P2 : Option Value → jH → Prop), d2 ≤ 40 ∧ jCal l g 291 d2 (.ref (g.2.2 + (b1 + 0)) :: [.int z1, .int z2]) h1 0 0 P2 ∧ ∀ v h2, P2 v h2 → lwQ g (n + 40) b0 b1 bk1 v h2 := fun bk1 h1 hI1 => ⟨5, _, by decide, bu_645 (hlow 645 _ rfl) (hI1.ok []) hI1.2.2.2.2.1 ⟨i32_lo _, i32_hi _⟩ ⟨i32_lo _, i32_hi _⟩, fun v h2 hq => lwP hI1 hq (by decide +kernel) (by decide +kernel) (by decide +kernel) (by decide +kernel) (show n ≤ n + 40 by omega)⟩
  cases h6 : bk 6 with
  | some b6 => exact Or.inl (cp_of (d1 := 10) (by decide) (me0_run hlow (hI.ok []) hI.2.2.2.1 h6) (fun v h1 hq => lwP hI hq (by decide +kernel) (by decide +kernel) (by decide +kernel) (by decide +kernel) (Int.le_refl n)) m2)
  | none =>
    obtain ⟨fsi, hcs, lsi, rsi, nsi⟩ := k_obj (o := 37) (ci := 6) hI.1 hI.2.2.2.1 rfl
    obtain ⟨sn, hv4, sn1, sn2⟩ := nsi 4 0 16 (by decide +kernel)
    by_cases a1 : z1.toInt < 0
    · exact Or.inl (cp_of (d1 := 10) (by decide) (meN_run hlow (hI.ok []) hI.2.2.2.1 ⟨i32_lo _, by omega⟩ ⟨i32_lo _, i32_hi _⟩) (fun v h1 hq => lwP hI hq (by decide +kernel) (by decide +kernel) (by decide +kernel) (by decide +kernel) (Int.le_refl n)) m2)
    by_cases a2 : sn.toInt ≤ z1.toInt
    · exact Or.inl (cp_of (d1 := 10) (by decide) (meP_run hlow (hI.ok []) hI.2.2.2.1 ⟨by omega, i32_hi _⟩ ⟨i32_lo _, i32_hi _⟩ ⟨sn1, sn2⟩ hcs hv4 (fun F hF => by
      have hF := List.mem_singleton.mp hF
      subst hF
      refine ⟨z1.toInt * 1 + (z2.toInt * 0 + sn.toInt * -1) + 0, ?_, by omega⟩
      simp [fev, fevl])) (fun v h1 hq => lwP hI hq (by decide +kernel) (by decide +kernel) (by decide +kernel) (by decide +kernel) (Int.le_refl n)) m2)
    by_cases a3 : z2.toInt < 0
    · exact Or.inl (cp_of (d1 := 10) (by decide) (meM_run hlow (hI.ok []) hI.2.2.2.1 ⟨i32_lo _, i32_hi _⟩ ⟨i32_lo _, by omega⟩) (fun v h1 hq => lwP hI hq (by decide +kernel) (by decide +kernel) (by decide +kernel) (by decide +kernel) (Int.le_refl n)) m2)
    by_cases a4 : 2 ≤ z2.toInt
    · exact Or.inl (cp_of (d1 := 10) (by decide) (meQ_run hlow (hI.ok []) hI.2.2.2.1 ⟨i32_lo _, i32_hi _⟩ ⟨a4, i32_hi _⟩) (fun v h1 hq => lwP hI hq (by decide +kernel) (by decide +kernel) (by decide +kernel) (by decide +kernel) (Int.le_refl n)) m2)
    refine Or.inr ⟨rfl, cp_ofR (d1 := 10) (by decide) (meG_run hlow (hI.ok []) hI.2.2.2.1 ⟨by omega, by omega⟩ ⟨by omega, by omega⟩ hcs hv4 (by omega)) (fun v h1 hq => ?_) m2⟩
    obtain ⟨x1, rfl, bk1, hO1, b6, hb6⟩ := hq
    exact ⟨x1, rfl, bkF bk1, hI.stepN hO1 (Int.le_refl n) (by decide +kernel) (by decide +kernel) (by decide +kernel), b6, (bkF_ne (by decide)).trans hb6⟩
/-- what a call whose answer is c leaves -/
def lwQc (g : jG) (n' : Int) (b0 b1 : Nat) (bk : aB) (c : Int) (v : Option Value) (h' : jH) : Prop := v = some (.int (Int32.ofInt c)) ∧ ∃ bk', lwI g n' b0 b1 bk' h' ∧ k6 bk bk'
theorem lwPc {K : aK} {b0 b1 : Nat} {bk : aB} {h h' : jH} {ev : List Int} {v : Option Value} {n' c : Int} (hI : lwI g n b0 b1 bk h) (hq : kPost TTs g (EIm n) K bk h ev v h') (h1 : apW K.2.2.2.2.2.2.2.1 [(1, 1, 1, 1)] = true) (h2 : apW K.2.2.2.2.2.2.2.1 [(1, 1, 5066, 5066)] = true) (h3 : apW K.2.2.2.2.2.2.2.1 rlF = true) (ha : K.2.2.2.2.1 = [(0, c, c, 0, 0, [])]) (hc : -2147483648 ≤ c ∧ c ≤ 2147483647) (hn : n ≤ n') : lwQc g n' b0 b1 bk c v h' := by
  obtain ⟨bk', os, k1, -, q, hq1, hq2⟩ := hq
  rw [ha] at hq1
  have hq3 := List.mem_singleton.mp hq1
  subst hq3
  obtain ⟨x, hx, ⟨x1, x2⟩, -, -⟩ := hq2
  have x1 : c ≤ x.toInt := x1
  have x2 : x.toInt ≤ c := x2
  have e : x = Int32.ofInt c := (i32_eqv hc).mpr (by omega)
  subst e
  exact ⟨hx, bkF bk', hI.stepN k1 hn h1 h2 h3, fun b hb => (bkF_ne (by decide)).trans (k1.2.2.2.2.1 6 b hb)⟩
/-- both answer c -/
theorem cp_cc {b0 b1 y1 y2 d1 mc ms MC MS : Nat} {bk : aB} {h : jH} {As : List Value} {P1 : Option Value → jH → Prop} {c : Int} (hd : d1 ≤ 40) (hmc : mc ≤ MC) (hms : ms ≤ MS) (hx : jCal l g y1 d1 (.ref (g.2.2 + (b0 + 0)) :: As) h mc ms P1) (hP1 : ∀ v h1, P1 v h1 → lwQc g n b0 b1 bk c v h1) (hm : ∀ bk1 h1, lwI g n b0 b1 bk1 h1 → ∃ (d2 : Nat) (P2 : Option Value → jH → Prop), d2 ≤ 40 ∧ jCal l g y2 d2 (.ref (g.2.2 + (b1 + 0)) :: As) h1 0 0 P2 ∧ ∀ v h2, P2 v h2 → lwQc g (n + 40) b0 b1 bk1 c v h2) : cpS l g n b0 b1 h y1 y2 As MC MS true (k6 bk) := by
  refine ⟨d1, mc, ms, P1, hd, hmc, hms, hx, fun v h1 hp => ?_⟩
  obtain ⟨rfl, bk1, hI1, h61⟩ := hP1 v h1 hp
  obtain ⟨d2, P2, e1, e2, e3⟩ := hm bk1 h1 hI1
  refine ⟨_, d2, P2, rfl, e1, e2, lw_m hI1, fun v2 h2 hp2 => ?_⟩
  obtain ⟨rfl, bk2, hI2, h62⟩ := e3 v2 h2 hp2
  exact ⟨_, rfl, fun _ => rfl, bk2, hI2, fun b hb => h62 b (h61 b hb)⟩
/-- an image is kept: behind both calls -/
theorem im_fin {b0 b1 a k k' : Nat} {bk bk1 bk2 : aB} {h h1 h2 : jH} {W1 : List aR} (hk : k < 2) (hk' : k' < 2) (hkk : k' ≠ k) (hI : lwI g n b0 b1 bk h) (k1 : hOK TTs g (EIm n) W1 bk h bk1 h1) (ha : bk1 (2 + k) = some a) (hC : ∀ q ∈ rlE, ∀ i, i < rln q → ∃ x, cv h1 (b0 + 1 + (q.1 - 1)) (rlz q i) x ∧ cv h1 (a + (q.1 - 1)) (rlz q i) x) (k2 : hOK TTs g (EIm n) imK.2.2.2.2.2.2.2.1 bk1 h1 bk2 h2) (c3 : cv h2 (b1 + 3) k 1) (cI : ∀ i x, i < 5270 → cv h1 (b1 + 1) i x → cv h2 (b1 + 2) (5270 * k + i) x) (cO : ∀ i x, i < 5270 → cv h1 (b1 + 2) (5270 * k' + i) x → cv h2 (b1 + 2) (5270 * k' + i) x) (cK : ∀ x, cv h1 (b1 + 3) k' x → cv h2 (b1 + 3) k' x)
    (w0 : apW W1 rlF0 = true) (w1 : apW W1 (rlFk k') = true) (w2 : apW W1 [(1, 1, 1, 1)] = true) (w3 : apW W1 [(1, 1, 5066, 5066)] = true) : ∃ bk', lwI g (n + 40) b0 b1 bk' h2 ∧ k6 bk bk' := by
  have q0 := hI.2.2.2.1
  have q1 := hI.2.2.2.2.1
  have p0 := k1.2.2.2.2.1 0 b0 q0
  have p1 := k1.2.2.2.2.1 1 b1 q1
  have r0 := k2.2.2.2.2.1 0 b0 p0
  have r1 := k2.2.2.2.2.1 1 b1 p1
  obtain ⟨f, er, ⟨-, f1⟩, -, f2⟩ := hI.row
  obtain ⟨t0, t1, t2⟩ := hI.2.2.2.2.2.2.2 b0 b1 q0 q1
  have t0' := rl0_keep k1 q0 q1 w0 t0
  have tk' : rlI b1 k' bk1 h1 := rlI_keep hk' hI.1 k1 q0 q1 w1 (by
    rcases rl_k2 hk' with rfl | rfl
    · exact t1
    · exact t2)
  have z0 := rl0_keep k2 p0 p1 (by decide +kernel) t0'
  have zk : rlI b1 k bk2 h2 := Or.inr ⟨a, k2.2.2.2.2.1 _ a ha, c3, fun e he i hi => by
    obtain ⟨x, x1, x2⟩ := hC e he i hi
    obtain ⟨x', y1, y2⟩ := t0' e he i hi
    cases cv_fun x1 y1
    have hr : rlr e i < 5270 := by
      have := (rlr_le hi).2
      have := (rlE_at he).2.2.2.2.1
      omega
    refine ⟨x, rlX_off k2 ha (rl_ty hk he) ?_ hi x2, cI _ _ hr (by rw [Nat.zero_add] at y2; exact y2)⟩
    rcases rl_k2 hk with rfl | rfl
    · exact apW_mem (by decide +kernel : apW imK.2.2.2.2.2.2.2.1 (rlE.map (fun e => rlX 2 1 e)) = true) (List.mem_map.mpr ⟨e, he, rfl⟩)
    · exact apW_mem (by decide +kernel : apW imK.2.2.2.2.2.2.2.1 (rlE.map (fun e => rlX 3 1 e)) = true) (List.mem_map.mpr ⟨e, he, rfl⟩)⟩
  have zk' : rlI b1 k' bk2 h2 := by
    rcases tk' with ⟨s1, s2⟩ | ⟨a', s1, s2, s3⟩
    · refine Or.inl ⟨img_none hk' k1.1 k2 p0 ?_ s1, cK _ s2⟩
      rcases rl_k2 hk' with rfl | rfl <;> decide +kernel
    · refine Or.inr ⟨a', k2.2.2.2.2.1 _ a' s1, cK _ s2, fun e he i hi => ?_⟩
      obtain ⟨x, x1, x2⟩ := s3 e he i hi
      have hr : rlr e i < 5270 := by
        have := (rlr_le hi).2
        have := (rlE_at he).2.2.2.2.1
        omega
      refine ⟨x, rlX_off k2 s1 (rl_ty hk' he) ?_ hi x1, cO _ _ hr x2⟩
      rcases rl_k2 hk' with rfl | rfl
      · exact apW_mem (by decide +kernel : apW imK.2.2.2.2.2.2.2.1 (rlE.map (fun e => rlX 2 1 e)) = true) (List.mem_map.mpr ⟨e, he, rfl⟩)
      · exact apW_mem (by decide +kernel : apW imK.2.2.2.2.2.2.2.1 (rlE.map (fun e => rlX 3 1 e)) = true) (List.mem_map.mpr ⟨e, he, rfl⟩)
  refine ⟨bkF bk2, ⟨HT_forget k2.1, BD_forget k2.2.1, EIm_forget (EIm_mono (show n ≤ n + 40 by omega) k2.2.2.1), (bkF_ne (by decide)).trans r0, (bkF_ne (by decide)).trans r1, by rw [bkF, if_pos rfl], fun f' hf' => ?_, lwR_F (fun c0 c1 e0 e1 => ?_)⟩, fun b hb => (bkF_ne (by decide)).trans (k2.2.2.2.2.1 6 b (k1.2.2.2.2.1 6 b hb))⟩
  · have c1 : (f' 1).toInt = (f 1).toInt := cv_inl hf' (cv_off k2 p1 (by decide +kernel) (by decide +kernel) (cv_off k1 q1 (by decide +kernel) w2 (cv_arr er 1)))
    have c2 : (f' 5066).toInt = (f 5066).toInt := cv_inl hf' (cv_off k2 p1 (by decide +kernel) (by decide +kernel) (cv_off k1 q1 (by decide +kernel) w3 (cv_arr er 5066)))
    omega
  · cases r0.symm.trans e0
    cases r1.symm.trans e1
    rcases rl_k2 hk with rfl | rfl
    · rcases rl_k2 hk' with rfl | rfl
      · exact absurd rfl hkk
      · exact ⟨z0, zk, zk'⟩
    · rcases rl_k2 hk' with rfl | rfl
      · exact ⟨z0, zk', zk⟩
      · exact absurd rfl hkk
theorem lw_cnt {b0 b1 : Nat} {bk bk1 : aB} {h h1 : jH} {W1 : List aR} (hI : lwI g n b0 b1 bk h) (k1 : hOK TTs g (EIm n) W1 bk h bk1 h1) (w2 : apW W1 [(1, 1, 1, 1)] = true) (w3 : apW W1 [(1, 1, 5066, 5066)] = true) : (∀ x, cv h1 (b1 + 1) 1 x → x ≤ n) ∧ ∀ x, cv h1 (b1 + 1) 5066 x → x ≤ n := by
  obtain ⟨f, er, ⟨-, f1⟩, -, f2⟩ := hI.row
  have q1 := hI.2.2.2.2.1
  refine ⟨fun x hx => ?_, fun x hx => ?_⟩
  · rw [cv_fun hx (cv_off k1 q1 (by decide +kernel) w2 (cv_arr er 1))]
    exact f1
  · rw [cv_fun hx (cv_off k1 q1 (by decide +kernel) w3 (cv_arr er 5066))]
    exact f2
set_option maxRecDepth 16384 in
theorem cp_51 (hlow : ∀ (k : Nat) (K : aK), KTx[k]? = some K → kOK TTs g (EIm n) l K) {b0 b1 : Nat} {bk : aB} {h : jH} (hI : lwI g n b0 b1 bk h) {z1 : Int32} : cpS l g n b0 b1 h 193 204 [.int z1] 48 4307 true (k6 bk) := by
  by_cases a1 : z1.toInt < 0
  · exact cp_cc (c := -1) (d1 := 2) (by decide) (Nat.zero_le _) (Nat.zero_le _) (bu_726 (hlow 726 _ rfl) (hI.ok []) hI.2.2.2.1 ⟨i32_lo _, by omega⟩) (fun v h1 hq => lwPc hI hq (by decide +kernel) (by decide +kernel) (by decide +kernel) rfl (by decide) (Int.le_refl n)) (fun bk1 h1 hI1 => ⟨2, _, by decide, bu_724 (hlow 724 _ rfl) (hI1.ok []) hI1.2.2.2.2.1 ⟨i32_lo _, by omega⟩, fun v h2 hq => lwPc hI1 hq (by decide +kernel) (by decide +kernel) (by decide +kernel) rfl (by decide) (show n ≤ n + 40 by omega)⟩)
  by_cases a2 : 2 ≤ z1.toInt
  · exact cp_cc (c := -1) (d1 := 2) (by decide) (Nat.zero_le _) (Nat.zero_le _) (bu_727 (hlow 727 _ rfl) (hI.ok []) hI.2.2.2.1 ⟨a2, i32_hi _⟩) (fun v h1 hq => lwPc hI hq (by decide +kernel) (by decide +kernel) (by decide +kernel) rfl (by decide) (Int.le_refl n)) (fun bk1 h1 hI1 => ⟨2, _, by decide, bu_725 (hlow 725 _ rfl) (hI1.ok []) hI1.2.2.2.2.1 ⟨a2, i32_hi _⟩, fun v h2 hq => lwPc hI1 hq (by decide +kernel) (by decide +kernel) (by decide +kernel) rfl (by decide) (show n ≤ n + 40 by omega)⟩)
  by_cases a3 : z1.toInt = 0
  · have e : z1 = 0 := i32_eq (by rw [a3]; rfl)
    subst e
    refine ⟨9, 48, 4307, _, by decide, Nat.le_refl _, Nat.le_refl _, xmD_0 hlow hI.1 hI.2.1 hI.2.2.1 hI.b01 hI.2.2.2.1 hI.2.2.2.2.2.1, fun v h1 hq => ?_⟩
    obtain ⟨rfl, bk1, a, k1, ha, hC⟩ := hq
    have p1 := k1.2.2.2.2.1 1 b1 hI.2.2.2.2.1
    obtain ⟨fm, hfm, -⟩ := k_obj (o := 0) (ci := 12) k1.1 p1 rfl
    obtain ⟨c1, c2⟩ := lw_cnt hI k1 (by decide +kernel) (by decide +kernel)
    refine ⟨0, 3, _, rfl, by decide, imgR_ok hlow k1 p1 (k := 0) (by decide) c1 c2, ⟨fm, hfm⟩, fun v2 h2 hq2 => ?_⟩
    obtain ⟨rfl, bk2, k2, d1, d2, d3, d4⟩ := hq2
    exact ⟨0, rfl, fun _ => rfl, im_fin (k := 0) (k' := 1) (by decide) (by decide) (by decide) hI k1 ha hC k2 d1 d2 (fun i x hi hx => d3 1 i x (by decide) (by decide) hi hx) (fun x hx => d4 1 x (by decide) hx) (by decide +kernel) (by decide +kernel) (by decide +kernel) (by decide +kernel)⟩
  · have e : z1 = 1 := i32_eq (by rw [show z1.toInt = 1 by omega]; rfl)
    subst e
    refine ⟨9, 48, 4307, _, by decide, Nat.le_refl _, Nat.le_refl _, xmD_1 hlow hI.1 hI.2.1 hI.2.2.1 hI.b01 hI.2.2.2.1 hI.2.2.2.2.2.1, fun v h1 hq => ?_⟩
    obtain ⟨rfl, bk1, a, k1, ha, hC⟩ := hq
    have p1 := k1.2.2.2.2.1 1 b1 hI.2.2.2.2.1
    obtain ⟨fm, hfm, -⟩ := k_obj (o := 0) (ci := 12) k1.1 p1 rfl
    obtain ⟨c1, c2⟩ := lw_cnt hI k1 (by decide +kernel) (by decide +kernel)
    refine ⟨0, 3, _, rfl, by decide, imgR_ok hlow k1 p1 (k := 1) (by decide) c1 c2, ⟨fm, hfm⟩, fun v2 h2 hq2 => ?_⟩
    obtain ⟨rfl, bk2, k2, d1, d2, d3, d4⟩ := hq2
    exact ⟨0, rfl, fun _ => rfl, im_fin (k := 1) (k' := 0) (by decide) (by decide) (by decide) hI k1 ha hC k2 d1 d2 (fun i x hi hx => d3 0 i x (by decide) (by decide) hi hx) (fun x hx => d4 0 x (by decide) hx) (by decide +kernel) (by decide +kernel) (by decide +kernel) (by decide +kernel)⟩
/-- the class's call is refused: by an exact walk -/
theorem xc_bad {K1 : aK} {ev1 : List Int} {b0 b1 y1 d1 : Nat} {bk : aB} {h : jH} {As : List Value} {c : Int} (hI : lwI g n b0 b1 bk h)
    (hx : jCal l g y1 d1 (.ref (g.2.2 + (b0 + 0)) :: As) h 0 0 (kPost TTs g (EIm n) K1 bk h ev1))
    (ex : ∀ fx, h[b0 + 0]? = some (.inr (11, fx)) → fx.length = 12 → fx[0]? = some (.ref (g.2.2 + (b0 + 1))) → jCal l g y1 d1 (.ref (g.2.2 + (b0 + 0)) :: As) h 0 0 (fun v h' => v = some (.int (Int32.ofInt c)) ∧ h' = h.set (b0 + 0) (.inr (11, fx.set 7 (.int (Int32.ofInt c))))))
    (a1 : apW K1.2.2.2.2.2.2.2.1 [(1, 1, 1, 1)] = true) (a2 : apW K1.2.2.2.2.2.2.2.1 [(1, 1, 5066, 5066)] = true) (i1 : apW K1.2.2.2.2.2.2.2.1 rlFI = true) (w1 : apW K1.2.2.2.2.2.2.2.1 [(1, 1, 0, 5269)] = true) :
    ∃ P, jCal l g y1 d1 (.ref (g.2.2 + (b0 + 0)) :: As) h 0 0 P ∧ ∀ v h1, P v h1 → lwQc g n b0 b1 bk c v h1 := by
  obtain ⟨fx, hfx, lfx, rfx, -⟩ := k_obj (o := 0) (ci := 11) hI.1 hI.2.2.2.1 rfl
  refine ⟨_, jCal.both hx (ex fx hfx (lfx.trans (by decide +kernel)) (rfx 0 1 (by decide +kernel))), fun v h1 hp => ?_⟩
  obtain ⟨⟨bk1, os1, k1, -⟩, h1', ⟨rfl, rfl⟩, H1, e1, e2⟩ := hp
  have q0 := hI.2.2.2.1
  have q1 := hI.2.2.2.2.1
  have p0 := k1.2.2.2.2.1 0 b0 q0
  have p1 := k1.2.2.2.2.1 1 b1 q1
  obtain ⟨f, er, ⟨-, f1⟩, -, f2⟩ := hI.row
  obtain ⟨t0, t1, t2⟩ := hI.2.2.2.2.2.2.2 b0 b1 q0 q1
  refine ⟨rfl, bkF bk1, ⟨HT_forget k1.1, BD_forget k1.2.1, EIm_forget k1.2.2.1, (bkF_ne (by decide)).trans p0, (bkF_ne (by decide)).trans p1, by rw [bkF, if_pos rfl], fun f' hf' => ?_, lwR_F (fun c0 c1 e0 e1' => ?_)⟩, fun b hb => (bkF_ne (by decide)).trans (k1.2.2.2.2.1 6 b hb)⟩
  · have c1 : (f' 1).toInt = (f 1).toInt := cv_inl hf' (cv_off k1 q1 (by decide +kernel) a1 (cv_arr er 1))
    have c2 : (f' 5066).toInt = (f 5066).toInt := cv_inl hf' (cv_off k1 q1 (by decide +kernel) a2 (cv_arr er 5066))
    omega
  · cases p0.symm.trans e0
    cases p1.symm.trans e1'
    refine ⟨fun e he i hi => ?_, rlI_keep (by decide) hI.1 k1 q0 q1 (rl_Fk (by decide) i1) t1, rlI_keep (by decide) hI.1 k1 q0 q1 (rl_Fk (by decide) i1) t2⟩
    obtain ⟨x, x1, x2⟩ := t0 e he i hi
    rw [rl_sh he] at x1 ⊢
    obtain ⟨t, ht, hz⟩ := rlW_at he hi
    have h1e := (rlE_at he).2.2.2.1
    have un : (h.set (b0 + 0) (.inr (11, fx.set 7 (.int (Int32.ofInt c)))))[b0 + e.1]? = h[b0 + e.1]? := by rw [List.getElem?_set_ne (by omega)]
    obtain ⟨cc, hcc, -⟩ := hI.1 0 b0 e.1 t q0 ht
    refine ⟨x, both_cv k1 e1 e2 q0 ht (un.trans hcc) (ckd_of hI.1 q0 ht hcc) hz (cv_cell un x1), ?_⟩
    have hr : 0 + rlr e i < 5270 := by
      have := (rlr_le hi).2
      have := (rlE_at he).2.2.2.2.1
      omega
    exact cv_off k1 q1 (by decide +kernel) (apW_iv w1 (by omega) (by omega)) x2
/-- back to an image: behind both calls -/
theorem bk_fin {b0 b1 a k : Nat} {bk bk1 bk2 : aB} {h h1 h2 : jH} {W1 : List aR} (hk : k < 2) (hI : lwI g n b0 b1 bk h) (k1 : hOK TTs g (EIm n) W1 bk h bk1 h1) (ha : bk (2 + k) = some a) (hC : ∀ q ∈ rlE, ∀ i, i < rln q → ∃ x, cv h (a + (q.1 - 1)) (rlz q i) x ∧ cv h1 (b0 + 1 + (q.1 - 1)) (rlz q i) x) (k2 : hOK TTs g (EIm n) [(1, 0, 0, 1), (1, 1, 0, 5269)] bk1 h1 bk2 h2) (n1 : ∀ x, cv h2 (b1 + 1) 1 x → x ≤ n) (n2 : ∀ x, cv h2 (b1 + 1) 5066 x → x ≤ n) (cI : ∀ i x, i < 5270 → cv h1 (b1 + 2) (5270 * k + i) x → cv h2 (b1 + 1) i x)
    (w1 : apW W1 rlFI = true) : ∃ bk', lwI g (n + 40) b0 b1 bk' h2 ∧ k6 bk bk' := by
  have q0 := hI.2.2.2.1
  have q1 := hI.2.2.2.2.1
  have p0 := k1.2.2.2.2.1 0 b0 q0
  have p1 := k1.2.2.2.2.1 1 b1 q1
  have r0 := k2.2.2.2.2.1 0 b0 p0
  have r1 := k2.2.2.2.2.1 1 b1 p1
  obtain ⟨t0, t1, t2⟩ := hI.2.2.2.2.2.2.2 b0 b1 q0 q1
  have s1 := rlI_keep (k := 0) (by decide) hI.1 k1 q0 q1 (rl_Fk (by decide) w1) t1
  have s2 := rlI_keep (k := 1) (by decide) hI.1 k1 q0 q1 (rl_Fk (by decide) w1) t2
  have u1 := rlI_keep (k := 0) (by decide) k1.1 k2 p0 p1 (by decide +kernel) s1
  have u2 := rlI_keep (k := 1) (by decide) k1.1 k2 p0 p1 (by decide +kernel) s2
  have tk : rlI b1 k bk h := by
    rcases rl_k2 hk with rfl | rfl
    · exact t1
    · exact t2
  have hS : rlS a (b1 + 2) (5270 * k) h := by
    rcases tk with ⟨e1, -⟩ | ⟨a', e1, -, e3⟩
    · rw [ha] at e1
      cases e1
    · cases ha.symm.trans e1
      exact e3
  refine ⟨bkF bk2, ⟨HT_forget k2.1, BD_forget k2.2.1, EIm_forget (EIm_mono (show n ≤ n + 40 by omega) k2.2.2.1), (bkF_ne (by decide)).trans r0, (bkF_ne (by decide)).trans r1, by rw [bkF, if_pos rfl], fun f' hf' => ?_, lwR_F (fun c0 c1 e0 e1 => ?_)⟩, fun b hb => (bkF_ne (by decide)).trans (k2.2.2.2.2.1 6 b (k1.2.2.2.2.1 6 b hb))⟩
  · have := n1 _ (cv_arr hf' 1)
    have := n2 _ (cv_arr hf' 5066)
    omega
  · cases r0.symm.trans e0
    cases r1.symm.trans e1
    refine ⟨fun e he i hi => ?_, u1, u2⟩
    obtain ⟨x, x1, x2⟩ := hC e he i hi
    obtain ⟨x', y1, y2⟩ := hS e he i hi
    cases cv_fun x1 y1
    have hr : rlr e i < 5270 := by
      have := (rlr_le hi).2
      have := (rlE_at he).2.2.2.2.1
      omega
    refine ⟨x, ?_, ?_⟩
    · rw [rl_sh he] at x2 ⊢
      exact rlX_off (s := 0) k2 p0 (rlE_at he).1 (apW_mem (by decide +kernel : apW [(1, 0, 0, 1), (1, 1, 0, 5269)] (rlE.map (fun e => rlX 0 0 e)) = true) (List.mem_map.mpr ⟨e, he, rfl⟩)) hi x2
    · rw [Nat.zero_add]
      refine cI _ _ hr (rlY_off (o := 2) (p := 5270 * k) k1 q1 (by decide +kernel) ?_ hi y2)
      exact apW_mem (rl_Fk hk w1) (rl_yk he)
set_option maxRecDepth 16384 in
theorem cp_52 (hlow : ∀ (k : Nat) (K : aK), KTx[k]? = some K → kOK TTs g (EIm n) l K) {b0 b1 : Nat} {bk : aB} {h : jH} (hI : lwI g n b0 b1 bk h) {z1 : Int32} : cpS l g n b0 b1 h 200 207 [.int z1] 0 0 true (k6 bk) := by
  by_cases a1 : z1.toInt < 0
  · obtain ⟨P, e1, e2⟩ := xc_bad (c := -1) hI (bu_441 (hlow 441 _ rfl) (hI.ok []) hI.2.2.2.1 ⟨i32_lo z1, i32_hi z1⟩) (fun fx f1 f2 f3 => xk_back_l f1 f2 f3 (by omega)) (by decide +kernel) (by decide +kernel) (by decide +kernel) (by decide +kernel)
    exact cp_cc (d1 := 4) (by decide) (Nat.zero_le _) (Nat.zero_le _) e1 e2 (fun bk1 h1 hI1 => ⟨2, _, by decide, mbN_run hlow (hI1.ok []) hI1.2.2.2.2.1 ⟨i32_lo _, by omega⟩, fun v h2 hq => lwPc hI1 hq (by decide +kernel) (by decide +kernel) (by decide +kernel) rfl (by decide) (show n ≤ n + 40 by omega)⟩)
  by_cases a2 : 2 ≤ z1.toInt
  · obtain ⟨P, e1, e2⟩ := xc_bad (c := -1) hI (bu_441 (hlow 441 _ rfl) (hI.ok []) hI.2.2.2.1 ⟨i32_lo z1, i32_hi z1⟩) (fun fx f1 f2 f3 => xk_back_h f1 f2 f3 (by omega)) (by decide +kernel) (by decide +kernel) (by decide +kernel) (by decide +kernel)
    exact cp_cc (d1 := 4) (by decide) (Nat.zero_le _) (Nat.zero_le _) e1 e2 (fun bk1 h1 hI1 => ⟨2, _, by decide, mbP_run hlow (hI1.ok []) hI1.2.2.2.2.1 ⟨a2, i32_hi _⟩, fun v h2 hq => lwPc hI1 hq (by decide +kernel) (by decide +kernel) (by decide +kernel) rfl (by decide) (show n ≤ n + 40 by omega)⟩)
  by_cases a3 : z1.toInt = 0
  · have e : z1 = 0 := i32_eq (by rw [a3]; rfl)
    subst e
    cases hk : bk (2 + 0) with
    | none =>
      refine ⟨4, 0, 0, _, by decide, Nat.le_refl _, Nat.le_refl _, bkN_0 hlow hI.1 hI.2.1 hI.2.2.1 hI.b01 hI.2.2.2.1 hk, fun v h1 hq => ?_⟩
      obtain ⟨rfl, bk1, k1⟩ := hq
      have hI1 : lwI g n b0 b1 (bkF bk1) h1 := hI.stepN k1 (Int.le_refl n) (by decide +kernel) (by decide +kernel) (by decide +kernel)
      have h61 : k6 bk (bkF bk1) := fun b hb => (bkF_ne (by decide)).trans (k1.2.2.2.2.1 6 b hb)
      refine ⟨-2, 3, _, rfl, by decide, bakR_ok hlow (hI1.ok []) hI1.2.2.2.2.1 (k := 0) (by decide), lw_m hI1, fun v2 h2 hq2 => ?_⟩
      rcases hq2 with ⟨-, rfl, bk2, k2⟩ | ⟨⟨x, x0, x1⟩, -⟩
      · refine ⟨-2, rfl, fun _ => rfl, bkF bk2, hI1.stepN k2 (by omega) (by decide +kernel) (by decide +kernel) (by decide +kernel), fun b hb => (bkF_ne (by decide)).trans (k2.2.2.2.2.1 6 b (h61 b hb))⟩
      · exfalso
        obtain ⟨t0, t1, t2⟩ := hI1.2.2.2.2.2.2.2 b0 b1 hI1.2.2.2.1 hI1.2.2.2.2.1
        have hn : (bkF bk1) (2 + 0) = none := (bkF_ne (by decide)).trans (img_none (k := 0) (by decide) hI.1 k1 hI.2.2.2.1 (by decide +kernel) hk)
        rcases t1 with ⟨-, e2⟩ | ⟨a', e1, -⟩
        · exact x0 (cv_fun x1 e2)
        · rw [hn] at e1
          cases e1
    | some a =>
      refine ⟨4, 0, 0, _, by decide, Nat.le_refl _, Nat.le_refl _, bkS_0 hlow hI.1 hI.2.1 hI.2.2.1 hI.b01 hI.2.2.2.1 hk, fun v h1 hq => ?_⟩
      obtain ⟨rfl, bk1, k1, hC⟩ := hq
      have p1 := k1.2.2.2.2.1 1 b1 hI.2.2.2.2.1
      obtain ⟨fm, hfm, -⟩ := k_obj (o := 0) (ci := 12) k1.1 p1 rfl
      obtain ⟨t0, t1, t2⟩ := hI.2.2.2.2.2.2.2 b0 b1 hI.2.2.2.1 hI.2.2.2.2.1
      have hk1 : cv h1 (b1 + 3) 0 1 := by
        rcases t1 with ⟨e1, -⟩ | ⟨a', e1, e2, -⟩
        · rw [hk] at e1
          cases e1
        · exact cv_off k1 hI.2.2.2.2.1 (by decide +kernel) (by decide +kernel) e2
      refine ⟨0, 3, _, rfl, by decide, bakR_ok hlow k1 p1 (k := 0) (by decide), ⟨fm, hfm⟩, fun v2 h2 hq2 => ?_⟩
      rcases hq2 with ⟨e1, -⟩ | ⟨-, rfl, bk2, k2, n1, n2, cI⟩
      · exfalso
        have := cv_fun e1 hk1
        omega
      · exact ⟨0, rfl, fun _ => rfl, bk_fin (k := 0) (by decide) hI k1 hk hC k2 n1 n2 cI (by decide +kernel)⟩
  · have e : z1 = 1 := i32_eq (by rw [show z1.toInt = 1 by omega]; rfl)
    subst e
    cases hk : bk (2 + 1) with
    | none =>
      refine ⟨4, 0, 0, _, by decide, Nat.le_refl _, Nat.le_refl _, bkN_1 hlow hI.1 hI.2.1 hI.2.2.1 hI.b01 hI.2.2.2.1 hk, fun v h1 hq => ?_⟩
      obtain ⟨rfl, bk1, k1⟩ := hq
      have hI1 : lwI g n b0 b1 (bkF bk1) h1 := hI.stepN k1 (Int.le_refl n) (by decide +kernel) (by decide +kernel) (by decide +kernel)
      have h61 : k6 bk (bkF bk1) := fun b hb => (bkF_ne (by decide)).trans (k1.2.2.2.2.1 6 b hb)
      refine ⟨-2, 3, _, rfl, by decide, bakR_ok hlow (hI1.ok []) hI1.2.2.2.2.1 (k := 1) (by decide), lw_m hI1, fun v2 h2 hq2 => ?_⟩
      rcases hq2 with ⟨-, rfl, bk2, k2⟩ | ⟨⟨x, x0, x1⟩, -⟩
      · refine ⟨-2, rfl, fun _ => rfl, bkF bk2, hI1.stepN k2 (by omega) (by decide +kernel) (by decide +kernel) (by decide +kernel), fun b hb => (bkF_ne (by decide)).trans (k2.2.2.2.2.1 6 b (h61 b hb))⟩
      · exfalso
        obtain ⟨t0, t1, t2⟩ := hI1.2.2.2.2.2.2.2 b0 b1 hI1.2.2.2.1 hI1.2.2.2.2.1
        have hn : (bkF bk1) (2 + 1) = none := (bkF_ne (by decide)).trans (img_none (k := 1) (by decide) hI.1 k1 hI.2.2.2.1 (by decide +kernel) hk)
        rcases t2 with ⟨-, e2⟩ | ⟨a', e1, -⟩
        · exact x0 (cv_fun x1 e2)
        · rw [hn] at e1
          cases e1
    | some a =>
      refine ⟨4, 0, 0, _, by decide, Nat.le_refl _, Nat.le_refl _, bkS_1 hlow hI.1 hI.2.1 hI.2.2.1 hI.b01 hI.2.2.2.1 hk, fun v h1 hq => ?_⟩
      obtain ⟨rfl, bk1, k1, hC⟩ := hq
      have p1 := k1.2.2.2.2.1 1 b1 hI.2.2.2.2.1
      obtain ⟨fm, hfm, -⟩ := k_obj (o := 0) (ci := 12) k1.1 p1 rfl
      obtain ⟨t0, t1, t2⟩ := hI.2.2.2.2.2.2.2 b0 b1 hI.2.2.2.1 hI.2.2.2.2.1
      have hk1 : cv h1 (b1 + 3) 1 1 := by
        rcases t2 with ⟨e1, -⟩ | ⟨a', e1, e2, -⟩
        · rw [hk] at e1
          cases e1
        · exact cv_off k1 hI.2.2.2.2.1 (by decide +kernel) (by decide +kernel) e2
      refine ⟨0, 3, _, rfl, by decide, bakR_ok hlow k1 p1 (k := 1) (by decide), ⟨fm, hfm⟩, fun v2 h2 hq2 => ?_⟩
      rcases hq2 with ⟨e1, -⟩ | ⟨-, rfl, bk2, k2, n1, n2, cI⟩
      · exfalso
        have := cv_fun e1 hk1
        omega
      · exact ⟨0, rfl, fun _ => rfl, bk_fin (k := 1) (by decide) hI k1 hk hC k2 n1 n2 cI (by decide +kernel)⟩
end QJ
end
