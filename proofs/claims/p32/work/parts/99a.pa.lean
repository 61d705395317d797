/-! the reference's parser: its state, and its smallest methods -/
section PA
variable {l : Launch} {g : jG} {n : Int}
/-- a cell of which W says nothing stays -/
theorem hOK.cell {W : List aR} {bk0 bk : aB} {h0 h : jH} (hO : hOK TTs g (EIm n) W bk0 h0 bk h) {B b o : Nat} {c : jC} (hb : bk0 B = some b) (ho : o < tyLen TTs B) (hc : h0[b + o]? = some c) (hW : W.all (fun w => !(Nat.beq w.1 B && Nat.beq w.2.1 o)) = true) : h[b + o]? = some c := by
  obtain ⟨c', q1, q2⟩ := hO.2.2.2.1.2 B b o c hb ho hc
  have hno : ∀ i, ¬ inW W B o i := by
    rintro i ⟨w, hw, e1, e2, -⟩
    have := List.all_eq_true.mp hW w hw
    rw [e1, e2, Nat.beq_refl, Nat.beq_refl] at this
    cases this
  rw [q1]
  cases c with
  | inl a => cases c' with
    | inl a' =>
      obtain ⟨t, m, f⟩ := a
      obtain ⟨t', m', f'⟩ := a'
      obtain ⟨e1, e2, e3⟩ := q2
      have z1 : t' = t := e1
      have z2 : m' = m := e2
      have z3 : f' = f := funext (fun i => e3 i (hno i))
      rw [z1, z2, z3]
    | inr a' => exact absurd q2 id
  | inr a => cases c' with
    | inl a' => exact absurd q2 id
    | inr a' =>
      obtain ⟨t, fs⟩ := a
      obtain ⟨t', fs'⟩ := a'
      obtain ⟨e1, e2, e3⟩ := q2
      have z1 : t' = t := e1
      have z3 : fs' = fs := List.ext_getElem? (fun i => e3 i (hno i))
      rw [z1, z3]
theorem hOK.w1 {W W' : List aR} {bk0 bk : aB} {h0 h : jH} (hO : hOK TTs g (EIm n) W bk0 h0 bk h) (hw : subW W W' = true) : hOK TTs g (EIm n) W' bk0 h0 bk h := ⟨hO.1, hO.2.1, hO.2.2.1, hO.2.2.2.1.mono hw, hO.2.2.2.2.1, hO.2.2.2.2.2⟩
def iN (k : Nat) : Value := .int (Int32.ofInt (k : Int))
def pF (fs : List Value) (T F G s be q c m w : Nat) : Prop := fs[6]? = some (iN T) ∧ fs[7]? = some (iN F) ∧ fs[8]? = some (iN G) ∧ fs[9]? = some (iN s) ∧ fs[12]? = some (iN be) ∧ fs[13]? = some (iN q) ∧ fs[15]? = some (iN c) ∧ fs[20]? = some (iN m) ∧ fs[21]? = some (iN w)
/-- the parser's fields and rows -/
def pS (h : jH) (b T F G s be q c m w : Nat) (N O A P : Nat → Int32) : Prop := (∃ fs, h[b + 0]? = some (.inr (12, fs)) ∧ pF fs T F G s be q c m w) ∧ h[b + 5]? = some (.inl (0, 128, N)) ∧ h[b + 6]? = some (.inl (0, 400, O)) ∧ h[b + 7]? = some (.inl (0, 400, A)) ∧ h[b + 8]? = some (.inl (0, 400, P))
def pL (T F G s : Nat) : Prop := F ≤ G ∧ G ≤ T ∧ T ≤ 400 ∧ s + 3 * F ≤ 3 * G ∧ s ≤ 3
theorem ty_m5 : tyAt TTs 1 5 = some (.inl (0, 128, [(0, 128, 1, [(-2147483648, 2147483647)])])) := rfl
theorem ty_m6 : tyAt TTs 1 6 = some (.inl (0, 400, [(0, 400, 1, [(0, 13)])])) := rfl
theorem ty_m7 : tyAt TTs 1 7 = some (.inl (0, 400, [(0, 400, 1, [(0, 15)])])) := rfl
theorem ty_m8 : tyAt TTs 1 8 = some (.inl (0, 400, [(0, 400, 1, [(0, 13)])])) := rfl
def nxW : List aR := [(1, 0, 7, 10)]
def muW : List aR := [(1, 0, 7, 12)]
/-- what next and must leave as it was -/
theorem pS.mv {bk bk2 : aB} {h h2 : jH} {b T F G s be q c m w : Nat} {N O A P : Nat → Int32} (hO : hOK TTs g (EIm n) muW bk h bk2 h2) (hb : bk 1 = some b) (hS : pS h b T F G s be q c m w N O A P) : ∃ fs, h2[b + 0]? = some (.inr (12, fs)) ∧ fs[6]? = some (iN T) ∧ fs[13]? = some (iN q) ∧ fs[15]? = some (iN c) ∧ fs[20]? = some (iN m) ∧ fs[21]? = some (iN w) ∧ h2[b + 5]? = some (.inl (0, 128, N)) ∧ h2[b + 6]? = some (.inl (0, 400, O)) ∧ h2[b + 7]? = some (.inl (0, 400, A)) ∧ h2[b + 8]? = some (.inl (0, 400, P)) := by
  obtain ⟨⟨fs, ho, f6, f7, f8, f9, f12, f13, f15, f20, f21⟩, s5, s6, s7, s8⟩ := hS
  obtain ⟨fs2, hc2, e6⟩ := hO.fld (k := 6) hb ty_m0 ho (by decide)
  obtain ⟨fs3, hc3, e13⟩ := hO.fld (k := 13) hb ty_m0 ho (by decide)
  obtain ⟨fs4, hc4, e15⟩ := hO.fld (k := 15) hb ty_m0 ho (by decide)
  obtain ⟨fs5, hc5, e20⟩ := hO.fld (k := 20) hb ty_m0 ho (by decide)
  obtain ⟨fs6, hc6, e21⟩ := hO.fld (k := 21) hb ty_m0 ho (by decide)
  cases hc2.symm.trans hc3
  cases hc2.symm.trans hc4
  cases hc2.symm.trans hc5
  cases hc2.symm.trans hc6
  exact ⟨fs2, hc2, e6.trans f6, e13.trans f13, e15.trans f15, e20.trans f20, e21.trans f21, hO.cell hb (tyAt_lt ty_m5) s5 (by decide), hO.cell hb (tyAt_lt ty_m6) s6 (by decide), hO.cell hb (tyAt_lt ty_m7) s7 (by decide), hO.cell hb (tyAt_lt ty_m8) s8 (by decide)⟩
/-- an out's value, as a number -/
theorem out_nat {bk : aB} {h : jH} {b k : Nat} {fs : List Value} {os : List Int} {outs : List aC} {j : Nat} {x lo hi : Int} (hb : bk 1 = some b) (ho : h[b + 0]? = some (.inr (12, fs))) (hO : outOK bk h os outs) (hj : outs[j]? = some (1, 0, k, lo, hi)) (hx : os[j]? = some x) (h0 : 0 ≤ lo) : ∃ v : Nat, x = (v : Int) ∧ fs[k]? = some (iN v) ∧ (v : Int) ≤ hi := by
  obtain ⟨⟨u1, u2⟩, b2, c2, u3, u4, u5⟩ := hO.2 j _ x hj hx
  have u3 : bk 1 = some b2 := u3
  cases hb.symm.trans u3
  have u4 : h[b + 0]? = some c2 := u4
  cases ho.symm.trans u4
  obtain ⟨-, wv, u6, u7⟩ := u5
  dsimp only at u1 u2 u6
  have u6 : fs[k]? = some (.int wv) := by rw [Int.toNat_natCast] at u6; exact u6
  refine ⟨x.toNat, by omega, ?_, by omega⟩
  rw [u6, iN, show ((x.toNat : Nat) : Int) = wv.toInt by omega, Int32.ofInt_toInt]
theorem use_505 (hk : kOK TTs g (EIm n) l Kx_505) {W0 : List aR} {bk0 bk : aB} {h0 h : jH} (hO : hOK TTs g (EIm n) W0 bk0 h0 bk h)  {x0 : Int64} {x2 : Int64} {x4 : Int64} :
    jCal l g 205 1 [.long x0, .long x2, .long x4] h 0 0 (kPost TTs g (EIm n) Kx_505 bk h [x0.toInt, x2.toInt, x4.toInt]) := by
  refine hk bk h [.long x0, .long x2, .long x4] [x0.toInt, x2.toInt, x4.toInt] hO.1 hO.2.1 hO.2.2.1 hO.2.2.2.2.2 (show 6 ≤ jmx 205 by decide +kernel) rfl (fun q hq => ?_) ⟨⟨rfl, fun i e z he hz => ?_⟩, eFm_plain (plain_app (spEnv_plain _) clEnv_plain), fun F hF => absurd hF List.not_mem_nil, fun i v hv => ?_, trivial, fun q hq => ?_, fun B hB => absurd hB List.not_mem_nil⟩
  · have hq : q ∈ ([] : List (Nat × Int × Nat)) := hq
    exact absurd hq List.not_mem_nil
  · match i, he, hz with
    | 0, he, hz => cases he; cases hz; exact ⟨i64_lo x0, i64_hi x0⟩
    | 1, he, hz => cases he; cases hz; exact ⟨i64_lo x2, i64_hi x2⟩
    | 2, he, hz => cases he; cases hz; exact ⟨i64_lo x4, i64_hi x4⟩
    | i + 3, he, _ => cases he
  · match i, hv with
    | 0, hv => cases hv; exact ⟨_, rfl, x0, rfl, rfl⟩
    | 1, hv => cases hv
    | 2, hv => cases hv; exact ⟨_, rfl, x2, rfl, rfl⟩
    | 3, hv => cases hv
    | 4, hv => cases hv; exact ⟨_, rfl, x4, rfl, rfl⟩
    | 5, hv => cases hv
    | i + 6, hv => cases hv
  · exact absurd hq List.not_mem_nil
theorem use_737 (hk : kOK TTs g (EIm n) l Kx_737) {W0 : List aR} {bk0 bk : aB} {h0 h : jH} (hO : hOK TTs g (EIm n) W0 bk0 h0 bk h) {a1 : Nat} (ha1 : bk 1 = some a1) {c0 : Int32} (hc0 : (0 : Int) ≤ c0.toInt ∧ c0.toInt ≤ 400) {fc0 : List Value} (ec0 : h[a1 + 0]? = some (.inr (12, fc0))) (pc0 : fc0[6]? = some (.int c0)) {c1 : Int32} (hc1 : (0 : Int) ≤ c1.toInt ∧ c1.toInt ≤ 400) {fc1 : List Value} (ec1 : h[a1 + 0]? = some (.inr (12, fc1))) (pc1 : fc1[8]? = some (.int c1)) (hfc : fcOK [c0.toInt, c1.toInt] Kx_737.2.2.2.1) :
    jCal l g 219 2 [.ref (g.2.2 + (a1 + 0))] h 0 0 (kPost TTs g (EIm n) Kx_737 bk h [c0.toInt, c1.toInt]) := by
  refine hk bk h [.ref (g.2.2 + (a1 + 0))] [c0.toInt, c1.toInt] hO.1 hO.2.1 hO.2.2.1 hO.2.2.2.2.2 (show 1 ≤ jmx 219 by decide +kernel) rfl (fun q hq => ?_) ⟨⟨rfl, fun i e z he hz => ?_⟩, eFm_plain (plain_app (spEnv_plain _) clEnv_plain), hfc, fun i v hv => ?_, trivial, fun q hq => ?_, fun B hB => absurd hB List.not_mem_nil⟩
  · have hq : q ∈ ([] : List (Nat × Int × Nat)) := hq
    exact absurd hq List.not_mem_nil
  · match i, he, hz with
    | 0, he, hz => cases he; cases hz; exact hc0
    | 1, he, hz => cases he; cases hz; exact hc1
    | i + 2, he, _ => cases he
  · match i, hv with
    | 0, hv => cases hv; exact ⟨_, rfl, a1, ha1, rfl⟩
    | i + 1, hv => cases hv
  · have hq2 : q ∈ [(1, 0, fcon ((6 : Nat) : Int), 0), (1, 0, fcon ((8 : Nat) : Int), 1)] := hq
    simp only [List.mem_cons, List.not_mem_nil, or_false] at hq2
    rcases hq2 with rfl | rfl
    · exact ⟨((6 : Nat) : Int), a1, _, c0.toInt, fcon_ok, ha1, ec0, ⟨by decide, c0, pc0, rfl⟩, rfl⟩
    · exact ⟨((8 : Nat) : Int), a1, _, c1.toInt, fcon_ok, ha1, ec1, ⟨by decide, c1, pc1, rfl⟩, rfl⟩
theorem use_738 (hk : kOK TTs g (EIm n) l Kx_738) {W0 : List aR} {bk0 bk : aB} {h0 h : jH} (hO : hOK TTs g (EIm n) W0 bk0 h0 bk h) {a1 : Nat} (ha1 : bk 1 = some a1) {x1 : Int32} (hx1 : (0 : Int) ≤ x1.toInt ∧ x1.toInt ≤ 1) {c0 : Int32} (hc0 : (0 : Int) ≤ c0.toInt ∧ c0.toInt ≤ 400) {fc0 : List Value} (ec0 : h[a1 + 0]? = some (.inr (12, fc0))) (pc0 : fc0[6]? = some (.int c0)) {c1 : Int32} (hc1 : (0 : Int) ≤ c1.toInt ∧ c1.toInt ≤ 400) {fc1 : List Value} (ec1 : h[a1 + 0]? = some (.inr (12, fc1))) (pc1 : fc1[7]? = some (.int c1)) {c2 : Int32} (hc2 : (0 : Int) ≤ c2.toInt ∧ c2.toInt ≤ 400) {fc2 : List Value} (ec2 : h[a1 + 0]? = some (.inr (12, fc2))) (pc2 : fc2[8]? = some (.int c2)) {c3 : Int32} (hc3 : (0 : Int) ≤ c3.toInt ∧ c3.toInt ≤ 3) {fc3 : List Value} (ec3 : h[a1 + 0]? = some (.inr (12, fc3))) (pc3 : fc3[9]? = some (.int c3)) {c4 : Int32} (hc4 : (0 : Int) ≤ c4.toInt ∧ c4.toInt ≤ 1) {fc4 : List Value} (ec4 : h[a1 + 0]? = some (.inr (12, fc4))) (pc4 : fc4[12]? = some (.int c4)) (hfc : fcOK [x1.toInt, c0.toInt, c1.toInt, c2.toInt, c3.toInt, c4.toInt] Kx_738.2.2.2.1) :
    jCal l g 224 3 [.ref (g.2.2 + (a1 + 0)), .int x1] h 0 0 (kPost TTs g (EIm n) Kx_738 bk h [x1.toInt, c0.toInt, c1.toInt, c2.toInt, c3.toInt, c4.toInt]) := by
  refine hk bk h [.ref (g.2.2 + (a1 + 0)), .int x1] [x1.toInt, c0.toInt, c1.toInt, c2.toInt, c3.toInt, c4.toInt] hO.1 hO.2.1 hO.2.2.1 hO.2.2.2.2.2 (show 2 ≤ jmx 224 by decide +kernel) rfl (fun q hq => ?_) ⟨⟨rfl, fun i e z he hz => ?_⟩, eFm_plain (plain_app (spEnv_plain _) clEnv_plain), hfc, fun i v hv => ?_, trivial, fun q hq => ?_, fun B hB => absurd hB List.not_mem_nil⟩
  · have hq : q ∈ ([] : List (Nat × Int × Nat)) := hq
    exact absurd hq List.not_mem_nil
  · match i, he, hz with
    | 0, he, hz => cases he; cases hz; exact hx1
    | 1, he, hz => cases he; cases hz; exact hc0
    | 2, he, hz => cases he; cases hz; exact hc1
    | 3, he, hz => cases he; cases hz; exact hc2
    | 4, he, hz => cases he; cases hz; exact hc3
    | 5, he, hz => cases he; cases hz; exact hc4
    | i + 6, he, _ => cases he
  · match i, hv with
    | 0, hv => cases hv; exact ⟨_, rfl, a1, ha1, rfl⟩
    | 1, hv => cases hv; exact ⟨_, rfl, x1, rfl, rfl⟩
    | i + 2, hv => cases hv
  · have hq2 : q ∈ [(1, 0, fcon ((6 : Nat) : Int), 1), (1, 0, fcon ((7 : Nat) : Int), 2), (1, 0, fcon ((8 : Nat) : Int), 3), (1, 0, fcon ((9 : Nat) : Int), 4), (1, 0, fcon ((12 : Nat) : Int), 5)] := hq
    simp only [List.mem_cons, List.not_mem_nil, or_false] at hq2
    rcases hq2 with rfl | rfl | rfl | rfl | rfl
    · exact ⟨((6 : Nat) : Int), a1, _, c0.toInt, fcon_ok, ha1, ec0, ⟨by decide, c0, pc0, rfl⟩, rfl⟩
    · exact ⟨((7 : Nat) : Int), a1, _, c1.toInt, fcon_ok, ha1, ec1, ⟨by decide, c1, pc1, rfl⟩, rfl⟩
    · exact ⟨((8 : Nat) : Int), a1, _, c2.toInt, fcon_ok, ha1, ec2, ⟨by decide, c2, pc2, rfl⟩, rfl⟩
    · exact ⟨((9 : Nat) : Int), a1, _, c3.toInt, fcon_ok, ha1, ec3, ⟨by decide, c3, pc3, rfl⟩, rfl⟩
    · exact ⟨((12 : Nat) : Int), a1, _, c4.toInt, fcon_ok, ha1, ec4, ⟨by decide, c4, pc4, rfl⟩, rfl⟩
theorem use_739 (hk : kOK TTs g (EIm n) l Kx_739) {W0 : List aR} {bk0 bk : aB} {h0 h : jH} (hO : hOK TTs g (EIm n) W0 bk0 h0 bk h) {a1 : Nat} (ha1 : bk 1 = some a1) {x1 : Int64} {c0 : Int32} (hc0 : (0 : Int) ≤ c0.toInt ∧ c0.toInt ≤ 3) {fc0 : List Value} (ec0 : h[a1 + 0]? = some (.inr (12, fc0))) (pc0 : fc0[9]? = some (.int c0)) :
    jCal l g 223 1 [.ref (g.2.2 + (a1 + 0)), .long x1] h 0 0 (kPost TTs g (EIm n) Kx_739 bk h [x1.toInt, c0.toInt]) := by
  refine hk bk h [.ref (g.2.2 + (a1 + 0)), .long x1] [x1.toInt, c0.toInt] hO.1 hO.2.1 hO.2.2.1 hO.2.2.2.2.2 (show 3 ≤ jmx 223 by decide +kernel) rfl (fun q hq => ?_) ⟨⟨rfl, fun i e z he hz => ?_⟩, eFm_plain (plain_app (spEnv_plain _) clEnv_plain), fun F hF => absurd hF List.not_mem_nil, fun i v hv => ?_, trivial, fun q hq => ?_, fun B hB => absurd hB List.not_mem_nil⟩
  · have hq : q ∈ ([] : List (Nat × Int × Nat)) := hq
    exact absurd hq List.not_mem_nil
  · match i, he, hz with
    | 0, he, hz => cases he; cases hz; exact ⟨i64_lo x1, i64_hi x1⟩
    | 1, he, hz => cases he; cases hz; exact hc0
    | i + 2, he, _ => cases he
  · match i, hv with
    | 0, hv => cases hv; exact ⟨_, rfl, a1, ha1, rfl⟩
    | 1, hv => cases hv; exact ⟨_, rfl, x1, rfl, rfl⟩
    | 2, hv => cases hv
    | i + 3, hv => cases hv
  · have hq2 : q = (1, 0, fcon ((9 : Nat) : Int), 1) := List.mem_singleton.mp hq
    subst hq2
    exact ⟨((9 : Nat) : Int), a1, _, c0.toInt, fcon_ok, ha1, ec0, ⟨by decide, c0, pc0, rfl⟩, rfl⟩
theorem use_740 (hk : kOK TTs g (EIm n) l Kx_740) {W0 : List aR} {bk0 bk : aB} {h0 h : jH} (hO : hOK TTs g (EIm n) W0 bk0 h0 bk h) {a1 : Nat} (ha1 : bk 1 = some a1) {x1 : Int32} (hx1 : (-2147483648 : Int) ≤ x1.toInt ∧ x1.toInt ≤ 2147483647) {c0 : Int32} (hc0 : (0 : Int) ≤ c0.toInt ∧ c0.toInt ≤ 3) {fc0 : List Value} (ec0 : h[a1 + 0]? = some (.inr (12, fc0))) (pc0 : fc0[9]? = some (.int c0)) :
    jCal l g 229 1 [.ref (g.2.2 + (a1 + 0)), .int x1] h 0 0 (kPost TTs g (EIm n) Kx_740 bk h [x1.toInt, c0.toInt]) := by
  refine hk bk h [.ref (g.2.2 + (a1 + 0)), .int x1] [x1.toInt, c0.toInt] hO.1 hO.2.1 hO.2.2.1 hO.2.2.2.2.2 (show 2 ≤ jmx 229 by decide +kernel) rfl (fun q hq => ?_) ⟨⟨rfl, fun i e z he hz => ?_⟩, eFm_plain (plain_app (spEnv_plain _) clEnv_plain), fun F hF => absurd hF List.not_mem_nil, fun i v hv => ?_, trivial, fun q hq => ?_, fun B hB => absurd hB List.not_mem_nil⟩
  · have hq : q ∈ ([] : List (Nat × Int × Nat)) := hq
    exact absurd hq List.not_mem_nil
  · match i, he, hz with
    | 0, he, hz => cases he; cases hz; exact hx1
    | 1, he, hz => cases he; cases hz; exact hc0
    | i + 2, he, _ => cases he
  · match i, hv with
    | 0, hv => cases hv; exact ⟨_, rfl, a1, ha1, rfl⟩
    | 1, hv => cases hv; exact ⟨_, rfl, x1, rfl, rfl⟩
    | i + 2, hv => cases hv
  · have hq2 : q = (1, 0, fcon ((9 : Nat) : Int), 1) := List.mem_singleton.mp hq
    subst hq2
    exact ⟨((9 : Nat) : Int), a1, _, c0.toInt, fcon_ok, ha1, ec0, ⟨by decide, c0, pc0, rfl⟩, rfl⟩
theorem use_741 (hk : kOK TTs g (EIm n) l Kx_741) {W0 : List aR} {bk0 bk : aB} {h0 h : jH} (hO : hOK TTs g (EIm n) W0 bk0 h0 bk h) {a1 : Nat} (ha1 : bk 1 = some a1) {c0 : Int32} (hc0 : (0 : Int) ≤ c0.toInt ∧ c0.toInt ≤ 400) {fc0 : List Value} (ec0 : h[a1 + 0]? = some (.inr (12, fc0))) (pc0 : fc0[6]? = some (.int c0)) :
    jCal l g 218 3 [.ref (g.2.2 + (a1 + 0))] h 0 0 (kPost TTs g (EIm n) Kx_741 bk h [c0.toInt]) := by
  refine hk bk h [.ref (g.2.2 + (a1 + 0))] [c0.toInt] hO.1 hO.2.1 hO.2.2.1 hO.2.2.2.2.2 (show 1 ≤ jmx 218 by decide +kernel) rfl (fun q hq => ?_) ⟨⟨rfl, fun i e z he hz => ?_⟩, eFm_plain (plain_app (spEnv_plain _) clEnv_plain), fun F hF => absurd hF List.not_mem_nil, fun i v hv => ?_, trivial, fun q hq => ?_, fun B hB => absurd hB List.not_mem_nil⟩
  · have hq : q ∈ ([] : List (Nat × Int × Nat)) := hq
    exact absurd hq List.not_mem_nil
  · match i, he, hz with
    | 0, he, hz => cases he; cases hz; exact hc0
    | i + 1, he, _ => cases he
  · match i, hv with
    | 0, hv => cases hv; exact ⟨_, rfl, a1, ha1, rfl⟩
    | i + 1, hv => cases hv
  · have hq2 : q = (1, 0, fcon ((6 : Nat) : Int), 0) := List.mem_singleton.mp hq
    subst hq2
    exact ⟨((6 : Nat) : Int), a1, _, c0.toInt, fcon_ok, ha1, ec0, ⟨by decide, c0, pc0, rfl⟩, rfl⟩
set_option maxRecDepth 16384 in
theorem next_run (hlow : ∀ (k : Nat) (K : aK), KTx[k]? = some K → kOK TTs g (EIm n) l K) {W0 : List aR} {bk0 bk : aB} {h0 h : jH} (hO : hOK TTs g (EIm n) W0 bk0 h0 bk h) {b T F G s be q c m w : Nat} {N O A P : Nat → Int32} (hb : bk 1 = some b) (hS : pS h b T F G s be q c m w N O A P) (hL : pL T F G s) :
    ∃ Qm, jCal l g 219 2 [.ref (g.2.2 + (b + 0))] h 0 0 Qm ∧ ∀ v h', Qm v h' → v = none ∧ ∃ bk' F' G' s', hOK TTs g (EIm n) muW bk h bk' h' ∧ pS h' b T F' G' s' be q c m w N O A P ∧ pL T F' G' s' ∧ G ≤ F' := by
  obtain ⟨⟨fs, ho, f6, f7, f8, f9, f12, f13, f15, f20, f21⟩, s5, s6, s7, s8⟩ := hS
  obtain ⟨L1, L2, L3, L4, L5⟩ := hL
  have tT : (Int32.ofInt (T : Int)).toInt = (T : Int) := i32_n (by omega)
  have tG : (Int32.ofInt (G : Int)).toInt = (G : Int) := i32_n (by omega)
  refine ⟨_, use_737 (hlow 737 _ rfl) hO hb (c0 := Int32.ofInt (T : Int)) (by omega) ho f6 (c1 := Int32.ofInt (G : Int)) (by omega) ho f8 (fun F hF => ?_), fun v h' hq => ?_⟩
  · rw [List.mem_singleton.mp hF]
    exact ⟨1 * (Int32.ofInt (T : Int)).toInt + (-1 * (Int32.ofInt (G : Int)).toInt + 0) + 0, rfl, by omega⟩
  · obtain ⟨bk', os, k1, k2, qq, hq1, hq2⟩ := hq
    have hq3 : qq = (9, 0, 0, 0, 0, []) := List.mem_singleton.mp hq1
    subst hq3
    obtain ⟨rfl, hp⟩ := hq2
    have k1 : hOK TTs g (EIm n) nxW bk h bk' h' := k1
    have k1' := k1.w1 (W' := muW) (by decide)
    have hb' := k1.2.2.2.2.1 1 b hb
    obtain ⟨fs2, hc2, e6, e13, e15, e20, e21, r5, r6, r7, r8⟩ := pS.mv k1' hb ⟨⟨fs, ho, f6, f7, f8, f9, f12, f13, f15, f20, f21⟩, s5, s6, s7, s8⟩
    obtain ⟨fs3, hc3, e12⟩ := k1.fld (k := 12) hb ty_m0 ho (by decide)
    cases hc2.symm.trans hc3
    match os, k2, hp with
    | [x1, x2, x3], k2, hp =>
      obtain ⟨F', rfl, y7, u1⟩ := out_nat hb' hc2 k2 (j := 0) rfl rfl (by decide)
      obtain ⟨G', rfl, y8, u2⟩ := out_nat hb' hc2 k2 (j := 1) rfl rfl (by decide)
      obtain ⟨s', rfl, y9, u3⟩ := out_nat hb' hc2 k2 (j := 2) rfl rfl (by decide)
      obtain ⟨z1, a1, b1⟩ := hp ([(1, -1), (2, 1)], 0) (by decide)
      obtain ⟨z2, a2, b2⟩ := hp ([(2, -1), (3, 1)], 0) (by decide)
      obtain ⟨z3, a3, b3⟩ := hp ([(0, 1), (3, -1)], 0) (by decide)
      obtain ⟨z4, a4, b4⟩ := hp ([(2, -3), (3, 3), (4, -1)], 0) (by decide)
      have a1 : some (-1 * (Int32.ofInt (G : Int)).toInt + (1 * (F' : Int) + 0) + 0) = some z1 := a1
      have a2 : some (-1 * (F' : Int) + (1 * (G' : Int) + 0) + 0) = some z2 := a2
      have a3 : some (1 * (Int32.ofInt (T : Int)).toInt + (-1 * (G' : Int) + 0) + 0) = some z3 := a3
      have a4 : some (-3 * (F' : Int) + (3 * (G' : Int) + (-1 * (s' : Int) + 0)) + 0) = some z4 := a4
      have a1 := Option.some.inj a1
      have a2 := Option.some.inj a2
      have a3 := Option.some.inj a3
      have a4 := Option.some.inj a4
      exact ⟨rfl, bk', F', G', s', k1', ⟨⟨fs2, hc2, e6, y7, y8, y9, e12.trans f12, e13, e15, e20, e21⟩, r5, r6, r7, r8⟩, ⟨by omega, by omega, by omega, by omega, by omega⟩, by omega⟩
set_option maxRecDepth 16384 in
theorem must_run (hlow : ∀ (k : Nat) (K : aK), KTx[k]? = some K → kOK TTs g (EIm n) l K) {W0 : List aR} {bk0 bk : aB} {h0 h : jH} (hO : hOK TTs g (EIm n) W0 bk0 h0 bk h) {b T F G s be q c m w : Nat} {N O A P : Nat → Int32} (hb : bk 1 = some b) (hS : pS h b T F G s be q c m w N O A P) (hL : pL T F G s) (hbe : be ≤ 1) {x : Int32} (hx : 0 ≤ x.toInt ∧ x.toInt ≤ 1) :
    ∃ Qm, jCal l g 224 3 [.ref (g.2.2 + (b + 0)), .int x] h 0 0 Qm ∧ ∀ v h', Qm v h' → v = none ∧ ∃ bk' F' G' s' be', hOK TTs g (EIm n) muW bk h bk' h' ∧ pS h' b T F' G' s' be' q c m w N O A P ∧ pL T F' G' s' ∧ F ≤ F' ∧ be ≤ be' ∧ be' ≤ 1 ∧ (be' = 0 → x.toInt = 1 ∧ G ≤ F') := by
  obtain ⟨⟨fs, ho, f6, f7, f8, f9, f12, f13, f15, f20, f21⟩, s5, s6, s7, s8⟩ := hS
  obtain ⟨L1, L2, L3, L4, L5⟩ := hL
  have tT : (Int32.ofInt (T : Int)).toInt = (T : Int) := i32_n (by omega)
  have tF : (Int32.ofInt (F : Int)).toInt = (F : Int) := i32_n (by omega)
  have tG : (Int32.ofInt (G : Int)).toInt = (G : Int) := i32_n (by omega)
  have ts : (Int32.ofInt (s : Int)).toInt = (s : Int) := i32_n (by omega)
  have tb : (Int32.ofInt (be : Int)).toInt = (be : Int) := i32_n (by omega)
  refine ⟨_, use_738 (hlow 738 _ rfl) hO hb (x1 := x) hx (c0 := Int32.ofInt (T : Int)) (by omega) ho f6 (c1 := Int32.ofInt (F : Int)) (by omega) ho f7 (c2 := Int32.ofInt (G : Int)) (by omega) ho f8 (c3 := Int32.ofInt (s : Int)) (by omega) ho f9 (c4 := Int32.ofInt (be : Int)) (by omega) ho f12 (fun X hF => ?_), fun v h' hq => ?_⟩
  · have hF : X ∈ [([(1, 1), (3, -1)], 0), ([(2, -1), (3, 1)], 0), ([(2, -3), (3, 3), (4, -1)], 0)] := hF
    simp only [List.mem_cons, List.not_mem_nil, or_false] at hF
    rcases hF with rfl | rfl | rfl
    · exact ⟨1 * (Int32.ofInt (T : Int)).toInt + (-1 * (Int32.ofInt (G : Int)).toInt + 0) + 0, rfl, by omega⟩
    · exact ⟨_, rfl, by show (0 : Int) ≤ -1 * (Int32.ofInt (F : Int)).toInt + (1 * (Int32.ofInt (G : Int)).toInt + 0) + 0; omega⟩
    · exact ⟨_, rfl, by show (0 : Int) ≤ -3 * (Int32.ofInt (F : Int)).toInt + (3 * (Int32.ofInt (G : Int)).toInt + (-1 * (Int32.ofInt (s : Int)).toInt + 0)) + 0; omega⟩
  · obtain ⟨bk', os, k1, k2, qq, hq1, hq2⟩ := hq
    have hq3 : qq = (9, 0, 0, 0, 0, []) := List.mem_singleton.mp hq1
    subst hq3
    obtain ⟨rfl, hp⟩ := hq2
    have k1 : hOK TTs g (EIm n) muW bk h bk' h' := k1
    have hb' := k1.2.2.2.2.1 1 b hb
    obtain ⟨fs2, hc2, e6, e13, e15, e20, e21, r5, r6, r7, r8⟩ := pS.mv k1 hb ⟨⟨fs, ho, f6, f7, f8, f9, f12, f13, f15, f20, f21⟩, s5, s6, s7, s8⟩
    match os, k2, hp with
    | [x1, x2, x3, x4], k2, hp =>
      obtain ⟨F', rfl, y7, u1⟩ := out_nat hb' hc2 k2 (j := 0) rfl rfl (by decide)
      obtain ⟨G', rfl, y8, u2⟩ := out_nat hb' hc2 k2 (j := 1) rfl rfl (by decide)
      obtain ⟨s', rfl, y9, u3⟩ := out_nat hb' hc2 k2 (j := 2) rfl rfl (by decide)
      obtain ⟨be', rfl, y12, u4⟩ := out_nat hb' hc2 k2 (j := 3) rfl rfl (by decide)
      obtain ⟨z1, a1, b1⟩ := hp ([(2, -1), (6, 1)], 0) (by decide)
      obtain ⟨z2, a2, b2⟩ := hp ([(1, 1), (7, -1)], 0) (by decide)
      obtain ⟨z3, a3, b3⟩ := hp ([(6, -1), (7, 1)], 0) (by decide)
      obtain ⟨z4, a4, b4⟩ := hp ([(6, -3), (7, 3), (8, -1)], 0) (by decide)
      obtain ⟨z5, a5, b5⟩ := hp ([(3, -1), (6, 1), (9, 400)], 0) (by decide)
      obtain ⟨z6, a6, b6⟩ := hp ([(0, 1), (9, 1)], -1) (by decide)
      obtain ⟨z7, a7, b7⟩ := hp ([(5, -1), (9, 1)], 0) (by decide)
      have a1 : some (-1 * (Int32.ofInt (F : Int)).toInt + (1 * (F' : Int) + 0) + 0) = some z1 := a1
      have a2 : some (1 * (Int32.ofInt (T : Int)).toInt + (-1 * (G' : Int) + 0) + 0) = some z2 := a2
      have a3 : some (-1 * (F' : Int) + (1 * (G' : Int) + 0) + 0) = some z3 := a3
      have a4 : some (-3 * (F' : Int) + (3 * (G' : Int) + (-1 * (s' : Int) + 0)) + 0) = some z4 := a4
      have a5 : some (-1 * (Int32.ofInt (G : Int)).toInt + (1 * (F' : Int) + (400 * (be' : Int) + 0)) + 0) = some z5 := a5
      have a6 : some (1 * x.toInt + (1 * (be' : Int) + 0) + -1) = some z6 := a6
      have a7 : some (-1 * (Int32.ofInt (be : Int)).toInt + (1 * (be' : Int) + 0) + 0) = some z7 := a7
      have a1 := Option.some.inj a1
      have a2 := Option.some.inj a2
      have a3 := Option.some.inj a3
      have a4 := Option.some.inj a4
      have a5 := Option.some.inj a5
      have a6 := Option.some.inj a6
      have a7 := Option.some.inj a7
      exact ⟨rfl, bk', F', G', s', be', k1, ⟨⟨fs2, hc2, e6, y7, y8, y9, y12, e13, e15, e20, e21⟩, r5, r6, r7, r8⟩, ⟨by omega, by omega, by omega, by omega, by omega⟩, by omega, by omega, by omega, fun h0 => ⟨by omega, by omega⟩⟩
set_option maxRecDepth 16384 in
theorem word_run (hlow : ∀ (k : Nat) (K : aK), KTx[k]? = some K → kOK TTs g (EIm n) l K) {W0 : List aR} {bk0 bk : aB} {h0 h : jH} (hO : hOK TTs g (EIm n) W0 bk0 h0 bk h) {b T F G s be q c m w : Nat} {N O A P : Nat → Int32} (hb : bk 1 = some b) (hS : pS h b T F G s be q c m w N O A P) (hs : s ≤ 3) (x : Int64) :
    ∃ Qm, jCal l g 223 1 [.ref (g.2.2 + (b + 0)), .long x] h 0 0 Qm ∧ ∀ v h', Qm v h' → ∃ (r : Int32) (bk' : aB), v = some (.int r) ∧ (r = 0 ∨ r = 1) ∧ hOK TTs g (EIm n) [] bk h bk' h' ∧ pS h' b T F G s be q c m w N O A P ∧ (r = 1 → 1 ≤ s) := by
  have hS0 := hS
  obtain ⟨⟨fs, ho, f6, f7, f8, f9, f12, f13, f15, f20, f21⟩, s5, s6, s7, s8⟩ := hS
  have ts : (Int32.ofInt (s : Int)).toInt = (s : Int) := i32_n (by omega)
  refine ⟨_, use_739 (hlow 739 _ rfl) hO hb (x1 := x) (c0 := Int32.ofInt (s : Int)) (by omega) ho f9, fun v h' hq => ?_⟩
  obtain ⟨bk', os, k1, k2, qq, hq1, hq2⟩ := hq
  have hq3 : qq = (0, 0, 1, 0, 0, []) := List.mem_singleton.mp hq1
  subst hq3
  obtain ⟨r, rfl, ⟨x1, x2⟩, -, hp⟩ := hq2
  have x1 : 0 ≤ r.toInt := x1
  have x2 : r.toInt ≤ 1 := x2
  have k1 : hOK TTs g (EIm n) [] bk h bk' h' := k1
  have hos : os = [] := List.eq_nil_of_length_eq_zero k2.1
  subst hos
  obtain ⟨z1, a1, b1⟩ := hp ([(1, 1), (2, -1)], 0) (by decide)
  have a1 : some (1 * (Int32.ofInt (s : Int)).toInt + (-1 * r.toInt + 0) + 0) = some z1 := a1
  have a1 := Option.some.inj a1
  have hr : r = 0 ∨ r = 1 := by
    have : r.toInt = 0 ∨ r.toInt = 1 := by omega
    rcases this with e | e
    · exact Or.inl (i32_eq (e.trans rfl))
    · exact Or.inr (i32_eq (e.trans rfl))
  refine ⟨r, bk', rfl, hr, k1, ⟨⟨fs, k1.cell hb (tyAt_lt ty_m0) ho rfl, f6, f7, f8, f9, f12, f13, f15, f20, f21⟩, k1.cell hb (tyAt_lt ty_m5) s5 rfl, k1.cell hb (tyAt_lt ty_m6) s6 rfl, k1.cell hb (tyAt_lt ty_m7) s7 rfl, k1.cell hb (tyAt_lt ty_m8) s8 rfl⟩, fun e => ?_⟩
  subst e
  have : (1 : Int32).toInt = 1 := rfl
  omega
set_option maxRecDepth 16384 in
theorem sgn_run (hlow : ∀ (k : Nat) (K : aK), KTx[k]? = some K → kOK TTs g (EIm n) l K) {W0 : List aR} {bk0 bk : aB} {h0 h : jH} (hO : hOK TTs g (EIm n) W0 bk0 h0 bk h) {b T F G s be q c m w : Nat} {N O A P : Nat → Int32} (hb : bk 1 = some b) (hS : pS h b T F G s be q c m w N O A P) (hs : s ≤ 3) (x : Int32) :
    ∃ Qm, jCal l g 229 1 [.ref (g.2.2 + (b + 0)), .int x] h 0 0 Qm ∧ ∀ v h', Qm v h' → ∃ (r : Int32) (bk' : aB), v = some (.int r) ∧ (r = 0 ∨ r = 1) ∧ hOK TTs g (EIm n) [] bk h bk' h' ∧ pS h' b T F G s be q c m w N O A P ∧ (r = 1 → 1 ≤ s) := by
  have hS0 := hS
  obtain ⟨⟨fs, ho, f6, f7, f8, f9, f12, f13, f15, f20, f21⟩, s5, s6, s7, s8⟩ := hS
  have ts : (Int32.ofInt (s : Int)).toInt = (s : Int) := i32_n (by omega)
  refine ⟨_, use_740 (hlow 740 _ rfl) hO hb (x1 := x) ⟨i32_lo x, i32_hi x⟩ (c0 := Int32.ofInt (s : Int)) (by omega) ho f9, fun v h' hq => ?_⟩
  obtain ⟨bk', os, k1, k2, qq, hq1, hq2⟩ := hq
  have hq3 : qq = (0, 0, 1, 0, 0, []) := List.mem_singleton.mp hq1
  subst hq3
  obtain ⟨r, rfl, ⟨x1, x2⟩, -, hp⟩ := hq2
  have x1 : 0 ≤ r.toInt := x1
  have x2 : r.toInt ≤ 1 := x2
  have k1 : hOK TTs g (EIm n) [] bk h bk' h' := k1
  have hos : os = [] := List.eq_nil_of_length_eq_zero k2.1
  subst hos
  obtain ⟨z1, a1, b1⟩ := hp ([(1, 1), (2, -3)], 0) (by decide)
  have a1 : some (1 * (Int32.ofInt (s : Int)).toInt + (-3 * r.toInt + 0) + 0) = some z1 := a1
  have a1 := Option.some.inj a1
  have hr : r = 0 ∨ r = 1 := by
    have : r.toInt = 0 ∨ r.toInt = 1 := by omega
    rcases this with e | e
    · exact Or.inl (i32_eq (e.trans rfl))
    · exact Or.inr (i32_eq (e.trans rfl))
  refine ⟨r, bk', rfl, hr, k1, ⟨⟨fs, k1.cell hb (tyAt_lt ty_m0) ho rfl, f6, f7, f8, f9, f12, f13, f15, f20, f21⟩, k1.cell hb (tyAt_lt ty_m5) s5 rfl, k1.cell hb (tyAt_lt ty_m6) s6 rfl, k1.cell hb (tyAt_lt ty_m7) s7 rfl, k1.cell hb (tyAt_lt ty_m8) s8 rfl⟩, fun e => ?_⟩
  subst e
  have : (1 : Int32).toInt = 1 := rfl
  omega
end PA
