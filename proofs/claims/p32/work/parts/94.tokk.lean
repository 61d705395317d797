/-! tokenize keeps its contract -/
section TZ
variable {l : Launch} {g : jG} {n : Int}
theorem sign_run {d : Nat} {h : jH} {x : Int32} : jCal l g 78 d [.int x] h 0 0 (fun v h' => h' = h ∧ ∃ r : Int, (2 ≤ r ∧ r ≤ 5) ∧ v = some (.int (Int32.ofInt r)) ∧ r = if x.toInt = 40 then 4 else if x.toInt = 41 then 5 else if x.toInt = 59 then 3 else 2) := by
  refine jCal_of (by decide +kernel) (show 1 ≤ jmx 78 by decide +kernel) ?_
  show J l g 78 d 0 [some (.int x)] [] h 0 0 _
  refine j_iload_n (k4 := 0) (by decide +kernel) rfl ?_
  have hdec : decode (jbC 78) 1 = .ok (.lookupswitch 41 #[(40, 37), (41, 39), (59, 35)], 35) := by decide +kernel
  have hoff : Op.lookupswitch.offset (#[((40 : Int), (37 : Int)), (41, 39), (59, 35)] : Array (Int × Int)).toList 41 x.toInt = if 40 = x.toInt then 37 else if 41 = x.toInt then 39 else if 59 = x.toInt then 35 else 41 := by
    rw [Op.lookupswitch.offset_cons, Op.lookupswitch.offset_cons, Op.lookupswitch.offset_cons]
    rfl
  by_cases q1 : 40 = x.toInt
  · refine j_lookup (off := 37) (tgt := 38) hdec (by decide) (by rw [hoff, if_pos q1]) (by decide) ?_
    refine j_iconst (n := 4) (by decide +kernel) ?_
    exact j_ret (v := some (.int (Int32.ofInt 4))) ⟨by decide +kernel, Or.inl (by decide +kernel)⟩ ⟨rfl, 4, by omega, rfl, by rw [if_pos q1.symm]⟩ rfl
  by_cases q2 : 41 = x.toInt
  · refine j_lookup (off := 39) (tgt := 40) hdec (by decide) (by rw [hoff, if_neg q1, if_pos q2]) (by decide) ?_
    refine j_iconst (n := 5) (by decide +kernel) ?_
    exact j_ret (v := some (.int (Int32.ofInt 5))) ⟨by decide +kernel, Or.inl (by decide +kernel)⟩ ⟨rfl, 5, by omega, rfl, by rw [if_neg (fun e => q1 e.symm), if_pos q2.symm]⟩ rfl
  by_cases q3 : 59 = x.toInt
  · refine j_lookup (off := 35) (tgt := 36) hdec (by decide) (by rw [hoff, if_neg q1, if_neg q2, if_pos q3]) (by decide) ?_
    refine j_iconst (n := 3) (by decide +kernel) ?_
    exact j_ret (v := some (.int (Int32.ofInt 3))) ⟨by decide +kernel, Or.inl (by decide +kernel)⟩ ⟨rfl, 3, by omega, rfl, by rw [if_neg (fun e => q1 e.symm), if_neg (fun e => q2 e.symm), if_pos q3.symm]⟩ rfl
  refine j_lookup (off := 41) (tgt := 42) hdec (by decide) (by rw [hoff, if_neg q1, if_neg q2, if_neg q3]) (by decide) ?_
  refine j_iconst (n := 2) (by decide +kernel) ?_
  exact j_ret (v := some (.int (Int32.ofInt 2))) ⟨by decide +kernel, Or.inl (by decide +kernel)⟩ ⟨rfl, 2, by omega, rfl, by rw [if_neg (fun e => q1 e.symm), if_neg (fun e => q2 e.symm), if_neg (fun e => q3 e.symm)]⟩ rfl
theorem jal3 {y : Nat} {av : List Value} {a b c : Value} (hl : (lg_sl av).length ≤ 3) (hy : jmx y = 3) (h : jal y av = [some a, some b, some c]) (ha : a.category = 1) (hb : b.category = 1) (hc : c.category = 1) : av = [a, b, c] := by
  rw [lg_jargs] at hl
  have key : jargs av = [some a, some b, some c] := by
    rw [jal, hy] at h
    rcases Nat.lt_or_ge (jargs av).length 3 with q | q
    · exfalso
      have := congrArg (fun L => L[2]?) h
      simp only [List.getElem?_append_right (show (jargs av).length ≤ 2 by omega)] at this
      rw [List.getElem?_replicate] at this
      split at this
      · simp at this
      · simp at this
    · rw [show 3 - (jargs av).length = 0 by omega] at h
      simpa using h
  match av, key with
  | [], k => simp [jargs] at k
  | [x], k =>
    rw [jargs] at k
    split at k <;> simp [jargs] at k
  | [x, z], k =>
    rw [jargs, jargs] at k
    split at k <;> split at k <;> simp [jargs] at k
  | x :: z :: u :: t, k =>
    rw [jargs] at k
    split at k
    · simp at k
    · simp only [List.cons.injEq, Option.some.injEq] at k
      obtain ⟨rfl, k⟩ := k
      rw [jargs] at k
      split at k
      · simp at k
      · simp only [List.cons.injEq, Option.some.injEq] at k
        obtain ⟨rfl, k⟩ := k
        rw [jargs] at k
        split at k
        · simp at k
        · simp only [List.cons.injEq, Option.some.injEq] at k
          obtain ⟨rfl, k⟩ := k
          cases t with
          | nil => rfl
          | cons u2 t2 =>
            rw [jargs] at k
            split at k <;> simp at k
theorem J.mono {y d pc : Nat} {al : List (Option Value)} {st : List Value} {h : jH} {kc ks : Nat} {Q Q' : Option Value → jH → Prop} (hJ : J l g y d pc al st h kc ks Q) (hm : ∀ v h', Q v h' → Q' v h') : J l g y d pc al st h kc ks Q' := by
  intro p e R s m args below meth c Z MC MS X K r1 r2 r3 r4 hZ H locs cells slots ls hW hl c1 c2
  exact hJ p e R s m args below meth c Z MC MS X K r1 r2 r3 r4 (fun pc ls H locs h v hv hW hq => hZ pc ls H locs h v hv hW (hm v h hq)) H locs cells slots ls hW hl c1 c2
theorem ty_x49 : tyAt TTs 0 49 = some (.inl (0, 400, [(0, 400, 1, [(0, 255)])])) := rfl
theorem ty_x50 : tyAt TTs 0 50 = some (.inr (3, [(2, 0, 0, 0, 51), (2, 0, 0, 0, 58), (2, 0, 0, 0, 59), (2, 0, 0, 0, 60), (0, 0, 401, 0, 0), (0, 0, 400, 0, 0), (0, -2147483648, 2147483647, 0, 0)])) := rfl
theorem i32_nat {x : Int32} (hx : 0 ≤ x.toInt) : x = Int32.ofInt ((x.toInt.toNat : Nat) : Int) := by
  rw [show ((x.toInt.toNat : Nat) : Int) = x.toInt by omega, Int32.ofInt_toInt]
theorem jst1_4 {x0 x1 x2 x3 x4 x5 : Option Value} {v : Value} : ∃ o3, jst1 [x0, x1, x2, x3, x4, x5] 4 v = [x0, x1, x2, o3, some v, x5] := by
  cases x3 with
  | none => exact ⟨none, rfl⟩
  | some w =>
    by_cases hw : w.category = 2
    · exact ⟨none, by simp [jst1, hw]⟩
    · exact ⟨some w, by simp [jst1, hw]⟩
theorem wordKind_ok : kOK TTs g (EIm n) l Kx_119 := by
  intro bk h av ev hT hD hE hb1 hl hn _ hg
  obtain ⟨g1, g2, g3, g4, g5, g6, g7⟩ := hg
  have hlen : (jal 62 av).length = 3 := (jal_len hl).trans (show jmx 62 = 3 by decide +kernel)
  obtain ⟨a0, a1, a2, hal⟩ := list3 hlen
  have l0 := g4 0 (2, 0, 49) rfl
  have l1 := g4 1 (0, 0, 0) rfl
  have l2 := g4 2 (0, 1, 0) rfl
  have hal2 : jal Kx_119.1 av = [a0, a1, a2] := hal
  rw [hal2] at l0 l1 l2
  obtain ⟨w0, e0, b, hb, rfl⟩ := l0
  obtain ⟨w1, e1, fr, rfl, v1⟩ := l1
  obtain ⟨w2, e2, stp, rfl, v2⟩ := l2
  have r0 := Option.some.inj e0
  have r1 := Option.some.inj e1
  have r2 := Option.some.inj e2
  clear e0 e1 e2
  subst r0 r1 r2
  have hb : bk 0 = some b := hb
  have i1 := g1.2 0 (eNew 0 400 none) _ rfl v1
  have i2 := g1.2 1 (eNew 1 400 none) _ rfl v2
  dsimp only [eNew] at i1 i2
  obtain ⟨z, z1, z2⟩ := g3 _ List.mem_cons_self
  have z3 : z = -fr.toInt + stp.toInt - 1 := by
    have y1 := fevl_cons (q := (0, -1)) v1 (fevl_cons (q := (1, 1)) v2 (show fevl ev [] = some 0 from rfl))
    have y2 := fev_of (F := ([(0, -1), (1, 1)], -1)) y1
    rw [y2] at z1
    have := (Option.some.inj z1).symm
    omega
  obtain ⟨c, hc, f, rfl, hf⟩ := hT 0 b 49 _ hb ty_x49
  have e1 := i32_nat (x := fr) (by omega)
  have e2 := i32_nat (x := stp) (by omega)
  refine jCal_of (show plainName (jyN 62).cls = true by decide +kernel) hl ?_
  rw [hal2, e1, e2]
  show J l g 62 6 0 [some (.ref (g.2.2 + (b + 49))), some (.int (Int32.ofInt ((fr.toInt.toNat : Nat) : Int))), some (.int (Int32.ofInt ((stp.toInt.toNat : Nat) : Int)))] [] h 0 0 _
  refine (wordKind_j (f := f) hc (by omega) (by omega) (Nat.le_refl _)).mono (fun v h' hq => ?_)
  obtain ⟨rfl, j, j1, -, -, rfl⟩ := hq
  have hj : ∀ q : Int, q = (if j < 13 then 6 + (j : Int) else 2) → 2 ≤ q ∧ q ≤ 18 := fun q hq => by
    split at hq <;> omega
  obtain ⟨b1, b2⟩ := hj _ rfl
  generalize (if j < 13 then 6 + (j : Int) else 2) = q at b1 b2
  have hq2 : (Int32.ofInt q).toInt = q := i32_ofInt (by omega) (by omega)
  exact ⟨bk, [], ⟨hT, hD, hE, UN.rf, fun B b hb => hb, hb1⟩, ⟨rfl, fun j q x hj => by cases hj⟩, _, List.mem_cons_self, Int32.ofInt q, rfl, by rw [hq2]; exact ⟨b1, b2⟩, Or.inl rfl, fun F hF => absurd hF List.not_mem_nil⟩
theorem hOK.tr {W W' : List aR} {bk0 bk1 bk2 : aB} {h0 h1 h2 : jH} (a : hOK TTs g (EIm n) W bk0 h0 bk1 h1) (hw : subW W' W = true) (b : hOK TTs g (EIm n) W' bk1 h1 bk2 h2) : hOK TTs g (EIm n) W bk0 h0 bk2 h2 :=
  ⟨b.1, b.2.1, b.2.2.1, a.2.2.2.1.tr a.2.2.2.2.1 (b.2.2.2.1.mono hw), fun B b0 hb => b.2.2.2.2.1 B b0 (a.2.2.2.2.1 B b0 hb), b.2.2.2.2.2⟩
/-- a call of addToken, of either contract -/
theorem addTok_run {K : aK} {kb tb : Int} (hK : K = (76, [some (2, 0, 0, 0, 50), some (0, 0, 400, 0, 0), some (0, 0, kb, 0, 0), some (0, 0, 1000, 0, 0)], [(0, 50, 4, 0, tb)], [], [(9, 0, 0, 0, 0, [])], K.2.2.2.2.2.1, K.2.2.2.2.2.2.1, K.2.2.2.2.2.2.2.1, 1, 0, 0)) (hk : kOK TTs g (EIm n) l K) {bk : aB} {h : jH} {b : Nat} {fs : List Value} {x k v t : Int32}
    (hT : HT TTs g bk h) (hD : BD TTs bk) (hE : EIm n bk h) (hb1 : ∀ B, B ≤ 1 → ∃ b, bk B = some b) (hb : bk 0 = some b) (hc : h[b + 50]? = some (.inr (3, fs))) (ht : fs[4]? = some (.int t)) (t0 : 0 ≤ t.toInt ∧ t.toInt ≤ tb) (x0 : 0 ≤ x.toInt ∧ x.toInt ≤ 400) (k0 : 0 ≤ k.toInt ∧ k.toInt ≤ kb) (v0 : 0 ≤ v.toInt ∧ v.toInt ≤ 1000) :
    jCal l g 76 1 [.ref (g.2.2 + (b + 50)), .int x, .int k, .int v] h 0 0 (kPost TTs g (EIm n) K bk h [x.toInt, k.toInt, v.toInt, t.toInt]) := by
  rw [hK]
  rw [hK] at hk
  refine hk bk h [.ref (g.2.2 + (b + 50)), .int x, .int k, .int v] [x.toInt, k.toInt, v.toInt, t.toInt] hT hD hE hb1 (show 4 ≤ jmx 76 by decide +kernel) rfl (fun q hq => ?_) ⟨⟨rfl, fun i e z he hz => ?_⟩, eFm_plain (plain_app (spEnv_plain _) clEnv_plain), fun F hF => absurd hF List.not_mem_nil, fun i v hv => ?_, trivial, fun q hq => ?_, fun B hB => absurd hB List.not_mem_nil⟩
  · have hq : q ∈ ([] : List (Nat × Int × Nat)) := hq
    exact absurd hq List.not_mem_nil
  · match i, he, hz with
    | 0, he, hz => cases he; cases hz; exact x0
    | 1, he, hz => cases he; cases hz; exact k0
    | 2, he, hz => cases he; cases hz; exact v0
    | 3, he, hz => cases he; cases hz; exact t0
    | i + 4, he, _ => cases he
  · match i, hv with
    | 0, hv => cases hv; exact ⟨_, rfl, b, hb, rfl⟩
    | 1, hv => cases hv; exact ⟨_, rfl, x, rfl, rfl⟩
    | 2, hv => cases hv; exact ⟨_, rfl, k, rfl, rfl⟩
    | 3, hv => cases hv; exact ⟨_, rfl, _, rfl, rfl⟩
    | i + 4, hv => cases hv
  · have hq2 : q = (0, 50, fcon ((4 : Nat) : Int), 3) := List.mem_singleton.mp hq
    subst hq2
    exact ⟨4, b, _, t.toInt, fcon_ok, hb, hc, ⟨by decide, t, ht, rfl⟩, rfl⟩

theorem tokenize_ok (hlow : ∀ (k : Nat) (K : aK), k < 120 → KTx[k]? = some K → kOK TTs g (EIm n) l K) : kOK TTs g (EIm n) l Kx_120 := by
  intro bk h av ev hT hD hE hb1 hl hn _ hg
  have hk1 : kOK TTs g (EIm n) l Kx_117 := hlow 117 _ (by decide) rfl
  have hk2 : kOK TTs g (EIm n) l Kx_118 := hlow 118 _ (by decide) rfl
  obtain ⟨g1, g2, g3, g4, g5, g6, g7⟩ := hg
  have hlen : (jal 60 av).length = 6 := (jal_len hl).trans (show jmx 60 = 6 by decide +kernel)
  obtain ⟨a0, a1, a2, a3, a4, a5, hal⟩ := list6 hlen
  have l0 := g4 0 (2, 0, 50) rfl
  have l1 := g4 1 (2, 0, 49) rfl
  have l2 := g4 2 (0, 0, 0) rfl
  have hal2 : jal Kx_120.1 av = [a0, a1, a2, a3, a4, a5] := hal
  rw [hal2] at l0 l1 l2
  obtain ⟨w0, e0, b, hb, rfl⟩ := l0
  obtain ⟨w1, e1, b', hb', rfl⟩ := l1
  obtain ⟨w2, e2, le, rfl, v2⟩ := l2
  have hb : bk 0 = some b := hb
  have hb' : bk 0 = some b' := hb'
  cases hb.symm.trans hb'
  have r0 := Option.some.inj e0
  have r1 := Option.some.inj e1
  have r2 := Option.some.inj e2
  clear e0 e1 e2
  subst r0 r1 r2
  have i2 := g1.2 0 (eNew 0 400 none) _ rfl v2
  dsimp only [eNew] at i2
  obtain ⟨len, hle⟩ : ∃ len : Nat, le = Int32.ofInt (len : Int) := ⟨le.toInt.toNat, i32_nat i2.1⟩
  have hle0 := i2.2
  have hlen4 : ∃ len : Nat, le = Int32.ofInt (len : Int) ∧ len ≤ 400 := ⟨le.toInt.toNat, i32_nat i2.1, by omega⟩
  clear hle len
  obtain ⟨len, rfl, hle4⟩ := hlen4
  have hleT : (Int32.ofInt (len : Int)).toInt = (len : Int) := i32_n (by omega)
  refine jCal_of (show plainName (jyN 60).cls = true by decide +kernel) hl ?_
  rw [hal2]
  have hcls : jcN 3 = (jyN 60).cls := by decide +kernel
  have hn3 : ∀ r, jcl[3]? = some r → 4 < r.2.2 := fun r hr => by cases hr; decide +kernel
  show J l g 60 7 0 [some (.ref (g.2.2 + (b + 50))), some (.ref (g.2.2 + (b + 49))), some (.int (Int32.ofInt (len : Int))), a3, a4, a5] [] h 0 0 (kPost TTs g (EIm n) Kx_120 bk h ev)
  -- the end
  have fin : ∀ (bk' : aB) (h' : jH), hOK TTs g (EIm n) Kx_120.2.2.2.2.2.2.2.1 bk h bk' h' → ∀ pc (al : List (Option Value)), pc = 135 → J l g 60 7 pc al [] h' 0 0 (kPost TTs g (EIm n) Kx_120 bk h ev) := by
    intro bk' h' hO pc al hpc
    subst hpc
    exact j_ret (v := none) ⟨by decide +kernel, by decide +kernel⟩ ⟨bk', [], hO, ⟨rfl, fun j q x hj => by cases hj⟩, _, List.mem_cons_self, rfl, fun F hF => absurd hF List.not_mem_nil⟩ rfl
  -- the loop
  have loop : ∀ (q i : Nat), len - i = q → i ≤ len → ∀ (bk' : aB) (h' : jH) (fs : List Value) (t : Int32) (o3 o5 : Option Value), hOK TTs g (EIm n) Kx_120.2.2.2.2.2.2.2.1 bk h bk' h' → h'[b + 50]? = some (.inr (3, fs)) → fs[4]? = some (.int t) → 0 ≤ t.toInt → t.toInt ≤ i → J l g 60 7 8 [some (.ref (g.2.2 + (b + 50))), some (.ref (g.2.2 + (b + 49))), some (.int (Int32.ofInt (len : Int))), o3, some (.int (Int32.ofInt (i : Int))), o5] [] h' 0 0 (kPost TTs g (EIm n) Kx_120 bk h ev) := by
    intro q
    induction q using Nat.strongRecOn with
    | ind q ih =>
    intro i h1 h2 bk' h' fs t o3 o5 hO hc ht t0 ti
    have hbb := hO.2.2.2.2.1 0 b hb
    obtain ⟨c, hx, f, rfl, hf⟩ := hO.1 0 b 49 _ hbb ty_x49
    have hx : h'[b + 49]? = some (.inl (0, 400, f)) := hx
    have hi : (Int32.ofInt (i : Int)).toInt = (i : Int) := i32_n (by omega)
    refine j_iload (i := 4) (by decide +kernel) rfl ?_
    refine j_iload_n (k4 := 2) (by decide +kernel) rfl ?_
    refine j_icmp_ge (off := 117) (tgt := 128) (by decide +kernel) (by decide) (fun z => ?_) (fun z => ?_)
    · have ei : i = len := by
        have := le32.mp z
        rw [hi, hleT] at this
        omega
      refine j_aload_n (k4 := 0) (by decide +kernel) rfl ?_
      refine j_iload_n (k4 := 2) (by decide +kernel) rfl ?_
      refine j_iconst (n := 0) (by decide +kernel) ?_
      refine j_iconst (n := 0) (by decide +kernel) ?_
      refine j_callV (own := 3) (i := 61) (y2 := 76) (d2 := 1) (mc := 0) (ms := 0) (kc := 0) (ks := 0) (a := b + 50) (As := [.int (Int32.ofInt (len : Int)), .int (Int32.ofInt 0), .int (Int32.ofInt 0)]) (st := []) (by decide +kernel) hcls (by decide +kernel) (by decide) (by decide +kernel) (by decide +kernel) (by decide +kernel) (by decide +kernel) (by decide +kernel) (show 3 = jnp 76 by decide +kernel) (by decide) (by decide) hc (fun r hr => by cases hr; decide +kernel)
        (addTok_run (K := Kx_118) (kb := 0) (tb := 400) rfl hk2 hO.1 hO.2.1 hO.2.2.1 hO.2.2.2.2.2 hbb hc ht (by omega) (by rw [hleT]; omega) (by decide) (by decide)) (fun v h2 hq => ?_)
      obtain ⟨bk2, os, k1, -, q, hq, hq2⟩ := hq
      have hq3 : q = (9, 0, 0, 0, 0, []) := List.mem_singleton.mp hq
      subst hq3
      obtain ⟨rfl, -⟩ := hq2
      exact fin bk2 h2 (hO.tr (by decide) k1) 135 _ rfl
    · have il : i < len := by
        rcases Nat.lt_or_ge i len with z2 | z2
        · exact z2
        · exact absurd (le32.mpr (by rw [hi, hleT]; omega)) z
      -- behind a token
      have next : ∀ (j : Nat), i < j → j ≤ len → ∀ (bk' : aB) (h' : jH) (fs : List Value) (t : Int32) (o5 : Option Value), hOK TTs g (EIm n) Kx_120.2.2.2.2.2.2.2.1 bk h bk' h' → h'[b + 50]? = some (.inr (3, fs)) → fs[4]? = some (.int t) → 0 ≤ t.toInt → t.toInt ≤ j → J l g 60 7 122 [some (.ref (g.2.2 + (b + 50))), some (.ref (g.2.2 + (b + 49))), some (.int (Int32.ofInt (len : Int))), some (.int (Int32.ofInt (j : Int))), some (.int (Int32.ofInt (i : Int))), o5] [] h' 0 0 (kPost TTs g (EIm n) Kx_120 bk h ev) := by
        intro j j1 j2 bk' h' fs t o5 hO hc ht t0 tj
        refine j_iload_n (k4 := 3) (by decide +kernel) rfl ?_
        refine j_istore (i := 4) (by decide +kernel) (by decide +kernel) ?_
        refine j_goto (off := -117) (tgt := 8) (by decide +kernel) (by decide) ?_
        exact ih (len - j) (by omega) j rfl j2 bk' h' fs t _ _ hO hc ht t0 tj
      -- a token comes
      have add : ∀ (j pc : Nat) (k v : Int32) (o5 : Option Value), i < j → j ≤ len → (pc = 73 ∨ pc = 96 ∨ pc = 119) → 0 ≤ k.toInt → k.toInt ≤ 18 → 0 ≤ v.toInt → v.toInt ≤ 1000 → J l g 60 7 pc [some (.ref (g.2.2 + (b + 50))), some (.ref (g.2.2 + (b + 49))), some (.int (Int32.ofInt (len : Int))), some (.int (Int32.ofInt (j : Int))), some (.int (Int32.ofInt (i : Int))), o5] [.int v, .int k, .int (Int32.ofInt (i : Int)), .ref (g.2.2 + (b + 50))] h' 0 0 (kPost TTs g (EIm n) Kx_120 bk h ev) := by
        intro j pc k v o5 j1 j2 hpc k1 k2 v1 v2
        have behind : ∀ (w : Option Value) (h2 : jH), kPost TTs g (EIm n) Kx_117 bk' h' [(Int32.ofInt (i : Int)).toInt, k.toInt, v.toInt, t.toInt] w h2 → w = none ∧ J l g 60 7 122 [some (.ref (g.2.2 + (b + 50))), some (.ref (g.2.2 + (b + 49))), some (.int (Int32.ofInt (len : Int))), some (.int (Int32.ofInt (j : Int))), some (.int (Int32.ofInt (i : Int))), o5] [] h2 0 0 (kPost TTs g (EIm n) Kx_120 bk h ev) := by
          intro w h2 hq
          obtain ⟨bk2, os, y1, ⟨y2, y3⟩, q, hq, hq2⟩ := hq
          have hq3 : q = (9, 0, 0, 0, 0, []) := List.mem_singleton.mp hq
          subst hq3
          obtain ⟨rfl, y4⟩ := hq2
          refine ⟨rfl, ?_⟩
          match os, y2 with
          | [tt], _ =>
            obtain ⟨⟨u1, u2⟩, b3, c3, u3, u4, u5⟩ := y3 0 _ tt rfl rfl
            have hb3 := y1.2.2.2.2.1 0 b hbb
            have u3 : bk2 0 = some b3 := u3
            cases hb3.symm.trans u3
            obtain ⟨c4, hc4, fs4, rfl, -⟩ := y1.1 0 b 50 _ hb3 ty_x50
            have u4 : h2[b + 50]? = some c3 := u4
            cases hc4.symm.trans u4
            obtain ⟨-, wv, u6, u7⟩ := u5
            have u6 : fs4[4]? = some (.int wv) := u6
            obtain ⟨z, z1, z2⟩ := y4 _ List.mem_cons_self
            have z3 : some (1 * t.toInt + (-1 * tt + 0) + 1) = some z := z1
            have z4 := (Option.some.inj z3)
            exact next j j1 j2 bk2 h2 fs4 wv o5 (hO.tr (by decide) y1) hc4 u6 (by dsimp only at u1; omega) (by omega)
        rcases hpc with rfl | rfl | rfl
        · refine j_callV (own := 3) (i := 61) (y2 := 76) (d2 := 1) (mc := 0) (ms := 0) (kc := 0) (ks := 0) (a := b + 50) (As := [.int (Int32.ofInt (i : Int)), .int k, .int v]) (st := []) (by decide +kernel) hcls (by decide +kernel) (by decide) (by decide +kernel) (by decide +kernel) (by decide +kernel) (by decide +kernel) (by decide +kernel) (show 3 = jnp 76 by decide +kernel) (by decide) (by decide) hc (fun r hr => by cases hr; decide +kernel)
            (addTok_run (K := Kx_117) (kb := 18) (tb := 399) rfl hk1 hO.1 hO.2.1 hO.2.2.1 hO.2.2.2.2.2 hbb hc ht (by omega) (by rw [hi]; omega) (by omega) (by omega)) (fun w h2 hq => ?_)
          obtain ⟨rfl, hJ⟩ := behind w h2 hq
          exact j_goto (off := 46) (tgt := 122) (by decide +kernel) (by decide) hJ
        · refine j_callV (own := 3) (i := 61) (y2 := 76) (d2 := 1) (mc := 0) (ms := 0) (kc := 0) (ks := 0) (a := b + 50) (As := [.int (Int32.ofInt (i : Int)), .int k, .int v]) (st := []) (by decide +kernel) hcls (by decide +kernel) (by decide) (by decide +kernel) (by decide +kernel) (by decide +kernel) (by decide +kernel) (by decide +kernel) (show 3 = jnp 76 by decide +kernel) (by decide) (by decide) hc (fun r hr => by cases hr; decide +kernel)
            (addTok_run (K := Kx_117) (kb := 18) (tb := 399) rfl hk1 hO.1 hO.2.1 hO.2.2.1 hO.2.2.2.2.2 hbb hc ht (by omega) (by rw [hi]; omega) (by omega) (by omega)) (fun w h2 hq => ?_)
          obtain ⟨rfl, hJ⟩ := behind w h2 hq
          exact j_goto (off := 23) (tgt := 122) (by decide +kernel) (by decide) hJ
        · refine j_callV (own := 3) (i := 61) (y2 := 76) (d2 := 1) (mc := 0) (ms := 0) (kc := 0) (ks := 0) (a := b + 50) (As := [.int (Int32.ofInt (i : Int)), .int k, .int v]) (st := []) (by decide +kernel) hcls (by decide +kernel) (by decide) (by decide +kernel) (by decide +kernel) (by decide +kernel) (by decide +kernel) (by decide +kernel) (show 3 = jnp 76 by decide +kernel) (by decide) (by decide) hc (fun r hr => by cases hr; decide +kernel)
            (addTok_run (K := Kx_117) (kb := 18) (tb := 399) rfl hk1 hO.1 hO.2.1 hO.2.2.1 hO.2.2.2.2.2 hbb hc ht (by omega) (by rw [hi]; omega) (by omega) (by omega)) (fun w h2 hq => ?_)
          obtain ⟨rfl, hJ⟩ := behind w h2 hq
          exact hJ
      -- the token's sort
      have at56 : ∀ (j : Nat), i < j → j ≤ len → (∀ k, i ≤ k → k < j → soF (f k).toInt = soF (f i).toInt) → J l g 60 7 56 [some (.ref (g.2.2 + (b + 50))), some (.ref (g.2.2 + (b + 49))), some (.int (Int32.ofInt (len : Int))), some (.int (Int32.ofInt (j : Int))), some (.int (Int32.ofInt (i : Int))), some (.int (Int32.ofInt (soF (f i).toInt)))] [] h' 0 0 (kPost TTs g (EIm n) Kx_120 bk h ev) := by
        intro j j1 j2 hs
        have hj : (Int32.ofInt (j : Int)).toInt = (j : Int) := i32_n (by omega)
        have sb := soF_b (f i).toInt
        have sT : (Int32.ofInt (soF (f i).toInt)).toInt = soF (f i).toInt := i32_ofInt (by omega) (by omega)
        refine j_iload (i := 5) (by decide +kernel) rfl ?_
        refine j_iconst (n := 1) (by decide +kernel) ?_
        refine j_icmp_ne (off := 20) (tgt := 79) (by decide +kernel) (by decide) (fun s1 => ?_) (fun s1 => ?_)
        · refine j_iload (i := 5) (by decide +kernel) rfl ?_
          refine j_iconst (n := 2) (by decide +kernel) ?_
          refine j_icmp_ne (off := 20) (tgt := 102) (by decide +kernel) (by decide) (fun s2 => ?_) (fun s2 => ?_)
          · refine j_iload (i := 5) (by decide +kernel) rfl ?_
            refine j_iconst (n := 3) (by decide +kernel) ?_
            refine j_icmp_ne (off := 17) (tgt := 122) (by decide +kernel) (by decide) (fun s3 => ?_) (fun s3 => ?_)
            · exact next j j1 j2 bk' h' fs t _ hO hc ht t0 (by omega)
            · refine j_aload_n (k4 := 0) (by decide +kernel) rfl ?_
              refine j_iload (i := 4) (by decide +kernel) rfl ?_
              refine j_aload_n (k4 := 1) (by decide +kernel) rfl ?_
              refine j_iload (i := 4) (by decide +kernel) rfl ?_
              refine j_iald (by decide +kernel) hx (i32_in (by rw [hi]; omega) (by rw [hi]; omega)) ?_
              refine j_callS' (own := 3) (i := 68) (y2 := 78) (d2 := 0) (mc := 0) (ms := 0) (kc := 0) (ks := 0) (As := [.int (f (Int32.ofInt (i : Int)).toNatClampNeg)]) (by decide +kernel) hcls (by decide +kernel) (by decide) (by decide +kernel) (show 1 = jnp 78 by decide +kernel) (by decide) (by show (1 + (1 + 0) : Nat) ≤ 8; decide) sign_run (fun w h2 hq => ?_)
              obtain ⟨rfl, r, ⟨ra, rb⟩, rfl, -⟩ := hq
              refine j_iconst (n := 0) (by decide +kernel) ?_
              exact add j 119 (Int32.ofInt r) (Int32.ofInt 0) _ j1 j2 (Or.inr (Or.inr rfl)) (by rw [i32_ofInt (by omega) (by omega)]; omega) (by rw [i32_ofInt (by omega) (by omega)]; omega) (by decide) (by decide)
          · have so2 : soF (f i).toInt = 2 := by
              rw [← sT, Classical.not_not.mp s2]
              decide
            have dig : ∀ k, i ≤ k → k < j → 48 ≤ (f k).toInt ∧ (f k).toInt ≤ 57 := by
              intro k k1 k2
              have hk := (hs k k1 k2).trans so2
              unfold soF at hk
              repeat' split at hk
              all_goals first
                | assumption
                | exact absurd hk (by decide)
            refine j_aload_n (k4 := 0) (by decide +kernel) rfl ?_
            refine j_iload (i := 4) (by decide +kernel) rfl ?_
            refine j_iconst (n := 1) (by decide +kernel) ?_
            refine j_aload_n (k4 := 1) (by decide +kernel) rfl ?_
            refine j_iload (i := 4) (by decide +kernel) rfl ?_
            refine j_iload_n (k4 := 3) (by decide +kernel) rfl ?_
            refine j_callS' (own := 3) (i := 65) (y2 := 77) (d2 := 1) (mc := 0) (ms := 0) (kc := 0) (ks := 0) (As := [.ref (g.2.2 + (b + 49)), .int (Int32.ofInt (i : Int)), .int (Int32.ofInt (j : Int))]) (by decide +kernel) hcls (by decide +kernel) (by decide) (by decide +kernel) (show 3 = jnp 77 by decide +kernel) (by decide) (by show (1 + (1 + (1 + 0)) : Nat) ≤ 8; decide) (value_run (f := f) hx (by omega) (by omega) dig (by decide)) (fun w h2 hq => ?_)
            obtain ⟨rfl, rfl⟩ := hq
            have vb := vaF_b (f := f) (fr := i) (j - i) (fun k hk => dig (i + k) (by omega) (by omega))
            exact add j 96 (Int32.ofInt 1) (Int32.ofInt (vaF f i (j - i))) _ j1 j2 (Or.inr (Or.inl rfl)) (by decide) (by decide) (by rw [i32_ofInt (by omega) (by omega)]; omega) (by rw [i32_ofInt (by omega) (by omega)]; omega)
        · refine j_aload_n (k4 := 0) (by decide +kernel) rfl ?_
          refine j_iload (i := 4) (by decide +kernel) rfl ?_
          refine j_aload_n (k4 := 1) (by decide +kernel) rfl ?_
          refine j_iload (i := 4) (by decide +kernel) rfl ?_
          refine j_iload_n (k4 := 3) (by decide +kernel) rfl ?_
          refine j_callS' (own := 3) (i := 57) (y2 := 62) (d2 := 6) (mc := 0) (ms := 0) (kc := 0) (ks := 0) (As := [.ref (g.2.2 + (b + 49)), .int (Int32.ofInt (i : Int)), .int (Int32.ofInt (j : Int))]) (by decide +kernel) hcls (by decide +kernel) (by decide) (by decide +kernel) (show 3 = jnp 62 by decide +kernel) (by decide) (by show (1 + (1 + 0) : Nat) ≤ 8; decide) (wordKind_run (f := f) hx (by omega) (by omega) (by decide)) (fun w h2 hq => ?_)
          obtain ⟨rfl, k, kk, -, -, rfl⟩ := hq
          refine j_iconst (n := 0) (by decide +kernel) ?_
          have hk : ∀ q : Int, q = (if k < 13 then 6 + (k : Int) else 2) → 0 ≤ q ∧ q ≤ 18 := fun q hq => by
            split at hq <;> omega
          obtain ⟨ka, kb⟩ := hk _ rfl
          exact add j 73 _ (Int32.ofInt 0) _ j1 j2 (Or.inl rfl) (by rw [i32_ofInt (by omega) (by omega)]; exact ka) (by rw [i32_ofInt (by omega) (by omega)]; exact kb) (by decide) (by decide)
      -- how far it goes
      have scan : ∀ (q j : Nat), len - j = q → i < j → j ≤ len → (∀ k, i ≤ k → k < j → soF (f k).toInt = soF (f i).toInt) → J l g 60 7 28 [some (.ref (g.2.2 + (b + 50))), some (.ref (g.2.2 + (b + 49))), some (.int (Int32.ofInt (len : Int))), some (.int (Int32.ofInt (j : Int))), some (.int (Int32.ofInt (i : Int))), some (.int (Int32.ofInt (soF (f i).toInt)))] [] h' 0 0 (kPost TTs g (EIm n) Kx_120 bk h ev) := by
        intro q
        induction q with
        | zero =>
          intro j h3 j1 j2 hs
          have hj : (Int32.ofInt (j : Int)).toInt = (j : Int) := i32_n (by omega)
          refine j_iload_n (k4 := 3) (by decide +kernel) rfl ?_
          refine j_iload_n (k4 := 2) (by decide +kernel) rfl ?_
          exact j_icmp_ge (off := 26) (tgt := 56) (by decide +kernel) (by decide) (fun _ => at56 j j1 j2 hs) (fun z => absurd (le32.mpr (by rw [hj, hleT]; omega)) z)
        | succ q ihq =>
          intro j h3 j1 j2 hs
          have hj : (Int32.ofInt (j : Int)).toInt = (j : Int) := i32_n (by omega)
          refine j_iload_n (k4 := 3) (by decide +kernel) rfl ?_
          refine j_iload_n (k4 := 2) (by decide +kernel) rfl ?_
          refine j_icmp_ge (off := 26) (tgt := 56) (by decide +kernel) (by decide) (fun _ => at56 j j1 j2 hs) (fun z => ?_)
          refine j_iload (i := 5) (by decide +kernel) rfl ?_
          refine j_iconst (n := 3) (by decide +kernel) ?_
          refine j_icmp_eq (off := 20) (tgt := 56) (by decide +kernel) (by decide) (fun _ => at56 j j1 j2 hs) (fun _ => ?_)
          refine j_aload_n (k4 := 1) (by decide +kernel) rfl ?_
          refine j_iload_n (k4 := 3) (by decide +kernel) rfl ?_
          refine j_iald (by decide +kernel) hx (i32_in (by rw [hj]; omega) (by rw [hj]; omega)) ?_
          rw [i32_at hj]
          refine j_callS' (own := 3) (i := 53) (y2 := 61) (d2 := 0) (mc := 0) (ms := 0) (kc := 0) (ks := 0) (As := [.int (f j)]) (st := []) (by decide +kernel) hcls (by decide +kernel) (by decide) (by decide +kernel) (show 1 = jnp 61 by decide +kernel) (by decide) (by decide) sort_run (fun w h2 hq => ?_)
          obtain ⟨rfl, rfl⟩ := hq
          refine j_iload (i := 5) (by decide +kernel) rfl ?_
          refine j_icmp_ne (off := 9) (tgt := 56) (by decide +kernel) (by decide) (fun _ => at56 j j1 j2 hs) (fun s1 => ?_)
          refine j_iinc (i := 3) (n := 1) (by decide +kernel) (by decide +kernel) rfl ?_
          refine j_goto (off := -25) (tgt := 28) (by decide +kernel) (by decide) ?_
          have e2 : Int32.ofInt (j : Int) + Int32.ofInt 1 = Int32.ofInt ((j + 1 : Nat) : Int) := i32_eq (by rw [i32_addn hj (by omega) (by omega), i32_n (by omega)]; omega)
          have e3 : soF (f j).toInt = soF (f i).toInt := by
            have b1 := soF_b (f j).toInt
            have b2 := soF_b (f i).toInt
            have := congrArg Int32.toInt (Classical.not_not.mp s1)
            rw [i32_ofInt (by omega) (by omega), i32_ofInt (by omega) (by omega)] at this
            exact this
          show J l g 60 7 28 [some (.ref (g.2.2 + (b + 50))), some (.ref (g.2.2 + (b + 49))), some (.int (Int32.ofInt (len : Int))), some (.int (Int32.ofInt (j : Int) + Int32.ofInt 1)), some (.int (Int32.ofInt (i : Int))), some (.int (Int32.ofInt (soF (f i).toInt)))] [] _ 0 0 _
          rw [e2]
          exact ihq (j + 1) (by omega) (by omega) (by omega) (fun k k1 k2 => by
            rcases Nat.lt_or_ge k j with hl | hl
            · exact hs k k1 hl
            · have : k = j := by omega
              subst this
              exact e3)
      refine j_aload_n (k4 := 1) (by decide +kernel) rfl ?_
      refine j_iload (i := 4) (by decide +kernel) rfl ?_
      refine j_iald (by decide +kernel) hx (i32_in (by rw [hi]; omega) (by rw [hi]; omega)) ?_
      rw [i32_at hi]
      refine j_callS' (own := 3) (i := 53) (y2 := 61) (d2 := 0) (mc := 0) (ms := 0) (kc := 0) (ks := 0) (As := [.int (f i)]) (st := []) (by decide +kernel) hcls (by decide +kernel) (by decide) (by decide +kernel) (show 1 = jnp 61 by decide +kernel) (by decide) (by decide) sort_run (fun w h2 hq => ?_)
      obtain ⟨rfl, rfl⟩ := hq
      refine j_istore (i := 5) (by decide +kernel) (by decide +kernel) ?_
      refine j_iload (i := 4) (by decide +kernel) rfl ?_
      refine j_iconst (n := 1) (by decide +kernel) ?_
      refine j_iadd (by decide +kernel) ?_
      refine j_istore_n (k4 := 3) (by decide +kernel) (by decide +kernel) ?_
      have e2 : Int32.ofInt (i : Int) + Int32.ofInt 1 = Int32.ofInt ((i + 1 : Nat) : Int) := i32_eq (by rw [i32_addn hi (by omega) (by omega), i32_n (by omega)]; omega)
      show J l g 60 7 28 [some (.ref (g.2.2 + (b + 50))), some (.ref (g.2.2 + (b + 49))), some (.int (Int32.ofInt (len : Int))), some (.int (Int32.ofInt (i : Int) + Int32.ofInt 1)), some (.int (Int32.ofInt (i : Int))), some (.int (Int32.ofInt (soF (f i).toInt)))] [] _ 0 0 _
      rw [e2]
      exact scan (len - (i + 1)) (i + 1) rfl (by omega) (by omega) (fun k k1 k2 => by
        have : k = i := by omega
        subst this
        rfl)
  -- the beginning
  obtain ⟨c, hc, fs, rfl, hfl, hfs⟩ := hT 0 b 50 _ hb ty_x50
  have hfl7 : fs.length = 7 := hfl
  refine j_aload_n (k4 := 0) (by decide +kernel) rfl ?_
  refine j_iconst (n := 0) (by decide +kernel) ?_
  refine j_put (own := 3) (i := 50) (ci := 3) (f := 4) (by decide +kernel) hcls (by decide +kernel) hc rfl (by decide +kernel) (by omega) (by decide +kernel) (ty := .int) (by decide +kernel) rfl rfl ?_
  have hc : h[b + 50]? = some (.inr (3, fs)) := hc
  have hU : UN TTs [(0, 50, 4, 4)] bk h (h.set (b + 50) (.inr (3, fs.set 4 (.int (Int32.ofInt 0))))) := UN.set hD hb (tyAt_lt ty_x50) hc offW_fs
  have hH : HT TTs g bk (h.set (b + 50) (.inr (3, fs.set 4 (.int (Int32.ofInt 0))))) := by
    refine hT.set hD hb ty_x50 ⟨fs.set 4 (.int (Int32.ofInt 0)), rfl, by rw [List.length_set]; exact hfl, fun k t hk => ?_⟩
    by_cases h4 : 4 = k
    · subst h4
      cases hk
      exact ⟨_, List.getElem?_set_self (by omega), Int32.ofInt 0, rfl, by decide, by decide⟩
    · rw [List.getElem?_set_ne h4]
      exact hfs k t hk
  refine j_iconst (n := 0) (by decide +kernel) ?_
  refine j_istore (i := 4) (by decide +kernel) (by decide +kernel) ?_
  obtain ⟨o3, ho3⟩ := jst1_4 (x0 := some (.ref (g.2.2 + (b + 50)))) (x1 := some (.ref (g.2.2 + (b + 49)))) (x2 := some (.int (Int32.ofInt (len : Int)))) (x3 := a3) (x4 := a4) (x5 := a5) (v := .int (Int32.ofInt 0))
  rw [ho3]
  exact loop len 0 rfl (by omega) bk _ (fs.set 4 (.int (Int32.ofInt 0))) (Int32.ofInt 0) _ _ ⟨hH, hD, EIm_ok bk h _ _ (by decide) hU (List.length_set ..) hT hH hE, hU.mono (by decide), fun B b hb => hb, hb1⟩ (List.getElem?_set_self (List.getElem?_eq_some_iff.mp hc).1) (List.getElem?_set_self (by omega)) (by decide) (by decide)
end TZ
