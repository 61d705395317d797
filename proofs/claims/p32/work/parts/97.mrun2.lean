/-! tallyOthers of the reference -/
section TO
variable {l : Launch} {g : jG} {n : Int}
def toW : List aR := [(1, 20, 0, 5)]
def toK : aK := (268, [some (2, 0, 0, 1, 0), some (0, 0, 1, 0, 0), none], [], [], [(9, 0, 0, 0, 0, [])], [], [], toW, 1, 0, 0)
def toK9 : aK := (268, [some (2, 0, 0, 1, 0), some (0, 0, 1, 0, 0), some (0, 0, 179, 0, 0)], [], [], [], [], [], toW, 1, 0, 0)
def toC2 : aCu := (2, [some (2, 0, 0, 1, 0), some (0, 0, 1, 0, 0), some (0, 0, 6, 0, 0)], [], [], ([(2, -1)], 7), [])
def toC23 : aCu := (23, [some (2, 0, 0, 1, 0), some (0, 0, 1, 0, 0), some (0, 0, 0, 0, 0)], [], [], ([], 0), [])
def toC9 : aCu := (23, [some (2, 0, 0, 1, 0), some (0, 0, 1, 0, 0), some (0, 0, 180, 0, 0)], [], [([(1, -1), (3, 1)], -1), ([(1, 1), (3, -1)], 1)], ([], 0), [])
def toS9 : aS := ([eNew 0 1 none, eNew 0 179 none, eNew 0 2 none], [], [some (2, 1, 0), some (0, 0, 0), some (0, 1, 0)], [(0, 2, 0), (2, 1, 20)], [], [])
theorem to_ent : chk (TTs, KTx, KIx, toW, Pm, 268, 12, 1, 737) toK [toC2, toC23] [] none 300 true 0 (spState [] toK.2.1 [] [] []) 0 0 = true := by decide +kernel
theorem to_ck : [toC2].all (fun C => Nat.beq C.2.1.length (jmx 268) && chk (TTs, KTx, KIx, toW, Pm, 268, 12, 1, 737) toK ([toC2] ++ [toC23]) [] (some C.2.2.2.2.1) 300 true C.1 (spState (kEnv toK) C.2.1 C.2.2.1 C.2.2.2.1 C.2.2.2.2.2) 0 0) = true := by decide +kernel
theorem to_9 : chk (TTs, KTx, KIx, toW, Pm, 268, 12, 1, 737) toK9 [toC9] [] none 300 true 49 toS9 0 0 = true := by decide +kernel
theorem pt_to {W0 W1 : List aR} {bk0 bk : aB} {h0 h : jH} (hO : hOK TTs g (EIm n) W0 bk0 h0 bk h) {a1 : Nat} (ha1 : bk 1 = some a1) {x1 : Int32} (hx1 : (0 : Int) ≤ x1.toInt ∧ x1.toInt ≤ 1) {o2 : Option Value} :
    PT TTs g (EIm n) W1 bk h [x1.toInt] 268 [x1.toInt] bk [some (.ref (g.2.2 + (a1 + 0))), some (.int x1), o2] [] h (spState [] [some (2, 0, 0, 1, 0), some (0, 0, 1, 0, 0), none] [] [] []) ∧ eIv [x1.toInt] (spEnv [some (2, 0, 0, 1, 0), some (0, 0, 1, 0, 0), none] ++ clEnv []) := by
  have hI : eIv [x1.toInt] (spEnv [some (2, 0, 0, 1, 0), some (0, 0, 1, 0, 0), none] ++ clEnv []) := by
    refine ⟨rfl, fun i e z he hz => ?_⟩
    match i, he, hz with
    | 0, he, hz => cases he; cases hz; exact hx1
    | i + 1, he, _ => cases he
  refine ⟨⟨⟨hI, eFm_plain (plain_app (spEnv_plain _) clEnv_plain), fun F hF => absurd hF List.not_mem_nil, fun i v hv => ?_, trivial, fun q hq => ?_, fun B hB => ?_⟩, ⟨hO.1, hO.2.1, hO.2.2.1, UN.rf, fun _ _ q => q, hO.2.2.2.2.2⟩, (show 3 = jmx 268 by decide +kernel), fun i z hz => hz⟩, hI⟩
  · match i, hv with
    | 0, hv => cases hv; exact ⟨_, rfl, a1, ha1, rfl⟩
    | 1, hv => cases hv; exact ⟨_, rfl, x1, rfl, rfl⟩
    | 2, hv => cases hv
    | i + 3, hv => cases hv
  · exact absurd hq List.not_mem_nil
  · exact absurd hB List.not_mem_nil
theorem to_fin {bk : aB} {h : jH} {b E : Nat} (hb : bk 1 = some b) {fs : List Value} (ho : h[b + 0]? = some (.inr (12, fs))) (hE : fs[26]? = some (.int (Int32.ofInt (E : Int)))) (hE6 : E ≤ 60) {a : Int32} (ha : 0 ≤ a.toInt ∧ a.toInt ≤ 1) {Q : Option Value → jH → Prop} (hQ : ∀ bk' h', hOK TTs g (EIm n) toW bk h bk' h' → Q none h') (f : Nat) (h2 : f ≤ 180) (hf : 3 * E ≤ f + 1) (bk' : aB) (h' : jH) (hO : hOK TTs g (EIm n) toW bk h bk' h') : J l g 268 1 23 [some (.ref (g.2.2 + (b + 0))), some (.int a), some (.int (Int32.ofInt (f : Int)))] [] h' 0 0 Q := by
  have hcls : jcN 12 = (jyN 268).cls := by decide +kernel
  have hET : (Int32.ofInt (E : Int)).toInt = (E : Int) := i32_n (by omega)
  have c3 : (Int32.ofInt 3).toInt = 3 := by decide
  have c1 : (Int32.ofInt 1).toInt = 1 := by decide
  have h3E : (Int32.ofInt 3 * Int32.ofInt (E : Int)).toInt = ((3 * E : Nat) : Int) := by
    rw [i32_mul (by rw [hET, c3]; omega) (by rw [hET, c3]; omega), hET, c3]
    omega
  have h3E1 : (Int32.ofInt 3 * Int32.ofInt (E : Int) - Int32.ofInt 1).toInt = ((3 * E : Nat) : Int) - 1 := by
    rw [i32_sub (by rw [h3E, c1]; omega) (by rw [h3E, c1]; omega), h3E, c1]
  obtain ⟨fs2, hc2, he2⟩ := hO.fld (k := 26) hb ty_m0 ho (by decide)
  have hb' := hO.2.2.2.2.1 1 b hb
  have hft : (Int32.ofInt (f : Int)).toInt = (f : Int) := i32_n (by omega)
  obtain ⟨T, hT, -⟩ := m_arr hO.1 hb' ty_m20
  have en : ∀ v : Int32, J l g 268 1 150 [some (.ref (g.2.2 + (b + 0))), some (.int a), some (.int (Int32.ofInt (f : Int)))] [.int v, .int (Int32.ofInt 5), .ref (g.2.2 + (b + 20))] h' 0 0 Q := by
    intro v
    refine j_iast (by decide +kernel) hT (i32_in (by decide) (by decide)) ?_
    exact j_ret (v := none) ⟨by decide +kernel, by decide +kernel⟩ (hQ bk' _ (hO.st (i := (Int32.ofInt 5).toNatClampNeg) (v := v) (lo := 0) (hi := 5) hb' ty_m20 hT (sg1 ⟨i32_lo v, i32_hi v⟩) (by decide) (by decide) (by decide) (by decide))) rfl
  refine j_iload_n (k4 := 2) (by decide +kernel) rfl ?_
  refine j_iconst (n := 3) (by decide +kernel) ?_
  refine j_aload_n (k4 := 0) (by decide +kernel) rfl ?_
  refine j_get (own := 12) (i := 312) (ci := 12) (f := 26) (by decide +kernel) hcls (by decide +kernel) hc2 (n12 26 (by decide)) (he2.trans hE) ?_
  refine j_imul (by decide +kernel) ?_
  refine j_iconst (n := 1) (by decide +kernel) ?_
  refine j_isub (by decide +kernel) ?_
  refine j_icmp_ge (off := 104) (tgt := 136) (by decide +kernel) (by decide) (fun _ => ?_) (fun z => absurd (le32.mpr (by rw [h3E1, hft]; omega)) z)
  refine j_aload_n (k4 := 0) (by decide +kernel) rfl ?_
  refine j_get (own := 12) (i := 75) (ci := 12) (f := 36) (by decide +kernel) hcls (by decide +kernel) hc2 (n12 36 (by decide)) (m_ref hO.1 hb' hc2 rfl) ?_
  refine j_iconst (n := 5) (by decide +kernel) ?_
  refine j_iload_n (k4 := 1) (by decide +kernel) rfl ?_
  refine j_if_eq (off := 7) (tgt := 149) (by decide +kernel) (by decide) (fun _ => ?_) (fun _ => ?_)
  · refine j_iconst (n := 0) (by decide +kernel) ?_
    exact en _
  · refine j_iconst (n := 1) (by decide +kernel) ?_
    refine j_goto (off := 4) (tgt := 150) (by decide +kernel) (by decide) ?_
    exact en _
set_option maxRecDepth 16384 in
theorem to_loop (hlow : ∀ (k : Nat) (K : aK), KTx[k]? = some K → kOK TTs g (EIm n) l K) {bk : aB} {h : jH} {b E : Nat} (hb : bk 1 = some b) {fs : List Value} (ho : h[b + 0]? = some (.inr (12, fs))) (hE : fs[26]? = some (.int (Int32.ofInt (E : Int)))) (hE6 : E ≤ 60) {F : Nat → Int32} (hF : h[b + 16]? = some (.inl (0, 360, F))) (hpos : ∀ f : Nat, f + 1 < 3 * E → 0 ≤ (F (180 + f)).toInt) {Q : Option Value → jH → Prop} (hQ : ∀ bk' h', hOK TTs g (EIm n) toW bk h bk' h' → Q none h') :
    ∀ (q f : Nat), 180 - f = q → f ≤ 180 → ∀ (a : Int32), 0 ≤ a.toInt ∧ a.toInt ≤ 1 → ∀ (bk' : aB) (h' : jH), hOK TTs g (EIm n) toW bk h bk' h' → J l g 268 1 23 [some (.ref (g.2.2 + (b + 0))), some (.int a), some (.int (Int32.ofInt (f : Int)))] [] h' 0 0 Q := by
  have hcls : jcN 12 = (jyN 268).cls := by decide +kernel
  have hET : (Int32.ofInt (E : Int)).toInt = (E : Int) := i32_n (by omega)
  have c3 : (Int32.ofInt 3).toInt = 3 := by decide
  have c1 : (Int32.ofInt 1).toInt = 1 := by decide
  have c180 : ((Int16.ofInt 180).toInt32).toInt = 180 := by decide
  have h3E : (Int32.ofInt 3 * Int32.ofInt (E : Int)).toInt = ((3 * E : Nat) : Int) := by
    rw [i32_mul (by rw [hET, c3]; omega) (by rw [hET, c3]; omega), hET, c3]
    omega
  have h3E1 : (Int32.ofInt 3 * Int32.ofInt (E : Int) - Int32.ofInt 1).toInt = ((3 * E : Nat) : Int) - 1 := by
    rw [i32_sub (by rw [h3E, c1]; omega) (by rw [h3E, c1]; omega), h3E, c1]
  intro q
  induction q with
  | zero =>
    intro f h1 h2 a ha bk' h' hO
    exact to_fin hb ho hE hE6 ha hQ f h2 (by omega) bk' h' hO
  | succ q ih =>
    intro f h1 h2 a ha bk' h' hO
    rcases Nat.lt_or_ge (f + 1) (3 * E) with hf | hf
    · obtain ⟨fs2, hc2, he2⟩ := hO.fld (k := 26) hb ty_m0 ho (by decide)
      obtain ⟨F2, hF2, hF2e⟩ := hO.arr (lo := 0) (hi := 359) hb ty_m16 hF (by decide)
      have hb' := hO.2.2.2.2.1 1 b hb
      have hft : (Int32.ofInt (f : Int)).toInt = (f : Int) := i32_n (by omega)
      have hat : ((Int16.ofInt 180).toInt32 + Int32.ofInt (f : Int)).toInt = ((180 + f : Nat) : Int) := by
        rw [i32_add (by rw [hft, c180]; omega) (by rw [hft, c180]; omega), hft, c180]
        omega
      refine j_iload_n (k4 := 2) (by decide +kernel) rfl ?_
      refine j_iconst (n := 3) (by decide +kernel) ?_
      refine j_aload_n (k4 := 0) (by decide +kernel) rfl ?_
      refine j_get (own := 12) (i := 312) (ci := 12) (f := 26) (by decide +kernel) hcls (by decide +kernel) hc2 (n12 26 (by decide)) (he2.trans hE) ?_
      refine j_imul (by decide +kernel) ?_
      refine j_iconst (n := 1) (by decide +kernel) ?_
      refine j_isub (by decide +kernel) ?_
      refine j_icmp_ge (off := 104) (tgt := 136) (by decide +kernel) (by decide) (fun z => absurd (le32.mp z) (by rw [h3E1, hft]; omega)) (fun _ => ?_)
      refine j_aload_n (k4 := 0) (by decide +kernel) rfl ?_
      refine j_get (own := 12) (i := 75) (ci := 12) (f := 36) (by decide +kernel) hcls (by decide +kernel) hc2 (n12 36 (by decide)) (m_ref hO.1 hb' hc2 rfl) ?_
      refine j_aload_n (k4 := 0) (by decide +kernel) rfl ?_
      refine j_get (own := 12) (i := 63) (ci := 12) (f := 32) (by decide +kernel) hcls (by decide +kernel) hc2 (n12 32 (by decide)) (m_ref hO.1 hb' hc2 rfl) ?_
      refine j_sipush (n := 180) (by decide +kernel) ?_
      refine j_iload_n (k4 := 2) (by decide +kernel) rfl ?_
      refine j_iadd (by decide +kernel) ?_
      refine j_iald (by decide +kernel) hF2 (i32_in (by rw [hat]; omega) (by rw [hat]; omega)) ?_
      rw [i32_at hat]
      have hv0 : 0 ≤ (F2 (180 + f)).toInt := by
        rw [hF2e (180 + f) (by omega) (by omega)]
        exact hpos f hf
      have hv2 : (F2 (180 + f)).toInt ≤ 2 := by
        obtain ⟨F3, hF3, hF3t⟩ := m_arr hO.1 hb' ty_m16
        cases hF2.symm.trans hF3
        exact (hF3t (180 + f) (by omega) _ List.mem_cons_self (by show 0 ≤ _; omega) (by show _ < 0 + 360; omega) (-1, 2) (by rw [Nat.mod_one]; rfl)).2
      have hM : mOK TTs g (EIm n) Pm KTx l toK9.1 12 737 := ⟨TTs_cl, TTs_sg, EIm_ok, hcls, fun k K hK _ => hlow k K hK⟩
      have hI : eIv [a.toInt, (f : Int)] (kEnv toK9) := ⟨rfl, fun i e z he hz => by
        match i, he, hz with
        | 0, he, hz => cases he; cases hz; exact ha
        | 1, he, hz => cases he; cases hz; exact ⟨by show (0 : Int) ≤ _; omega, by show (f : Int) ≤ 179; omega⟩
        | i + 2, he, _ => cases he⟩
      refine chk_okQ (KI := KIx) (K := toK9) (bk0 := bk') (h0 := h') (ev := [a.toInt, (f : Int)]) (ev' := [a.toInt, (f : Int), (F2 (180 + f)).toInt]) hM hI rfl (fun i z hz => by
        match i, hz with
        | 0, hz => exact hz
        | 1, hz => exact hz
        | i + 2, hz => cases hz) (fun v h2 hq => by
        obtain ⟨bk2, os, k1, -, q', hq1, -⟩ := hq
        exact absurd hq1 List.not_mem_nil) (fun C hC μ _ _ => ?_) 300 true 49 _ _ _ to_9 [a.toInt, (f : Int), (F2 (180 + f)).toInt] bk' _ _ h' ⟨⟨⟨rfl, fun i e z he hz => ?_⟩, ?_, fun F hF => absurd hF List.not_mem_nil, fun i v hv => ?_, ⟨⟨_, rfl, rfl⟩, ⟨b, hb', rfl⟩, trivial⟩, fun q hq => absurd hq List.not_mem_nil, fun B hB => absurd hB List.not_mem_nil⟩, ⟨hO.1, hO.2.1, hO.2.2.1, UN.rf, fun _ _ q => q, hO.2.2.2.2.2⟩, (show 3 = jmx 268 by decide +kernel), fun i z hz => hz⟩
      · rw [List.mem_singleton.mp hC]
        intro vs bk2 al h2 hp _
        obtain ⟨⟨i1, i2, i3, i4, i5, i6, i7⟩, hO2, hlen, hpre⟩ := hp
        have hlen : al.length = 3 := hlen.trans (show jmx 268 = 3 by decide +kernel)
        have hO2 : hOK TTs g (EIm n) toW bk' h' bk2 h2 := hO2
        obtain ⟨a0, a1, a2, hal⟩ := list3 hlen
        subst hal
        obtain ⟨w0, y0, b', hb2, rfl⟩ := i4 0 (2, 1, 0) rfl
        obtain ⟨w1, y1, s1, rfl, z1⟩ := i4 1 (0, 2, 0) rfl
        obtain ⟨w2, y2, s2, rfl, z2⟩ := i4 2 (0, 3, 0) rfl
        have r0 := Option.some.inj y0
        have r1 := Option.some.inj y1
        have r2 := Option.some.inj y2
        subst r0 r1 r2
        have hb2 : bk2 1 = some b' := hb2
        cases (hO2.2.2.2.2.1 1 b hb').symm.trans hb2
        have j1 := i1.2 2 (eNew 0 1 none) _ rfl z1
        dsimp only [eNew] at j1
        have vf := hpre 1 (f : Int) rfl
        obtain ⟨zA, zA1, zA2⟩ := i3 ([(1, -1), (3, 1)], -1) List.mem_cons_self
        obtain ⟨zB, zB1, zB2⟩ := i3 ([(1, 1), (3, -1)], 1) (List.mem_cons_of_mem _ List.mem_cons_self)
        have yA := fev_of (F := ([(1, -1), (3, 1)], -1)) (fevl_cons (q := (1, -1)) vf (fevl_cons (q := (3, 1)) z2 (show fevl vs [] = some 0 from rfl)))
        have yB := fev_of (F := ([(1, 1), (3, -1)], 1)) (fevl_cons (q := (1, 1)) vf (fevl_cons (q := (3, -1)) z2 (show fevl vs [] = some 0 from rfl)))
        rw [yA] at zA1
        rw [yB] at zB1
        have zA3 := Option.some.inj zA1
        have zB3 := Option.some.inj zB1
        dsimp only at zA3 zB3
        have es : s2 = Int32.ofInt ((f + 1 : Nat) : Int) := i32_eq (by rw [i32_n (by omega)]; omega)
        subst es
        exact ih (f + 1) (by omega) (by omega) s1 j1 bk2 h2 (hO.tr (by decide) hO2)
      · match i, he, hz with
        | 0, he, hz => cases he; cases hz; exact ha
        | 1, he, hz => cases he; cases hz; exact ⟨by show (0 : Int) ≤ _; omega, by show (f : Int) ≤ 179; omega⟩
        | 2, he, hz => cases he; cases hz; exact ⟨hv0, hv2⟩
        | i + 3, he, _ => cases he
      · exact eFm_plain (fun e he => by
          simp only [toS9, List.mem_cons, List.not_mem_nil, or_false] at he
          rcases he with rfl | rfl | rfl <;> exact ⟨_, _, rfl⟩)
      · match i, hv with
        | 0, hv => cases hv; exact ⟨_, rfl, b, hb', rfl⟩
        | 1, hv => cases hv; exact ⟨_, rfl, a, rfl, rfl⟩
        | 2, hv => cases hv; exact ⟨_, rfl, Int32.ofInt (f : Int), rfl, by rw [hft]; rfl⟩
        | i + 3, hv => cases hv
    · exact to_fin hb ho hE hE6 ha hQ f h2 hf bk' h' hO
end TO
