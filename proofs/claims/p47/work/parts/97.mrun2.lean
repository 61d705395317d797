section
/-! tallyOthers of the reference -/
section TO
variable {l : Launch} {g : jG} {n : Int}
def toW : List aR := [(1, 20, 0, 5)]
def toK : aK := (268, [some (2, 0, 0, 1, 0), some (0, 0, 1, 0, 0), none], [], [], [(9, 0, 0, 0, 0, [])], [], [], toW, 1, 0, 0)
def toK9 : aK := (268, [some (2, 0, 0, 1, 0), some (0, 0, 1, 0, 0), some (0, 0, 179, 0, 0)], [], [], [], [], [], toW, 1, 0, 0)
def toC2 : aCu := (2, [some (2, 0, 0, 1, 0), some (0, 0, 1, 0, 0), some (0, 0, 6, 0, 0)], [], [], ([(2, -1)], 7), [])
def toC23 : aCu := (23, [some (2, 0, 0, 1, 0), some (0, 0, 1, 0, 0), some (0, 0, 0, 0, 0)], [], [], ([], 0), [])
def toC9 : aCu := (23, [some (2, 0, 0, 1, 0), some (0, 0, 1, 0, 0), some (0, 0, 180, 0, 0)], [], [([(1, -1), (3, 1)], -1), ([(1, 1), (3, -1)], 1)], ([], 0), [])
def toS9 : aS := ([eNew 0 1 none, eNew 0 179 none, eNew 0 2 none], [], [some (2, 1, 0), some (0, 0, 0), some (0, 1, 0)], [(0, 2, 0), (2, 1, 20)], [], [])
theorem to_ent : chk (TTs, KTx, KIx, toW, Pm, 268, 12, 1, 737) toK [toC2, toC23] [] none 300 true 0 (spState [] toK.2.1 [] [] []) 0 0 = true := by decide +kernel
theorem to_ck : [toC2].all (fun C => Nat.beq C.2.1.length (jmx 268) && chk (TTs, KTx, KIx, toW, Pm, 268, 12, 1, 737) toK ([toC2] ++ [toC23]) [] (some C.2.2.2.2.1) 300 true C.1 (spState (kEnv toK) C.2.1 C.2.2.1 C.2.2.2.1 C.2.2.2.2.2) 0 0) = true := by decide +kernel
theorem to_9 : chk (TTs, KTx, KIx, toW, Pm, 268, 12, 1, 737) toK9 [toC9] [] none 300 true 49 toS9 0 0 = true := by decide +kernel
theorem pt_to {W0 W1 : List aR} {bk0 bk : aB} {h0 h : jH} (hO : hOK TTs g (EIm n) W0 bk0 h0 bk h) {a1 : Nat} (ha1 : bk 1 = some a1) {x1 : Int32} (hx1 : (0 : Int) ≤ x1.toInt ∧ x1.toInt ≤ 1) {o2 : Option Value} :
    PT TTs g (EIm n) W1 bk h [x1.toInt] 268 [x1.toInt] bk [some (.ref (g.2.2 + (a1 + 0))), some (.int x1), o2] [] h (spState [] [some (2, 0, 0, 1, 0), some (0, 0, 1, 0, 0), none] [] [] []) ∧ eIv [x1.toInt] (spEnv [some (2, 0, 0, 1, 0), some (0, 0, 1, 0, 0), none] ++ clEnv []) := by
  have hI : eIv [x1.toInt] (spEnv [some (2, 0, 0, 1, 0), some (0, 0, 1, 0, 0), none] ++ clEnv []) := by
    refine ⟨rfl, fun i e z he hz => ?_⟩
    match i, he, hz with
    | 0, he, hz => cases he; cases hz; exact hx1
    | i + 1, he, _ => cases he
  refine ⟨⟨⟨hI, eFm_plain (plain_app (spEnv_plain _) clEnv_plain), fun F hF => absurd hF List.not_mem_nil, fun i v hv => ?_, trivial, fun q hq => ?_, fun B hB => ?_⟩, ⟨hO.1, hO.2.1, hO.2.2.1, UN.rf, fun _ _ q => q, hO.2.2.2.2.2⟩, (show 3 = jmx 268 by decide +kernel), fun i z hz => hz⟩, hI⟩
  · match i, hv with
    | 0, hv => cases hv; exact ⟨_, rfl, a1, ha1, rfl⟩
    | 1, hv => cases hv; exact ⟨_, rfl, x1, rfl, rfl⟩
    | 2, hv => cases hv
    | i + 3, hv => cases hv
  · exact absurd hq List.not_mem_nil
  · exact absurd hB List.not_mem_nil
theorem to_fin {bk : aB} {h : jH} {b E : Nat} (hb : bk 1 = some b) {fs : List Value} (ho : h[b + 0]? = some (.inr (12, fs))) (hE : fs[26]? = some (.int (Int32.ofInt (E : Int)))) (hE6 : E ≤ 60) {a : Int32} (ha : 0 ≤ a.toInt ∧ a.toInt ≤ 1) {Q : Option Value → jH → Prop} (hQ : ∀ bk' h', hOK TTs g (EIm n) toW bk h bk' h' → Q none h') (f : Nat) (h2 : f ≤ 180) (hf : 3 * E ≤ f + 1) (bk' : aB) (h' : jH) (hO : hOK TTs g (EIm n) toW bk h bk' h') : J l g 268 1 23 [some (.ref (g.2.2 + (b + 0))), some (.int a), some (.int (Int32.ofInt (f : Int)))] [] h' 0 0 Q := by
  have hcls : jcN 12 = (jyN 268).cls := by decide +kernel
  have hET : (Int32.ofInt (E : Int)).toInt = (E : Int) := i32_n (by omega)
  have c3 : (Int32.ofInt 3).toInt = 3 := by decide
  have c1 : (Int32.ofInt 1).toInt = 1 := by decide
  have h3E : (Int32.ofInt 3 * Int32.ofInt (E : Int)).toInt = ((3 * E : Nat) : Int) := by
    rw [i32_mul (by rw [hET, c3]; omega) (by rw [hET, c3]; omega), hET, c3]
    omega
  have h3E1 : (Int32.ofInt 3 * Int32.ofInt (E : Int) - Int32.ofInt 1).toInt = ((3 * E : Nat) : Int) - 1 := by
    rw [i32_sub (by rw [h3E, c1]; omega) (by rw [h3E, c1]; omega), h3E, c1]
  obtain ⟨fs2, hc2, he2⟩ := hO.fld (k := 26) hb ty_m0 ho (by decide)
  have hb' := hO.2.2.2.2.1 1 b hb
  have hft : (Int32.ofInt (f : Int)).toInt = (f : Int) := i32_n (by omega)
  obtain ⟨T, hT, -⟩ := m_arr hO.1 hb' ty_m20
  have en : ∀ v : Int32, J l g 268 1 150 [some (.ref (g.2.2 + (b + 0))), some (.int a), some (.int (Int32.ofInt (f : Int)))] [.int v, .int (Int32.ofInt 5), .ref (g.2.2 + (b + 20))] h' 0 0 Q := by
    intro v
    refine j_iast (dQ (by decide +kernel)) hT (i32_in (by decide) (by decide)) ?_
    exact j_ret (v := none) ⟨by decide +kernel, by decide +kernel⟩ (hQ bk' _ (hO.st (i := (Int32.ofInt 5).toNatClampNeg) (v := v) (lo := 0) (hi := 5) hb' ty_m20 hT (sg1 ⟨i32_lo v, i32_hi v⟩) (by decide) (by decide) (by decide) (by decide))) rfl
  refine j_iload_n (k4 := 2) (dQ (by decide +kernel)) rfl ?_
  refine j_iconst (n := 3) (dQ (by decide +kernel)) ?_
  refine j_aload_n (k4 := 0) (dQ (by decide +kernel)) rfl ?_
  refine j_get (own := 12) (i := 312) (ci := 12) (f := 26) (dQ (by decide +kernel)) hcls (by decide +kernel) hc2 (n12 26 (by decide)) (he2.trans hE) ?_
  refine j_imul (dQ (by decide +kernel)) ?_
  refine j_iconst (n := 1) (dQ (by decide +kernel)) ?_
  refine j_isub (dQ (by decide +kernel)) ?_
  refine j_icmp_ge (off := 104) (tgt := 136) (dQ (by decide +kernel)) (by decide) (fun _ => ?_) (fun z => absurd (le32.mpr (by rw [h3E1, hft]; omega)) z)
  refine j_aload_n (k4 := 0) (dQ (by decide +kernel)) rfl ?_
  refine j_get (own := 12) (i := 75) (ci := 12) (f := 36) (dQ (by decide +kernel)) hcls (by decide +kernel) hc2 (n12 36 (by decide)) (m_ref hO.1 hb' hc2 rfl) ?_
  refine j_iconst (n := 5) (dQ (by decide +kernel)) ?_
  refine j_iload_n (k4 := 1) (dQ (by decide +kernel)) rfl ?_
  refine j_if_eq (off := 7) (tgt := 149) (dQ (by decide +kernel)) (by decide) (fun _ => ?_) (fun _ => ?_)
  · refine j_iconst (n := 0) (dQ (by decide +kernel)) ?_
    exact en _
  · refine j_iconst (n := 1) (dQ (by decide +kernel)) ?_
    refine j_goto (off := 4) (tgt := 150) (dQ (by decide +kernel)) (by decide) ?_
    exact en _
set_option maxRecDepth 16384 in
theorem to_loop (hlow : ∀ (k : Nat) (K : aK), KTx[k]? = some K → kOK TTs g (EIm n) l K) {bk : aB} {h : jH} {b E : Nat} (hb : bk 1 = some b) {fs : List Value} (ho : h[b + 0]? = some (.inr (12, fs))) (hE : fs[26]? = some (.int (Int32.ofInt (E : Int)))) (hE6 : E ≤ 60) {F : Nat → Int32} (hF : h[b + 16]? = some (.inl (0, 360, F))) (hpos : ∀ f : Nat, f + 1 < 3 * E → 0 ≤ (F (180 + f)).toInt) {Q : Option Value → jH → Prop} (hQ : ∀ bk' h', hOK TTs g (EIm n) toW bk h bk' h' → Q none h') :
    ∀ (q f : Nat), 180 - f = q → f ≤ 180 → ∀ (a : Int32), 0 ≤ a.toInt ∧ a.toInt ≤ 1 → ∀ (bk' : aB) (h' : jH), hOK TTs g (EIm n) toW bk h bk' h' → J l g 268 1 23 [some (.ref (g.2.2 + (b + 0))), some (.int a), some (.int (Int32.ofInt (f : Int)))] [] h' 0 0 Q := by
  have hcls : jcN 12 = (jyN 268).cls := by decide +kernel
  have hET : (Int32.ofInt (E : Int)).toInt = (E : Int) := i32_n (by omega)
  have c3 : (Int32.ofInt 3).toInt = 3 := by decide
  have c1 : (Int32.ofInt 1).toInt = 1 := by decide
  have c180 : ((Int16.ofInt 180).toInt32).toInt = 180 := by decide
  have h3E : (Int32.ofInt 3 * Int32.ofInt (E : Int)).toInt = ((3 * E : Nat) : Int) := by
    rw [i32_mul (by rw [hET, c3]; omega) (by rw [hET, c3]; omega), hET, c3]
    omega
  have h3E1 : (Int32.ofInt 3 * Int32.ofInt (E : Int) - Int32.ofInt 1).toInt = ((3 * E : Nat) : Int) - 1 := by
    rw [i32_sub (by rw [h3E, c1]; omega) (by rw [h3E, c1]; omega), h3E, c1]
  intro q
  induction q with
  | zero =>
    intro f h1 h2 a ha bk' h' hO
    exact to_fin hb ho hE hE6 ha hQ f h2 (by omega) bk' h' hO
  | succ q ih =>
    intro f h1 h2 a ha bk' h' hO
    rcases Nat.lt_or_ge (f + 1) (3 * E) with hf | hf
    · obtain ⟨fs2, hc2, he2⟩ := hO.fld (k := 26) hb ty_m0 ho (by decide)
      obtain ⟨F2, hF2, hF2e⟩ := hO.arr (lo := 0) (hi := 359) hb ty_m16 hF (by decide)
      have hb' := hO.2.2.2.2.1 1 b hb
      have hft : (Int32.ofInt (f : Int)).toInt = (f : Int) := i32_n (by omega)
      have hat : ((Int16.ofInt 180).toInt32 + Int32.ofInt (f : Int)).toInt = ((180 + f : Nat) : Int) := by
        rw [i32_add (by rw [hft, c180]; omega) (by rw [hft, c180]; omega), hft, c180]
        omega
      refine j_iload_n (k4 := 2) (dQ (by decide +kernel)) rfl ?_
      refine j_iconst (n := 3) (dQ (by decide +kernel)) ?_
      refine j_aload_n (k4 := 0) (dQ (by decide +kernel)) rfl ?_
      refine j_get (own := 12) (i := 312) (ci := 12) (f := 26) (dQ (by decide +kernel)) hcls (by decide +kernel) hc2 (n12 26 (by decide)) (he2.trans hE) ?_
      refine j_imul (dQ (by decide +kernel)) ?_
      refine j_iconst (n := 1) (dQ (by decide +kernel)) ?_
      refine j_isub (dQ (by decide +kernel)) ?_
      refine j_icmp_ge (off := 104) (tgt := 136) (dQ (by decide +kernel)) (by decide) (fun z => absurd (le32.mp z) (by rw [h3E1, hft]; omega)) (fun _ => ?_)
      refine j_aload_n (k4 := 0) (dQ (by decide +kernel)) rfl ?_
      refine j_get (own := 12) (i := 75) (ci := 12) (f := 36) (dQ (by decide +kernel)) hcls (by decide +kernel) hc2 (n12 36 (by decide)) (m_ref hO.1 hb' hc2 rfl) ?_
      refine j_aload_n (k4 := 0) (dQ (by decide +kernel)) rfl ?_
      refine j_get (own := 12) (i := 63) (ci := 12) (f := 32) (dQ (by decide +kernel)) hcls (by decide +kernel) hc2 (n12 32 (by decide)) (m_ref hO.1 hb' hc2 rfl) ?_
      refine j_sipush (n := 180) (dQ (by decide +kernel)) ?_
      refine j_iload_n (k4 := 2) (dQ (by decide +kernel)) rfl ?_
      refine j_iadd (dQ (by decide +kernel)) ?_
      refine j_iald (dQ (by decide +kernel)) hF2 (i32_in (by rw [hat]; omega) (by rw [hat]; omega)) ?_
      rw [i32_at hat]
      have hv0 : 0 ≤ (F2 (180 + f)).toInt := by
        rw [hF2e (180 + f) (by omega) (by omega)]
        exact hpos f hf
      have hv2 : (F2 (180 + f)).toInt ≤ 2 := by
        obtain ⟨F3, hF3, hF3t⟩ := m_arr hO.1 hb' ty_m16
        cases hF2.symm.trans hF3
        exact (hF3t (180 + f) (by omega) _ List.mem_cons_self (by show 0 ≤ _; omega) (by show _ < 0 + 360; omega) (-1, 2) (by rw [Nat.mod_one]; rfl)).2
      have hM : mOK TTs g (EIm n) Pm KTx l toK9.1 12 737 := ⟨TTs_cl, TTs_sg, EIm_ok, hcls, fun k K hK _ => hlow k K hK⟩
      have hI : eIv [a.toInt, (f : Int)] (kEnv toK9) := ⟨rfl, fun i e z he hz => by
        match i, he, hz with
        | 0, he, hz => cases he; cases hz; exact ha
        | 1, he, hz => cases he; cases hz; exact ⟨by show (0 : Int) ≤ _; omega, by show (f : Int) ≤ 179; omega⟩
        | i + 2, he, _ => cases he⟩
      refine chk_okQ (KI := KIx) (K := toK9) (bk0 := bk') (h0 := h') (ev := [a.toInt, (f : Int)]) (ev' := [a.toInt, (f : Int), (F2 (180 + f)).toInt]) hM hI rfl (fun i z hz => by
        match i, hz with
        | 0, hz => exact hz
        | 1, hz => exact hz
        | i + 2, hz => cases hz) (fun v h2 hq => by
        obtain ⟨bk2, os, k1, -, q', hq1, -⟩ := hq
        exact absurd hq1 List.not_mem_nil) (fun C hC μ _ _ => ?_) 300 true 49 _ _ _ to_9 [a.toInt, (f : Int), (F2 (180 + f)).toInt] bk' _ _ h' ⟨⟨⟨rfl, fun i e z he hz => ?_⟩, ?_, fun F hF => absurd hF List.not_mem_nil, fun i v hv => ?_, ⟨⟨_, rfl, rfl⟩, ⟨b, hb', rfl⟩, trivial⟩, fun q hq => absurd hq List.not_mem_nil, fun B hB => absurd hB List.not_mem_nil⟩, ⟨hO.1, hO.2.1, hO.2.2.1, UN.rf, fun _ _ q => q, hO.2.2.2.2.2⟩, (show 3 = jmx 268 by decide +kernel), fun i z hz => hz⟩
      · rw [List.mem_singleton.mp hC]
        intro vs bk2 al h2 hp _
        obtain ⟨⟨i1, i2, i3, i4, i5, i6, i7⟩, hO2, hlen, hpre⟩ := hp
        have hlen : al.length = 3 := hlen.trans (show jmx 268 = 3 by decide +kernel)
        have hO2 : hOK TTs g (EIm n) toW bk' h' bk2 h2 := hO2
        obtain ⟨a0, a1, a2, hal⟩ := list3 hlen
        subst hal
        obtain ⟨w0, y0, b', hb2, rfl⟩ := i4 0 (2, 1, 0) rfl
        obtain ⟨w1, y1, s1, rfl, z1⟩ := i4 1 (0, 2, 0) rfl
        obtain ⟨w2, y2, s2, rfl, z2⟩ := i4 2 (0, 3, 0) rfl
        have r0 := Option.some.inj y0
        have r1 := Option.some.inj y1
        have r2 := Option.some.inj y2
        subst r0 r1 r2
        have hb2 : bk2 1 = some b' := hb2
        cases (hO2.2.2.2.2.1 1 b hb').symm.trans hb2
        have j1 := i1.2 2 (eNew 0 1 none) _ rfl z1
        dsimp only [eNew] at j1
        have vf := hpre 1 (f : Int) rfl
        obtain ⟨zA, zA1, zA2⟩ := i3 ([(1, -1), (3, 1)], -1) List.mem_cons_self
        obtain ⟨zB, zB1, zB2⟩ := i3 ([(1, 1), (3, -1)], 1) (List.mem_cons_of_mem _ List.mem_cons_self)
        have yA := fev_of (F := ([(1, -1), (3, 1)], -1)) (fevl_cons (q := (1, -1)) vf (fevl_cons (q := (3, 1)) z2 (show fevl vs [] = some 0 from rfl)))
        have yB := fev_of (F := ([(1, 1), (3, -1)], 1)) (fevl_cons (q := (1, 1)) vf (fevl_cons (q := (3, -1)) z2 (show fevl vs [] = some 0 from rfl)))
        rw [yA] at zA1
        rw [yB] at zB1
        have zA3 := Option.some.inj zA1
        have zB3 := Option.some.inj zB1
        dsimp only at zA3 zB3
        have es : s2 = Int32.ofInt ((f + 1 : Nat) : Int) := i32_eq (by rw [i32_n (by omega)]; omega)
        subst es
        exact ih (f + 1) (by omega) (by omega) s1 j1 bk2 h2 (hO.tr (by decide) hO2)
      · match i, he, hz with
        | 0, he, hz => cases he; cases hz; exact ha
        | 1, he, hz => cases he; cases hz; exact ⟨by show (0 : Int) ≤ _; omega, by show (f : Int) ≤ 179; omega⟩
        | 2, he, hz => cases he; cases hz; exact ⟨hv0, hv2⟩
        | i + 3, he, _ => cases he
      · exact eFm_plain (fun e he => by
          simp only [toS9, List.mem_cons, List.not_mem_nil, or_false] at he
          rcases he with rfl | rfl | rfl <;> exact ⟨_, _, rfl⟩)
      · match i, hv with
        | 0, hv => cases hv; exact ⟨_, rfl, b, hb', rfl⟩
        | 1, hv => cases hv; exact ⟨_, rfl, a, rfl, rfl⟩
        | 2, hv => cases hv; exact ⟨_, rfl, Int32.ofInt (f : Int), rfl, by rw [hft]; rfl⟩
        | i + 3, hv => cases hv
    · exact to_fin hb ho hE hE6 ha hQ f h2 hf bk' h' hO
end TO
end
section
/-! run of the reference keeps its contract -/
section MQ
variable {l : Launch} {g : jG} {n : Int}
theorem to_run (hlow : ∀ (k : Nat) (K : aK), KTx[k]? = some K → kOK TTs g (EIm n) l K) {W0 : List aR} {bk0 bk : aB} {h0 h : jH} (hO0 : hOK TTs g (EIm n) W0 bk0 h0 bk h) {b E : Nat} (hb : bk 1 = some b) {fs : List Value} (ho : h[b + 0]? = some (.inr (12, fs))) (hE : fs[26]? = some (.int (Int32.ofInt (E : Int)))) (hE6 : E ≤ 60) {F : Nat → Int32} (hF : h[b + 16]? = some (.inl (0, 360, F))) (hpos : ∀ f : Nat, f + 1 < 3 * E → 0 ≤ (F (180 + f)).toInt) {a : Int32} (ha : 0 ≤ a.toInt ∧ a.toInt ≤ 1) :
    jCal l g 268 1 [.ref (g.2.2 + (b + 0)), .int a] h 0 0 (fun v h' => v = none ∧ ∃ bk', hOK TTs g (EIm n) toW bk h bk' h') := by
  refine jCal_of (by decide +kernel) (show 2 ≤ jmx 268 by decide +kernel) ?_
  show J l g 268 1 0 [some (.ref (g.2.2 + (b + 0))), some (.int a), none] [] h 0 0 _
  have hcls : jcN 12 = (jyN 268).cls := by decide +kernel
  have hM : mOK TTs g (EIm n) Pm KTx l toK.1 12 737 := ⟨TTs_cl, TTs_sg, EIm_ok, hcls, fun k K hK _ => hlow k K hK⟩
  obtain ⟨hp, hI⟩ := pt_to (W1 := toW) (o2 := none) hO0 hb (x1 := a) ha
  have hno : ∀ v h', kPost TTs g (EIm n) toK bk h [a.toInt] v h' → v = none ∧ ∃ bk', hOK TTs g (EIm n) toW bk h bk' h' := fun v h' hq => by
    obtain ⟨bk', os, k1, -, q, hq1, hq2⟩ := hq
    have hq3 : q = (9, 0, 0, 0, 0, []) := List.mem_singleton.mp hq1
    subst hq3
    exact ⟨hq2.1, bk', k1⟩
  have hcut := cuts_okQ (l := l) (KI := KIx) (own := 12) (n := 737) (fuel := 300) (sp := []) (K := toK) (bk0 := bk) (h0 := h) (ev := [a.toInt]) hM hI rfl hno to_ck (fun C hC μ hμ => by
    rw [List.mem_singleton.mp hC]
    intro vs bk2 al h2 hp _
    obtain ⟨⟨i1, i2, i3, i4, i5, i6, i7⟩, hO2, hlen, hpre⟩ := hp
    have hlen : al.length = 3 := hlen.trans (show jmx 268 = 3 by decide +kernel)
    have hO2 : hOK TTs g (EIm n) toW bk h bk2 h2 := hO2
    obtain ⟨a0, a1, a2, hal⟩ := list3 hlen
    subst hal
    obtain ⟨w0, y0, b', hb2, rfl⟩ := i4 0 (2, 1, 0) rfl
    obtain ⟨w1, y1, s1, rfl, z1⟩ := i4 1 (0, 1, 0) rfl
    obtain ⟨w2, y2, s2, rfl, z2⟩ := i4 2 (0, 2, 0) rfl
    have r0 := Option.some.inj y0
    have r1 := Option.some.inj y1
    have r2 := Option.some.inj y2
    subst r0 r1 r2
    have hb2 : bk2 1 = some b' := hb2
    cases (hO2.2.2.2.2.1 1 b hb).symm.trans hb2
    have j1 := i1.2 1 (eNew 0 1 none) _ rfl z1
    have j2 := i1.2 2 (eNew 0 0 none) _ rfl z2
    dsimp only [eNew] at j1 j2
    have es : s2 = Int32.ofInt ((0 : Nat) : Int) := i32_eq (by rw [show (Int32.ofInt ((0 : Nat) : Int)).toInt = 0 by decide]; omega)
    subst es
    exact to_loop hlow hb ho hE hE6 hF hpos (Q := fun v h' => v = none ∧ ∃ bk', hOK TTs g (EIm n) toW bk h bk' h') (fun bk' h' q => ⟨rfl, bk', q⟩) 180 0 rfl (by omega) s1 j1 bk2 h2 hO2)
  exact chk_okQ (KI := KIx) (ev' := [a.toInt]) hM hI rfl (fun i z hz => hz) hno (fun C hC μ' v1 _ => hcut C hC μ' v1) 300 true 0 _ _ _ to_ent _ bk _ [] h hp
def rrW : List aR := [(1, 0, 0, 1), (1, 0, 6, 6), (1, 0, 25, 26), (1, 0, 29, 29), (1, 9, 0, 11), (1, 10, 0, 15), (1, 11, 0, 399), (1, 12, 0, 59), (1, 13, 0, 59), (1, 14, 0, 11), (1, 15, 0, 11), (1, 16, 0, 359), (1, 17, 0, 178), (1, 18, 0, 178), (1, 19, 0, 4), (1, 20, 0, 5)]
def rbW : List aR := [(1, 0, 25, 25), (1, 9, 0, 11), (1, 10, 0, 15), (1, 11, 0, 399), (1, 14, 0, 11), (1, 15, 0, 11), (1, 16, 0, 179), (1, 17, 0, 178), (1, 18, 0, 178)]
def rcW : List aR := [(1, 0, 1, 1), (1, 9, 0, 11), (1, 10, 0, 15), (1, 11, 0, 399), (1, 19, 0, 4)]
def rrK : aK := (262, [some (2, 0, 0, 1, 0), none, none, none], [], [], [(0, -6, 60, 0, 0, [])], [], [], rrW, 6, 0, 0)
def rrC9 : aCu := (9, [some (2, 0, 0, 1, 0), some (0, 0, 200, 0, 0), some (0, 0, 400, 0, 0), none], [], [([(0, -2), (1, 1)], 0)], ([(1, -1)], 402), [])
def rrC110 : aCu := (110, [some (2, 0, 0, 1, 0), some (0, 1, 60, 0, 0), none, none], [], [], ([], 0), [])
theorem rr_ent : chk (TTs, KTx, KIx, rrW, Pm, 262, 12, 6, 737) rrK [rrC9, rrC110] [] none 300 true 0 (spState [] rrK.2.1 [] [] []) 0 0 = true := by decide +kernel
theorem rr_ck : [rrC9].all (fun C => Nat.beq C.2.1.length (jmx 262) && chk (TTs, KTx, KIx, rrW, Pm, 262, 12, 6, 737) rrK ([rrC9] ++ [rrC110]) [] (some C.2.2.2.2.1) 300 true C.1 (spState (kEnv rrK) C.2.1 C.2.2.1 C.2.2.2.1 C.2.2.2.2.2) 0 0) = true := by decide +kernel
def rbK (u : Int) : aK := (262, [some (2, 0, 0, 1, 0), some (0, 1, 60, 0, 0), none, none], [(1, 1, 7, u, u)], [], [], [], [], rbW, 6, 0, 0)
def rbC128 (u : Int) : aCu := (128, [some (2, 0, 0, 1, 0), some (0, 1, 60, 0, 0), some (0, 0, 12, 0, 0), none], [(1, 1, 7, u, u)], [], ([(3, -1)], 40), [])
def rbC168 (bv : Int) : aCu := (168, [some (2, 0, 0, 1, 0), some (0, 1, 60, 0, 0), some (0, 0, 1, 0, 0), some (0, 0, 12, 0, 0)], [(1, 0, 25, bv, bv)], [], ([(4, -1)], 13), [])
def rbC217 (bv : Int) : aCu := (217, [some (2, 0, 0, 1, 0), some (0, 1, 60, 0, 0), some (0, 0, 1, 0, 0), none], [(1, 0, 25, bv, bv)], [], ([], 0), [])
def rcK (bv : Int) : aK := (262, [some (2, 0, 0, 1, 0), some (0, 1, 60, 0, 0), none, none], [(1, 0, 25, bv, bv)], [], [(0, 1, 60, 0, 0, [])], [], [], rcW, 6, 0, 0)
theorem rb_ent0 : chk (TTs, KTx, KIx, rbW, Pm, 262, 12, 6, 737) (rbK 0) [rbC128 0, rbC168 1130, rbC217 1130] [] none 300 true 126 (spState [] (rbK 0).2.1 (rbK 0).2.2.1 [] []) 0 0 = true := by decide +kernel
theorem rb_ck0 : [rbC128 0, rbC168 1130].all (fun C => Nat.beq C.2.1.length (jmx 262) && chk (TTs, KTx, KIx, rbW, Pm, 262, 12, 6, 737) (rbK 0) ([rbC128 0, rbC168 1130] ++ [rbC217 1130]) [] (some C.2.2.2.2.1) 300 true C.1 (spState (kEnv (rbK 0)) C.2.1 C.2.2.1 C.2.2.2.1 C.2.2.2.2.2) 0 0) = true := by decide +kernel
theorem rc_ent0 : chk (TTs, KTx, KIx, rcW, Pm, 262, 12, 6, 737) (rcK 1130) [] [] none 300 true 222 (spState [] (rcK 1130).2.1 (rcK 1130).2.2.1 [] []) 0 0 = true := by decide +kernel
theorem pt_rb0 {W0 W1 : List aR} {bk0 bk : aB} {h0 h : jH} (hO : hOK TTs g (EIm n) W0 bk0 h0 bk h) {a1 : Nat} (ha1 : bk 1 = some a1) {x1 : Int32} (hx1 : (1 : Int) ≤ x1.toInt ∧ x1.toInt ≤ 60) {o2 : Option Value} {o3 : Option Value} {c0 : Int32} (hc0 : (0 : Int) ≤ c0.toInt ∧ c0.toInt ≤ 0) {fc0 : Nat → Int32} (ec0 : h[a1 + 1]? = some (.inl (0, 5270, fc0))) (pc0 : fc0 7 = c0) :
    PT TTs g (EIm n) W1 bk h [x1.toInt, c0.toInt] 262 [x1.toInt, c0.toInt] bk [some (.ref (g.2.2 + (a1 + 0))), some (.int x1), o2, o3] [] h (spState [] [some (2, 0, 0, 1, 0), some (0, 1, 60, 0, 0), none, none] [(1, 1, 7, 0, 0)] [] []) ∧ eIv [x1.toInt, c0.toInt] (spEnv [some (2, 0, 0, 1, 0), some (0, 1, 60, 0, 0), none, none] ++ clEnv [(1, 1, 7, 0, 0)]) := by
  have hI : eIv [x1.toInt, c0.toInt] (spEnv [some (2, 0, 0, 1, 0), some (0, 1, 60, 0, 0), none, none] ++ clEnv [(1, 1, 7, 0, 0)]) := by
    refine ⟨rfl, fun i e z he hz => ?_⟩
    match i, he, hz with
    | 0, he, hz => cases he; cases hz; exact hx1
    | 1, he, hz => cases he; cases hz; exact hc0
    | i + 2, he, _ => cases he
  refine ⟨⟨⟨hI, eFm_plain (plain_app (spEnv_plain _) clEnv_plain), fun F hF => absurd hF List.not_mem_nil, fun i v hv => ?_, trivial, fun q hq => ?_, fun B hB => ?_⟩, ⟨hO.1, hO.2.1, hO.2.2.1, UN.rf, fun _ _ q => q, hO.2.2.2.2.2⟩, (show 4 = jmx 262 by decide +kernel), fun i z hz => hz⟩, hI⟩
  · match i, hv with
    | 0, hv => cases hv; exact ⟨_, rfl, a1, ha1, rfl⟩
    | 1, hv => cases hv; exact ⟨_, rfl, x1, rfl, rfl⟩
    | 2, hv => cases hv
    | 3, hv => cases hv
    | i + 4, hv => cases hv
  · have hq2 : q = (1, 1, fcon ((7 : Nat) : Int), 1) := List.mem_singleton.mp hq
    subst hq2
    exact ⟨((7 : Nat) : Int), a1, _, c0.toInt, fcon_ok, ha1, ec0, ⟨by decide, congrArg Int32.toInt pc0⟩, rfl⟩
  · exact absurd hB List.not_mem_nil
theorem pt_rc0 {W0 W1 : List aR} {bk0 bk : aB} {h0 h : jH} (hO : hOK TTs g (EIm n) W0 bk0 h0 bk h) {a1 : Nat} (ha1 : bk 1 = some a1) {x1 : Int32} (hx1 : (1 : Int) ≤ x1.toInt ∧ x1.toInt ≤ 60) {o2 : Option Value} {o3 : Option Value} {c0 : Int32} (hc0 : (1130 : Int) ≤ c0.toInt ∧ c0.toInt ≤ 1130) {fc0 : List Value} (ec0 : h[a1 + 0]? = some (.inr (12, fc0))) (pc0 : fc0[25]? = some (.int c0)) :
    PT TTs g (EIm n) W1 bk h [x1.toInt, c0.toInt] 262 [x1.toInt, c0.toInt] bk [some (.ref (g.2.2 + (a1 + 0))), some (.int x1), o2, o3] [] h (spState [] [some (2, 0, 0, 1, 0), some (0, 1, 60, 0, 0), none, none] [(1, 0, 25, 1130, 1130)] [] []) ∧ eIv [x1.toInt, c0.toInt] (spEnv [some (2, 0, 0, 1, 0), some (0, 1, 60, 0, 0), none, none] ++ clEnv [(1, 0, 25, 1130, 1130)]) := by
  have hI : eIv [x1.toInt, c0.toInt] (spEnv [some (2, 0, 0, 1, 0), some (0, 1, 60, 0, 0), none, none] ++ clEnv [(1, 0, 25, 1130, 1130)]) := by
    refine ⟨rfl, fun i e z he hz => ?_⟩
    match i, he, hz with
    | 0, he, hz => cases he; cases hz; exact hx1
    | 1, he, hz => cases he; cases hz; exact hc0
    | i + 2, he, _ => cases he
  refine ⟨⟨⟨hI, eFm_plain (plain_app (spEnv_plain _) clEnv_plain), fun F hF => absurd hF List.not_mem_nil, fun i v hv => ?_, trivial, fun q hq => ?_, fun B hB => ?_⟩, ⟨hO.1, hO.2.1, hO.2.2.1, UN.rf, fun _ _ q => q, hO.2.2.2.2.2⟩, (show 4 = jmx 262 by decide +kernel), fun i z hz => hz⟩, hI⟩
  · match i, hv with
    | 0, hv => cases hv; exact ⟨_, rfl, a1, ha1, rfl⟩
    | 1, hv => cases hv; exact ⟨_, rfl, x1, rfl, rfl⟩
    | 2, hv => cases hv
    | 3, hv => cases hv
    | i + 4, hv => cases hv
  · have hq2 : q = (1, 0, fcon ((25 : Nat) : Int), 1) := List.mem_singleton.mp hq
    subst hq2
    exact ⟨((25 : Nat) : Int), a1, _, c0.toInt, fcon_ok, ha1, ec0, ⟨by decide, c0, pc0, rfl⟩, rfl⟩
  · exact absurd hB List.not_mem_nil
theorem rb_ent1 : chk (TTs, KTx, KIx, rbW, Pm, 262, 12, 6, 737) (rbK 1) [rbC128 1, rbC168 2060, rbC217 2060] [] none 300 true 126 (spState [] (rbK 1).2.1 (rbK 1).2.2.1 [] []) 0 0 = true := by decide +kernel
theorem rb_ck1 : [rbC128 1, rbC168 2060].all (fun C => Nat.beq C.2.1.length (jmx 262) && chk (TTs, KTx, KIx, rbW, Pm, 262, 12, 6, 737) (rbK 1) ([rbC128 1, rbC168 2060] ++ [rbC217 2060]) [] (some C.2.2.2.2.1) 300 true C.1 (spState (kEnv (rbK 1)) C.2.1 C.2.2.1 C.2.2.2.1 C.2.2.2.2.2) 0 0) = true := by decide +kernel
theorem rc_ent1 : chk (TTs, KTx, KIx, rcW, Pm, 262, 12, 6, 737) (rcK 2060) [] [] none 300 true 222 (spState [] (rcK 2060).2.1 (rcK 2060).2.2.1 [] []) 0 0 = true := by decide +kernel
theorem pt_rb1 {W0 W1 : List aR} {bk0 bk : aB} {h0 h : jH} (hO : hOK TTs g (EIm n) W0 bk0 h0 bk h) {a1 : Nat} (ha1 : bk 1 = some a1) {x1 : Int32} (hx1 : (1 : Int) ≤ x1.toInt ∧ x1.toInt ≤ 60) {o2 : Option Value} {o3 : Option Value} {c0 : Int32} (hc0 : (1 : Int) ≤ c0.toInt ∧ c0.toInt ≤ 1) {fc0 : Nat → Int32} (ec0 : h[a1 + 1]? = some (.inl (0, 5270, fc0))) (pc0 : fc0 7 = c0) :
    PT TTs g (EIm n) W1 bk h [x1.toInt, c0.toInt] 262 [x1.toInt, c0.toInt] bk [some (.ref (g.2.2 + (a1 + 0))), some (.int x1), o2, o3] [] h (spState [] [some (2, 0, 0, 1, 0), some (0, 1, 60, 0, 0), none, none] [(1, 1, 7, 1, 1)] [] []) ∧ eIv [x1.toInt, c0.toInt] (spEnv [some (2, 0, 0, 1, 0), some (0, 1, 60, 0, 0), none, none] ++ clEnv [(1, 1, 7, 1, 1)]) := by
  have hI : eIv [x1.toInt, c0.toInt] (spEnv [some (2, 0, 0, 1, 0), some (0, 1, 60, 0, 0), none, none] ++ clEnv [(1, 1, 7, 1, 1)]) := by
    refine ⟨rfl, fun i e z he hz => ?_⟩
    match i, he, hz with
    | 0, he, hz => cases he; cases hz; exact hx1
    | 1, he, hz => cases he; cases hz; exact hc0
    | i + 2, he, _ => cases he
  refine ⟨⟨⟨hI, eFm_plain (plain_app (spEnv_plain _) clEnv_plain), fun F hF => absurd hF List.not_mem_nil, fun i v hv => ?_, trivial, fun q hq => ?_, fun B hB => ?_⟩, ⟨hO.1, hO.2.1, hO.2.2.1, UN.rf, fun _ _ q => q, hO.2.2.2.2.2⟩, (show 4 = jmx 262 by decide +kernel), fun i z hz => hz⟩, hI⟩
  · match i, hv with
    | 0, hv => cases hv; exact ⟨_, rfl, a1, ha1, rfl⟩
    | 1, hv => cases hv; exact ⟨_, rfl, x1, rfl, rfl⟩
    | 2, hv => cases hv
    | 3, hv => cases hv
    | i + 4, hv => cases hv
  · have hq2 : q = (1, 1, fcon ((7 : Nat) : Int), 1) := List.mem_singleton.mp hq
    subst hq2
    exact ⟨((7 : Nat) : Int), a1, _, c0.toInt, fcon_ok, ha1, ec0, ⟨by decide, congrArg Int32.toInt pc0⟩, rfl⟩
  · exact absurd hB List.not_mem_nil
theorem pt_rc1 {W0 W1 : List aR} {bk0 bk : aB} {h0 h : jH} (hO : hOK TTs g (EIm n) W0 bk0 h0 bk h) {a1 : Nat} (ha1 : bk 1 = some a1) {x1 : Int32} (hx1 : (1 : Int) ≤ x1.toInt ∧ x1.toInt ≤ 60) {o2 : Option Value} {o3 : Option Value} {c0 : Int32} (hc0 : (2060 : Int) ≤ c0.toInt ∧ c0.toInt ≤ 2060) {fc0 : List Value} (ec0 : h[a1 + 0]? = some (.inr (12, fc0))) (pc0 : fc0[25]? = some (.int c0)) :
    PT TTs g (EIm n) W1 bk h [x1.toInt, c0.toInt] 262 [x1.toInt, c0.toInt] bk [some (.ref (g.2.2 + (a1 + 0))), some (.int x1), o2, o3] [] h (spState [] [some (2, 0, 0, 1, 0), some (0, 1, 60, 0, 0), none, none] [(1, 0, 25, 2060, 2060)] [] []) ∧ eIv [x1.toInt, c0.toInt] (spEnv [some (2, 0, 0, 1, 0), some (0, 1, 60, 0, 0), none, none] ++ clEnv [(1, 0, 25, 2060, 2060)]) := by
  have hI : eIv [x1.toInt, c0.toInt] (spEnv [some (2, 0, 0, 1, 0), some (0, 1, 60, 0, 0), none, none] ++ clEnv [(1, 0, 25, 2060, 2060)]) := by
    refine ⟨rfl, fun i e z he hz => ?_⟩
    match i, he, hz with
    | 0, he, hz => cases he; cases hz; exact hx1
    | 1, he, hz => cases he; cases hz; exact hc0
    | i + 2, he, _ => cases he
  refine ⟨⟨⟨hI, eFm_plain (plain_app (spEnv_plain _) clEnv_plain), fun F hF => absurd hF List.not_mem_nil, fun i v hv => ?_, trivial, fun q hq => ?_, fun B hB => ?_⟩, ⟨hO.1, hO.2.1, hO.2.2.1, UN.rf, fun _ _ q => q, hO.2.2.2.2.2⟩, (show 4 = jmx 262 by decide +kernel), fun i z hz => hz⟩, hI⟩
  · match i, hv with
    | 0, hv => cases hv; exact ⟨_, rfl, a1, ha1, rfl⟩
    | 1, hv => cases hv; exact ⟨_, rfl, x1, rfl, rfl⟩
    | 2, hv => cases hv
    | 3, hv => cases hv
    | i + 4, hv => cases hv
  · have hq2 : q = (1, 0, fcon ((25 : Nat) : Int), 1) := List.mem_singleton.mp hq
    subst hq2
    exact ⟨((25 : Nat) : Int), a1, _, c0.toInt, fcon_ok, ha1, ec0, ⟨by decide, c0, pc0, rfl⟩, rfl⟩
  · exact absurd hB List.not_mem_nil
theorem pt_rr {W0 W1 : List aR} {bk0 bk : aB} {h0 h : jH} (hO : hOK TTs g (EIm n) W0 bk0 h0 bk h) {a1 : Nat} (ha1 : bk 1 = some a1) {o1 : Option Value} {o2 : Option Value} {o3 : Option Value} :
    PT TTs g (EIm n) W1 bk h [] 262 [] bk [some (.ref (g.2.2 + (a1 + 0))), o1, o2, o3] [] h (spState [] [some (2, 0, 0, 1, 0), none, none, none] [] [] []) ∧ eIv [] (spEnv [some (2, 0, 0, 1, 0), none, none, none] ++ clEnv []) := by
  have hI : eIv [] (spEnv [some (2, 0, 0, 1, 0), none, none, none] ++ clEnv []) := by
    refine ⟨rfl, fun i e z he hz => ?_⟩
    match i, he, hz with
    | i + 0, he, _ => cases he
  refine ⟨⟨⟨hI, eFm_plain (plain_app (spEnv_plain _) clEnv_plain), fun F hF => absurd hF List.not_mem_nil, fun i v hv => ?_, trivial, fun q hq => ?_, fun B hB => ?_⟩, ⟨hO.1, hO.2.1, hO.2.2.1, UN.rf, fun _ _ q => q, hO.2.2.2.2.2⟩, (show 4 = jmx 262 by decide +kernel), fun i z hz => hz⟩, hI⟩
  · match i, hv with
    | 0, hv => cases hv; exact ⟨_, rfl, a1, ha1, rfl⟩
    | 1, hv => cases hv
    | 2, hv => cases hv
    | 3, hv => cases hv
    | i + 4, hv => cases hv
  · exact absurd hq List.not_mem_nil
  · exact absurd hB List.not_mem_nil
set_option maxRecDepth 16384 in
/-- from 126 on -/
theorem rr_126_0 (hlow : ∀ (k : Nat) (K : aK), KTx[k]? = some K → kOK TTs g (EIm n) l K) {bk bk1 : aB} {h h1 : jH} (hO1 : hOK TTs g (EIm n) rrW bk h bk1 h1) {b E : Nat} (hb : bk1 1 = some b) {fs : List Value} (ho : h1[b + 0]? = some (.inr (12, fs))) (hE : fs[26]? = some (.int (Int32.ofInt (E : Int)))) (hE6 : E ≤ 60) {F : Nat → Int32} (hF : h1[b + 16]? = some (.inl (0, 360, F))) (hpos : ∀ f : Nat, f + 1 < 3 * E → 0 ≤ (F (180 + f)).toInt) {r : Nat → Int32} (hr : h1[b + 1]? = some (.inl (0, 5270, r))) {u : Int32} (hu : r 7 = u) (hu0 : u.toInt = 0) {x : Int32} (hx : 1 ≤ x.toInt ∧ x.toInt ≤ 60) {o2 o3 : Option Value} :
    J l g 262 6 126 [some (.ref (g.2.2 + (b + 0))), some (.int x), o2, o3] [] h1 0 0 (kPost TTs g (EIm n) rrK bk h []) := by
  have hcls : jcN 12 = (jyN 262).cls := by decide +kernel
  have hM : mOK TTs g (EIm n) Pm KTx l (rbK 0).1 12 737 := ⟨TTs_cl, TTs_sg, EIm_ok, hcls, fun k K hK _ => hlow k K hK⟩
  have hMc : mOK TTs g (EIm n) Pm KTx l (rcK 1130).1 12 737 := ⟨TTs_cl, TTs_sg, EIm_ok, hcls, fun k K hK _ => hlow k K hK⟩
  obtain ⟨hp, hI⟩ := pt_rb0 (W1 := rbW) (o2 := o2) (o3 := o3) hO1 hb (x1 := x) hx (c0 := u) (by omega) hr hu
  have hno : ∀ v h', kPost TTs g (EIm n) (rbK 0) bk1 h1 [x.toInt, u.toInt] v h' → kPost TTs g (EIm n) rrK bk h [] v h' := fun v h' hq => by
    obtain ⟨bk', os, k1, -, q, hq1, -⟩ := hq
    exact absurd hq1 List.not_mem_nil
  have hcut := cuts_okQ (l := l) (KI := KIx) (own := 12) (n := 737) (fuel := 300) (sp := []) (K := rbK 0) (bk0 := bk1) (h0 := h1) (ev := [x.toInt, u.toInt]) hM hI rfl hno rb_ck0 (fun C hC μ hμ => by
    rw [List.mem_singleton.mp hC]
    intro vs bk2 al h2 hp _
    obtain ⟨⟨i1, i2, i3, i4, i5, i6, i7⟩, hO2, hlen, hpre⟩ := hp
    have hlen : al.length = 4 := hlen.trans (show jmx 262 = 4 by decide +kernel)
    have hO2 : hOK TTs g (EIm n) rbW bk1 h1 bk2 h2 := hO2
    obtain ⟨a0, a1, a2, a3, hal⟩ := list4 hlen
    subst hal
    obtain ⟨w0, y0, b', hb2, rfl⟩ := i4 0 (2, 1, 0) rfl
    obtain ⟨w1, y1, s1, rfl, z1⟩ := i4 1 (0, 2, 0) rfl
    obtain ⟨w2, y2, s2, rfl, z2⟩ := i4 2 (0, 3, 0) rfl
    have r0 := Option.some.inj y0
    have r1 := Option.some.inj y1
    have r2 := Option.some.inj y2
    subst r0 r1 r2
    have hbx := hO2.2.2.2.2.1 1 b hb
    have hb2 : bk2 1 = some b' := hb2
    cases hbx.symm.trans hb2
    have j1 := i1.2 2 (eNew 1 60 none) _ rfl z1
    have j2 := i1.2 3 (eNew 0 1 none) _ rfl z2
    dsimp only [eNew] at j1 j2
    obtain ⟨z, b2, c2, xx, u1, u2, u3, u4, u5⟩ := i6 (1, 0, fcon ((25 : Nat) : Int), 4) List.mem_cons_self
    have j5 := i1.2 4 (eNew 1130 1130 none) _ rfl u5
    dsimp only [eNew] at j5
    have u2 : bk2 1 = some b2 := u2
    cases hbx.symm.trans u2
    obtain ⟨fs2, hc2, he2⟩ := hO2.fld (k := 26) hb ty_m0 ho (by decide)
    have u3 : h2[b + 0]? = some c2 := u3
    cases hc2.symm.trans u3
    have u1 : some (25 : Int) = some z := fcon_ok.symm.trans u1
    cases u1
    obtain ⟨-, bx, u6, u7⟩ := u4
    have u6 : fs2[25]? = some (.int bx) := u6
    obtain ⟨F2, hF2, hF2e⟩ := hO2.arr (lo := 180) (hi := 359) hb ty_m16 hF (by decide)
    have hO12 := hO1.tr (W' := rbW) (by decide) hO2
    show J l g 262 6 217 [some (.ref (g.2.2 + (b + 0))), some (.int s1), some (.int s2), a3] [] h2 0 0 (kPost TTs g (EIm n) rrK bk h [])
    refine j_aload_n (k4 := 0) (dQ (by decide +kernel)) rfl ?_
    refine j_iload_n (k4 := 2) (dQ (by decide +kernel)) rfl ?_
    refine j_cV (own := 12) (i := 322) (y2 := 268) (d2 := 1) (mc := 0) (ms := 0) (kc := 0) (ks := 0) (a := b + 0) (As := [.int s2]) (st := []) (dQ (by decide +kernel)) hcls (by decide +kernel) (by decide) (by decide +kernel) (show 1 = jnp 268 by decide +kernel) (by decide) (by decide) hc2 (fun r hr => by cases hr; decide +kernel)
      (to_run hlow hO2 hbx hc2 (he2.trans hE) hE6 hF2 (fun f hf => by rw [hF2e (180 + f) (by omega) (by omega)]; exact hpos f hf) j2) (fun v h3 hq => ?_)
    obtain ⟨rfl, bk3, k3⟩ := hq
    have hb3 := k3.2.2.2.2.1 1 b hbx
    obtain ⟨fs3, hc3, he3⟩ := k3.fld (k := 25) hbx ty_m0 hc2 (by decide)
    have hO3 := hO12.tr (W' := toW) (by decide) k3
    obtain ⟨hp3, hI3⟩ := pt_rc0 (W1 := rcW) (o2 := some (.int s2)) (o3 := a3) hO3 hb3 (x1 := s1) j1 (c0 := bx) (by omega) hc3 (he3.trans u6)
    exact chk_okQ (K := rcK 1130) (KI := KIx) (ev' := [s1.toInt, bx.toInt]) hMc hI3 rfl (fun i z hz => hz) (fun v h' hq => by
      obtain ⟨bk', os, k1, -, q, hq1, hq2⟩ := hq
      have hq3 : q = (0, 1, 60, 0, 0, []) := List.mem_singleton.mp hq1
      subst hq3
      obtain ⟨y, rfl, ⟨y1, y2⟩, -, -⟩ := hq2
      have y1 : 1 ≤ y.toInt := y1
      have y2 : y.toInt ≤ 60 := y2
      exact ⟨bk', [], hO3.tr (W' := rcW) (by decide) k1, ⟨rfl, fun j q x hj => by cases hj⟩, _, List.mem_cons_self, y, rfl, ⟨by show -6 ≤ _; omega, y2⟩, Or.inl rfl, fun F hF => absurd hF List.not_mem_nil⟩) (fun C hC => absurd hC List.not_mem_nil) 300 true 222 _ _ _ rc_ent0 _ bk3 _ [] h3 hp3)
  exact chk_okQ (KI := KIx) (ev' := [x.toInt, u.toInt]) hM hI rfl (fun i z hz => hz) hno (fun C hC μ' v1 _ => hcut C hC μ' v1) 300 true 126 _ _ _ rb_ent0 _ bk1 _ [] h1 hp
set_option maxRecDepth 16384 in
/-- from 126 on -/
theorem rr_126_1 (hlow : ∀ (k : Nat) (K : aK), KTx[k]? = some K → kOK TTs g (EIm n) l K) {bk bk1 : aB} {h h1 : jH} (hO1 : hOK TTs g (EIm n) rrW bk h bk1 h1) {b E : Nat} (hb : bk1 1 = some b) {fs : List Value} (ho : h1[b + 0]? = some (.inr (12, fs))) (hE : fs[26]? = some (.int (Int32.ofInt (E : Int)))) (hE6 : E ≤ 60) {F : Nat → Int32} (hF : h1[b + 16]? = some (.inl (0, 360, F))) (hpos : ∀ f : Nat, f + 1 < 3 * E → 0 ≤ (F (180 + f)).toInt) {r : Nat → Int32} (hr : h1[b + 1]? = some (.inl (0, 5270, r))) {u : Int32} (hu : r 7 = u) (hu0 : u.toInt = 1) {x : Int32} (hx : 1 ≤ x.toInt ∧ x.toInt ≤ 60) {o2 o3 : Option Value} :
    J l g 262 6 126 [some (.ref (g.2.2 + (b + 0))), some (.int x), o2, o3] [] h1 0 0 (kPost TTs g (EIm n) rrK bk h []) := by
  have hcls : jcN 12 = (jyN 262).cls := by decide +kernel
  have hM : mOK TTs g (EIm n) Pm KTx l (rbK 1).1 12 737 := ⟨TTs_cl, TTs_sg, EIm_ok, hcls, fun k K hK _ => hlow k K hK⟩
  have hMc : mOK TTs g (EIm n) Pm KTx l (rcK 2060).1 12 737 := ⟨TTs_cl, TTs_sg, EIm_ok, hcls, fun k K hK _ => hlow k K hK⟩
  obtain ⟨hp, hI⟩ := pt_rb1 (W1 := rbW) (o2 := o2) (o3 := o3) hO1 hb (x1 := x) hx (c0 := u) (by omega) hr hu
  have hno : ∀ v h', kPost TTs g (EIm n) (rbK 1) bk1 h1 [x.toInt, u.toInt] v h' → kPost TTs g (EIm n) rrK bk h [] v h' := fun v h' hq => by
    obtain ⟨bk', os, k1, -, q, hq1, -⟩ := hq
    exact absurd hq1 List.not_mem_nil
  have hcut := cuts_okQ (l := l) (KI := KIx) (own := 12) (n := 737) (fuel := 300) (sp := []) (K := rbK 1) (bk0 := bk1) (h0 := h1) (ev := [x.toInt, u.toInt]) hM hI rfl hno rb_ck1 (fun C hC μ hμ => by
    rw [List.mem_singleton.mp hC]
    intro vs bk2 al h2 hp _
    obtain ⟨⟨i1, i2, i3, i4, i5, i6, i7⟩, hO2, hlen, hpre⟩ := hp
    have hlen : al.length = 4 := hlen.trans (show jmx 262 = 4 by decide +kernel)
    have hO2 : hOK TTs g (EIm n) rbW bk1 h1 bk2 h2 := hO2
    obtain ⟨a0, a1, a2, a3, hal⟩ := list4 hlen
    subst hal
    obtain ⟨w0, y0, b', hb2, rfl⟩ := i4 0 (2, 1, 0) rfl
    obtain ⟨w1, y1, s1, rfl, z1⟩ := i4 1 (0, 2, 0) rfl
    obtain ⟨w2, y2, s2, rfl, z2⟩ := i4 2 (0, 3, 0) rfl
    have r0 := Option.some.inj y0
    have r1 := Option.some.inj y1
    have r2 := Option.some.inj y2
    subst r0 r1 r2
    have hbx := hO2.2.2.2.2.1 1 b hb
    have hb2 : bk2 1 = some b' := hb2
    cases hbx.symm.trans hb2
    have j1 := i1.2 2 (eNew 1 60 none) _ rfl z1
    have j2 := i1.2 3 (eNew 0 1 none) _ rfl z2
    dsimp only [eNew] at j1 j2
    obtain ⟨z, b2, c2, xx, u1, u2, u3, u4, u5⟩ := i6 (1, 0, fcon ((25 : Nat) : Int), 4) List.mem_cons_self
    have j5 := i1.2 4 (eNew 2060 2060 none) _ rfl u5
    dsimp only [eNew] at j5
    have u2 : bk2 1 = some b2 := u2
    cases hbx.symm.trans u2
    obtain ⟨fs2, hc2, he2⟩ := hO2.fld (k := 26) hb ty_m0 ho (by decide)
    have u3 : h2[b + 0]? = some c2 := u3
    cases hc2.symm.trans u3
    have u1 : some (25 : Int) = some z := fcon_ok.symm.trans u1
    cases u1
    obtain ⟨-, bx, u6, u7⟩ := u4
    have u6 : fs2[25]? = some (.int bx) := u6
    obtain ⟨F2, hF2, hF2e⟩ := hO2.arr (lo := 180) (hi := 359) hb ty_m16 hF (by decide)
    have hO12 := hO1.tr (W' := rbW) (by decide) hO2
    show J l g 262 6 217 [some (.ref (g.2.2 + (b + 0))), some (.int s1), some (.int s2), a3] [] h2 0 0 (kPost TTs g (EIm n) rrK bk h [])
    refine j_aload_n (k4 := 0) (dQ (by decide +kernel)) rfl ?_
    refine j_iload_n (k4 := 2) (dQ (by decide +kernel)) rfl ?_
    refine j_cV (own := 12) (i := 322) (y2 := 268) (d2 := 1) (mc := 0) (ms := 0) (kc := 0) (ks := 0) (a := b + 0) (As := [.int s2]) (st := []) (dQ (by decide +kernel)) hcls (by decide +kernel) (by decide) (by decide +kernel) (show 1 = jnp 268 by decide +kernel) (by decide) (by decide) hc2 (fun r hr => by cases hr; decide +kernel)
      (to_run hlow hO2 hbx hc2 (he2.trans hE) hE6 hF2 (fun f hf => by rw [hF2e (180 + f) (by omega) (by omega)]; exact hpos f hf) j2) (fun v h3 hq => ?_)
    obtain ⟨rfl, bk3, k3⟩ := hq
    have hb3 := k3.2.2.2.2.1 1 b hbx
    obtain ⟨fs3, hc3, he3⟩ := k3.fld (k := 25) hbx ty_m0 hc2 (by decide)
    have hO3 := hO12.tr (W' := toW) (by decide) k3
    obtain ⟨hp3, hI3⟩ := pt_rc1 (W1 := rcW) (o2 := some (.int s2)) (o3 := a3) hO3 hb3 (x1 := s1) j1 (c0 := bx) (by omega) hc3 (he3.trans u6)
    exact chk_okQ (K := rcK 2060) (KI := KIx) (ev' := [s1.toInt, bx.toInt]) hMc hI3 rfl (fun i z hz => hz) (fun v h' hq => by
      obtain ⟨bk', os, k1, -, q, hq1, hq2⟩ := hq
      have hq3 : q = (0, 1, 60, 0, 0, []) := List.mem_singleton.mp hq1
      subst hq3
      obtain ⟨y, rfl, ⟨y1, y2⟩, -, -⟩ := hq2
      have y1 : 1 ≤ y.toInt := y1
      have y2 : y.toInt ≤ 60 := y2
      exact ⟨bk', [], hO3.tr (W' := rcW) (by decide) k1, ⟨rfl, fun j q x hj => by cases hj⟩, _, List.mem_cons_self, y, rfl, ⟨by show -6 ≤ _; omega, y2⟩, Or.inl rfl, fun F hF => absurd hF List.not_mem_nil⟩) (fun C hC => absurd hC List.not_mem_nil) 300 true 222 _ _ _ rc_ent1 _ bk3 _ [] h3 hp3)
  exact chk_okQ (KI := KIx) (ev' := [x.toInt, u.toInt]) hM hI rfl (fun i z hz => hz) hno (fun C hC μ' v1 _ => hcut C hC μ' v1) 300 true 126 _ _ _ rb_ent1 _ bk1 _ [] h1 hp
set_option maxRecDepth 16384 in
theorem mrun_ok (hlow : ∀ (k : Nat) (K : aK), KTx[k]? = some K → kOK TTs g (EIm n) l K) {bk : aB} {h : jH} {b : Nat} (hT : HT TTs g bk h) (hD : BD TTs bk) (hE : EIm n bk h) (hb1 : ∀ B, B ≤ 1 → ∃ b, bk B = some b) (hb : bk 1 = some b) :
    jCal l g 262 6 [.ref (g.2.2 + (b + 0))] h 0 0 (kPost TTs g (EIm n) rrK bk h []) := by
  refine jCal_of (by decide +kernel) (show 1 ≤ jmx 262 by decide +kernel) ?_
  show J l g 262 6 0 [some (.ref (g.2.2 + (b + 0))), none, none, none] [] h 0 0 _
  have hcls : jcN 12 = (jyN 262).cls := by decide +kernel
  have hM : mOK TTs g (EIm n) Pm KTx l rrK.1 12 737 := ⟨TTs_cl, TTs_sg, EIm_ok, hcls, fun k K hK _ => hlow k K hK⟩
  have hO0 : hOK TTs g (EIm n) rrW bk h bk h := hOK.rf hT hD hE hb1
  obtain ⟨hp, hI⟩ := pt_rr (W1 := rrW) (o1 := none) (o2 := none) (o3 := none) hO0 hb
  have hcut := cuts_okQ (l := l) (KI := KIx) (own := 12) (n := 737) (fuel := 300) (sp := []) (K := rrK) (bk0 := bk) (h0 := h) (ev := []) hM hI rfl (fun v h' hq => hq) rr_ck (fun C hC μ hμ => by
    rw [List.mem_singleton.mp hC]
    intro vs bk2 al h2 hp _
    obtain ⟨⟨i1, i2, i3, i4, i5, i6, i7⟩, hO2, hlen, hpre⟩ := hp
    have hlen : al.length = 4 := hlen.trans (show jmx 262 = 4 by decide +kernel)
    have hO2 : hOK TTs g (EIm n) rrW bk h bk2 h2 := hO2
    obtain ⟨a0, a1, a2, a3, hal⟩ := list4 hlen
    subst hal
    obtain ⟨w0, y0, b', hb2, rfl⟩ := i4 0 (2, 1, 0) rfl
    obtain ⟨w1, y1, s1, rfl, z1⟩ := i4 1 (0, 0, 0) rfl
    have r0 := Option.some.inj y0
    have r1 := Option.some.inj y1
    subst r0 r1
    have hbx := hO2.2.2.2.2.1 1 b hb
    have hb2 : bk2 1 = some b' := hb2
    cases hbx.symm.trans hb2
    have j1 := i1.2 0 (eNew 1 60 none) _ rfl z1
    dsimp only [eNew] at j1
    obtain ⟨c, hc, fs, rfl, -, -⟩ := hO2.1 1 b 0 _ hbx ty_m0
    have hc : h2[b + 0]? = some (.inr (12, fs)) := hc
    obtain ⟨E0, hE0, e1, e2⟩ := m_int (q := 26) (lo := 0) (hi := 60) hO2.1 hbx hc rfl
    obtain ⟨E, hEq, hE6⟩ : ∃ E : Nat, E0 = Int32.ofInt (E : Int) ∧ E ≤ 60 := ⟨E0.toInt.toNat, i32_nat e1, by omega⟩
    subst hEq
    obtain ⟨r, hr, hrt⟩ := m_arr hO2.1 hbx ty_m1
    have ht7 : 0 ≤ (r 7).toInt ∧ (r 7).toInt ≤ 1 := hrt 7 (by decide) (7, 1, 1, [(0, 1)]) (by decide +kernel) (by decide) (by decide) (0, 1) rfl
    have c1 : (Int32.ofInt 1).toInt = 1 := by decide
    have hsub : (Int32.ofInt 1 - r 7).toInt = 1 - (r 7).toInt := by rw [i32_sub (by rw [c1]; omega) (by rw [c1]; omega), c1]
    show J l g 262 6 110 [some (.ref (g.2.2 + (b + 0))), some (.int s1), a2, a3] [] h2 0 0 (kPost TTs g (EIm n) rrK bk h [])
    refine j_aload_n (k4 := 0) (dQ (by decide +kernel)) rfl ?_
    refine j_iconst (n := 1) (dQ (by decide +kernel)) ?_
    refine j_aload_n (k4 := 0) (dQ (by decide +kernel)) rfl ?_
    refine j_get (own := 12) (i := 7) (ci := 12) (f := 2) (dQ (by decide +kernel)) hcls (by decide +kernel) hc (n12 2 (by decide)) (m_ref hO2.1 hbx hc rfl) ?_
    refine j_bipush (n := 7) (dQ (by decide +kernel)) ?_
    refine j_iald (dQ (by decide +kernel)) hr (i32_in (by decide) (by decide)) ?_
    rw [show ((Int8.ofInt 7).toInt32).toNatClampNeg = 7 by decide]
    refine j_isub (dQ (by decide +kernel)) ?_
    refine j_sipush (n := 180) (dQ (by decide +kernel)) ?_
    rw [show (Int16.ofInt 180).toInt32 = Int32.ofInt 180 by decide]
    refine j_cV (own := 12) (i := 319) (y2 := 263) (d2 := 5) (mc := 0) (ms := 0) (kc := 0) (ks := 0) (a := b + 0) (As := [.int (Int32.ofInt 1 - r 7), .int (Int32.ofInt 180)]) (st := []) (dQ (by decide +kernel)) hcls (by decide +kernel) (by decide) (by decide +kernel) (show 2 = jnp 263 by decide +kernel) (by decide) (by decide) hc (fun r hr => by cases hr; decide +kernel)
      (pb180_run hlow hO2 hbx hc hE0 hE6 (by omega)) (fun v h3 hq => ?_)
    obtain ⟨rfl, bk3, k3, F, hF, hpos⟩ := hq
    have hb3 := k3.2.2.2.2.1 1 b hbx
    obtain ⟨fs3, hc3, he3⟩ := k3.fld (k := 26) hbx ty_m0 hc (by decide)
    obtain ⟨r3, hr3, hr3e⟩ := k3.arr (lo := 0) (hi := 5269) hbx ty_m1 hr (by decide)
    have h7 : r3 7 = r 7 := hr3e 7 (by decide) (by decide)
    have hO3 := hO2.tr (W' := pbW) (by decide) k3
    have hu : (r 7).toInt = 0 ∨ (r 7).toInt = 1 := by omega
    rcases hu with hu | hu
    · exact rr_126_0 hlow hO3 hb3 hc3 (he3.trans hE0) hE6 hF hpos hr3 h7 hu j1
    · exact rr_126_1 hlow hO3 hb3 hc3 (he3.trans hE0) hE6 hF hpos hr3 h7 hu j1)
  exact chk_okQ (KI := KIx) (ev' := []) hM hI rfl (fun i z hz => hz) (fun v h' hq => hq) (fun C hC μ' v1 _ => hcut C hC μ' v1) 300 true 0 _ _ _ rr_ent _ bk _ [] h hp
end MQ
end
