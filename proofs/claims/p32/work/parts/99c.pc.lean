/-! the reference's parser: binds, settle -/
section PC
variable {l : Launch} {g : jG} {n : Int}
def bnF (z : Int) : Int := if z = 13 then 0 else if z = 12 then 1 else if z = 11 then 2 else 3
theorem c8_13 : ((Int8.ofInt 13).toInt32).toInt = 13 := by decide
theorem c8_12 : ((Int8.ofInt 12).toInt32).toInt = 12 := by decide
theorem c8_11 : ((Int8.ofInt 11).toInt32).toInt = 11 := by decide
theorem binds_run {d : Nat} {h : jH} {x : Int32} : jCal l g 233 d [.int x] h 0 0 (fun v h' => h' = h ∧ v = some (.int (Int32.ofInt (bnF x.toInt)))) := by
  refine jCal_of (by decide +kernel) (show 1 ≤ jmx 233 by decide +kernel) ?_
  show J l g 233 d 0 [some (.int x)] [] h 0 0 _
  refine j_iload_n (k4 := 0) (by decide +kernel) rfl ?_
  refine j_bipush (n := 13) (by decide +kernel) ?_
  refine j_icmp_ne (off := 7) (tgt := 10) (by decide +kernel) (by decide) (fun e1 => ?_) (fun e1 => ?_)
  · have a1 : ¬ x.toInt = 13 := fun q => e1 (i32_eq (q.trans c8_13.symm))
    refine j_iload_n (k4 := 0) (by decide +kernel) rfl ?_
    refine j_bipush (n := 12) (by decide +kernel) ?_
    refine j_icmp_ne (off := 7) (tgt := 20) (by decide +kernel) (by decide) (fun e2 => ?_) (fun e2 => ?_)
    · have a2 : ¬ x.toInt = 12 := fun q => e2 (i32_eq (q.trans c8_12.symm))
      refine j_iload_n (k4 := 0) (by decide +kernel) rfl ?_
      refine j_bipush (n := 11) (by decide +kernel) ?_
      refine j_icmp_ne (off := 7) (tgt := 30) (by decide +kernel) (by decide) (fun e3 => ?_) (fun e3 => ?_)
      · have a3 : ¬ x.toInt = 11 := fun q => e3 (i32_eq (q.trans c8_11.symm))
        refine j_iconst (n := 3) (by decide +kernel) ?_
        exact j_ret (v := some (.int (Int32.ofInt 3))) ⟨by decide +kernel, Or.inl (by decide +kernel)⟩ ⟨rfl, by rw [bnF, if_neg a1, if_neg a2, if_neg a3]⟩ rfl
      · have a3 : x.toInt = 11 := by rw [Classical.not_not.mp e3]; exact c8_11
        refine j_iconst (n := 2) (by decide +kernel) ?_
        refine j_goto (off := 4) (tgt := 31) (by decide +kernel) (by decide) ?_
        exact j_ret (v := some (.int (Int32.ofInt 2))) ⟨by decide +kernel, Or.inl (by decide +kernel)⟩ ⟨rfl, by rw [bnF, if_neg a1, if_neg a2, if_pos a3]⟩ rfl
    · have a2 : x.toInt = 12 := by rw [Classical.not_not.mp e2]; exact c8_12
      refine j_iconst (n := 1) (by decide +kernel) ?_
      refine j_goto (off := 14) (tgt := 31) (by decide +kernel) (by decide) ?_
      exact j_ret (v := some (.int (Int32.ofInt 1))) ⟨by decide +kernel, Or.inl (by decide +kernel)⟩ ⟨rfl, by rw [bnF, if_neg a1, if_pos a2]⟩ rfl
  · have a1 : x.toInt = 13 := by rw [Classical.not_not.mp e1]; exact c8_13
    refine j_iconst (n := 0) (by decide +kernel) ?_
    refine j_goto (off := 24) (tgt := 31) (by decide +kernel) (by decide) ?_
    exact j_ret (v := some (.int (Int32.ofInt 0))) ⟨by decide +kernel, Or.inl (by decide +kernel)⟩ ⟨rfl, by rw [bnF, if_pos a1]⟩ rfl
theorem bnF_b (z : Int) : 0 ≤ bnF z ∧ bnF z ≤ 3 := by
  unfold bnF
  repeat' split
  all_goals omega
set_option maxRecDepth 16384 in
theorem settle_loop {bk : aB} {h : jH} {b T F G s be q w cm : Nat} {N P : Nat → Int32} (hb : bk 1 = some b) {le : Int32} {R : (Nat → Int32) → (Nat → Int32) → Nat → Nat → Prop} {Q : Option Value → jH → Prop} {d : Nat} (hd : 1 ≤ d) (hcm : cm ≤ 400)
    (hstep : ∀ O A c m, R O A c (m + 1) → le.toInt ≤ bnF (P m).toInt → R (upd O c (P m)) (upd A c 0) (c + 1) m)
    (hQ : ∀ bk' h' c' m' O' A', hOK TTs g (EIm n) pW bk h bk' h' → pS h' b T F G s be q c' m' w N O' A' P → c' + m' = cm → R O' A' c' m' → (m' = 0 ∨ bnF (P (m' - 1)).toInt < le.toInt) → Q none h') :
    ∀ (m c : Nat) (O A : Nat → Int32) (bk1 : aB) (h1 : jH), c + m = cm → hOK TTs g (EIm n) pW bk h bk1 h1 → pS h1 b T F G s be q c m w N O A P → R O A c m → J l g 232 d 0 [some (.ref (g.2.2 + (b + 0))), some (.int le)] [] h1 0 0 Q := by
  have hcls : jcN 12 = (jyN 232).cls := by decide +kernel
  intro m
  induction m with
  | zero =>
    intro c O A bk1 h1 e1 hO hS hR
    have hS0 := hS
    obtain ⟨⟨fs, ho, f6, f7, f8, f9, f12, f13, f15, f20, f21⟩, s5, s6, s7, s8⟩ := hS
    refine j_aload_n (k4 := 0) (by decide +kernel) rfl ?_
    refine j_get (own := 12) (i := 178) (ci := 12) (f := 20) (by decide +kernel) hcls (by decide +kernel) ho (n12 20 (by decide)) f20 ?_
    refine j_if_le (off := 48) (tgt := 52) (by decide +kernel) (by decide) (fun _ => ?_) (fun z => absurd (show Int32.ofInt ((0 : Nat) : Int) ≤ 0 by decide) z)
    exact j_ret (v := none) ⟨by decide +kernel, by decide +kernel⟩ (hQ bk1 h1 c 0 O A hO hS0 e1 hR (Or.inl rfl)) rfl
  | succ m ih =>
    intro c O A bk1 h1 e1 hO hS hR
    have hS0 := hS
    obtain ⟨⟨fs, ho, f6, f7, f8, f9, f12, f13, f15, f20, f21⟩, s5, s6, s7, s8⟩ := hS
    have hb1 := hO.2.2.2.2.1 1 b hb
    have hmt : (Int32.ofInt ((m + 1 : Nat) : Int)).toInt = ((m + 1 : Nat) : Int) := i32_n (by omega)
    have hm0 : (Int32.ofInt (m : Int)).toInt = (m : Int) := i32_n (by omega)
    have hsub : Int32.ofInt ((m + 1 : Nat) : Int) - Int32.ofInt 1 = Int32.ofInt (m : Int) := i32_sub1 (by omega)
    refine j_aload_n (k4 := 0) (by decide +kernel) rfl ?_
    refine j_get (own := 12) (i := 178) (ci := 12) (f := 20) (by decide +kernel) hcls (by decide +kernel) ho (n12 20 (by decide)) f20 ?_
    refine j_if_le (off := 48) (tgt := 52) (by decide +kernel) (by decide) (fun z => absurd (le32.mp z) (by rw [hmt, i32z]; omega)) (fun _ => ?_)
    refine j_aload_n (k4 := 0) (by decide +kernel) rfl ?_
    refine j_get (own := 12) (i := 36) (ci := 12) (f := 19) (by decide +kernel) hcls (by decide +kernel) ho (n12 19 (by decide)) (m_ref hO.1 hb1 ho rfl) ?_
    refine j_aload_n (k4 := 0) (by decide +kernel) rfl ?_
    refine j_get (own := 12) (i := 178) (ci := 12) (f := 20) (by decide +kernel) hcls (by decide +kernel) ho (n12 20 (by decide)) f20 ?_
    refine j_iconst (n := 1) (by decide +kernel) ?_
    refine j_isub (by decide +kernel) ?_
    rw [hsub]
    refine j_iald (by decide +kernel) s8 (i32_in (by rw [hm0]; omega) (by rw [hm0]; omega)) ?_
    rw [i32_at hm0]
    refine j_callS' (own := 12) (i := 181) (y2 := 233) (d2 := 0) (mc := 0) (ms := 0) (kc := 0) (ks := 0) (As := [.int (P m)]) (st := []) (by decide +kernel) hcls (by decide +kernel) (by decide) (by decide +kernel) (show 1 = jnp 233 by decide +kernel) (by omega) (by decide) binds_run (fun v h2 hq => ?_)
    obtain ⟨rfl, rfl⟩ := hq
    have hbb := bnF_b (P m).toInt
    have hbt : (Int32.ofInt (bnF (P m).toInt)).toInt = bnF (P m).toInt := i32_ofInt (by omega) (by omega)
    refine j_iload_n (k4 := 1) (by decide +kernel) rfl ?_
    refine j_icmp_lt (off := 30) (tgt := 52) (by decide +kernel) (by decide) (fun z => ?_) (fun z => ?_)
    · have z1 := i32_lt.mp z
      rw [hbt] at z1
      exact j_ret (v := none) ⟨by decide +kernel, by decide +kernel⟩ (hQ bk1 _ c (m + 1) O A hO hS0 e1 hR (Or.inr z1)) rfl
    · have z1 : le.toInt ≤ bnF (P m).toInt := by
        have z2 := fun q => z (i32_lt.mpr q)
        rw [hbt] at z2
        exact Int.not_lt.mp z2
      refine j_aload_n (k4 := 0) (by decide +kernel) rfl ?_
      refine j_dup (by decide +kernel) rfl ?_
      refine j_get (own := 12) (i := 178) (ci := 12) (f := 20) (by decide +kernel) hcls (by decide +kernel) ho (n12 20 (by decide)) f20 ?_
      refine j_iconst (n := 1) (by decide +kernel) ?_
      refine j_isub (by decide +kernel) ?_
      rw [hsub]
      refine j_put (own := 12) (i := 178) (ci := 12) (f := 20) (by decide +kernel) hcls (by decide +kernel) ho rfl (by decide +kernel) (by rw [mf_len hO.1 hb1 ho]; decide) (by decide +kernel) (ty := .int) (by decide +kernel) rfl rfl ?_
      have hO2 := hO.sf (k := 20) (v := Int32.ofInt (m : Int)) hb1 ty_m0 ho (show mTs[20]? = some (0, 0, 400, 0, 0) from rfl) (by omega) (by omega) (by decide) (by decide)
      have hS2 := hS0.setF (pF.set20 (x := m) ⟨f6, f7, f8, f9, f12, f13, f15, f20, f21⟩)
      have ho2 := List.getElem?_set_self (l := h2) (i := b + 0) (a := .inr (12, fs.set 20 (iN m))) (List.getElem?_eq_some_iff.mp ho).1
      have g20 : (fs.set 20 (iN m))[20]? = some (iN m) := List.getElem?_set_self (by rw [mf_len hO.1 hb1 ho]; decide)
      have hO2 : hOK TTs g (EIm n) pW bk h bk1 (h2.set (b + 0) (.inr (12, fs.set 20 (iN m)))) := hO2
      show J l g 232 d 35 [some (.ref (g.2.2 + (b + 0))), some (.int le)] [] (h2.set (b + 0) (.inr (12, fs.set 20 (iN m)))) 0 0 Q
      generalize h2.set (b + 0) (.inr (12, fs.set 20 (iN m))) = h3 at hO2 hS2 ho2
      generalize fs.set 20 (iN m) = fs3 at ho2 g20
      refine j_aload_n (k4 := 0) (by decide +kernel) rfl ?_
      refine j_aload_n (k4 := 0) (by decide +kernel) rfl ?_
      refine j_get (own := 12) (i := 36) (ci := 12) (f := 19) (by decide +kernel) hcls (by decide +kernel) ho2 (n12 19 (by decide)) (m_ref hO2.1 hb1 ho2 rfl) ?_
      refine j_aload_n (k4 := 0) (by decide +kernel) rfl ?_
      refine j_get (own := 12) (i := 178) (ci := 12) (f := 20) (by decide +kernel) hcls (by decide +kernel) ho2 (n12 20 (by decide)) g20 ?_
      refine j_iald (by decide +kernel) hS2.2.2.2.2 (i32_in (by rw [hm0]; omega) (by rw [hm0]; omega)) ?_
      rw [i32_at hm0]
      refine j_iconst (n := 0) (by decide +kernel) ?_
      have hPm : 0 ≤ (P m).toInt ∧ (P m).toInt ≤ 13 := by
        obtain ⟨P3, hP3, hP3t⟩ := m_arr hO2.1 hb1 ty_m8
        cases hS2.2.2.2.2.symm.trans hP3
        exact hP3t m (by omega) _ List.mem_cons_self (by show 0 ≤ _; omega) (by show _ < 0 + 400; omega) (0, 13) (by rw [Nat.mod_one]; rfl)
      refine j_callV (own := 12) (i := 184) (y2 := 231) (d2 := 0) (mc := 0) (ms := 0) (kc := 0) (ks := 0) (a := b + 0) (As := [.int (P m), .int (Int32.ofInt 0)]) (st := []) (by decide +kernel) hcls (by decide +kernel) (by decide) (by decide +kernel) (by decide +kernel) (by decide +kernel) (by decide +kernel) (by decide +kernel) (show 2 = jnp 231 by decide +kernel) (by omega) (by decide) ho2 (fun r hr => by cases hr; decide +kernel) (emit_run hO2 hb1 hS2 (by omega) hPm (by decide)) (fun v h4 hq => ?_)
      obtain ⟨rfl, bk4, k4, k5⟩ := hq
      refine j_goto (off := -49) (tgt := 0) (by decide +kernel) (by decide) ?_
      exact ih (c + 1) _ _ bk4 h4 (by omega) (hO2.tr (by decide) k4) k5 (hstep O A c m hR z1)
theorem settle_run {W0 : List aR} {bk0 bk : aB} {h0 h : jH} (hO : hOK TTs g (EIm n) W0 bk0 h0 bk h) {b T F G s be q c m w : Nat} {N O A P : Nat → Int32} (hb : bk 1 = some b) (hS : pS h b T F G s be q c m w N O A P) (hcm : c + m ≤ 400) {le : Int32} {R : (Nat → Int32) → (Nat → Int32) → Nat → Nat → Prop} {d : Nat} (hd : 1 ≤ d) (hR : R O A c m)
    (hstep : ∀ O A c m, R O A c (m + 1) → le.toInt ≤ bnF (P m).toInt → R (upd O c (P m)) (upd A c 0) (c + 1) m) :
    jCal l g 232 d [.ref (g.2.2 + (b + 0)), .int le] h 0 0 (fun v h' => v = none ∧ ∃ bk' c' m' O' A', hOK TTs g (EIm n) pW bk h bk' h' ∧ pS h' b T F G s be q c' m' w N O' A' P ∧ c' + m' = c + m ∧ R O' A' c' m' ∧ (m' = 0 ∨ bnF (P (m' - 1)).toInt < le.toInt)) := by
  refine jCal_of (by decide +kernel) (show 2 ≤ jmx 232 by decide +kernel) ?_
  show J l g 232 d 0 [some (.ref (g.2.2 + (b + 0))), some (.int le)] [] h 0 0 _
  exact settle_loop (cm := c + m) hb hd hcm hstep (fun bk' h' c' m' O' A' a1 a2 a3 a4 a5 => ⟨rfl, bk', c', m', O', A', a1, a2, a3, a4, a5⟩) m c O A bk h rfl (hOK.rf hO.1 hO.2.1 hO.2.2.1 hO.2.2.2.2.2) hS hR
end PC
