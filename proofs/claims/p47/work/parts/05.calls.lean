
theorem jtbl_good {ws : List Cond} (h : ∀ w ∈ ws, w ∈ jtb) : GoodIn jtb ws := fun w hw => ⟨h w hw, good_of_word (List.mem_filter.mp (h w hw)).2⟩
theorem jws_good {y : Nat} (hy : y ∈ jeC) : GoodIn jtb (jws y) := jtbl_good (fun w hw => by
  rcases List.mem_cons.mp hw with rfl | h
  · exact jeC_in _ hy
  · exact h)
theorem jPc_blind {g : jG} {av : List Value} {h : jH} : FrameBlind (va_Pc av (fun U => jhr g h U.heap ∧ jK g U)) := fun a U f mk q => ⟨q.1, q.2.1, va_K.moved (u := U) (U := U.calling f mk a) (Vm.Alike.refl U.vm) q.2.2.1, fun z hz => va_Nw.same rfl rfl (q.2.2.2.1 z hz), jSg.go (s := U) (U := U.calling f mk a) (Vm.Alike.refl U.vm) (fun i _ hi => vk_R.same rfl hi) (fun _ _ => rfl) q.2.2.2.2⟩
section JC
variable {l : Launch} {g : jG} {y d pc : Nat} {al : List (Option Value)} {st : List Value} {h : jH} {kc ks : Nat} {Q : Option Value → jH → Prop}
theorem jst_room {m : MethodId} {ls : Array Slot} {st0 st : List Value} (hst : (st.map fun v => v.category).sum ≤ 8) : 2 * (F0 m pc ls st0).monitorRoom + (st.map fun v => v.category).sum ≤ 8 := by
  have : (F0 m pc ls st0).monitorRoom = 0 := rfl
  omega
theorem j_after {p : Program} {e : Env} {R : Room} {s : State} {m : MethodId} {args : Array Value} {below : List Frame} {meth : Method} {c : Code} {Z : State → Prop} {MC MS mc ms : Nat} {Q' : Option Value → jH → Prop} {H : Heap} {locs : List Loc} {cells slots : Nat} {ls : Array Slot} {st0 : List Value} {av : Array Value}
    (X : jX p s m args meth c y) (K : jK g s) (r1 : d ≤ R.frames) (r2 : 64 * d ≤ R.locals) (r3 : MC ≤ R.cells) (r4 : MS ≤ R.slots) (hZ : jZ p l e R s m args below meth c g y MC MS Z Q) (hW : jW g s h H locs) (hl : jls ls y al) (c1 : cells + (mc + kc) ≤ MC) (c2 : slots + (ms + ks) ≤ MS)
    (hr : va_Run p l e R s m args below meth c H locs cells slots mc ms (F0 m pc ls st0) st (jQc g Q' av) (fun q => g.2.2 ≤ q))
    (k : ∀ (v : Option Value) (h' : jH), Q' v h' → J l g y d (pc + 3) al (v.toList ++ st) h' kc ks Q) : W p l e R s m args below meth c H locs cells slots Z (F0 m pc ls st0) := by
  intro T hT X0
  obtain ⟨v, st₀, t, T', L, h0, X', hL, e1, e2, ⟨v', h', hv, hq, hh, hf⟩, go⟩ := hr T hT X0
  cases hv
  obtain ⟨t2, a1, b1⟩ := k v h' hq p e R s m args below meth c Z MC MS X K r1 r2 r3 r4 hZ T'.heap (locs ++ L) (cells + mc) (slots + ms) ls ⟨by rw [e1]; exact hh, fun q hlt => by rw [e1, hf q hlt, h0]; exact hW.2.1 q hlt, hW.2.2.1, fun q hq => by
    rcases List.mem_append.mp hq with z | z
    · exact hW.2.2.2 q z
    · exact hL q z⟩ hl (by omega) (by omega) T' rfl X'
  exact ⟨t2, go t2 a1, b1⟩
theorem jPc_ok {s : State} {H : Heap} {locs : List Loc} {av : List Value} (K : jK g s) (hW : jW g s h H locs) : ∀ U : State, U.heap = H → s.WarmedH U.vm → va_Pc av (fun U => jhr g h U.heap ∧ jK g U) av.toArray U := fun U hU hw => ⟨rfl, by rw [hU]; exact hW.1, K.warm hw (fun q hq => by rw [hU]; exact hW.2.1 q hq)⟩
set_option maxHeartbeats 2000000 in
theorem j_callV {own i y2 a d2 mc ms : Nat} {As : List Value} {ci : Nat} {fs : List Value} {Q' : Option Value → jH → Prop} (hd : decode (jbC y) pc = .ok (.invokevirtual i, 3)) (ho : jcN own = (jyN y).cls) (hm : (own, i, y2) ∈ jeM) (hy : y2 < jNM) (hyC : y2 ∈ jeC) (hyS : y2 ∈ jeS) (hyK : y2 ∈ jeK) (hk0 : jkd y2 = 0) (hyI : y2 ∈ jeI) (hn : As.length = jnp y2) (hd2 : d2 + 1 ≤ d) (hst : (st.map fun v => v.category).sum ≤ 8)
    (hc : h[a]? = some (.inr (ci, fs))) (hcl : ∀ r, jcl[ci]? = some r → r.1 = (jyN y2).cls) (hM : jCal l g y2 d2 (.ref (g.2.2 + a) :: As) h mc ms Q')
    (k : ∀ (v : Option Value) (h' : jH), Q' v h' → J l g y d (pc + 3) al (v.toList ++ st) h' kc ks Q) : J l g y d pc al (As.reverse ++ .ref (g.2.2 + a) :: st) h (mc + kc) (ms + ks) Q := by
  intro p e R s m args below meth c Z MC MS X K r1 r2 r3 r4 hZ H locs cells slots ls hW hl c1 c2
  obtain ⟨p2, p3, p4, p5⟩ := jplain y2 hy
  have hts := X.2.2.2.2.2.1
  have hkw := hts _ (jeK_in _ hyK)
  rw [jwKind, if_neg (by rw [hk0]; decide)] at hkw
  have hB : CallB R s args (jcN own) i (jyN y2) (jbC y2) (jmx y2) (jrT y2) (jws y2) { frames := d2, cells := mc, slots := ms, locals := 64 * d2 } mc ms (jnp y2) := callB_of (ws' := jtb) (jnp y2) hts (jws_good hyC) rfl rfl rfl (hts _ (jeI_in _ hyI)) (hts _ (jeM_in _ hm)) ⟨p2, p3, p4⟩ ⟨by show d2 + 1 ≤ _; omega, by show 8 + (jmx y2 + 11) + 64 * d2 ≤ _; omega⟩
  have hat := hW.1.2 a _ hc
  obtain ⟨r, hr, cell, q1, q2, q3, -⟩ := jcl_of hat
  have hrun := va_runV (p := p) (l := l) (e := e) (R := R) (s := s) (m := m) (args := args) (below := below) (meth := meth) (c := c) (H := H) (locs := locs) (cells := cells) (slots := slots) (C := (jyN y2).cls) (b := g.2.2 + a) (As := As) (rest := st) (g := F0 m pc ls (As.reverse ++ .ref (g.2.2 + a) :: st)) (nL := jmx y) (Ts := jtb) ⟨X.1, X.2.1, X.2.2.1, j_own X ho, hts⟩ hM ⟨hB, hkw, hts _ (jeS_in _ hyS)⟩
    ⟨jPc_blind, ⟨cell, q1, by rw [q3]; rfl, by rw [q2, ← hcl r hr]; exact (K.1.1 ci r hr).2.1⟩, jPc_ok K hW⟩ rfl hn hl.1 rfl (jst_room hst) hd ⟨by omega, by omega⟩
  exact j_after X K r1 r2 r3 r4 hZ hW hl c1 c2 hrun k
set_option maxHeartbeats 2000000 in
theorem j_callS {own i y2 d2 mc ms : Nat} {As : List Value} {Q' : Option Value → jH → Prop} (hd : decode (jbC y) pc = .ok (.invokestatic i, 3)) (ho : jcN own = (jyN y).cls) (hm : (own, i, y2) ∈ jeM) (hy : y2 < jNM) (hyC : y2 ∈ jeC) (hyK : y2 ∈ jeK) (hk0 : jkd y2 = 1) (hyI : y2 ∈ jeI) (hn : As.length = jnp y2) (hd2 : d2 + 1 ≤ d) (hst : (st.map fun v => v.category).sum ≤ 8) (hM : jCal l g y2 d2 As h mc ms Q')
    (k : ∀ (v : Option Value) (h' : jH), Q' v h' → J l g y d (pc + 3) al (v.toList ++ st) h' kc ks Q) : J l g y d pc al (As.reverse ++ st) h (mc + kc) (ms + ks) Q := by
  intro p e R s m args below meth c Z MC MS X K r1 r2 r3 r4 hZ H locs cells slots ls hW hl c1 c2
  obtain ⟨p2, p3, p4, p5⟩ := jplain y2 hy
  have hts := X.2.2.2.2.2.1
  have hkw := hts _ (jeK_in _ hyK)
  rw [jwKind, if_pos hk0] at hkw
  have hB : CallB R s args (jcN own) i (jyN y2) (jbC y2) (jmx y2) (jrT y2) (jws y2) { frames := d2, cells := mc, slots := ms, locals := 64 * d2 } mc ms (jnp y2) := callB_of (ws' := jtb) (jnp y2) hts (jws_good hyC) rfl rfl rfl (hts _ (jeI_in _ hyI)) (hts _ (jeM_in _ hm)) ⟨p2, p3, p4⟩ ⟨by show d2 + 1 ≤ _; omega, by show 8 + (jmx y2 + 11) + 64 * d2 ≤ _; omega⟩
  have hrun := va_runS (p := p) (l := l) (e := e) (R := R) (s := s) (m := m) (args := args) (below := below) (meth := meth) (c := c) (H := H) (locs := locs) (cells := cells) (slots := slots) (As := As) (rest := st) (g := F0 m pc ls (As.reverse ++ st)) (nL := jmx y) (Ts := jtb) ⟨X.1, X.2.1, X.2.2.1, j_own X ho, hts⟩ hM ⟨hB, hkw⟩
    ⟨jPc_blind, jPc_ok K hW⟩ rfl hn hl.1 rfl (jst_room hst) hd ⟨by omega, by omega⟩
  exact j_after X K r1 r2 r3 r4 hZ hW hl c1 c2 hrun k
set_option maxHeartbeats 2000000 in
theorem j_callI {own i y2 a d2 mc ms : Nat} {As : List Value} {Q' : Option Value → jH → Prop} (hd : decode (jbC y) pc = .ok (.invokespecial i, 3)) (ho : jcN own = (jyN y).cls) (hm : (own, i, y2) ∈ jeM) (hy : y2 < jNM) (hyC : y2 ∈ jeC) (hyK : y2 ∈ jeK) (hk0 : jkd y2 = 2) (hr0 : jrT y2 = none) (hi0 : (jyN y2).name = "<init>") (hyI : y2 ∈ jeI) (hn : As.length = jnp y2) (hd2 : d2 + 1 ≤ d) (hst : (st.map fun v => v.category).sum ≤ 8) (hM : jCal l g y2 d2 (.ref (g.2.2 + a) :: As) h mc ms Q')
    (k : ∀ (v : Option Value) (h' : jH), Q' v h' → J l g y d (pc + 3) al (v.toList ++ st) h' kc ks Q) : J l g y d pc al (As.reverse ++ .ref (g.2.2 + a) :: st) h (mc + kc) (ms + ks) Q := by
  intro p e R s m args below meth c Z MC MS X K r1 r2 r3 r4 hZ H locs cells slots ls hW hl c1 c2
  obtain ⟨p2, p3, p4, p5⟩ := jplain y2 hy
  have hts := X.2.2.2.2.2.1
  have hkw := hts _ (jeK_in _ hyK)
  rw [jwKind, if_neg (by rw [hk0]; decide)] at hkw
  have hB : CallB R s args (jcN own) i (jyN y2) (jbC y2) (jmx y2) none (jws y2) { frames := d2, cells := mc, slots := ms, locals := 64 * d2 } mc ms (jnp y2) := callB_of (ws' := jtb) (jnp y2) hts (jws_good hyC) (by rw [jws, jwCode, hr0]) rfl rfl (hts _ (jeI_in _ hyI)) (hts _ (jeM_in _ hm)) ⟨p2, p3, p4⟩ ⟨by show d2 + 1 ≤ _; omega, by show 8 + (jmx y2 + 11) + 64 * d2 ≤ _; omega⟩
  have hrun := va_runI (p := p) (l := l) (e := e) (R := R) (s := s) (m := m) (args := args) (below := below) (meth := meth) (c := c) (H := H) (locs := locs) (cells := cells) (slots := slots) (b := g.2.2 + a) (As := As) (rest := st) (g := F0 m pc ls (As.reverse ++ .ref (g.2.2 + a) :: st)) (nL := jmx y) (Ts := jtb) ⟨X.1, X.2.1, X.2.2.1, j_own X ho, hts⟩ hM ⟨hB, hi0, hkw⟩
    ⟨jPc_blind, jPc_ok (av := .ref (g.2.2 + a) :: As) K hW⟩ rfl hn hl.1 rfl (jst_room hst) hd ⟨by omega, by omega⟩
  exact j_after X K r1 r2 r3 r4 hZ hW hl c1 c2 hrun k
set_option maxHeartbeats 2000000 in
theorem j_callIN {own i y2 a d2 mc ms : Nat} {As : List Value} {Q' : Option Value → jH → Prop} (hd : decode (jbC y) pc = .ok (.invokespecial i, 3)) (ho : jcN own = (jyN y).cls) (hm : (own, i, y2) ∈ jeN) (hy : y2 < jNM) (hyC : y2 ∈ jeC) (hyK : y2 ∈ jeK) (hk0 : jkd y2 = 2) (hr0 : jrT y2 = none) (hi0 : (jyN y2).name = "<init>") (hyI : y2 ∈ jeI) (hn : As.length = jnp y2) (hd2 : d2 + 1 ≤ d) (hst : (st.map fun v => v.category).sum ≤ 8) (hM : jCal l g y2 d2 (.ref (g.2.2 + a) :: As) h mc ms Q')
    (k : ∀ (v : Option Value) (h' : jH), Q' v h' → J l g y d (pc + 3) al (v.toList ++ st) h' kc ks Q) : J l g y d pc al (As.reverse ++ .ref (g.2.2 + a) :: st) h (mc + kc) (ms + ks) Q := by
  intro p e R s m args below meth c Z MC MS X K r1 r2 r3 r4 hZ H locs cells slots ls hW hl c1 c2
  obtain ⟨p2, p3, p4, p5⟩ := jplain y2 hy
  have hts := X.2.2.2.2.2.1
  have hkw := hts _ (jeK_in _ hyK)
  rw [jwKind, if_neg (by rw [hk0]; decide)] at hkw
  have hcode := hts _ (jeC_in _ hyC)
  rw [jwCode, hr0] at hcode
  have hB : va_CN R s args (jcN own) i (jyN y2) "TrainDescriber" (jbC y2) (jmx y2) none (jws y2) { frames := d2, cells := mc, slots := ms, locals := 64 * d2 } mc ms (jnp y2) := ⟨⟨rfl, rfl, by show d2 + 1 ≤ _; omega, by show 8 + (jmx y2 + 11) + 64 * d2 ≤ _; omega, pay_in hts (jws_good hyC), by rw [jws, jwCode, hr0]; exact List.mem_cons_self⟩, hcode, hts _ (jeI_in _ hyI), ⟨p2, p3⟩, fun sig hs => by rw [hs] at p4; exact (Option.some.inj p4).symm, va_Nw.use rfl (K.2.1 _ hm)⟩
  have hrun := va_runIN (p := p) (l := l) (e := e) (R := R) (s := s) (m := m) (args := args) (below := below) (meth := meth) (c := c) (H := H) (locs := locs) (cells := cells) (slots := slots) (b := g.2.2 + a) (As := As) (rest := st) (g := F0 m pc ls (As.reverse ++ .ref (g.2.2 + a) :: st)) (nL := jmx y) (Ts := jtb) ⟨X.1, X.2.1, X.2.2.1, j_own X ho, hts⟩ hM ⟨hB, hi0, hkw⟩
    ⟨jPc_blind, jPc_ok (av := .ref (g.2.2 + a) :: As) K hW⟩ rfl hn hl.1 rfl (jst_room hst) hd ⟨by omega, by omega⟩
  exact j_after X K r1 r2 r3 r4 hZ hW hl c1 c2 hrun k


theorem jW_push {s : State} {H H1 : Heap} {locs : List Loc} {c1 : jC} (hW : jW g s h H locs) (hs : H1.size = H.size + 1) (hq : ∀ q, q < H.size → H1[q]? = H[q]?) (h1 : jat g (g.2.2 + h.length) c1 H1) : jW g s (h ++ [c1]) H1 locs := by
  obtain ⟨⟨w1, w2⟩, w3, w4, w5⟩ := hW
  refine ⟨⟨by rw [hs, w1, List.length_append]; simp; omega, fun k z hz => ?_⟩, fun q hlt => by rw [hq q (by omega)]; exact w3 q hlt, w4, w5⟩
  rcases Nat.lt_or_ge k h.length with hk | hk
  · rw [List.getElem?_append_left hk] at hz
    have h2 := w2 k z hz
    have h3 := hq (g.2.2 + k) (by omega)
    cases z with
    | inl x => exact h3.trans h2
    | inr o =>
      obtain ⟨r, e1, e2⟩ := h2
      exact ⟨r, e1, e2.kept h3⟩
  · rw [List.getElem?_append_right hk] at hz
    have hk2 : k - h.length = 0 := by
      have := (List.getElem?_eq_some_iff.mp hz).1
      simp at this
      omega
    rw [hk2] at hz
    cases hz
    rw [show k = h.length by omega]
    exact h1
theorem j_new {own i ci : Nat} {r : vw_C} {fs : List Value} (hd : decode (jbC y) pc = .ok (.new i, 3)) (ho : jcN own = (jyN y).cls) (hm : (own, i, ci) ∈ jeL) (hr : jcl[ci]? = some r) (hn : jcN ci = r.1) (hO : ci ∈ jeO) (hQ : ci ∈ jeQ) (hfs : ∀ ty : Nat → FieldType, (∀ k, k < r.2.2 → parseFieldDescriptor (r.2.1 k).2.2.1 = some (ty k)) → ∀ j, j < r.2.2 → defaultValue (ty j) = vp_V fs j)
    (k : J l g y d (pc + 3) al (.ref (g.2.2 + h.length) :: st) (h ++ [.inr (ci, fs)]) kc ks Q) : J l g y d pc al st h (1 + kc) (r.2.2 + ks) Q := by
  intro p e R s m args below meth c Z MC MS X K r1 r2 r3 r4 hZ H locs cells slots ls hW hl c1 c2
  have hts := X.2.2.2.2.2.1
  have hl1 := hts _ (jeL_in _ hm)
  have hl2 := hts _ (jeO_in _ hO)
  have hl3 := hts _ (jeQ_in _ hQ)
  rw [jwL] at hl1
  rw [jwO] at hl2
  rw [jwQ] at hl3
  simp only [List.getD_eq_getElem?_getD, hr, hn] at hl1 hl2 hl3
  obtain ⟨hin, ⟨ty, hty⟩, -⟩ := jcl_in hr
  have hKn := K.1.1 ci _ hr
  refine W.newcK X.1 X.2.1 (j_own X ho) hl1 hl2 hl3 rfl hd (by omega) (by show slots + r.2.2 ≤ _; omega) hKn.2.1 rfl fun H1 kC hkC e1 z1 o1 => ?_
  have hsz := hW.1.1
  rw [hsz] at e1 ⊢
  refine k p e R s m args below meth c Z MC MS X K r1 r2 r3 r4 hZ H1 _ (cells + 1) (slots + r.2.2) ls (jW_push hW z1 o1 ⟨r, hr, (u_born ty hts hin hKn hkC e1 hty).to (hfs ty hty)⟩) hl (by omega) (by omega)
theorem j_newa {t N : Nat} {n : Int32} {at_ : ArrayType} (hd : decode (jbC y) pc = .ok (.newarray at_, 2)) (ht : (at_ = .int ∧ t = 0) ∨ (at_ = .boolean ∧ t = 1)) (hn : ¬ n < 0) (hN : n.toNatClampNeg = N) (hb : N * 4 ≤ 536870912)
    (k : J l g y d (pc + 2) al (.ref (g.2.2 + h.length) :: st) (h ++ [.inl (t, N, fun _ => 0)]) kc ks Q) : J l g y d pc al (.int n :: st) h (1 + kc) (N + ks) Q := by
  intro p e R s m args below meth c Z MC MS X K r1 r2 r3 r4 hZ H locs cells slots ls hW hl c1 c2
  have hts := X.2.2.2.2.2.1
  have hsz := hW.1.1
  rcases ht with ⟨rfl, rfl⟩ | ⟨rfl, rfl⟩
  · refine va_newaK (atype := .int) X.1 X.2.1 (hts _ jarr_int) rfl hd rfl hn hN hb (by omega) (by omega) rfl fun H1 cA e1 z1 o1 hAr hNm => ?_
    have hc : cA = g.2.1 0 := Option.some.inj (hNm.symm.trans (K.1.2 0 _ rfl).2)
    subst hc
    rw [hsz] at e1 ⊢
    exact k p e R s m args below meth c Z MC MS X K r1 r2 r3 r4 hZ H1 _ (cells + 1) (slots + N) ls (jW_push hW z1 o1 e1) hl (by omega) (by omega)
  · refine va_newaK (atype := .boolean) X.1 X.2.1 (hts _ jarr_boolean) rfl hd rfl hn hN (Nat.le_trans (Nat.mul_le_mul_left N (show 1 ≤ 4 by decide)) hb) (by omega) (by omega) rfl fun H1 cA e1 z1 o1 hAr hNm => ?_
    have hc : cA = g.2.1 1 := Option.some.inj (hNm.symm.trans (K.1.2 1 _ rfl).2)
    subst hc
    rw [hsz] at e1 ⊢
    exact k p e R s m args below meth c Z MC MS X K r1 r2 r3 r4 hZ H1 _ (cells + 1) (slots + N) ls (jW_push hW z1 o1 e1) hl (by omega) (by omega)


set_option maxHeartbeats 2000000 in
theorem j_callSN {own i y2 d2 mc ms : Nat} {As : List Value} {Q' : Option Value → jH → Prop} (hd : decode (jbC y) pc = .ok (.invokestatic i, 3)) (ho : jcN own = (jyN y).cls) (hm : (own, i, y2) ∈ jeN) (hy : y2 < jNM) (hyC : y2 ∈ jeC) (hyK : y2 ∈ jeK) (hk0 : jkd y2 = 1) (hyI : y2 ∈ jeI) (hn : As.length = jnp y2) (hd2 : d2 + 1 ≤ d) (hst : (st.map fun v => v.category).sum ≤ 8) (hM : jCal l g y2 d2 As h mc ms Q')
    (k : ∀ (v : Option Value) (h' : jH), Q' v h' → J l g y d (pc + 3) al (v.toList ++ st) h' kc ks Q) : J l g y d pc al (As.reverse ++ st) h (mc + kc) (ms + ks) Q := by
  intro p e R s m args below meth c Z MC MS X K r1 r2 r3 r4 hZ H locs cells slots ls hW hl c1 c2
  obtain ⟨p2, p3, p4, p5⟩ := jplain y2 hy
  have hts := X.2.2.2.2.2.1
  have hkw := hts _ (jeK_in _ hyK)
  rw [jwKind, if_pos hk0] at hkw
  have hcode := hts _ (jeC_in _ hyC)
  rw [jwCode] at hcode
  have hB : va_CN R s args (jcN own) i (jyN y2) "TrainDescriber" (jbC y2) (jmx y2) (jrT y2) (jws y2) { frames := d2, cells := mc, slots := ms, locals := 64 * d2 } mc ms (jnp y2) := ⟨⟨rfl, rfl, by show d2 + 1 ≤ _; omega, by show 8 + (jmx y2 + 11) + 64 * d2 ≤ _; omega, pay_in hts (jws_good hyC), by rw [jws, jwCode]; exact List.mem_cons_self⟩, hcode, hts _ (jeI_in _ hyI), ⟨p2, p3⟩, fun sig hs => by rw [hs] at p4; exact (Option.some.inj p4).symm, va_Nw.use rfl (K.2.1 _ hm)⟩
  have hrun := va_runSN (p := p) (l := l) (e := e) (R := R) (s := s) (m := m) (args := args) (below := below) (meth := meth) (c := c) (H := H) (locs := locs) (cells := cells) (slots := slots) (As := As) (rest := st) (g := F0 m pc ls (As.reverse ++ st)) (nL := jmx y) (Ts := jtb) ⟨X.1, X.2.1, X.2.2.1, j_own X ho, hts⟩ hM ⟨hB, hkw, trivial⟩
    ⟨jPc_blind, jPc_ok K hW⟩ rfl hn hl.1 rfl (jst_room hst) hd ⟨by omega, by omega⟩
  exact j_after X K r1 r2 r3 r4 hZ hW hl c1 c2 hrun k
/-- the pool entries that are arraycopy -/
def jcp : List (Nat × Nat) := [(7, 217), (9, 86)]
theorem jcp_in : ∀ q ∈ jcp, Cond.methodLink (jcN q.1) q.2 arraycopyName ∈ jtb := by
  intro q hq
  have h1 : q = (7, 217) ∨ q = (9, 86) := by simpa [jcp] using hq
  rcases h1 with rfl | rfl
  · exact List.mem_filter.mpr ⟨List.mem_of_getElem? (i := 805) (by decide +kernel), by decide +kernel⟩
  · exact List.mem_filter.mpr ⟨List.mem_of_getElem? (i := 894) (by decide +kernel), by decide +kernel⟩
theorem jcp_st : Cond.static arraycopyName ∈ jtb := List.mem_filter.mpr ⟨List.mem_of_getElem? (i := 806) (by decide +kernel), by decide +kernel⟩
theorem jcp_nat : Cond.native arraycopyName ∈ jtb := List.mem_filter.mpr ⟨List.mem_of_getElem? (i := 807) (by decide +kernel), by decide +kernel⟩
theorem jcp_ini : Cond.initialized "java/lang/System" ∈ jtb := List.mem_filter.mpr ⟨List.mem_of_getElem? (i := 102) (by decide +kernel), by decide +kernel⟩
theorem jcp_words : nativeFrameWords "java/lang/System" "arraycopy" 5 ≤ 40 := by decide +kernel
set_option maxHeartbeats 2000000 in
theorem j_copy {own i a0 a1 n0 n1 : Nat} {f f1 : Nat → Int32} {sp dp n : Int32} (hd : decode (jbC y) pc = .ok (.invokestatic i, 3)) (ho : jcN own = (jyN y).cls) (hm : (own, i) ∈ jcp) (hc0 : h[a0]? = some (.inl (0, n0, f))) (hc1 : h[a1]? = some (.inl (0, n1, f1))) (h1 : ¬ sp < 0) (h2 : ¬ dp < 0) (h3 : ¬ n < 0) (h4 : sp.toNatClampNeg + n.toNatClampNeg ≤ n0) (h5 : dp.toNatClampNeg + n.toNatClampNeg ≤ n1) (hd1 : 1 ≤ d) (hst : (st.map fun v => v.category).sum ≤ 8)
    (k : J l g y d (pc + 3) al st (h.set a1 (.inl (0, n1, va_cpy f f1 sp.toNatClampNeg dp.toNatClampNeg n.toNatClampNeg))) kc ks Q) : J l g y d pc al (.int n :: .int dp :: .ref (g.2.2 + a1) :: .int sp :: .ref (g.2.2 + a0) :: st) h kc ks Q := by
  intro p e R s m args below meth c Z MC MS X K r1 r2 r3 r4 hZ H locs cells slots ls hW hl c1 c2
  have hts := X.2.2.2.2.2.1
  have nn : ∀ z : Int32, ¬ z < 0 → z.toInt = (z.toNatClampNeg : Int) := by
    intro z hz
    have hz0 : (0 : Int) ≤ z.toInt := by
      have := Int32.not_lt.mp hz
      simpa using Int32.le_iff_toInt_le.mp this
    show z.toInt = ((z.toInt.toNat : Nat) : Int)
    omega
  have hb0 : H[g.2.2 + a0]? = some (vp_cell (g.2.1 0) (n0, .inl f)) := hW.1.2 a0 _ hc0
  have hb1 : H[g.2.2 + a1]? = some (vp_cell (g.2.1 0) (n1, .inl f1)) := hW.1.2 a1 _ hc1
  have hwd := jcp_words
  intro T hT X0
  obtain ⟨-, k0, hk0, cm0, hkk0⟩ := (K.1.2 0 _ rfl).1 n0 (fun j => .int (f j))
  obtain ⟨-, k1, hk1, cm1, hkk1⟩ := (K.1.2 0 _ rfl).1 n1 (fun j => .int (f1 j))
  obtain ⟨vm', X', step⟩ := X0.arraycopy X.1 (j_own X ho) (hts _ (jcp_in _ hm)) (hts _ jcp_nat) (hts _ jcp_st) (hts _ jcp_ini) (src := g.2.2 + a0) (dst := g.2.2 + a1) (cs := vp_cell (g.2.1 0) (n0, .inl f)) (cd := vp_cell (g.2.1 0) (n1, .inl f1)) (srcPos := sp) (destPos := dp) (n := n) (by rw [hT]; exact hb0) (by rw [hT]; exact hb1)
    (fun _ h => by cases h) (fun _ h => by cases h) (fun h => by cases h) (fun h => by cases h) hk0 hk1 hkk0 hkk1 (by simp [refKind]) h1 h2 h3
    (by rw [nn sp h1, nn n h3]; show ¬ _ > ((arrV (g.2.1 0) n0 (fun j => .int (f j))).slots.size : Int); rw [arrV_size]; omega)
    (by rw [nn dp h2, nn n h3]; show ¬ _ > ((arrV (g.2.1 0) n1 (fun j => .int (f1 j))).slots.size : Int); rw [arrV_size]; omega)
    (fun vm₁ _ i hi => by
      have e : (vp_cell (g.2.1 0) (n0, .inl f)).slots.getD (sp.toNatClampNeg + i) .null = .int (f (sp.toNatClampNeg + i)) := by
        show (arrV (g.2.1 0) n0 (fun j => .int (f j))).slots.getD _ _ = _
        rw [Array.getD_eq_getD_getElem?, arrV_read _ _ (by omega)]
        rfl
      refine ⟨?_, ?_⟩
      · rw [e]
        rfl
      · rw [e]
        exact trivial)
    (g := F0 m pc ls (.int n :: .int dp :: .ref (g.2.2 + a1) :: .int sp :: .ref (g.2.2 + a0) :: st)) rfl (hl.1.trans X.2.2.1.symm) (rest := st) rfl (by rw [X.2.1]; exact hd) (by omega) (by show 2 * 0 + _ + _ ≤ _; omega)
  have e1 : copied (vp_cell (g.2.1 0) (n0, .inl f)) (vp_cell (g.2.1 0) (n1, .inl f1)) sp dp n = vp_cell (g.2.1 0) (n1, .inl (va_cpy f f1 sp.toNatClampNeg dp.toNatClampNeg n.toNatClampNeg)) := va_copied (fun z => .int z) (g.2.1 0) (g.2.1 0) f f1 h4
  rw [e1] at X' step
  have hlt : g.2.2 + a1 < H.size := (Array.getElem?_eq_some_iff.mp hb1).1
  have hheap : ((T.setVm vm').setCell (g.2.2 + a1) (vp_cell (g.2.1 0) (n1, .inl (va_cpy f f1 sp.toNatClampNeg dp.toNatClampNeg n.toNatClampNeg)))).heap = H.setIfInBounds (g.2.2 + a1) (vp_cell (g.2.1 0) (n1, .inl (va_cpy f f1 sp.toNatClampNeg dp.toNatClampNeg n.toNatClampNeg))) := by rw [← hT]; rfl
  have oq : ∀ q : Nat, q ≠ g.2.2 + a1 → (H.setIfInBounds (g.2.2 + a1) (vp_cell (g.2.1 0) (n1, .inl (va_cpy f f1 sp.toNatClampNeg dp.toNatClampNeg n.toNatClampNeg))))[q]? = H[q]? := fun q hq => by simp [Array.getElem?_setIfInBounds, Ne.symm hq]
  obtain ⟨t, b1, b2⟩ := k p e R s m args below meth c Z MC MS X K r1 r2 r3 r4 hZ _ _ cells slots ls (jW_set hW hc1 (by simp) oq (show (H.setIfInBounds (g.2.2 + a1) _)[g.2.2 + a1]? = some _ by simp [Array.getElem?_setIfInBounds, hlt]) (fun q hq => by
      rcases List.mem_append.mp hq with hh | hh
      · exact Or.inl hh
      · obtain ⟨z, -, hz⟩ := List.mem_map.mp hh
        right
        rw [← hz])) hl c1 c2 _ hheap X'
  exact ⟨t, step t b1, b2⟩


theorem jmath_ini : Cond.initialized "java/lang/Math" ∈ jtb := List.mem_filter.mpr ⟨List.mem_of_getElem? (i := 89) (by decide +kernel), by decide +kernel⟩


theorem jmmax_st : Cond.static Lib.Math.max.name ∈ jtb := List.mem_filter.mpr ⟨List.mem_of_getElem? (i := 189) (by decide +kernel), by decide +kernel⟩
theorem jmmax_co : Cond.code Lib.Math.max.name Lib.Math.max.code 2 (some .int) ∈ jtb := List.mem_filter.mpr ⟨List.mem_of_getElem? (i := 190) (by decide +kernel), by decide +kernel⟩
theorem jmmax_nm : jyN 6 = Lib.Math.max.name := by decide +kernel
theorem j_mmax {own i : Nat} {x z : Int32} (hd : decode (jbC y) pc = .ok (.invokestatic i, 3)) (ho : jcN own = (jyN y).cls) (hm : (own, i, 6) ∈ jeM) (hd1 : 1 ≤ d) (hst : (st.map fun v => v.category).sum ≤ 8) (k : J l g y d (pc + 3) al (.int (if x < z then z else x) :: st) h kc ks Q) : J l g y d pc al (.int z :: .int x :: st) h kc ks Q := by
  intro p e R s m args below meth c Z MC MS X K r1 r2 r3 r4 hZ H locs cells slots ls hW hl c1 c2
  have hts := X.2.2.2.2.2.1
  have hlk := hts _ (jeM_in _ hm)
  rw [jwM] at hlk
  simp only [jmmax_nm] at hlk
  exact va_mmax X.1 X.2.1 (X.2.2.1.trans hl.1.symm) (j_own X ho) hlk (hts _ jmmax_st) (hts _ jmath_ini) (hts _ jmmax_co) (by omega) (by omega) (by omega) (by omega) hd (k p e R s m args below meth c Z MC MS X K r1 r2 r3 r4 hZ H locs cells slots ls hW hl c1 c2)


theorem jmmin_st : Cond.static Lib.Math.min.name ∈ jtb := List.mem_filter.mpr ⟨List.mem_of_getElem? (i := 614) (by decide +kernel), by decide +kernel⟩
theorem jmmin_co : Cond.code Lib.Math.min.name Lib.Math.min.code 2 (some .int) ∈ jtb := List.mem_filter.mpr ⟨List.mem_of_getElem? (i := 615) (by decide +kernel), by decide +kernel⟩
theorem jmmin_nm : jyN 49 = Lib.Math.min.name := by decide +kernel
theorem j_mmin {own i : Nat} {x z : Int32} (hd : decode (jbC y) pc = .ok (.invokestatic i, 3)) (ho : jcN own = (jyN y).cls) (hm : (own, i, 49) ∈ jeM) (hd1 : 1 ≤ d) (hst : (st.map fun v => v.category).sum ≤ 8) (k : J l g y d (pc + 3) al (.int (if z < x then z else x) :: st) h kc ks Q) : J l g y d pc al (.int z :: .int x :: st) h kc ks Q := by
  intro p e R s m args below meth c Z MC MS X K r1 r2 r3 r4 hZ H locs cells slots ls hW hl c1 c2
  have hts := X.2.2.2.2.2.1
  have hlk := hts _ (jeM_in _ hm)
  rw [jwM] at hlk
  simp only [jmmin_nm] at hlk
  exact va_mmin X.1 X.2.1 (X.2.2.1.trans hl.1.symm) (j_own X ho) hlk (hts _ jmmin_st) (hts _ jmath_ini) (hts _ jmmin_co) (by omega) (by omega) (by omega) (by omega) hd (k p e R s m args below meth c Z MC MS X K r1 r2 r3 r4 hZ H locs cells slots ls hW hl c1 c2)


theorem jmabs_st : Cond.static Lib.Math.abs.name ∈ jtb := List.mem_filter.mpr ⟨List.mem_of_getElem? (i := 1196) (by decide +kernel), by decide +kernel⟩
theorem jmabs_co : Cond.code Lib.Math.abs.name Lib.Math.abs.code 1 (some .int) ∈ jtb := List.mem_filter.mpr ⟨List.mem_of_getElem? (i := 1197) (by decide +kernel), by decide +kernel⟩
theorem jmabs_nm : jyN 161 = Lib.Math.abs.name := by decide +kernel
theorem j_mabs {own i : Nat} {x : Int32} (hd : decode (jbC y) pc = .ok (.invokestatic i, 3)) (ho : jcN own = (jyN y).cls) (hm : (own, i, 161) ∈ jeM) (hd1 : 1 ≤ d) (hst : (st.map fun v => v.category).sum ≤ 8) (k : J l g y d (pc + 3) al (.int (if 0 ≤ x then x else 0 - x) :: st) h kc ks Q) : J l g y d pc al (.int x :: st) h kc ks Q := by
  intro p e R s m args below meth c Z MC MS X K r1 r2 r3 r4 hZ H locs cells slots ls hW hl c1 c2
  have hts := X.2.2.2.2.2.1
  have hlk := hts _ (jeM_in _ hm)
  rw [jwM] at hlk
  simp only [jmabs_nm] at hlk
  exact va_mabs X.1 X.2.1 (X.2.2.1.trans hl.1.symm) (j_own X ho) hlk (hts _ jmabs_st) (hts _ jmath_ini) (hts _ jmabs_co) (by omega) (by omega) (by omega) (by omega) hd (k p e R s m args below meth c Z MC MS X K r1 r2 r3 r4 hZ H locs cells slots ls hW hl c1 c2)

end JC
