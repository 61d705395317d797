/-! STRING CONSTANTS: the JDK's methods over the parser's literals -/
section SG
variable {l : Launch} {g : jG} {y d pc : Nat} {al : List (Option Value)} {st : List Value} {h : jH} {kc ks : Nat} {Q : Option Value → jH → Prop}
theorem sg_kept {s : State} {H : Heap} {locs : List Loc} (hW : jW g s h H locs) : ∀ a : Nat, a < s.heap.size → ¬ g.2.2 ≤ a → H[a]? = s.heap[a]? := fun a _ h2 => hW.2.1 a (by omega)
theorem sg_val : Cond.fieldLink "java/lang/String" 9 "java/lang/String" "value" "[B" ∈ jtb := List.mem_filter.mpr ⟨List.mem_of_getElem? (i := 1975) (by decide +kernel), by decide +kernel⟩
theorem sg_cod : Cond.fieldLink "java/lang/String" 15 "java/lang/String" "coder" "B" ∈ jtb := List.mem_filter.mpr ⟨List.mem_of_getElem? (i := 1976) (by decide +kernel), by decide +kernel⟩
theorem sg_cmp : Cond.fieldLink "java/lang/String" 38 "java/lang/String" "COMPACT_STRINGS" "Z" ∈ jtb := List.mem_filter.mpr ⟨List.mem_of_getElem? (i := 680) (by decide +kernel), by decide +kernel⟩
theorem sg_fmt : Cond.fieldLink "java/lang/String" 1053 "jdk/internal/util/Preconditions" "SIOOBE_FORMATTER" "Ljava/util/function/BiFunction;" ∈ jtb := List.mem_filter.mpr ⟨List.mem_of_getElem? (i := 696) (by decide +kernel), by decide +kernel⟩
theorem j_ldcS {i : Nat} (hi : i < 13) (hd : decode (jbC y) pc = .ok (.ldc (jsx.getD i 0), 2)) (ho : "TrainDescriber$Parser" = (jyN y).cls) (k : J l g y d (pc + 2) al (.ref (jAK g i) :: st) h kc ks Q) : J l g y d pc al st h kc ks Q := by
  intro p e R s m args below meth c Z MC MS X K r1 r2 r3 r4 hZ H locs cells slots ls hW hl c1 c2
  exact va_ldcS X.1 X.2.1 (by rw [ho]; exact X.2.2.2.2.1) (K.2.2.2.1 i hi) hd (k p e R s m args below meth c Z MC MS X K r1 r2 r3 r4 hZ H locs cells slots ls hW hl c1 c2)
theorem j_strval {i : Nat} (hi : i < 13) (hd : decode (jbC y) pc = .ok (.getfield 9, 3)) (ho : "java/lang/String" = (jyN y).cls) (k : J l g y d (pc + 3) al (.ref (jAV g i) :: st) h kc ks Q) : J l g y d pc al (.ref (jAK g i) :: st) h kc ks Q := by
  intro p e R s m args below meth c Z MC MS X K r1 r2 r3 r4 hZ H locs cells slots ls hW hl c1 c2
  obtain ⟨cf, kk, fi, f, cell, h1, h2, h3, h4, h5, -⟩ := ((K.2.2.1.1 i hi).2.2.1).kept (sg_kept hW)
  exact W.getf X.1 X.2.1 (by rw [ho]; exact X.2.2.2.2.1) (X.2.2.2.2.2.1 _ sg_val) h1 h2 h3 h4 (v := .ref (jAV g i)) h5 rfl rfl hd (k p e R s m args below meth c Z MC MS X K r1 r2 r3 r4 hZ H locs cells slots ls hW hl c1 c2)
theorem j_strcod {i : Nat} (hi : i < 13) (hd : decode (jbC y) pc = .ok (.getfield 15, 3)) (ho : "java/lang/String" = (jyN y).cls) (k : J l g y d (pc + 3) al (.int 0 :: st) h kc ks Q) : J l g y d pc al (.ref (jAK g i) :: st) h kc ks Q := by
  intro p e R s m args below meth c Z MC MS X K r1 r2 r3 r4 hZ H locs cells slots ls hW hl c1 c2
  obtain ⟨cf, kk, fi, f, cell, h1, h2, h3, h4, h5, -⟩ := ((K.2.2.1.1 i hi).2.1).kept (sg_kept hW)
  exact W.getf X.1 X.2.1 (by rw [ho]; exact X.2.2.2.2.1) (X.2.2.2.2.2.1 _ sg_cod) h1 h2 h3 h4 (v := .int 0) h5 rfl rfl hd (k p e R s m args below meth c Z MC MS X K r1 r2 r3 r4 hZ H locs cells slots ls hW hl c1 c2)
theorem j_strcmp (hd : decode (jbC y) pc = .ok (.getstatic 38, 3)) (ho : "java/lang/String" = (jyN y).cls) (k : J l g y d (pc + 3) al (.int 1 :: st) h kc ks Q) : J l g y d pc al st h kc ks Q := by
  intro p e R s m args below meth c Z MC MS X K r1 r2 r3 r4 hZ H locs cells slots ls hW hl c1 c2
  obtain ⟨cf, kf, fi, f, a, cell, h1, h2, h3, h4, h5, h6, h7, -⟩ := (K.2.2.2.2.1).kept (sg_kept hW)
  exact W.gets X.1 X.2.1 (by rw [ho]; exact X.2.2.2.2.1) (X.2.2.2.2.2.1 _ sg_cmp) h1 h2 h3 h4 h5 (fun e => by rw [e] at h6; cases h6) h7 rfl hd (k p e R s m args below meth c Z MC MS X K r1 r2 r3 r4 hZ H locs cells slots ls hW hl c1 c2)
theorem j_strfmt (hd : decode (jbC y) pc = .ok (.getstatic 1053, 3)) (ho : "java/lang/String" = (jyN y).cls) (k : ∀ v : Value, (v = .null ∨ ∃ a, v = .ref a) → J l g y d (pc + 3) al (v :: st) h kc ks Q) : J l g y d pc al st h kc ks Q := by
  intro p e R s m args below meth c Z MC MS X K r1 r2 r3 r4 hZ H locs cells slots ls hW hl c1 c2
  rcases K.2.2.2.2.2.1.kept (sg_kept hW) with hq | ⟨t, hq⟩
  · obtain ⟨cf, kf, fi, f, a, cell, h1, h2, h3, h4, h5, h6, h7, -⟩ := hq
    exact W.gets X.1 X.2.1 (by rw [ho]; exact X.2.2.2.2.1) (X.2.2.2.2.2.1 _ sg_fmt) h1 h2 h3 h4 h5 (fun e => by rw [e] at h6; cases h6) h7 rfl hd (k .null (Or.inl rfl) p e R s m args below meth c Z MC MS X K r1 r2 r3 r4 hZ H locs cells slots ls hW hl c1 c2)
  · obtain ⟨cf, kf, fi, f, a, cell, h1, h2, h3, h4, h5, h6, h7, -⟩ := hq
    exact W.gets X.1 X.2.1 (by rw [ho]; exact X.2.2.2.2.1) (X.2.2.2.2.2.1 _ sg_fmt) h1 h2 h3 h4 h5 (fun e => by rw [e] at h6; cases h6) h7 rfl hd (k (.ref t) (Or.inr ⟨t, rfl⟩) p e R s m args below meth c Z MC MS X K r1 r2 r3 r4 hZ H locs cells slots ls hW hl c1 c2)
theorem j_stralen {i : Nat} (hi : i < 13) (hd : decode (jbC y) pc = .ok (.arraylength, 1)) (k : J l g y d (pc + 1) al (.int (Int32.ofNat (jsl.getD i 0)) :: st) h kc ks Q) : J l g y d pc al (.ref (jAV g i) :: st) h kc ks Q := by
  intro p e R s m args below meth c Z MC MS X K r1 r2 r3 r4 hZ H locs cells slots ls hW hl c1 c2
  obtain ⟨cell, h1, h2, h3, h4, h5, h6, -⟩ := ((K.2.2.1.1 i hi).2.2.2).kept (sg_kept hW)
  exact W.alen (n := Int32.ofNat (jsl.getD i 0)) X.1 X.2.1 h1 h2 h5 rfl rfl hd (k p e R s m args below meth c Z MC MS X K r1 r2 r3 r4 hZ H locs cells slots ls hW hl c1 c2)
theorem j_strbald {i : Nat} {z : Int32} (hi : i < 13) (hz : vp_in z (jsl.getD i 0)) (hd : decode (jbC y) pc = .ok (.baload, 1)) (k : J l g y d (pc + 1) al (.int ((jsb.getD i []).getD z.toNatClampNeg 0) :: st) h kc ks Q) : J l g y d pc al (.int z :: .ref (jAV g i) :: st) h kc ks Q := by
  intro p e R s m args below meth c Z MC MS X K r1 r2 r3 r4 hZ H locs cells slots ls hW hl c1 c2
  obtain ⟨cell, h1, h2, h3, h4, h5, h6, -⟩ := ((K.2.2.1.1 i hi).2.2.2).kept (sg_kept hW)
  have hlt : z.toNatClampNeg < jsl.getD i 0 := Nat.not_le.mp fun q => hz (Or.inr q)
  have hin' : ¬ (z < 0 ∨ cell.slots.size ≤ z.toNatClampNeg) := by
    intro q
    rcases q with q | q
    · exact hz (Or.inl q)
    · omega
  exact W.bald (v := .int ((jsb.getD i []).getD z.toNatClampNeg 0)) X.1 X.2.1 h1 h2 h3 hin' (h6 _ hlt) rfl rfl hd (k p e R s m args below meth c Z MC MS X K r1 r2 r3 r4 hZ H locs cells slots ls hW hl c1 c2)
theorem j_i2c {a : Int32} (hd : decode (jbC y) pc = .ok (.i2c, 1)) (k : J l g y d (pc + 1) al (.int ((a.toUInt32 % 65536).toInt32) :: st) h kc ks Q) : J l g y d pc al (.int a :: st) h kc ks Q := by
  intro p e R s m args below meth c Z MC MS X K r1 r2 r3 r4 hZ H locs cells slots ls hW hl c1 c2
  exact lv_i2c X.1 X.2.1 hd rfl (k p e R s m args below meth c Z MC MS X K r1 r2 r3 r4 hZ H locs cells slots ls hW hl c1 c2)
set_option maxHeartbeats 2000000 in
theorem j_callVS {own i y2 k0 d2 mc ms : Nat} {As : List Value} {Q' : Option Value → jH → Prop} (hk1 : k0 < 13) (hcl : (jyN y2).cls = "java/lang/String") (hd : decode (jbC y) pc = .ok (.invokevirtual i, 3)) (ho : jcN own = (jyN y).cls) (hm : (own, i, y2) ∈ jeM) (hy : y2 < 315) (hk0 : jkd y2 = 0) (hn : As.length = jnp y2) (hd2 : d2 + 1 ≤ d) (hst : (st.map fun v => v.category).sum ≤ 8)
    (hM : jCal l g y2 d2 (.ref (jAK g k0) :: As) h mc ms Q')
    (k : ∀ (v : Option Value) (h' : jH), Q' v h' → J l g y d (pc + 3) al (v.toList ++ st) h' kc ks Q) : J l g y d pc al (As.reverse ++ .ref (jAK g k0) :: st) h (mc + kc) (ms + ks) Q := by
  intro p e R s m args below meth c Z MC MS X K r1 r2 r3 r4 hZ H locs cells slots ls hW hl c1 c2
  obtain ⟨p2, p3, p4, p5⟩ := jplain y2 hy
  obtain ⟨hyC, hyK, hyI, hyS⟩ := je_mem hy
  have hts := X.2.2.2.2.2.1
  have hkw := hts _ (jeK_in _ hyK)
  rw [jwKind, if_neg (by rw [hk0]; decide)] at hkw
  have hB : CallB R s args (jcN own) i (jyN y2) (jbC y2) (jmx y2) (jrT y2) (jws y2) { frames := d2, cells := mc, slots := ms, locals := 64 * d2 } mc ms (jnp y2) := callB_of (ws' := jtb) (jnp y2) hts (jws_good hyC) rfl rfl rfl (hts _ (jeI_in _ (hyI (by rw [hk0]; decide)))) (hts _ (jeM_in _ hm)) ⟨p2, p3, p4⟩ ⟨by show d2 + 1 ≤ _; omega, by show 8 + (jmx y2 + 11) + 64 * d2 ≤ _; omega⟩
  obtain ⟨cell, q1, q2, q3, -⟩ := (K.2.2.1.1 k0 hk1).1.kept (sg_kept hW)
  have hrun := va_runV (p := p) (l := l) (e := e) (R := R) (s := s) (m := m) (args := args) (below := below) (meth := meth) (c := c) (H := H) (locs := locs) (cells := cells) (slots := slots) (C := (jyN y2).cls) (b := jAK g k0) (As := As) (rest := st) (g := F0 m pc ls (As.reverse ++ .ref (jAK g k0) :: st)) (nL := jmx y) (Ts := jtb) ⟨X.1, X.2.1, X.2.2.1, j_own X ho, hts⟩ hM ⟨hB, hkw, hts _ (jeS_in _ (hyS hk0))⟩
    ⟨jPc_blind, ⟨cell, q1, q2, by rw [hcl]; exact q3⟩, jPc_ok K hW⟩ rfl hn hl.1 rfl (jst_room hst) hd ⟨by omega, by omega⟩
  exact j_after X K r1 r2 r3 r4 hZ hW hl c1 c2 hrun k
/-- j_callS with its places found -/
theorem j_callS' {own i y2 d2 mc ms : Nat} {As : List Value} {Q' : Option Value → jH → Prop} (hd : decode (jbC y) pc = .ok (.invokestatic i, 3)) (ho : jcN own = (jyN y).cls) (hm : (own, i, y2) ∈ jeM) (hy : y2 < 315) (hk0 : jkd y2 = 1) (hn : As.length = jnp y2) (hd2 : d2 + 1 ≤ d) (hst : (st.map fun v => v.category).sum ≤ 8) (hM : jCal l g y2 d2 As h mc ms Q')
    (k : ∀ (v : Option Value) (h' : jH), Q' v h' → J l g y d (pc + 3) al (v.toList ++ st) h' kc ks Q) : J l g y d pc al (As.reverse ++ st) h (mc + kc) (ms + ks) Q := by
  obtain ⟨hyC, hyK, hyI, -⟩ := je_mem hy
  exact j_callS hd ho hm hy hyC hyK hk0 (hyI (by rw [hk0]; decide)) hn hd2 hst hM k
theorem st_coder {i : Nat} (hi : i < 13) : jCal l g 65 d [.ref (jAK g i)] h 0 0 (fun v h' => h' = h ∧ v = some (.int 0)) := by
  refine jCal_of (by decide +kernel) (show 1 ≤ jmx 65 by decide +kernel) ?_
  show J l g 65 d 0 [some (.ref (jAK g i))] [] h 0 0 _
  have hc : "java/lang/String" = (jyN 65).cls := by decide +kernel
  refine j_strcmp (by decide +kernel) hc ?_
  refine j_if_eq (off := 10) (tgt := 13) (by decide +kernel) (by decide) (fun e => absurd e (by decide)) (fun _ => ?_)
  refine j_aload_n (k4 := 0) (by decide +kernel) rfl ?_
  refine j_strcod hi (by decide +kernel) hc ?_
  refine j_goto (off := 4) (tgt := 14) (by decide +kernel) (by decide) ?_
  exact j_ret (v := some (.int 0)) ⟨by decide +kernel, Or.inr (Or.inr (Or.inl ⟨by decide +kernel, by decide⟩))⟩ ⟨rfl, rfl⟩ rfl
theorem st_isL {i : Nat} (hi : i < 13) : jCal l g 67 d [.ref (jAK g i)] h 0 0 (fun v h' => h' = h ∧ v = some (.int 1)) := by
  refine jCal_of (by decide +kernel) (show 1 ≤ jmx 67 by decide +kernel) ?_
  show J l g 67 d 0 [some (.ref (jAK g i))] [] h 0 0 _
  have hc : "java/lang/String" = (jyN 67).cls := by decide +kernel
  refine j_strcmp (by decide +kernel) hc ?_
  refine j_if_eq (off := 14) (tgt := 17) (by decide +kernel) (by decide) (fun e => absurd e (by decide)) (fun _ => ?_)
  refine j_aload_n (k4 := 0) (by decide +kernel) rfl ?_
  refine j_strcod hi (by decide +kernel) hc ?_
  refine j_if_ne (off := 7) (tgt := 17) (by decide +kernel) (by decide) (fun e => absurd rfl e) (fun _ => ?_)
  refine j_iconst (n := 1) (by decide +kernel) ?_
  refine j_goto (off := 4) (tgt := 18) (by decide +kernel) (by decide) ?_
  exact j_ret (v := some (.int 1)) ⟨by decide +kernel, Or.inr (Or.inl ⟨by decide +kernel, Or.inr rfl⟩)⟩ ⟨rfl, rfl⟩ rfl
theorem st_shr : ∀ i, i < 13 → (Int32.ofNat (jsl.getD i 0) >>> ((0 : Int32) &&& 31)) = Int32.ofNat (jsl.getD i 0) := by decide
theorem st_len {i : Nat} (hi : i < 13) (hd1 : 1 ≤ d) : jCal l g 64 d [.ref (jAK g i)] h 0 0 (fun v h' => h' = h ∧ v = some (.int (Int32.ofNat (jsl.getD i 0)))) := by
  refine jCal_of (by decide +kernel) (show 1 ≤ jmx 64 by decide +kernel) ?_
  show J l g 64 d 0 [some (.ref (jAK g i))] [] h 0 0 _
  have hc : "java/lang/String" = (jyN 64).cls := by decide +kernel
  refine j_aload_n (k4 := 0) (by decide +kernel) rfl ?_
  refine j_strval hi (by decide +kernel) hc ?_
  refine j_stralen hi (by decide +kernel) ?_
  refine j_aload_n (k4 := 0) (by decide +kernel) rfl ?_
  refine j_callVS (own := 16) (i := 335) (y2 := 65) (d2 := 0) (mc := 0) (ms := 0) (kc := 0) (ks := 0) (As := []) hi (by decide +kernel) (by decide +kernel) (by decide +kernel) (by decide +kernel) (by decide) (by decide +kernel) (by decide +kernel) (by omega) (by show (1 + 0 : Nat) ≤ 8; decide) (st_coder hi) (fun v h' hq => ?_)
  obtain ⟨rfl, rfl⟩ := hq
  refine j_ishr (by decide +kernel) ?_
  rw [st_shr i hi]
  exact j_ret (v := some (.int (Int32.ofNat (jsl.getD i 0)))) ⟨by decide +kernel, Or.inl (by decide +kernel)⟩ ⟨rfl, rfl⟩ rfl
theorem st_chk {x z : Int32} {v : Value} (hv : v = .null ∨ ∃ a, v = .ref a) (h0 : 0 ≤ x.toInt) (h1 : x.toInt < z.toInt) : jCal l g 70 d [.int x, .int z, v] h 0 0 (fun w h' => h' = h ∧ w = some (.int x)) := by
  have hl : (lg_sl [.int x, .int z, v]).length ≤ jmx 70 := by
    rcases hv with rfl | ⟨a, rfl⟩
    · show 3 ≤ jmx 70; decide +kernel
    · show 3 ≤ jmx 70; decide +kernel
  refine jCal_of (by decide +kernel) hl ?_
  have ha : jal 70 [.int x, .int z, v] = [some (.int x), some (.int z), some v] := by
    rcases hv with rfl | ⟨a, rfl⟩ <;> rfl
  rw [ha]
  have g0 : ¬ x < 0 := fun q => by have := Int32.lt_iff_toInt_lt.mp q; rw [i32z] at this; omega
  refine j_iload_n (k4 := 0) (by decide +kernel) rfl ?_
  refine j_if_lt (off := 8) (tgt := 9) (by decide +kernel) (by decide) (fun q => absurd q g0) (fun _ => ?_)
  refine j_iload_n (k4 := 0) (by decide +kernel) rfl ?_
  refine j_iload_n (k4 := 1) (by decide +kernel) rfl ?_
  refine j_icmp_lt (off := 10) (tgt := 16) (by decide +kernel) (by decide) (fun _ => ?_) (fun q => absurd (Int32.lt_iff_toInt_lt.mpr h1) q)
  refine j_iload_n (k4 := 0) (by decide +kernel) rfl ?_
  exact j_ret (v := some (.int x)) ⟨by decide +kernel, Or.inl (by decide +kernel)⟩ ⟨rfl, rfl⟩ rfl
theorem st_chk2 {x z : Int32} (h0 : 0 ≤ x.toInt) (h1 : x.toInt < z.toInt) (hd1 : 1 ≤ d) : jCal l g 69 d [.int x, .int z] h 0 0 (fun w h' => h' = h ∧ w = none) := by
  refine jCal_of (by decide +kernel) (show 2 ≤ jmx 69 by decide +kernel) ?_
  show J l g 69 d 0 [some (.int x), some (.int z)] [] h 0 0 _
  refine j_iload_n (k4 := 0) (by decide +kernel) rfl ?_
  refine j_iload_n (k4 := 1) (by decide +kernel) rfl ?_
  refine j_strfmt (by decide +kernel) (by decide +kernel) (fun v hv => ?_)
  refine j_callS' (own := 16) (i := 1059) (y2 := 70) (d2 := 0) (mc := 0) (ms := 0) (kc := 0) (ks := 0) (As := [.int x, .int z, v]) (st := []) (by decide +kernel) (by decide +kernel) (by decide +kernel) (by decide) (by decide +kernel) (show 3 = jnp 70 by decide +kernel) (by omega) (by decide) (st_chk hv h0 h1) (fun w h' hq => ?_)
  obtain ⟨rfl, rfl⟩ := hq
  refine j_pop (by decide +kernel) rfl ?_
  exact j_ret (v := none) ⟨by decide +kernel, by decide +kernel⟩ ⟨rfl, rfl⟩ rfl
/-- the char at k -/
def sgCh (i k : Nat) : Int32 := (jsb.getD i []).getD k 0
theorem sgCh_all : ∀ i, i < 13 → ∀ k, k < jsl.getD i 0 → ((sgCh i k &&& (Int16.ofInt 255).toInt32).toUInt32 % 65536).toInt32 = sgCh i k ∧ narrow .char (.int (sgCh i k)) = .int (sgCh i k) ∧ 0 < (sgCh i k).toInt ∧ (sgCh i k).toInt < 128 := by decide
theorem jsl_all : ∀ i, i < 13 → 2 ≤ jsl.getD i 0 ∧ jsl.getD i 0 ≤ 6 ∧ (Int32.ofNat (jsl.getD i 0)).toInt = (jsl.getD i 0 : Int) := by decide
theorem st_lat {i k : Nat} (hi : i < 13) (hk : k < jsl.getD i 0) (hd1 : 2 ≤ d) : jCal l g 68 d [.ref (jAV g i), .int (Int32.ofInt (k : Int))] h 0 0 (fun w h' => h' = h ∧ w = some (.int (sgCh i k))) := by
  refine jCal_of (by decide +kernel) (show 2 ≤ jmx 68 by decide +kernel) ?_
  show J l g 68 d 0 [some (.ref (jAV g i)), some (.int (Int32.ofInt (k : Int)))] [] h 0 0 _
  obtain ⟨a1, a2, a3⟩ := jsl_all i hi
  have hkk : (Int32.ofInt (k : Int)).toInt = (k : Int) := i32_n (by omega)
  refine j_iload_n (k4 := 1) (by decide +kernel) rfl ?_
  refine j_aload_n (k4 := 0) (by decide +kernel) rfl ?_
  refine j_stralen hi (by decide +kernel) ?_
  refine j_callS' (own := 17) (i := 9) (y2 := 69) (d2 := 1) (mc := 0) (ms := 0) (kc := 0) (ks := 0) (As := [.int (Int32.ofInt (k : Int)), .int (Int32.ofNat (jsl.getD i 0))]) (st := []) (by decide +kernel) (by decide +kernel) (by decide +kernel) (by decide) (by decide +kernel) (show 2 = jnp 69 by decide +kernel) (by omega) (by decide) (st_chk2 (by omega) (by omega) (by omega)) (fun w h' hq => ?_)
  obtain ⟨rfl, rfl⟩ := hq
  refine j_aload_n (k4 := 0) (by decide +kernel) rfl ?_
  refine j_iload_n (k4 := 1) (by decide +kernel) rfl ?_
  refine j_strbald hi (i32_in (by omega) (by omega)) (by decide +kernel) ?_
  rw [i32_at hkk]
  refine j_sipush (n := 255) (by decide +kernel) ?_
  refine j_iand (by decide +kernel) ?_
  refine j_i2c (by decide +kernel) ?_
  rw [show (jsb.getD i []).getD k 0 = sgCh i k from rfl, (sgCh_all i hi k hk).1]
  exact j_ret (v := some (.int (sgCh i k))) ⟨by decide +kernel, Or.inr (Or.inr (Or.inr ⟨by decide +kernel, (sgCh_all i hi k hk).2.1⟩))⟩ ⟨rfl, rfl⟩ rfl
theorem st_chr {i k : Nat} (hi : i < 13) (hk : k < jsl.getD i 0) (hd1 : 3 ≤ d) : jCal l g 66 d [.ref (jAK g i), .int (Int32.ofInt (k : Int))] h 0 0 (fun w h' => h' = h ∧ w = some (.int (sgCh i k))) := by
  refine jCal_of (by decide +kernel) (show 2 ≤ jmx 66 by decide +kernel) ?_
  show J l g 66 d 0 [some (.ref (jAK g i)), some (.int (Int32.ofInt (k : Int)))] [] h 0 0 _
  have hc : "java/lang/String" = (jyN 66).cls := by decide +kernel
  refine j_aload_n (k4 := 0) (by decide +kernel) rfl ?_
  refine j_callVS (own := 16) (i := 492) (y2 := 67) (d2 := 0) (mc := 0) (ms := 0) (kc := 0) (ks := 0) (As := []) (st := []) hi (by decide +kernel) (by decide +kernel) (by decide +kernel) (by decide +kernel) (by decide) (by decide +kernel) (by decide +kernel) (by omega) (by decide) (st_isL hi) (fun v h' hq => ?_)
  obtain ⟨rfl, rfl⟩ := hq
  refine j_if_eq (off := 12) (tgt := 16) (by decide +kernel) (by decide) (fun e => absurd e (by decide)) (fun _ => ?_)
  refine j_aload_n (k4 := 0) (by decide +kernel) rfl ?_
  refine j_strval hi (by decide +kernel) hc ?_
  refine j_iload_n (k4 := 1) (by decide +kernel) rfl ?_
  refine j_callS' (own := 16) (i := 495) (y2 := 68) (d2 := 2) (mc := 0) (ms := 0) (kc := 0) (ks := 0) (As := [.ref (jAV g i), .int (Int32.ofInt (k : Int))]) (st := []) (by decide +kernel) (by decide +kernel) (by decide +kernel) (by decide) (by decide +kernel) (show 2 = jnp 68 by decide +kernel) (by omega) (by decide) (st_lat hi hk (by omega)) (fun w h' hq => ?_)
  obtain ⟨rfl, rfl⟩ := hq
  exact j_ret (v := some (.int (sgCh i k))) ⟨by decide +kernel, Or.inr (Or.inr (Or.inr ⟨by decide +kernel, (sgCh_all i hi k hk).2.1⟩))⟩ ⟨rfl, rfl⟩ rfl
end SG
