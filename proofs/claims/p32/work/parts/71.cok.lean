/-! the concrete run is the machine's -/
section CO
variable {l : Launch} {g : jG} {y d pc own : Nat} {kc ks : Nat} {Q : Option Value → jH → Prop} {h0 : jH} {loc : List (Option cV)} {stk : List cV} {H : List cC} {len : Nat} {r : cN}
theorem cv0 {B : Nat} {v : cV} (h : Nat.beq v.1 0 = true) : cval g B v = .int (Int32.ofInt v.2) := by
  rw [cval, Nat.eq_of_beq_eq_true h]
  rfl
theorem cv1 {B : Nat} {v : cV} (h : Nat.beq v.1 1 = true) : cval g B v = .ref (g.2.2 + (B + v.2.toNat)) := by
  rw [cval, Nat.eq_of_beq_eq_true h]
  rfl
theorem cvc {B : Nat} {v : cV} (h : Nat.ble v.1 2 = true) : (cval g B v).category = 1 := by
  have h1 := Nat.le_of_ble_eq_true h
  rw [cval]
  match hk : v.1, h1 with
  | 0, _ => rfl
  | 1, _ => rfl
  | 2, _ => rfl
theorem chp_len : (chp g h0 H).length = h0.length + H.length := by rw [chp, List.length_append, List.length_map]
theorem chp_get {a : Nat} {c : cC} (h : H[a]? = some c) : (chp g h0 H)[h0.length + a]? = some (ccel g h0.length c) := by
  rw [chp, List.getElem?_append_right (by omega), show h0.length + a - h0.length = a by omega, List.getElem?_map, h]
  rfl
theorem chp_set {a : Nat} {c : cC} : (chp g h0 H).set (h0.length + a) (ccel g h0.length c) = chp g h0 (H.set a c) := by
  rw [chp, chp, List.set_append_right _ _ (by omega), show h0.length + a - h0.length = a by omega, List.map_set]
theorem chp_push {c : cC} : chp g h0 H ++ [ccel g h0.length c] = chp g h0 (H ++ [c]) := by
  rw [chp, chp, List.map_append, List.append_assoc]
  rfl
theorem cL_get {B k : Nat} {v : cV} (h : loc[k]? = some (some v)) : (cL g B loc)[k]? = some (some (cval g B v)) := by
  rw [cL, List.getElem?_map, h]
  rfl
theorem cst1 {B i : Nat} {v : cV} (hc : clo loc = true) : jst1 (cL g B loc) i (cval g B v) = cL g B (loc.set i (some v)) := by
  have e : (cL g B loc).set i (some (cval g B v)) = cL g B (loc.set i (some v)) := by rw [cL, cL, List.map_set]; rfl
  unfold jst1
  cases i with
  | zero => exact e
  | succ k =>
    dsimp only
    split
    · rename_i w hw
      have hw2 : w.category = 1 := by
        cases hk : loc[k]? with
        | none => rw [cL, List.getElem?_map, hk] at hw; cases hw
        | some o =>
          cases o with
          | none => rw [cL, List.getElem?_map, hk] at hw; cases hw
          | some u =>
            rw [cL_get hk] at hw
            cases hw
            exact cvc (List.all_eq_true.mp hc (some u) (List.mem_of_getElem? hk))
      rw [if_neg (by rw [hw2]; decide)]
      exact e
    · exact e
theorem c_iconst {z : Int} (ho : jcN own = (jyN y).cls) (hd : decode (jbC y) pc = .ok (.iconst z, len)) (hs : cstep y own pc (.iconst z) len loc stk H = some r) (k : J l g y d r.1 (cL g h0.length r.2.1) (cS g h0.length r.2.2.1) (chp g h0 r.2.2.2.1) kc ks Q) : J l g y d pc (cL g h0.length loc) (cS g h0.length stk) (chp g h0 H) (r.2.2.2.2.1 + kc) (r.2.2.2.2.2 + ks) Q := by
  obtain ⟨hb, h1⟩ := bif_some hs
  have hlen := Nat.eq_of_beq_eq_true hb
  subst hlen
  cases h1
  rw [Nat.zero_add, Nat.zero_add]
  exact j_iconst hd k
theorem c_bipush {z : Int} (ho : jcN own = (jyN y).cls) (hd : decode (jbC y) pc = .ok (.bipush z, len)) (hs : cstep y own pc (.bipush z) len loc stk H = some r) (k : J l g y d r.1 (cL g h0.length r.2.1) (cS g h0.length r.2.2.1) (chp g h0 r.2.2.2.1) kc ks Q) : J l g y d pc (cL g h0.length loc) (cS g h0.length stk) (chp g h0 H) (r.2.2.2.2.1 + kc) (r.2.2.2.2.2 + ks) Q := by
  obtain ⟨hb, h1⟩ := bif_some hs
  simp only [Bool.and_eq_true, decide_eq_true_eq] at hb
  have hlen := Nat.eq_of_beq_eq_true hb.1.1
  subst hlen
  cases h1
  rw [Nat.zero_add, Nat.zero_add]
  refine j_bipush hd ?_
  have e : (Int8.ofInt z).toInt32 = Int32.ofInt z := by
    apply Int32.toInt_inj.mp
    rw [Int8.toInt_toInt32, Int8.toInt_ofInt, show Int8.size = 256 from rfl, i32_ofInt (by omega) (by omega)]
    exact Int.bmod_eq_of_le (by omega) (by omega)
  rw [e]
  exact k
theorem c_sipush {z : Int} (ho : jcN own = (jyN y).cls) (hd : decode (jbC y) pc = .ok (.sipush z, len)) (hs : cstep y own pc (.sipush z) len loc stk H = some r) (k : J l g y d r.1 (cL g h0.length r.2.1) (cS g h0.length r.2.2.1) (chp g h0 r.2.2.2.1) kc ks Q) : J l g y d pc (cL g h0.length loc) (cS g h0.length stk) (chp g h0 H) (r.2.2.2.2.1 + kc) (r.2.2.2.2.2 + ks) Q := by
  obtain ⟨hb, h1⟩ := bif_some hs
  simp only [Bool.and_eq_true, decide_eq_true_eq] at hb
  have hlen := Nat.eq_of_beq_eq_true hb.1.1
  subst hlen
  cases h1
  rw [Nat.zero_add, Nat.zero_add]
  refine j_sipush hd ?_
  have e : (Int16.ofInt z).toInt32 = Int32.ofInt z := by
    apply Int32.toInt_inj.mp
    rw [Int16.toInt_toInt32, Int16.toInt_ofInt, show Int16.size = 65536 from rfl, i32_ofInt (by omega) (by omega)]
    exact Int.bmod_eq_of_le (by omega) (by omega)
  rw [e]
  exact k
theorem jeV_mem {own j : Nat} {q : Nat × Nat × Int32} (h : jeV.find? (fun q => Nat.beq q.2.1 j && Nat.beq q.1 own) = some q) : (own, j, q.2.2) ∈ jeV := by
  have h1 := List.mem_of_find?_eq_some h
  have h2 := List.find?_some (p := fun q : Nat × Nat × Int32 => Nat.beq q.2.1 j && Nat.beq q.1 own) h
  rw [Bool.and_eq_true] at h2
  have e1 := Nat.eq_of_beq_eq_true h2.1
  have e2 := Nat.eq_of_beq_eq_true h2.2
  rw [← e1, ← e2]
  exact h1
theorem c_ldc {j : Nat} (ho : jcN own = (jyN y).cls) (hd : decode (jbC y) pc = .ok (.ldc j, len)) (hs : cstep y own pc (.ldc j) len loc stk H = some r) (k : J l g y d r.1 (cL g h0.length r.2.1) (cS g h0.length r.2.2.1) (chp g h0 r.2.2.2.1) kc ks Q) : J l g y d pc (cL g h0.length loc) (cS g h0.length stk) (chp g h0 H) (r.2.2.2.2.1 + kc) (r.2.2.2.2.2 + ks) Q := by
  obtain ⟨hb, h1⟩ := bif_some hs
  have hlen := Nat.eq_of_beq_eq_true hb
  subst hlen
  split at h1
  · rename_i q hq
    cases h1
    rw [Nat.zero_add, Nat.zero_add]
    refine j_ldc ho (jeV_mem hq) hd ?_
    have e : cval g h0.length (0, q.2.2.toInt) = .int q.2.2 := by
      show Value.int (Int32.ofInt q.2.2.toInt) = _
      rw [Int32.ofInt_toInt]
    rw [← e]
    exact k
  · cases h1
theorem c_aload {k4 : Fin 4} (ho : jcN own = (jyN y).cls) (hd : decode (jbC y) pc = .ok (.aload_n k4, len)) (hs : cstep y own pc (.aload_n k4) len loc stk H = some r) (k : J l g y d r.1 (cL g h0.length r.2.1) (cS g h0.length r.2.2.1) (chp g h0 r.2.2.2.1) kc ks Q) : J l g y d pc (cL g h0.length loc) (cS g h0.length stk) (chp g h0 H) (r.2.2.2.2.1 + kc) (r.2.2.2.2.2 + ks) Q := by
  obtain ⟨hb, h1⟩ := bif_some hs
  have hlen := Nat.eq_of_beq_eq_true hb
  subst hlen
  split at h1
  · rename_i v hv
    obtain ⟨hb2, h2⟩ := bif_some h1
    cases h2
    rw [Nat.zero_add, Nat.zero_add]
    have hg := cL_get (g := g) (B := h0.length) hv
    rw [cv1 hb2] at hg
    refine j_aload_n hd hg ?_
    rw [← cv1 hb2]
    exact k
  · cases h1
theorem c_iload {k4 : Fin 4} (ho : jcN own = (jyN y).cls) (hd : decode (jbC y) pc = .ok (.iload_n k4, len)) (hs : cstep y own pc (.iload_n k4) len loc stk H = some r) (k : J l g y d r.1 (cL g h0.length r.2.1) (cS g h0.length r.2.2.1) (chp g h0 r.2.2.2.1) kc ks Q) : J l g y d pc (cL g h0.length loc) (cS g h0.length stk) (chp g h0 H) (r.2.2.2.2.1 + kc) (r.2.2.2.2.2 + ks) Q := by
  obtain ⟨hb, h1⟩ := bif_some hs
  have hlen := Nat.eq_of_beq_eq_true hb
  subst hlen
  split at h1
  · rename_i v hv
    obtain ⟨hb2, h2⟩ := bif_some h1
    cases h2
    rw [Nat.zero_add, Nat.zero_add]
    have hg := cL_get (g := g) (B := h0.length) hv
    rw [cv0 hb2] at hg
    refine j_iload_n hd hg ?_
    rw [← cv0 (g := g) (B := h0.length) hb2]
    exact k
  · cases h1
theorem c_istore {k4 : Fin 4} (ho : jcN own = (jyN y).cls) (hd : decode (jbC y) pc = .ok (.istore_n k4, len)) (hs : cstep y own pc (.istore_n k4) len loc stk H = some r) (k : J l g y d r.1 (cL g h0.length r.2.1) (cS g h0.length r.2.2.1) (chp g h0 r.2.2.2.1) kc ks Q) : J l g y d pc (cL g h0.length loc) (cS g h0.length stk) (chp g h0 H) (r.2.2.2.2.1 + kc) (r.2.2.2.2.2 + ks) Q := by
  match stk, hs with
  | [], hs => exact nn hs
  | v :: stk, hs =>
    obtain ⟨hb, h1⟩ := bif_some hs
    simp only [Bool.and_eq_true] at hb
    obtain ⟨⟨⟨l0, c1⟩, c2⟩, c3⟩ := hb
    have hlen := Nat.eq_of_beq_eq_true l0
    subst hlen
    cases h1
    rw [Nat.zero_add, Nat.zero_add]
    show J l g y d pc _ (cval g h0.length v :: cS g h0.length stk) _ _ _ _
    dsimp only at k
    rw [← cst1 c3] at k
    rw [cv0 c1] at k ⊢
    exact j_istore_n hd (blt_lt c2) k
theorem c_iinc {i : Nat} {z : Int} (ho : jcN own = (jyN y).cls) (hd : decode (jbC y) pc = .ok (.iinc i z, len)) (hs : cstep y own pc (.iinc i z) len loc stk H = some r) (k : J l g y d r.1 (cL g h0.length r.2.1) (cS g h0.length r.2.2.1) (chp g h0 r.2.2.2.1) kc ks Q) : J l g y d pc (cL g h0.length loc) (cS g h0.length stk) (chp g h0 H) (r.2.2.2.2.1 + kc) (r.2.2.2.2.2 + ks) Q := by
  obtain ⟨hb, h1⟩ := bif_some hs
  simp only [Bool.and_eq_true] at hb
  obtain ⟨⟨l0, c2⟩, c3⟩ := hb
  have hlen := Nat.eq_of_beq_eq_true l0
  subst hlen
  split at h1
  · rename_i v hv
    obtain ⟨hb2, h2⟩ := bif_some h1
    cases h2
    rw [Nat.zero_add, Nat.zero_add]
    dsimp only at k
    rw [← cst1 c3] at k
    have hg := cL_get (g := g) (B := h0.length) hv
    rw [cv0 hb2] at hg
    refine j_iinc hd (blt_lt c2) hg ?_
    rw [← Int32.ofInt_add]
    exact k
  · cases h1
theorem c_dup (ho : jcN own = (jyN y).cls) (hd : decode (jbC y) pc = .ok (.dup, len)) (hs : cstep y own pc (.dup) len loc stk H = some r) (k : J l g y d r.1 (cL g h0.length r.2.1) (cS g h0.length r.2.2.1) (chp g h0 r.2.2.2.1) kc ks Q) : J l g y d pc (cL g h0.length loc) (cS g h0.length stk) (chp g h0 H) (r.2.2.2.2.1 + kc) (r.2.2.2.2.2 + ks) Q := by
  match stk, hs with
  | [], hs => exact nn hs
  | v :: stk, hs =>
    obtain ⟨hb, h1⟩ := bif_some hs
    simp only [Bool.and_eq_true] at hb
    have hlen := Nat.eq_of_beq_eq_true hb.1
    subst hlen
    cases h1
    rw [Nat.zero_add, Nat.zero_add]
    exact j_dup hd (cvc hb.2) k
theorem c_iadd (ho : jcN own = (jyN y).cls) (hd : decode (jbC y) pc = .ok (.iadd, len)) (hs : cstep y own pc (.iadd) len loc stk H = some r) (k : J l g y d r.1 (cL g h0.length r.2.1) (cS g h0.length r.2.2.1) (chp g h0 r.2.2.2.1) kc ks Q) : J l g y d pc (cL g h0.length loc) (cS g h0.length stk) (chp g h0 H) (r.2.2.2.2.1 + kc) (r.2.2.2.2.2 + ks) Q := by
  match stk, hs with
  | [], hs => exact nn hs
  | [_], hs => exact nn hs
  | v :: w :: stk, hs =>
    obtain ⟨hb, h1⟩ := bif_some hs
    simp only [Bool.and_eq_true] at hb
    obtain ⟨⟨l0, c1⟩, c2⟩ := hb
    have hlen := Nat.eq_of_beq_eq_true l0
    subst hlen
    cases h1
    rw [Nat.zero_add, Nat.zero_add]
    show J l g y d pc _ (cval g h0.length v :: cval g h0.length w :: cS g h0.length stk) _ _ _ _
    rw [cv0 c1, cv0 c2]
    refine j_iadd hd ?_
    rw [← Int32.ofInt_add]
    exact k
theorem c_imul (ho : jcN own = (jyN y).cls) (hd : decode (jbC y) pc = .ok (.imul, len)) (hs : cstep y own pc (.imul) len loc stk H = some r) (k : J l g y d r.1 (cL g h0.length r.2.1) (cS g h0.length r.2.2.1) (chp g h0 r.2.2.2.1) kc ks Q) : J l g y d pc (cL g h0.length loc) (cS g h0.length stk) (chp g h0 H) (r.2.2.2.2.1 + kc) (r.2.2.2.2.2 + ks) Q := by
  match stk, hs with
  | [], hs => exact nn hs
  | [_], hs => exact nn hs
  | v :: w :: stk, hs =>
    obtain ⟨hb, h1⟩ := bif_some hs
    simp only [Bool.and_eq_true] at hb
    obtain ⟨⟨l0, c1⟩, c2⟩ := hb
    have hlen := Nat.eq_of_beq_eq_true l0
    subst hlen
    cases h1
    rw [Nat.zero_add, Nat.zero_add]
    show J l g y d pc _ (cval g h0.length v :: cval g h0.length w :: cS g h0.length stk) _ _ _ _
    rw [cv0 c1, cv0 c2]
    refine j_imul hd ?_
    rw [← Int32.ofInt_mul]
    exact k
theorem c_goto {off : Int} (ho : jcN own = (jyN y).cls) (hd : decode (jbC y) pc = .ok (.goto off, len)) (hs : cstep y own pc (.goto off) len loc stk H = some r) (k : J l g y d r.1 (cL g h0.length r.2.1) (cS g h0.length r.2.2.1) (chp g h0 r.2.2.2.1) kc ks Q) : J l g y d pc (cL g h0.length loc) (cS g h0.length stk) (chp g h0 H) (r.2.2.2.2.1 + kc) (r.2.2.2.2.2 + ks) Q := by
  obtain ⟨hb, h1⟩ := bif_some hs
  simp only [Bool.and_eq_true, decide_eq_true_eq] at hb
  have hlen := Nat.eq_of_beq_eq_true hb.1
  subst hlen
  cases h1
  rw [Nat.zero_add, Nat.zero_add]
  exact j_goto hd (tgtN_ok hb.2) k
theorem cin_ok {z : Int} (h : cin z = true) : (Int32.ofInt z).toInt = z := by
  simp only [cin, Bool.and_eq_true, decide_eq_true_eq] at h
  exact i32_ofInt h.1 h.2
theorem c_icmp {c : ClassFile.Cond} {off : Int} (ho : jcN own = (jyN y).cls) (hd : decode (jbC y) pc = .ok (.if_icmp c off, len)) (hs : cstep y own pc (.if_icmp c off) len loc stk H = some r) (k : J l g y d r.1 (cL g h0.length r.2.1) (cS g h0.length r.2.2.1) (chp g h0 r.2.2.2.1) kc ks Q) : J l g y d pc (cL g h0.length loc) (cS g h0.length stk) (chp g h0 H) (r.2.2.2.2.1 + kc) (r.2.2.2.2.2 + ks) Q := by
  cases c with
  | ge =>
    match stk, hs with
    | [], hs => exact nn hs
    | [_], hs => exact nn hs
    | v :: w :: stk, hs =>
      obtain ⟨hb, h1⟩ := bif_some hs
      simp only [Bool.and_eq_true, decide_eq_true_eq] at hb
      obtain ⟨⟨⟨⟨⟨l0, c1⟩, c2⟩, c3⟩, c4⟩, c5⟩ := hb
      have hlen := Nat.eq_of_beq_eq_true l0
      subst hlen
      show J l g y d pc _ (cval g h0.length v :: cval g h0.length w :: cS g h0.length stk) _ _ _ _
      rw [cv0 c1, cv0 c2]
      by_cases hc : v.2 ≤ w.2
      · simp only [hc, decide_true, cond_true] at h1
        cases h1
        rw [Nat.zero_add, Nat.zero_add]
        refine j_icmp_ge hd (tgtN_ok c5) (fun _ => k) (fun q => absurd (Int32.le_iff_toInt_le.mpr ?_) q)
        rw [cin_ok c3, cin_ok c4]
        exact hc
      · simp only [hc, decide_false, cond_false] at h1
        cases h1
        rw [Nat.zero_add, Nat.zero_add]
        refine j_icmp_ge hd (tgtN_ok c5) (fun q => ?_) (fun _ => k)
        have := Int32.le_iff_toInt_le.mp q
        rw [cin_ok c3, cin_ok c4] at this
        exact absurd this hc
  | _ => exact nn (by revert hs; match stk with | [] => exact id | [_] => exact id | _ :: _ :: _ => exact id)
theorem cdfT_at {ci : Nat} {L : List cV} (hl : cdfT[ci]? = some L) : ∃ r : vw_C, jcl[ci]? = some r ∧ L.length = r.2.2 ∧ jcN ci = r.1 ∧ ci ∈ jeO ∧ ci ∈ jeQ ∧ ∀ k, k < r.2.2 → ∃ ty, parseFieldDescriptor (r.2.1 k).2.2.1 = some ty ∧ cdef ty = L[k]? := by
  have hci : ci < 13 := (List.getElem?_eq_some_iff.mp hl).1
  have h1 := List.all_eq_true.mp cdfT_all ci (List.mem_range.mpr hci)
  rw [hl] at h1
  cases hr : jcl[ci]? with
  | none => rw [hr] at h1; cases h1
  | some r =>
    rw [hr] at h1
    simp only [Bool.and_eq_true, decide_eq_true_eq] at h1
    obtain ⟨⟨⟨⟨a1, a2⟩, a3⟩, a4⟩, a5⟩ := h1
    refine ⟨r, rfl, Nat.eq_of_beq_eq_true a1, a2, List.contains_iff_mem.mp a3, List.contains_iff_mem.mp a4, fun k hk => ?_⟩
    have h2 := List.all_eq_true.mp a5 k (List.mem_range.mpr hk)
    split at h2
    · rename_i ty hty
      exact ⟨ty, hty, by simpa using h2⟩
    · cases h2
theorem cdef_val {B : Nat} {ty : FieldType} {v : cV} (h : cdef ty = some v) : defaultValue ty = cval g B v := by
  cases ty <;> first | (cases h; rfl) | (exact absurd h (by simp [cdef]))
theorem c_new {j : Nat} (ho : jcN own = (jyN y).cls) (hd : decode (jbC y) pc = .ok (.new j, len)) (hs : cstep y own pc (.new j) len loc stk H = some r) (k : J l g y d r.1 (cL g h0.length r.2.1) (cS g h0.length r.2.2.1) (chp g h0 r.2.2.2.1) kc ks Q) : J l g y d pc (cL g h0.length loc) (cS g h0.length stk) (chp g h0 H) (r.2.2.2.2.1 + kc) (r.2.2.2.2.2 + ks) Q := by
  obtain ⟨hb, h1⟩ := bif_some hs
  have hlen := Nat.eq_of_beq_eq_true hb
  subst hlen
  split at h1
  · rename_i ci hci
    split at h1
    · rename_i L hL
      cases h1
      obtain ⟨r, a1, a2, a3, a4, a5, a6⟩ := cdfT_at hL
      dsimp only
      rw [a2]
      refine j_new (fs := L.map (cval g h0.length)) hd ho (jfind3_mem hci) a1 a3 a4 a5 (fun ty hty q hq => ?_) ?_
      · obtain ⟨t, t1, t2⟩ := a6 q hq
        rw [hty q hq] at t1
        cases t1
        have hq2 : q < L.length := by omega
        rw [List.getElem?_eq_getElem hq2] at t2
        rw [vp_V, List.getD_eq_getElem?_getD, List.getElem?_map, List.getElem?_eq_getElem hq2]
        exact cdef_val t2
      · rw [chp_len]
        have e := chp_push (g := g) (h0 := h0) (H := H) (c := .inr (ci, L))
        rw [show ccel g h0.length (.inr (ci, L)) = .inr (ci, L.map (cval g h0.length)) from rfl] at e
        rw [e]
        exact k
    · cases h1
  · cases h1
theorem c_newa {at_ : ArrayType} (ho : jcN own = (jyN y).cls) (hd : decode (jbC y) pc = .ok (.newarray at_, len)) (hs : cstep y own pc (.newarray at_) len loc stk H = some r) (k : J l g y d r.1 (cL g h0.length r.2.1) (cS g h0.length r.2.2.1) (chp g h0 r.2.2.2.1) kc ks Q) : J l g y d pc (cL g h0.length loc) (cS g h0.length stk) (chp g h0 H) (r.2.2.2.2.1 + kc) (r.2.2.2.2.2 + ks) Q := by
  have main : ∀ (t : Nat) (v : cV) (stk : List cV), ((at_ = .int ∧ t = 0) ∨ (at_ = .boolean ∧ t = 1)) → (bif Nat.beq len 2 && Nat.beq v.1 0 && decide (0 ≤ v.2) && decide (v.2 ≤ 134217728) then some (pc + 2, loc, (1, (H.length : Int)) :: stk, H ++ [.inl (t, v.2.toNat, 0, [])], 1, v.2.toNat) else none) = some r → J l g y d pc (cL g h0.length loc) (cS g h0.length (v :: stk)) (chp g h0 H) (r.2.2.2.2.1 + kc) (r.2.2.2.2.2 + ks) Q := by
    intro t v stk ht hs
    obtain ⟨hb, h1⟩ := bif_some hs
    simp only [Bool.and_eq_true, decide_eq_true_eq] at hb
    obtain ⟨⟨⟨l0, c1⟩, c2⟩, c3⟩ := hb
    have hlen := Nat.eq_of_beq_eq_true l0
    subst hlen
    cases h1
    dsimp only
    show J l g y d pc _ (cval g h0.length v :: cS g h0.length stk) _ _ _ _
    rw [cv0 c1]
    have e1 : (Int32.ofInt v.2).toInt = v.2 := i32_ofInt (by omega) (by omega)
    have e2 := i32_clamp (i := Int32.ofInt v.2) (by omega)
    refine j_newa (N := v.2.toNat) hd ht (i32_nn (by omega)) (by omega) (by omega) ?_
    rw [chp_len]
    have e := chp_push (g := g) (h0 := h0) (H := H) (c := .inl (t, v.2.toNat, 0, []))
    rw [show ccel g h0.length (.inl (t, v.2.toNat, 0, [])) = .inl (t, v.2.toNat, fun _ => 0) by show (Sum.inl (t, v.2.toNat, fun i => if i < v.2.toNat then Int32.ofInt 0 else 0) : jC) = _; congr 3; funext i; split <;> rfl] at e
    rw [e]
    exact k
  cases at_ with
  | int => match stk, hs with
    | v :: stk, hs => exact main 0 v stk (Or.inl ⟨rfl, rfl⟩) hs
    | [], hs => exact nn hs
  | boolean => match stk, hs with
    | v :: stk, hs => exact main 1 v stk (Or.inr ⟨rfl, rfl⟩) hs
    | [], hs => exact nn hs
  | _ => exact nn (by revert hs; match stk with | [] => exact id | _ :: _ => exact id)
theorem c_get {j : Nat} (ho : jcN own = (jyN y).cls) (hd : decode (jbC y) pc = .ok (.getfield j, len)) (hs : cstep y own pc (.getfield j) len loc stk H = some r) (k : J l g y d r.1 (cL g h0.length r.2.1) (cS g h0.length r.2.2.1) (chp g h0 r.2.2.2.1) kc ks Q) : J l g y d pc (cL g h0.length loc) (cS g h0.length stk) (chp g h0 H) (r.2.2.2.2.1 + kc) (r.2.2.2.2.2 + ks) Q := by
  match stk, hs with
  | [], hs => exact nn hs
  | w :: stk, hs =>
    obtain ⟨hb, h1⟩ := bif_some hs
    simp only [Bool.and_eq_true] at hb
    have hlen := Nat.eq_of_beq_eq_true hb.1
    subst hlen
    split at h1
    · rename_i q hq
      split at h1
      · rename_i o hH
        split at h1
        · rename_i v r hv hr
          obtain ⟨hb2, h2⟩ := bif_some h1
          rw [Bool.and_eq_true] at hb2
          have e1 := Nat.eq_of_beq_eq_true hb2.1
          have e2 := blt_lt hb2.2
          cases h2
          rw [Nat.zero_add, Nat.zero_add]
          show J l g y d pc _ (cval g h0.length w :: cS g h0.length stk) _ _ _ _
          rw [cv1 hb.2]
          have hc := chp_get (g := g) (h0 := h0) hH
          rw [show ccel g h0.length (.inr o) = .inr (o.1, o.2.map (cval g h0.length)) from rfl, e1] at hc
          exact j_get hd ho (jfind_mem hq) hc (fun r' hr' => by cases hr.symm.trans hr'; exact e2) (by rw [List.getElem?_map, hv]; rfl) k
        · cases h1
      · cases h1
    · cases h1
theorem c_put {j : Nat} (ho : jcN own = (jyN y).cls) (hd : decode (jbC y) pc = .ok (.putfield j, len)) (hs : cstep y own pc (.putfield j) len loc stk H = some r) (k : J l g y d r.1 (cL g h0.length r.2.1) (cS g h0.length r.2.2.1) (chp g h0 r.2.2.2.1) kc ks Q) : J l g y d pc (cL g h0.length loc) (cS g h0.length stk) (chp g h0 H) (r.2.2.2.2.1 + kc) (r.2.2.2.2.2 + ks) Q := by
  match stk, hs with
  | [], hs => exact nn hs
  | [_], hs => exact nn hs
  | v :: w :: stk, hs =>
    obtain ⟨hb, h1⟩ := bif_some hs
    simp only [Bool.and_eq_true] at hb
    have hlen := Nat.eq_of_beq_eq_true hb.1
    subst hlen
    split at h1
    · rename_i q hq
      split at h1
      · rename_i o hH
        split at h1
        · rename_i r hr
          obtain ⟨hb2, h2⟩ := bif_some h1
          simp only [Bool.and_eq_true, Bool.or_eq_true, Bool.not_eq_true', decide_eq_true_eq] at hb2
          obtain ⟨⟨⟨⟨a1, a2⟩, a3⟩, a4⟩, a5⟩ := hb2
          have e1 := Nat.eq_of_beq_eq_true a1
          have e2 := blt_lt a2
          have e3 := blt_lt a3
          cases h2
          rw [Nat.zero_add, Nat.zero_add]
          show J l g y d pc _ (cval g h0.length v :: cval g h0.length w :: cS g h0.length stk) _ _ _ _
          rw [cv1 hb.2]
          have hc := chp_get (g := g) (h0 := h0) hH
          rw [show ccel g h0.length (.inr o) = .inr (o.1, o.2.map (cval g h0.length)) from rfl, e1] at hc
          have hk : J l g y d (pc + 3) (cL g h0.length loc) (cS g h0.length stk) ((chp g h0 H).set (h0.length + w.2.toNat) (.inr (q.1, (o.2.map (cval g h0.length)).set q.2 (cval g h0.length v)))) kc ks Q := by
            have e := chp_set (g := g) (h0 := h0) (H := H) (a := w.2.toNat) (c := .inr (o.1, o.2.set q.2 v))
            rw [show ccel g h0.length (.inr (o.1, o.2.set q.2 v)) = .inr (o.1, (o.2.map (cval g h0.length)).set q.2 (cval g h0.length v)) by rw [ccel, List.map_set], e1] at e
            rw [e]
            rw [e1] at k
            exact k
          have hty : ∃ ty, parseFieldDescriptor (r.2.1 q.2).2.2.1 = some ty ∧ narrow ty (cval g h0.length v) = cval g h0.length v ∧ fits ty (cval g h0.length v) = true := by
            rw [cput] at a4
            split at a4
            · rename_i ht
              rw [cv0 a4]
              exact ⟨_, ht, rfl, rfl⟩
            · rename_i ht
              rw [cv1 a4]
              exact ⟨_, ht, rfl, rfl⟩
            · rename_i ht
              rw [cv1 a4]
              exact ⟨_, ht, rfl, rfl⟩
            · cases a4
          obtain ⟨ty, t1, t2, t3⟩ := hty
          cases hf : (r.2.1 q.2).2.2.2 with
          | false => exact j_put hd ho (jfind_mem hq) hc hr e2 (by rw [List.length_map]; exact e3) hf t1 t2 t3 hk
          | true =>
            rcases a5 with a5 | ⟨a5, a6⟩
            · rw [hf] at a5; cases a5
            · exact j_putF hd ho (jfind_mem hq) hc hr e2 (by rw [List.length_map]; exact e3) hf a5 a6 t1 t2 t3 hk
        · cases h1
      · cases h1
    · cases h1
theorem c_iast (ho : jcN own = (jyN y).cls) (hd : decode (jbC y) pc = .ok (.iastore, len)) (hs : cstep y own pc (.iastore) len loc stk H = some r) (k : J l g y d r.1 (cL g h0.length r.2.1) (cS g h0.length r.2.2.1) (chp g h0 r.2.2.2.1) kc ks Q) : J l g y d pc (cL g h0.length loc) (cS g h0.length stk) (chp g h0 H) (r.2.2.2.2.1 + kc) (r.2.2.2.2.2 + ks) Q := by
  match stk, hs with
  | [], hs => exact nn hs
  | [_], hs => exact nn hs
  | [_, _], hs => exact nn hs
  | v :: x :: w :: stk, hs =>
    obtain ⟨hb, h1⟩ := bif_some hs
    simp only [Bool.and_eq_true] at hb
    obtain ⟨⟨⟨l0, c1⟩, c2⟩, c3⟩ := hb
    have hlen := Nat.eq_of_beq_eq_true l0
    subst hlen
    split at h1
    · rename_i a hH
      obtain ⟨hb2, h2⟩ := bif_some h1
      simp only [Bool.and_eq_true, decide_eq_true_eq] at hb2
      obtain ⟨⟨⟨a1, a2⟩, a3⟩, a4⟩ := hb2
      have e1 := Nat.eq_of_beq_eq_true a1
      cases h2
      rw [Nat.zero_add, Nat.zero_add]
      show J l g y d pc _ (cval g h0.length v :: cval g h0.length x :: cval g h0.length w :: cS g h0.length stk) _ _ _ _
      rw [cv0 c1, cv0 c2, cv1 c3]
      have hc := chp_get (g := g) (h0 := h0) hH
      rw [show ccel g h0.length (.inl a) = .inl (a.1, a.2.1, fun i => if i < a.2.1 then Int32.ofInt (clook a.2.2.1 a.2.2.2 i) else 0) from rfl, e1] at hc
      have e2 := cin_ok a4
      have e3 := i32_clamp (i := Int32.ofInt x.2) (by omega)
      refine j_iast hd hc (i32_in (by omega) (by omega)) ?_
      have e := chp_set (g := g) (h0 := h0) (H := H) (a := w.2.toNat) (c := .inl (a.1, a.2.1, a.2.2.1, (x.2.toNat, 1, v.2) :: a.2.2.2))
      have ef : upd (fun i => if i < a.2.1 then Int32.ofInt (clook a.2.2.1 a.2.2.2 i) else 0) (Int32.ofInt x.2).toNatClampNeg (Int32.ofInt v.2) = fun i => if i < a.2.1 then Int32.ofInt (clook a.2.2.1 ((x.2.toNat, 1, v.2) :: a.2.2.2) i) else 0 := by
        funext i
        rw [upd, clook]
        by_cases hi : i = (Int32.ofInt x.2).toNatClampNeg
        · have hi2 : x.2.toNat = i := by omega
          rw [if_pos hi, if_pos (by omega), show (Nat.ble x.2.toNat i && Nat.blt i (x.2.toNat + 1)) = true by rw [Bool.and_eq_true]; exact ⟨Nat.ble_eq_true_of_le (by omega), Nat.ble_eq_true_of_le (by omega)⟩]
          rfl
        · have hi2 : ¬ x.2.toNat = i := by omega
          rw [if_neg hi, show (Nat.ble x.2.toNat i && Nat.blt i (x.2.toNat + 1)) = false from by cases hbq : (Nat.ble x.2.toNat i && Nat.blt i (x.2.toNat + 1)) with | false => rfl | true => rw [Bool.and_eq_true] at hbq; have h5 := Nat.le_of_ble_eq_true hbq.1; have h6 := blt_lt hbq.2; omega]
          rfl
      rw [ef]
      rw [show ccel g h0.length (.inl (a.1, a.2.1, a.2.2.1, (x.2.toNat, 1, v.2) :: a.2.2.2)) = .inl (a.1, a.2.1, fun i => if i < a.2.1 then Int32.ofInt (clook a.2.2.1 ((x.2.toNat, 1, v.2) :: a.2.2.2) i) else 0) from rfl, e1] at e
      rw [e]
      rw [e1] at k
      exact k
    · cases h1
theorem c_alen (ho : jcN own = (jyN y).cls) (hd : decode (jbC y) pc = .ok (.arraylength, len)) (hs : cstep y own pc (.arraylength) len loc stk H = some r) (k : J l g y d r.1 (cL g h0.length r.2.1) (cS g h0.length r.2.2.1) (chp g h0 r.2.2.2.1) kc ks Q) : J l g y d pc (cL g h0.length loc) (cS g h0.length stk) (chp g h0 H) (r.2.2.2.2.1 + kc) (r.2.2.2.2.2 + ks) Q := by
  match stk, hs with
  | [], hs => exact nn hs
  | w :: stk, hs =>
    obtain ⟨hb, h1⟩ := bif_some hs
    simp only [Bool.and_eq_true] at hb
    have hlen := Nat.eq_of_beq_eq_true hb.1
    subst hlen
    split at h1
    · rename_i a hH
      obtain ⟨hb2, h2⟩ := bif_some h1
      have e1 := Nat.le_of_ble_eq_true hb2
      cases h2
      rw [Nat.zero_add, Nat.zero_add]
      show J l g y d pc _ (cval g h0.length w :: cS g h0.length stk) _ _ _ _
      rw [cv1 hb.2]
      have hc := chp_get (g := g) (h0 := h0) hH
      refine j_alen hd (t := a.1) (by omega) hc ?_
      rw [← Int32.ofInt_eq_ofNat]
      exact k
    · cases h1
theorem cstep_ok {i : Instr} (ho : jcN own = (jyN y).cls) (hd : decode (jbC y) pc = .ok (i, len)) (hs : cstep y own pc i len loc stk H = some r) (k : J l g y d r.1 (cL g h0.length r.2.1) (cS g h0.length r.2.2.1) (chp g h0 r.2.2.2.1) kc ks Q) : J l g y d pc (cL g h0.length loc) (cS g h0.length stk) (chp g h0 H) (r.2.2.2.2.1 + kc) (r.2.2.2.2.2 + ks) Q := by
  cases i with
  | iconst => exact c_iconst ho hd hs k
  | bipush => exact c_bipush ho hd hs k
  | sipush => exact c_sipush ho hd hs k
  | ldc => exact c_ldc ho hd hs k
  | aload_n => exact c_aload ho hd hs k
  | iload_n => exact c_iload ho hd hs k
  | istore_n => exact c_istore ho hd hs k
  | iinc => exact c_iinc ho hd hs k
  | dup => exact c_dup ho hd hs k
  | iadd => exact c_iadd ho hd hs k
  | imul => exact c_imul ho hd hs k
  | goto => exact c_goto ho hd hs k
  | if_icmp => exact c_icmp ho hd hs k
  | new => exact c_new ho hd hs k
  | newarray => exact c_newa ho hd hs k
  | getfield => exact c_get ho hd hs k
  | putfield => exact c_put ho hd hs k
  | iastore => exact c_iast ho hd hs k
  | arraylength => exact c_alen ho hd hs k
  | _ => exact nn hs
theorem crun_ok : ∀ (n : Nat) (S S' : cN), jcN own = (jyN y).cls → crun y own n S = some S' → ∃ mc ms, S'.2.2.2.2.1 = S.2.2.2.2.1 + mc ∧ S'.2.2.2.2.2 = S.2.2.2.2.2 + ms ∧ ∀ kc ks, J l g y d S'.1 (cL g h0.length S'.2.1) (cS g h0.length S'.2.2.1) (chp g h0 S'.2.2.2.1) kc ks Q → J l g y d S.1 (cL g h0.length S.2.1) (cS g h0.length S.2.2.1) (chp g h0 S.2.2.2.1) (mc + kc) (ms + ks) Q := by
  intro n
  induction n with
  | zero =>
    intro S S' ho hs
    cases hs
    exact ⟨0, 0, rfl, rfl, fun kc ks k => by rw [Nat.zero_add, Nat.zero_add]; exact k⟩
  | succ n ih =>
    intro S S' ho hs
    rw [crun] at hs
    cases hd0 : dcF y S.1 with
    | error e => rw [hd0] at hs; cases hs
    | ok q =>
      rw [hd0] at hs
      have hd := dQ hd0
      dsimp only at hs
      split at hs
      · cases hs
      · rename_i r hr
        obtain ⟨mc, ms, e1, e2, k2⟩ := ih _ _ ho hs
        dsimp only at e1 e2 k2
        refine ⟨r.2.2.2.2.1 + mc, r.2.2.2.2.2 + ms, by omega, by omega, fun kc ks k => ?_⟩
        rw [Nat.add_assoc, Nat.add_assoc]
        exact cstep_ok ho hd hr (k2 kc ks k)
theorem jobj_im : Cond.instanceMethod Lib.objectInit ∈ jtb := List.mem_filter.mpr ⟨List.mem_of_getElem? (i := 111) (by decide +kernel), by decide +kernel⟩
theorem jobj_co : Cond.code Lib.objectInit { data := #[177] } 1 none ∈ jtb := List.mem_filter.mpr ⟨List.mem_of_getElem? (i := 112) (by decide +kernel), by decide +kernel⟩
theorem jobj_nm : jyN 1 = Lib.objectInit := by decide +kernel
theorem j_obj {al : List (Option Value)} {st : List Value} {h : jH} {i a : Nat} (hd : decode (jbC y) pc = .ok (.invokespecial i, 3)) (ho : jcN own = (jyN y).cls) (hm : (own, i, 1) ∈ jeM) (hd1 : 1 ≤ d) (hst : (st.map fun v => v.category).sum ≤ 8) (k : J l g y d (pc + 3) al st h kc ks Q) : J l g y d pc al (.ref a :: st) h kc ks Q := by
  intro p e R s m args below meth c Z MC MS X K r1 r2 r3 r4 hZ H locs cells slots ls hW hl c1 c2
  have hts := X.2.2.2.2.2.1
  have hlk := hts _ (jeM_in _ hm)
  rw [jwM] at hlk
  simp only [jobj_nm] at hlk
  exact W.objInit X.1 X.2.1 (j_own X ho) hlk (hts _ jobj_im) (hts _ jobj_co) (g := F0 m pc ls (.ref a :: st)) rfl (hl.1.trans X.2.2.1.symm) rfl hd (by omega) (by show 2 * 0 + _ + 12 ≤ _; omega) (k p e R s m args below meth c Z MC MS X K r1 r2 r3 r4 hZ H locs cells slots ls hW hl c1 c2)
theorem fill_loop {h : jH} {n a : Nat} {f : Nat → Int32} {v : Int32} (hn : n ≤ 2147483647) (hc : h[a]? = some (.inl (0, n, f))) : ∀ (m k : Nat), n - k = m → k ≤ n → J l g 9 d 5 [some (.ref (g.2.2 + a)), some (.int v), some (.int (Int32.ofInt k)), some (.int (Int32.ofInt n))] [] (h.set a (.inl (0, n, fun i => if i < k then v else f i))) kc ks (fun r h' => r = none ∧ h' = h.set a (.inl (0, n, fun i => if i < n then v else f i))) := by
  intro m
  have hla : a < h.length := (List.getElem?_eq_some_iff.mp hc).1
  have t1 : (Int32.ofInt (n : Int)).toInt = n := i32_ofInt (by omega) (by omega)
  induction m with
  | zero =>
    intro k hm hk
    have e : k = n := by omega
    subst e
    refine j_iload_n (k4 := 2) (by decide +kernel) rfl ?_
    refine j_iload_n (k4 := 3) (by decide +kernel) rfl ?_
    refine j_icmp_ge (off := 13) (tgt := 20) (by decide +kernel) (by decide) (fun _ => ?_) (fun q => absurd (Int32.le_iff_toInt_le.mpr (Int.le_refl _)) q)
    exact j_ret (v := none) ⟨by decide +kernel, by decide +kernel⟩ ⟨rfl, rfl⟩ rfl
  | succ m ih =>
    intro k hm hk
    have t2 : (Int32.ofInt (k : Int)).toInt = k := i32_ofInt (by omega) (by omega)
    have t3 := i32_clamp (i := Int32.ofInt (k : Int)) (by omega)
    refine j_iload_n (k4 := 2) (by decide +kernel) rfl ?_
    refine j_iload_n (k4 := 3) (by decide +kernel) rfl ?_
    refine j_icmp_ge (off := 13) (tgt := 20) (by decide +kernel) (by decide) (fun q => ?_) (fun _ => ?_)
    · have := Int32.le_iff_toInt_le.mp q
      omega
    refine j_aload_n (k4 := 0) (by decide +kernel) rfl ?_
    refine j_iload_n (k4 := 2) (by decide +kernel) rfl ?_
    refine j_iload_n (k4 := 1) (by decide +kernel) rfl ?_
    refine j_iast (a := a) (n := n) (by decide +kernel) (List.getElem?_set_self hla) (i32_in (by omega) (by omega)) ?_
    refine j_iinc (i := 2) (n := 1) (by decide +kernel) (by decide +kernel) rfl ?_
    refine j_goto (off := -12) (tgt := 5) (by decide +kernel) (by decide) ?_
    have e1 : ((h.set a (.inl (0, n, fun i => if i < k then v else f i))).set a (.inl (0, n, upd (fun i => if i < k then v else f i) (Int32.ofInt (k : Int)).toNatClampNeg v))) = h.set a (.inl (0, n, fun i => if i < k + 1 then v else f i)) := by
      rw [List.set_set]
      congr 4
      funext i
      rw [upd]
      by_cases hi : i = (Int32.ofInt (k : Int)).toNatClampNeg
      · rw [if_pos hi, if_pos (by omega)]
      · rw [if_neg hi]
        by_cases hi2 : i < k
        · rw [if_pos hi2, if_pos (by omega)]
        · rw [if_neg hi2, if_neg (by omega)]
    rw [e1]
    have e2 : Int32.ofInt (k : Int) + Int32.ofInt 1 = Int32.ofInt ((k + 1 : Nat) : Int) := by rw [← Int32.ofInt_add]; rfl
    have := ih (k + 1) (by omega) (by omega)
    rw [← e2] at this
    exact this
theorem fill_ok {h : jH} {n a : Nat} {f : Nat → Int32} {v : Int32} (hn : n ≤ 2147483647) (hc : h[a]? = some (.inl (0, n, f))) : jCal l g 9 d [.ref (g.2.2 + a), .int v] h kc ks (fun r h' => r = none ∧ h' = h.set a (.inl (0, n, fun i => if i < n then v else f i))) := by
  refine jCal_of (by decide +kernel) (show 2 ≤ jmx 9 by decide +kernel) ?_
  have hla : a < h.length := (List.getElem?_eq_some_iff.mp hc).1
  show J l g 9 d 0 [some (.ref (g.2.2 + a)), some (.int v), none, none] [] h kc ks _
  refine j_iconst (n := 0) (by decide +kernel) ?_
  refine j_istore_n (k4 := 2) (by decide +kernel) (by decide +kernel) ?_
  refine j_aload_n (k4 := 0) (by decide +kernel) rfl ?_
  refine j_alen (by decide +kernel) (Or.inl rfl) hc ?_
  refine j_istore_n (k4 := 3) (by decide +kernel) (by decide +kernel) ?_
  have := fill_loop (l := l) (g := g) (d := d) (kc := kc) (ks := ks) (v := v) hn hc n 0 (by omega) (by omega)
  rw [show (fun i => if i < 0 then v else f i) = f by funext i; rw [if_neg (by omega)]] at this
  obtain ⟨hla2, hc2⟩ := List.getElem?_eq_some_iff.mp hc
  rw [show h.set a (.inl (0, n, f)) = h by rw [← hc2]; exact List.set_getElem_self hla2] at this
  rw [show Int32.ofNat n = Int32.ofInt (n : Int) from Int32.ofInt_eq_ofNat.symm]
  exact this
theorem cS_cat {B : Nat} (h : stk.all (fun v => Nat.ble v.1 2) = true) : ((cS g B stk).map fun v => v.category).sum = stk.length := by
  induction stk with
  | nil => rfl
  | cons v t ih =>
    rw [List.all_cons, Bool.and_eq_true] at h
    show (cval g B v).category + ((cS g B t).map fun v => v.category).sum = t.length + 1
    rw [ih h.2, cvc h.1]
    omega
theorem cS_drop {B n : Nat} : (cS g B stk).drop n = cS g B (stk.drop n) := by rw [cS, cS, List.map_drop]
theorem all_drop {α : Type} {p : α → Bool} {l : List α} {n : Nat} (h : l.all p = true) : (l.drop n).all p = true := List.all_eq_true.mpr (fun x hx => List.all_eq_true.mp h x (List.mem_of_mem_drop hx))
theorem all_take {α : Type} {p : α → Bool} {l : List α} {n : Nat} (h : l.all p = true) : (l.take n).all p = true := List.all_eq_true.mpr (fun x hx => List.all_eq_true.mp h x (List.mem_of_mem_take hx))
theorem cS_jargs {B : Nat} : ∀ {av : List cV}, av.all (fun v => Nat.ble v.1 2) = true → jargs (cS g B av) = av.map (fun v => some (cval g B v)) := by
  intro av
  induction av with
  | nil => intro _; rfl
  | cons v t ih =>
    intro h
    rw [List.all_cons, Bool.and_eq_true] at h
    show jargs (cval g B v :: cS g B t) = _
    rw [jargs, cvc h.1, if_neg (by decide), ih h.2]
    rfl
theorem cloc_jal {B y2 : Nat} {av : List cV} (h : av.all (fun v => Nat.ble v.1 2) = true) : jal y2 (cS g B av) = cL g B (cloc y2 av) := by
  rw [jal, cS_jargs h, cL, cloc, List.map_append, List.map_map, List.map_replicate, List.length_map]
  rfl
theorem cev_ok : ∀ (n y own d pc : Nat) (loc : List (Option cV)) (stk : List cV) (H : List cC) (r : List cC × Nat × Nat), jcN own = (jyN y).cls → cev n y own d pc loc stk H = some r → J l g y d pc (cL g h0.length loc) (cS g h0.length stk) (chp g h0 H) r.2.1 r.2.2 (fun v h' => v = none ∧ h' = chp g h0 r.1) := by
  intro n
  induction n with
  | zero => intro y own d pc loc stk H r _ h; exact nn h
  | succ n ih =>
    intro y own d pc loc stk H r ho h
    unfold cev at h
    cases hd0 : dcF y pc with
    | error e => rw [hd0] at h; cases h
    | ok q =>
      rw [hd0] at h
      obtain ⟨i, len⟩ := q
      have hd := dQ hd0
      dsimp only at h
      split at h
      · obtain ⟨hb, h1⟩ := bif_some h
        simp only [Bool.and_eq_true, decide_eq_true_eq] at hb
        obtain ⟨⟨l0, c1⟩, c2⟩ := hb
        have hlen := Nat.eq_of_beq_eq_true l0
        subst hlen
        cases h1
        have hst : stk = [] := by cases stk with | nil => rfl | cons => cases c2
        subst hst
        exact j_ret (v := none) ⟨hd, c1⟩ ⟨rfl, rfl⟩ rfl
      · rename_i j
        obtain ⟨hb, h1⟩ := bif_some h
        simp only [Bool.and_eq_true] at hb
        have hlen := Nat.eq_of_beq_eq_true hb.1
        subst hlen
        have hd1 := blt_lt hb.2
        split at h1
        · cases h1
        · rename_i w hw
          split at h1
          · rename_i hf
            obtain ⟨hb2, h2⟩ := bif_some h1
            simp only [Bool.and_eq_true] at hb2
            obtain ⟨⟨⟨c0, c1⟩, c2⟩, c3⟩ := hb2
            have hm := jfindS_M hf c0
            have c2 := Nat.le_of_ble_eq_true c2
            match stk, hw with
            | w' :: stk, hw =>
              cases hw
              show J l g y d pc _ (cval g h0.length w :: cS g h0.length stk) _ _ _ _
              rw [cv1 c1]
              rw [List.all_cons, Bool.and_eq_true] at c3
              refine j_obj hd ho hm hd1 (by rw [cS_cat c3.2]; simp at c2; omega) ?_
              exact ih y own d (pc + 3) loc stk H r ho h2
          · cases h1
          · rename_i y2 _ hf
            obtain ⟨hb2, h2⟩ := bif_some h1
            simp only [Bool.and_eq_true, decide_eq_true_eq] at hb2
            obtain ⟨⟨⟨⟨⟨⟨⟨⟨⟨⟨⟨a1, a2⟩, a3⟩, a4⟩, a5⟩, a6⟩, a7⟩, a8⟩, a9⟩, a10⟩, a11⟩, a12⟩ := hb2
            have hy := blt_lt a1
            have hk := Nat.eq_of_beq_eq_true a2
            have a8 := Nat.le_of_ble_eq_true a8
            have a9 := Nat.le_of_ble_eq_true a9
            have a10 := Nat.le_of_ble_eq_true a10
            obtain ⟨m1, m2, -, -⟩ := je_mem hy
            split at h2
            · cases h2
            · rename_i r1 hr1
              split at h2
              · cases h2
              · rename_i r2 hr2
                cases h2
                split at a12
                · rename_i w' hw'
                  have hav : ((stk.take (jnp y2 + 1)).reverse).all (fun v => Nat.ble v.1 2) = true := by rw [List.all_reverse]; exact all_take a11
                  have hcal : jCal l g y2 (d - 1) (cS g h0.length (stk.take (jnp y2 + 1)).reverse) (chp g h0 H) r1.2.1 r1.2.2 (fun v h' => v = none ∧ h' = chp g h0 r1.1) := by
                    refine jCal_of a6 ?_ ?_
                    · rw [lg_jargs, cS_jargs hav]
                      simp
                      omega
                    · rw [cloc_jal hav]
                      exact ih y2 _ (d - 1) 0 _ [] H r1 a7 hr1
                  have e1 : cS g h0.length (stk.take (jnp y2 + 1)).reverse = .ref (g.2.2 + (h0.length + w'.2.toNat)) :: cS g h0.length (stk.take (jnp y2)).reverse := by
                    rw [List.take_add_one, hw']
                    simp only [Option.toList_some, List.reverse_append, List.reverse_cons, List.reverse_nil, List.nil_append, List.cons_append]
                    show cval g h0.length w' :: _ = _
                    rw [cv1 a12]
                    rfl
                  have e2 : cS g h0.length stk = (cS g h0.length (stk.take (jnp y2)).reverse).reverse ++ .ref (g.2.2 + (h0.length + w'.2.toNat)) :: cS g h0.length (stk.drop (jnp y2 + 1)) := by
                    have e3 := (List.take_append_drop (jnp y2 + 1) stk).symm
                    rw [List.take_add_one, hw'] at e3
                    conv => lhs; rw [e3]
                    rw [cS, cS, cS, List.map_reverse, List.reverse_reverse, List.map_append, List.map_append]
                    simp only [Option.toList_some, List.map_cons, List.map_nil, List.append_assoc, List.cons_append, List.nil_append]
                    rw [cv1 a12]
                  rw [e1] at hcal
                  rw [e2]
                  have hn2 : (cS g h0.length (stk.take (jnp y2)).reverse).length = jnp y2 := by rw [cS, List.length_map, List.length_reverse, List.length_take]; omega
                  have hst : ((cS g h0.length (stk.drop (jnp y2 + 1))).map fun v => v.category).sum ≤ 8 := by
                    rw [cS_cat (all_drop a11), List.length_drop]
                    omega
                  rcases jfindS_mem hf with hm | hm
                  · exact j_callI hd ho hm hy m1 m2 hk a3 a4 (List.contains_iff_mem.mp a5) hn2 (by omega) hst hcal (fun v h' hq => by
                      obtain ⟨rfl, rfl⟩ := hq
                      exact ih y own d (pc + 3) loc _ r1.1 r2 ho hr2)
                  · exact j_callIN hd ho hm hy m1 m2 hk a3 a4 (List.contains_iff_mem.mp a5) hn2 (by omega) hst hcal (fun v h' hq => by
                      obtain ⟨rfl, rfl⟩ := hq
                      exact ih y own d (pc + 3) loc _ r1.1 r2 ho hr2)
                · cases a12
      · rename_i j
        obtain ⟨hb, h1⟩ := bif_some h
        simp only [Bool.and_eq_true] at hb
        have hlen := Nat.eq_of_beq_eq_true hb.1
        subst hlen
        have hd1 := blt_lt hb.2
        split at h1
        · rename_i hf
          split at h1
          · rename_i v w stk
            obtain ⟨hb2, h2⟩ := bif_some h1
            simp only [Bool.and_eq_true] at hb2
            obtain ⟨⟨⟨⟨⟨c1, c2⟩, c3⟩, c4⟩, c5⟩, c6⟩ := hb2
            have c5 := Nat.le_of_ble_eq_true c5
            show J l g y d pc _ (cval g h0.length v :: cval g h0.length w :: cS g h0.length stk) _ _ _ _
            rw [cv0 c1, cv0 c2]
            refine j_mmax hd ho (jfind3_mem hf) hd1 (by rw [cS_cat c6]; exact c5) ?_
            have e : (if Int32.ofInt w.2 < Int32.ofInt v.2 then Int32.ofInt v.2 else Int32.ofInt w.2) = Int32.ofInt (bif decide (w.2 < v.2) then v.2 else w.2) := by
              by_cases hc : w.2 < v.2
              · rw [if_pos (i32_lt.mpr (by rw [cin_ok c3, cin_ok c4]; exact hc))]
                simp [hc]
              · rw [if_neg (fun q => hc (by have := i32_lt.mp q; rw [cin_ok c3, cin_ok c4] at this; exact this))]
                simp [hc]
            rw [e]
            exact ih y own d (pc + 3) loc _ H r ho h2
          · cases h1
        · rename_i hf
          split at h1
          · rename_i v w stk
            obtain ⟨hb2, h2⟩ := bif_some h1
            simp only [Bool.and_eq_true] at hb2
            obtain ⟨⟨⟨⟨⟨c1, c2⟩, c3⟩, c4⟩, c5⟩, c6⟩ := hb2
            have c4 := Nat.le_of_ble_eq_true c4
            have c6 := blt_lt c6
            split at h2
            · rename_i a hH
              obtain ⟨hb3, h3⟩ := bif_some h2
              simp only [Bool.and_eq_true] at hb3
              have t0 := Nat.eq_of_beq_eq_true hb3.1
              have t1 := Nat.le_of_ble_eq_true hb3.2
              have hc := chp_get (g := g) (h0 := h0) hH
              rw [show ccel g h0.length (.inl a) = .inl (a.1, a.2.1, fun i => if i < a.2.1 then Int32.ofInt (clook a.2.2.1 a.2.2.2 i) else 0) from rfl, t0] at hc
              show J l g y d pc _ ([cval g h0.length w, cval g h0.length v].reverse ++ cS g h0.length stk) _ _ _ _
              rw [cv0 c1, cv1 c2, show r.2.1 = 0 + r.2.1 by omega, show r.2.2 = 0 + r.2.2 by omega]
              refine j_callS (d2 := 1) hd ho (jfind3_mem hf) (by decide) (by decide +kernel) (by decide +kernel) (by decide +kernel) (by decide +kernel) (show 2 = jnp 9 by decide +kernel) (by omega) (by rw [cS_cat c5]; exact c4) (fill_ok t1 hc) (fun v' h' hq => ?_)
              obtain ⟨rfl, rfl⟩ := hq
              have e := chp_set (g := g) (h0 := h0) (H := H) (a := w.2.toNat) (c := .inl (a.1, a.2.1, v.2, []))
              rw [show ccel g h0.length (.inl (a.1, a.2.1, v.2, [])) = .inl (a.1, a.2.1, fun i => if i < a.2.1 then Int32.ofInt v.2 else 0) from rfl, t0] at e
              have ef : (fun i => if i < a.2.1 then Int32.ofInt v.2 else if i < a.2.1 then Int32.ofInt (clook a.2.2.1 a.2.2.2 i) else 0) = fun i => if i < a.2.1 then Int32.ofInt v.2 else 0 := by
                funext i
                by_cases hi : i < a.2.1
                · rw [if_pos hi, if_pos hi]
                · rw [if_neg hi, if_neg hi, if_neg hi]
              rw [ef, e]
              rw [t0] at h3
              exact ih y own d (pc + 3) loc _ _ r ho h3
            · cases h2
          · cases h1
        · cases h1
      · split at h
        · cases h
        · rename_i r1 hr1
          split at h
          · cases h
          · rename_i r2 hr2
            cases h
            exact cstep_ok ho hd hr1 (ih y own d _ _ _ _ r2 ho hr2)
end CO
