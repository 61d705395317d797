/-! exact walks: tools -/
section XT
variable {l : Launch} {g : jG} {y d pc kc ks : Nat} {al : List (Option Value)} {st : List Value} {h : jH} {Q : Option Value → jH → Prop}
theorem x_bi {n : Int} (hd : decode (jbC y) pc = .ok (.bipush n, 2)) (he : (Int8.ofInt n).toInt32 = Int32.ofInt n) (k : J l g y d (pc + 2) al (.int (Int32.ofInt n) :: st) h kc ks Q) : J l g y d pc al st h kc ks Q := by
  rw [← he] at k
  exact j_bipush hd k
theorem x_si {n : Int} (hd : decode (jbC y) pc = .ok (.sipush n, 3)) (he : (Int16.ofInt n).toInt32 = Int32.ofInt n) (k : J l g y d (pc + 3) al (.int (Int32.ofInt n) :: st) h kc ks Q) : J l g y d pc al st h kc ks Q := by
  rw [← he] at k
  exact j_sipush hd k
theorem x_add {a b : Int32} (hd : decode (jbC y) pc = .ok (.iadd, 1)) (h1 : -2147483648 ≤ a.toInt + b.toInt ∧ a.toInt + b.toInt ≤ 2147483647) (k : ∀ r : Int32, r.toInt = a.toInt + b.toInt → J l g y d (pc + 1) al (.int r :: st) h kc ks Q) : J l g y d pc al (.int b :: .int a :: st) h kc ks Q := j_iadd hd (k _ (i32_add h1.1 h1.2))
theorem x_sub {a b : Int32} (hd : decode (jbC y) pc = .ok (.isub, 1)) (h1 : -2147483648 ≤ a.toInt - b.toInt ∧ a.toInt - b.toInt ≤ 2147483647) (k : ∀ r : Int32, r.toInt = a.toInt - b.toInt → J l g y d (pc + 1) al (.int r :: st) h kc ks Q) : J l g y d pc al (.int b :: .int a :: st) h kc ks Q := j_isub hd (k _ (i32_sub h1.1 h1.2))
/-- by a known factor -/
theorem x_mul {a b : Int32} {z : Int} (hd : decode (jbC y) pc = .ok (.imul, 1)) (hz : a.toInt * b.toInt = z) (h1 : -2147483648 ≤ z ∧ z ≤ 2147483647) (k : ∀ r : Int32, r.toInt = z → J l g y d (pc + 1) al (.int r :: st) h kc ks Q) : J l g y d pc al (.int b :: .int a :: st) h kc ks Q := j_imul hd (k _ (by rw [i32_mul (by omega) (by omega)]; exact hz))
theorem x_ald {a n : Nat} {f : Nat → Int32} {x : Int32} (i' : Nat) (hd : decode (jbC y) pc = .ok (.iaload, 1)) (hc : h[a]? = some (.inl (0, n, f))) (hi : x.toInt = (i' : Int)) (hn : i' < n) (k : J l g y d (pc + 1) al (.int (f i') :: st) h kc ks Q) : J l g y d pc al (.int x :: .ref (g.2.2 + a) :: st) h kc ks Q := by
  have e : x.toNatClampNeg = i' := i32_at hi
  refine j_iald hd hc (i32_in (by omega) (by omega)) ?_
  rw [e]
  exact k
theorem upd_eq {f : Nat → Int32} {k : Nat} {v : Int32} : upd f k v k = v := by simp [upd]
theorem upd_ne {f : Nat → Int32} {k j : Nat} {v : Int32} (h : j ≠ k) : upd f k v j = f j := by simp [upd, h]
/-- a number that is known -/
theorem x_aldv {a n : Nat} {f : Nat → Int32} {x v : Int32} (i' : Nat) (hd : decode (jbC y) pc = .ok (.iaload, 1)) (hc : h[a]? = some (.inl (0, n, f))) (hi : x.toInt = (i' : Int)) (hn : i' < n) (hv : f i' = v) (k : J l g y d (pc + 1) al (.int v :: st) h kc ks Q) : J l g y d pc al (.int x :: .ref (g.2.2 + a) :: st) h kc ks Q := by
  refine x_ald i' hd hc hi hn ?_
  rw [hv]
  exact k
theorem x_ast {a n : Nat} {f : Nat → Int32} {x v : Int32} (i' : Nat) (hd : decode (jbC y) pc = .ok (.iastore, 1)) (hc : h[a]? = some (.inl (0, n, f))) (hi : x.toInt = (i' : Int)) (hn : i' < n) (k : J l g y d (pc + 1) al st (h.set a (.inl (0, n, upd f i' v))) kc ks Q) : J l g y d pc al (.int v :: .int x :: .ref (g.2.2 + a) :: st) h kc ks Q := by
  have e : x.toNatClampNeg = i' := i32_at hi
  refine j_iast hd hc (i32_in (by omega) (by omega)) ?_
  rw [e]
  exact k
theorem i32_le {x z : Int32} : x ≤ z ↔ x.toInt ≤ z.toInt := Int32.le_iff_toInt_le
theorem i64_lt {x z : Int64} : x < z ↔ x.toInt < z.toInt := Int64.lt_iff_toInt_lt
theorem i64_le {x z : Int64} : x ≤ z ↔ x.toInt ≤ z.toInt := Int64.le_iff_toInt_le
theorem lg_cmpT (a b : Int64) : ((lg_cmp a b).toInt < 0 ↔ a.toInt < b.toInt) ∧ ((lg_cmp a b).toInt = 0 ↔ a.toInt = b.toInt) ∧ (0 < (lg_cmp a b).toInt ↔ b.toInt < a.toInt) := by
  unfold lg_cmp
  have h1 : a > b ↔ b.toInt < a.toInt := i64_lt
  have h2 : a = b ↔ a.toInt = b.toInt := Int64.toInt_inj.symm
  by_cases g1 : a > b
  · rw [if_pos g1]
    have := h1.mp g1
    refine ⟨⟨fun q => absurd q (by decide), fun q => by omega⟩, ⟨fun q => absurd q (by decide), fun q => by omega⟩, ⟨fun _ => this, fun _ => by decide⟩⟩
  · rw [if_neg g1]
    have g1' := mt h1.mpr g1
    by_cases g2 : a = b
    · rw [if_pos g2]
      have := h2.mp g2
      refine ⟨⟨fun q => absurd q (by decide), fun q => by omega⟩, ⟨fun _ => this, fun _ => by decide⟩, ⟨fun q => absurd q (by decide), fun q => by omega⟩⟩
    · rw [if_neg g2]
      have g2' := mt h2.mpr g2
      refine ⟨⟨fun _ => by omega, fun _ => by decide⟩, ⟨fun q => absurd q (by decide), fun q => absurd q g2'⟩, ⟨fun q => absurd q (by decide), fun q => by omega⟩⟩
theorem x_lcmp {a b : Int64} (hd : decode (jbC y) pc = .ok (.lcmp, 1)) (k : ∀ r : Int32, ((r.toInt < 0 ↔ a.toInt < b.toInt) ∧ (r.toInt = 0 ↔ a.toInt = b.toInt) ∧ (0 < r.toInt ↔ b.toInt < a.toInt)) → J l g y d (pc + 1) al (.int r :: st) h kc ks Q) : J l g y d pc al (.long b :: .long a :: st) h kc ks Q := j_lcmp hd (k _ (lg_cmpT a b))
theorem x_lsub {a b : Int64} (hd : decode (jbC y) pc = .ok (.lsub, 1)) (h1 : -9223372036854775808 ≤ a.toInt - b.toInt ∧ a.toInt - b.toInt ≤ 9223372036854775807) (k : ∀ r : Int64, r.toInt = a.toInt - b.toInt → J l g y d (pc + 1) al (.long r :: st) h kc ks Q) : J l g y d pc al (.long b :: .long a :: st) h kc ks Q := j_lsub hd (k _ (i64_sub h1.1 h1.2))
theorem x_i2l {a : Int32} (hd : decode (jbC y) pc = .ok (.i2l, 1)) (k : ∀ r : Int64, r.toInt = a.toInt → J l g y d (pc + 1) al (.long r :: st) h kc ks Q) : J l g y d pc al (.int a :: st) h kc ks Q := j_i2l hd (k _ (i2l_ok a))
/-! one call, two contracts: the heaps are the same to the machine -/
theorem jCal.both {av : List Value} {mc ms : Nat} {Q1 Q2 : Option Value → jH → Prop} (h1 : jCal l g y d av h mc ms Q1) (h2 : jCal l g y d av h mc ms Q2) : jCal l g y d av h mc ms (fun v h' => Q1 v h' ∧ ∃ h2, Q2 v h2 ∧ ∃ H, jhr g h' H ∧ jhr g h2 H) := by
  have hh : ∀ i : Bool, Met l (jyN y) (jws y) { frames := d, cells := mc, slots := ms, locals := 64 * d } (va_Pc av (fun U => jhr g h U.heap ∧ jK g U)) (jQc g (if i then Q1 else Q2)) mc ms (fun q => g.2.2 ≤ q) := fun i => by
    cases i with
    | true => exact h1
    | false => exact h2
  unfold jCal Met
  refine MetFree.mono (MetFree.all hh) (fun a s hp => ⟨true, hp⟩) (fun _ _ _ _ _ _ => trivial) ?_
  intro a s o t hp hq
  obtain ⟨⟨v, h', e1, e2, e3, e4⟩, hL⟩ := hq true hp
  obtain ⟨⟨v2, h2', f1, f2, f3, f4⟩, -⟩ := hq false hp
  refine ⟨⟨v, h', e1, ⟨e2, h2', ?_, _, e3, f3⟩, e3, e4⟩, hL⟩
  cases e1.symm.trans f1
  exact f2
theorem tr_arr {h1 h2 : jH} {H : Heap} {a t n1 n2 : Nat} {f1 f2 : Nat → Int32} (e1 : jhr g h1 H) (e2 : jhr g h2 H) (c1 : h1[a]? = some (.inl (t, n1, f1))) (c2 : h2[a]? = some (.inl (t, n2, f2))) : n1 = n2 ∧ ∀ z, z < n1 → f1 z = f2 z := by
  have q1 : H[g.2.2 + a]? = some (vp_cell (g.2.1 t) (n1, .inl f1)) := e1.2 a _ c1
  have q2 : H[g.2.2 + a]? = some (vp_cell (g.2.1 t) (n2, .inl f2)) := e2.2 a _ c2
  have e := Option.some.inj (q1.symm.trans q2)
  rw [vp_cell_i, vp_cell_i] at e
  have hn : n1 = n2 := by
    have h3 : (arrV (g.2.1 t) n1 (fun j => Value.int (f1 j))).slots.size = (arrV (g.2.1 t) n2 (fun j => Value.int (f2 j))).slots.size := by rw [e]
    rwa [arrV_size, arrV_size] at h3
  subst hn
  refine ⟨rfl, fun z hz => ?_⟩
  have r1 := arrV_read (g.2.1 t) (N := n1) (fun j => Value.int (f1 j)) hz
  rw [e, arrV_read (g.2.1 t) (N := n1) (fun j => Value.int (f2 j)) hz] at r1
  exact (Value.int.inj (Option.some.inj r1)).symm
theorem tr_obj {h1 h2 : jH} {H : Heap} {a ci z : Nat} {F1 F2 : List Value} {v1 v2 : Value} {r : vw_C} (e1 : jhr g h1 H) (e2 : jhr g h2 H) (c1 : h1[a]? = some (.inr (ci, F1))) (c2 : h2[a]? = some (.inr (ci, F2))) (hr : jcl[ci]? = some r) (hz : z < r.2.2) (g1 : F1[z]? = some v1) (g2 : F2[z]? = some v2) : v1 = v2 := by
  obtain ⟨r1, p1, cell1, a1, -, -, a4⟩ := e1.2 a _ c1
  obtain ⟨r2, p2, cell2, b1, -, -, b4⟩ := e2.2 a _ c2
  cases hr.symm.trans p1
  cases hr.symm.trans p2
  cases a1.symm.trans b1
  have x1 := a4 z hz
  rw [b4 z hz] at x1
  have x1 := Option.some.inj x1
  rw [vp_V, vp_V, List.getD_eq_getElem?_getD, List.getD_eq_getElem?_getD, g1, g2] at x1
  exact x1.symm
end XT
