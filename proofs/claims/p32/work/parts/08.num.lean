/-! numbers of 32 and 64 bits as whole numbers -/
theorem i32_lo (x : Int32) : -2147483648 ≤ x.toInt := by have := Int32.le_toInt x; simpa using this
theorem i32_hi (x : Int32) : x.toInt ≤ 2147483647 := by have := Int32.toInt_lt x; simp at this; omega
theorem i64_lo (x : Int64) : -9223372036854775808 ≤ x.toInt := by have := Int64.le_toInt x; simpa using this
theorem i64_hi (x : Int64) : x.toInt ≤ 9223372036854775807 := by have := Int64.toInt_lt x; simp at this; omega
theorem bmod32 {z : Int} (h1 : -2147483648 ≤ z) (h2 : z ≤ 2147483647) : z.bmod (2 ^ 32) = z := by
  rw [Int.bmod_eq_of_le] <;> omega
theorem bmod64 {z : Int} (h1 : -9223372036854775808 ≤ z) (h2 : z ≤ 9223372036854775807) : z.bmod (2 ^ 64) = z := by
  rw [Int.bmod_eq_of_le] <;> omega
theorem i32_add {x y : Int32} (h1 : -2147483648 ≤ x.toInt + y.toInt) (h2 : x.toInt + y.toInt ≤ 2147483647) : (x + y).toInt = x.toInt + y.toInt := by
  rw [Int32.toInt_add]; exact bmod32 h1 h2
theorem i32_sub {x y : Int32} (h1 : -2147483648 ≤ x.toInt - y.toInt) (h2 : x.toInt - y.toInt ≤ 2147483647) : (x - y).toInt = x.toInt - y.toInt := by
  rw [Int32.toInt_sub]; exact bmod32 h1 h2
theorem i32_mul {x y : Int32} (h1 : -2147483648 ≤ x.toInt * y.toInt) (h2 : x.toInt * y.toInt ≤ 2147483647) : (x * y).toInt = x.toInt * y.toInt := by
  rw [Int32.toInt_mul]; exact bmod32 h1 h2
theorem i64_add {x y : Int64} (h1 : -9223372036854775808 ≤ x.toInt + y.toInt) (h2 : x.toInt + y.toInt ≤ 9223372036854775807) : (x + y).toInt = x.toInt + y.toInt := by
  rw [Int64.toInt_add]; exact bmod64 h1 h2
theorem i64_sub {x y : Int64} (h1 : -9223372036854775808 ≤ x.toInt - y.toInt) (h2 : x.toInt - y.toInt ≤ 9223372036854775807) : (x - y).toInt = x.toInt - y.toInt := by
  rw [Int64.toInt_sub]; exact bmod64 h1 h2
theorem i32_neg {x : Int32} (h2 : -2147483647 ≤ x.toInt) : (-x).toInt = -x.toInt := by
  rw [Int32.toInt_neg]; have := i32_hi x; exact bmod32 (by omega) (by omega)
theorem i32_ofInt {n : Int} (h1 : -2147483648 ≤ n) (h2 : n ≤ 2147483647) : (Int32.ofInt n).toInt = n := by
  rw [Int32.toInt_ofInt]; exact bmod32 h1 h2
theorem i2l_ok (x : Int32) : x.toInt64.toInt = x.toInt := by simp
theorem l2i_ok {x : Int64} (h1 : -2147483648 ≤ x.toInt) (h2 : x.toInt ≤ 2147483647) : x.toInt32.toInt = x.toInt := by
  rw [Int64.toInt_toInt32]; exact bmod32 h1 h2
/-- a quotient of what isn't negative -/
theorem i32_div {x y : Int32} (h1 : 0 ≤ x.toInt) (h2 : 0 < y.toInt) : (x / y).toInt = x.toInt / y.toInt := by
  obtain ⟨a, ha, rfl⟩ := nI_of (x := x) (by rw [Int32.lt_iff_toInt_lt]; simp; omega)
  obtain ⟨b, hb, rfl⟩ := nI_of (x := y) (by rw [Int32.lt_iff_toInt_lt]; simp; omega)
  rw [nI_toInt ha] at h1 ⊢
  rw [nI_toInt hb] at h2 ⊢
  have hb0 : 0 < b := by omega
  rw [pk_div ha hb0 hb, nI_toInt (Nat.lt_of_le_of_lt (Nat.div_le_self a b) ha)]
  simp
theorem i32_rem {x y : Int32} (h1 : 0 ≤ x.toInt) (h2 : 0 < y.toInt) : (x - x / y * y).toInt = x.toInt % y.toInt := by
  obtain ⟨a, ha, rfl⟩ := nI_of (x := x) (by rw [Int32.lt_iff_toInt_lt]; simp; omega)
  obtain ⟨b, hb, rfl⟩ := nI_of (x := y) (by rw [Int32.lt_iff_toInt_lt]; simp; omega)
  rw [nI_toInt ha] at h1 ⊢
  rw [nI_toInt hb] at h2 ⊢
  have hb0 : 0 < b := by omega
  rw [pk_rem ha hb0 hb, nI_toInt (Nat.lt_of_le_of_lt (Nat.mod_le a b) ha)]
  simp
theorem i32_and {x y : Int32} (h : 0 ≤ y.toInt) : 0 ≤ (x &&& y).toInt ∧ (x &&& y).toInt ≤ y.toInt := by
  obtain ⟨b, hb, rfl⟩ := nI_of (x := y) (by rw [Int32.lt_iff_toInt_lt]; simp; omega)
  have h1 : (x &&& nI b).toBitVec.toNat ≤ b := by
    rw [Int32.toBitVec_and, BitVec.toNat_and, pk_tn (by omega)]
    exact Nat.and_le_right
  have h2 : (x &&& nI b).toInt = ((x &&& nI b).toBitVec.toNat : Int) := by
    show (x &&& nI b).toBitVec.toInt = _
    rw [BitVec.toInt_eq_toNat_of_lt (by omega)]
  rw [h2, nI_toInt hb]
  omega
theorem i32_and' {x y : Int32} (h : 0 ≤ x.toInt) : 0 ≤ (x &&& y).toInt ∧ (x &&& y).toInt ≤ x.toInt := by
  rw [show x &&& y = y &&& x from Int32.and_comm ..]
  exact i32_and h
theorem i32_or {x y : Int32} {k : Nat} (hk : k ≤ 30) (hx : 0 ≤ x.toInt) (hy : 0 ≤ y.toInt) (hx2 : x.toInt < 2 ^ k) (hy2 : y.toInt < 2 ^ k) : 0 ≤ (x ||| y).toInt ∧ (x ||| y).toInt < 2 ^ k := by
  obtain ⟨a, ha, rfl⟩ := nI_of (x := x) (by rw [Int32.lt_iff_toInt_lt]; simp; omega)
  obtain ⟨b, hb, rfl⟩ := nI_of (x := y) (by rw [Int32.lt_iff_toInt_lt]; simp; omega)
  rw [nI_toInt ha] at hx2
  rw [nI_toInt hb] at hy2
  have h1 : (nI a ||| nI b).toBitVec.toNat < 2 ^ k := by
    rw [Int32.toBitVec_or, BitVec.toNat_or, pk_tn (by omega), pk_tn (by omega)]
    exact Nat.or_lt_two_pow (by exact_mod_cast hx2) (by exact_mod_cast hy2)
  have h3 : 2 ^ k ≤ 2 ^ 30 := Nat.pow_le_pow_right (by decide) hk
  have h2 : (nI a ||| nI b).toInt = ((nI a ||| nI b).toBitVec.toNat : Int) := by
    show (nI a ||| nI b).toBitVec.toInt = _
    rw [BitVec.toInt_eq_toNat_of_lt (by omega)]
  rw [h2]
  exact ⟨by omega, by exact_mod_cast h1⟩
theorem i32_xor {x y : Int32} {k : Nat} (hk : k ≤ 30) (hx : 0 ≤ x.toInt) (hy : 0 ≤ y.toInt) (hx2 : x.toInt < 2 ^ k) (hy2 : y.toInt < 2 ^ k) : 0 ≤ (x ^^^ y).toInt ∧ (x ^^^ y).toInt < 2 ^ k := by
  obtain ⟨a, ha, rfl⟩ := nI_of (x := x) (by rw [Int32.lt_iff_toInt_lt]; simp; omega)
  obtain ⟨b, hb, rfl⟩ := nI_of (x := y) (by rw [Int32.lt_iff_toInt_lt]; simp; omega)
  rw [nI_toInt ha] at hx2
  rw [nI_toInt hb] at hy2
  have h1 : (nI a ^^^ nI b).toBitVec.toNat < 2 ^ k := by
    rw [Int32.toBitVec_xor, BitVec.toNat_xor, pk_tn (by omega), pk_tn (by omega)]
    exact Nat.xor_lt_two_pow (by exact_mod_cast hx2) (by exact_mod_cast hy2)
  have h3 : 2 ^ k ≤ 2 ^ 30 := Nat.pow_le_pow_right (by decide) hk
  have h2 : (nI a ^^^ nI b).toInt = ((nI a ^^^ nI b).toBitVec.toNat : Int) := by
    show (nI a ^^^ nI b).toBitVec.toInt = _
    rw [BitVec.toInt_eq_toNat_of_lt (by omega)]
  rw [h2]
  exact ⟨by omega, by exact_mod_cast h1⟩
theorem i32_shl {x : Int32} {k : Nat} (hk : k ≤ 30) (hx : 0 ≤ x.toInt) (h2 : x.toInt * 2 ^ k ≤ 2147483647) : (x <<< (nI k &&& 31)).toInt = x.toInt * 2 ^ k := by
  obtain ⟨a, ha, rfl⟩ := nI_of (x := x) (by rw [Int32.lt_iff_toInt_lt]; simp; omega)
  rw [nI_toInt ha] at h2 ⊢
  have h3 : a * 2 ^ k < 2 ^ 31 := by
    have : ((a * 2 ^ k : Nat) : Int) ≤ 2147483647 := by push_cast; exact h2
    omega
  have hs : nI k &&& 31 = nI k := by
    have : k = 0 ∨ k = 1 ∨ k = 2 ∨ k = 3 ∨ k = 4 ∨ k = 5 ∨ k = 6 ∨ k = 7 ∨ k = 8 ∨ k = 9 ∨ k = 10 ∨ k = 11 ∨ k = 12 ∨ k = 13 ∨ k = 14 ∨ k = 15 ∨ k = 16 ∨ k = 17 ∨ k = 18 ∨ k = 19 ∨ k = 20 ∨ k = 21 ∨ k = 22 ∨ k = 23 ∨ k = 24 ∨ k = 25 ∨ k = 26 ∨ k = 27 ∨ k = 28 ∨ k = 29 ∨ k = 30 := by omega
    rcases this with rfl | rfl | rfl | rfl | rfl | rfl | rfl | rfl | rfl | rfl | rfl | rfl | rfl | rfl | rfl | rfl | rfl | rfl | rfl | rfl | rfl | rfl | rfl | rfl | rfl | rfl | rfl | rfl | rfl | rfl | rfl <;> decide
  have hm : ((nI k).toBitVec.smod 32).toNat = k := by
    have : k = 0 ∨ k = 1 ∨ k = 2 ∨ k = 3 ∨ k = 4 ∨ k = 5 ∨ k = 6 ∨ k = 7 ∨ k = 8 ∨ k = 9 ∨ k = 10 ∨ k = 11 ∨ k = 12 ∨ k = 13 ∨ k = 14 ∨ k = 15 ∨ k = 16 ∨ k = 17 ∨ k = 18 ∨ k = 19 ∨ k = 20 ∨ k = 21 ∨ k = 22 ∨ k = 23 ∨ k = 24 ∨ k = 25 ∨ k = 26 ∨ k = 27 ∨ k = 28 ∨ k = 29 ∨ k = 30 := by omega
    rcases this with rfl | rfl | rfl | rfl | rfl | rfl | rfl | rfl | rfl | rfl | rfl | rfl | rfl | rfl | rfl | rfl | rfl | rfl | rfl | rfl | rfl | rfl | rfl | rfl | rfl | rfl | rfl | rfl | rfl | rfl | rfl <;> decide
  rw [hs, pk_shlN _ k hm (by omega), nI_toInt h3]
  push_cast
  rfl
theorem i32_shr {x : Int32} {k : Nat} (hk : k ≤ 30) (hx : 0 ≤ x.toInt) : (x >>> (nI k &&& 31)).toInt = x.toInt / 2 ^ k := by
  obtain ⟨a, ha, rfl⟩ := nI_of (x := x) (by rw [Int32.lt_iff_toInt_lt]; simp; omega)
  have hs : nI k &&& 31 = nI k := by
    have : k = 0 ∨ k = 1 ∨ k = 2 ∨ k = 3 ∨ k = 4 ∨ k = 5 ∨ k = 6 ∨ k = 7 ∨ k = 8 ∨ k = 9 ∨ k = 10 ∨ k = 11 ∨ k = 12 ∨ k = 13 ∨ k = 14 ∨ k = 15 ∨ k = 16 ∨ k = 17 ∨ k = 18 ∨ k = 19 ∨ k = 20 ∨ k = 21 ∨ k = 22 ∨ k = 23 ∨ k = 24 ∨ k = 25 ∨ k = 26 ∨ k = 27 ∨ k = 28 ∨ k = 29 ∨ k = 30 := by omega
    rcases this with rfl | rfl | rfl | rfl | rfl | rfl | rfl | rfl | rfl | rfl | rfl | rfl | rfl | rfl | rfl | rfl | rfl | rfl | rfl | rfl | rfl | rfl | rfl | rfl | rfl | rfl | rfl | rfl | rfl | rfl | rfl <;> decide
  have hm : ((nI k).toBitVec.smod 32).toNat = k := by
    have : k = 0 ∨ k = 1 ∨ k = 2 ∨ k = 3 ∨ k = 4 ∨ k = 5 ∨ k = 6 ∨ k = 7 ∨ k = 8 ∨ k = 9 ∨ k = 10 ∨ k = 11 ∨ k = 12 ∨ k = 13 ∨ k = 14 ∨ k = 15 ∨ k = 16 ∨ k = 17 ∨ k = 18 ∨ k = 19 ∨ k = 20 ∨ k = 21 ∨ k = 22 ∨ k = 23 ∨ k = 24 ∨ k = 25 ∨ k = 26 ∨ k = 27 ∨ k = 28 ∨ k = 29 ∨ k = 30 := by omega
    rcases this with rfl | rfl | rfl | rfl | rfl | rfl | rfl | rfl | rfl | rfl | rfl | rfl | rfl | rfl | rfl | rfl | rfl | rfl | rfl | rfl | rfl | rfl | rfl | rfl | rfl | rfl | rfl | rfl | rfl | rfl | rfl <;> decide
  rw [hs, pk_shrN ha _ k hm, nI_toInt ha, nI_toInt (Nat.lt_of_le_of_lt (Nat.div_le_self a _) ha)]
  push_cast
  rfl
theorem i32_in {i : Int32} {n : Nat} (h1 : 0 ≤ i.toInt) (h2 : i.toInt < n) : vp_in i n := vp_in_iff.mpr ⟨h1, h2⟩
theorem i32_clamp {i : Int32} (h1 : 0 ≤ i.toInt) : (i.toNatClampNeg : Int) = i.toInt := by
  show ((i.toInt.toNat : Nat) : Int) = _
  omega
theorem cmp_ok (x y : Int64) : (0 < x.toInt - y.toInt ∧ (lg_cmp x y).toInt = 1) ∨ (x.toInt - y.toInt = 0 ∧ (lg_cmp x y).toInt = 0) ∨ (x.toInt - y.toInt < 0 ∧ (lg_cmp x y).toInt = -1) := by
  unfold lg_cmp
  by_cases h1 : x > y
  · rw [if_pos h1]
    left
    have := Int64.lt_iff_toInt_lt.mp h1
    exact ⟨by omega, rfl⟩
  · rw [if_neg h1]
    by_cases h2 : x = y
    · subst h2
      rw [if_pos rfl]
      right; left
      exact ⟨by omega, rfl⟩
    · rw [if_neg h2]
      right; right
      have h3 : ¬ y.toInt < x.toInt := fun q => h1 (Int64.lt_iff_toInt_lt.mpr q)
      have h4 : x.toInt ≠ y.toInt := fun q => h2 (Int64.toInt_inj.mp q)
      exact ⟨by omega, rfl⟩
