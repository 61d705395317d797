/-! a signal's bit -/
section SG
theorem sg_and (y : Int32) : (y &&& Int32.ofInt 1) = if y.toBitVec.getLsbD 0 then 1 else 0 := by
  apply Int32.toBitVec_inj.mp
  rw [Int32.toBitVec_and, show (Int32.ofInt 1).toBitVec = 1#32 from by decide, BitVec.and_one_eq_setWidth_ofBool_getLsbD]
  cases y.toBitVec.getLsbD 0 <;> decide
theorem sg_shr (y : Int32) {i : Nat} (hi : i < 8) : (y >>> (nI i &&& 31)).toBitVec.getLsbD 0 = y.toBitVec.getLsbD i := by
  have h : ∀ k : Nat, k < 8 → (y >>> (nI k &&& 31)).toBitVec = y.toBitVec.sshiftRight k := fun k hk => by
    rw [Int32.toBitVec_shiftRight]
    match k, hk with
    | 0, _ | 1, _ | 2, _ | 3, _ | 4, _ | 5, _ | 6, _ | 7, _ => rfl
  rw [h i hi, BitVec.getLsbD_sshiftRight]
  rw [if_pos (by omega), Nat.add_zero]
  simp
theorem sgB_eq (y : Int32) {i : Nat} (hi : i < 8) : sgB y.toInt i = if y.toBitVec.getLsbD i then 1 else 0 := by
  unfold sgB
  rw [show Int32.ofInt y.toInt = y from i32_eq (i32_ofInt (i32_lo y) (i32_hi y)), sg_and, sg_shr y hi]
  cases y.toBitVec.getLsbD i <;> decide
theorem sg_shl (x : Int32) {c : Nat} (hc : c < 8) : (x <<< (nI c &&& 31)).toBitVec = x.toBitVec <<< c := by
  rw [Int32.toBitVec_shiftLeft]
  match c, hc with
  | 0, _ | 1, _ | 2, _ | 3, _ | 4, _ | 5, _ | 6, _ | 7, _ => rfl
theorem sg_new (t x : Int32) {c i : Nat} (hc : c < 8) (hi : i < 8) (hx : x.toInt = 0 ∨ x.toInt = 1) : sgB ((t &&& ((Int32.ofInt 1 <<< (nI c &&& 31)) ^^^ Int32.ofInt (-1))) ||| (x <<< (nI c &&& 31))).toInt i = if i = c then x.toInt else sgB t.toInt i := by
  rw [sgB_eq _ hi, sgB_eq _ hi, Int32.toBitVec_or, Int32.toBitVec_and, Int32.toBitVec_xor, sg_shl _ hc, sg_shl _ hc, BitVec.getLsbD_or, BitVec.getLsbD_and, BitVec.getLsbD_xor, BitVec.getLsbD_shiftLeft, BitVec.getLsbD_shiftLeft]
  rw [show (Int32.ofInt 1).toBitVec = 1#32 from by decide, show (Int32.ofInt (-1)).toBitVec = BitVec.allOnes 32 from by decide, BitVec.getLsbD_allOnes]
  have e1 : x = 0 ∨ x = 1 := by
    rcases hx with h | h
    · exact Or.inl (i32_eq (by rw [h]; decide))
    · exact Or.inr (i32_eq (by rw [h]; decide))
  by_cases q : i = c
  · subst q
    rw [if_pos rfl]
    rcases e1 with rfl | rfl
    · simp [show i < 32 by omega]
    · simp [show i < 32 by omega]
  · rw [if_neg q]
    have hb : ∀ k : Nat, 0 < k → (1#32).getLsbD k = false := fun k hk => by
      rw [BitVec.getLsbD_one]
      simp
      omega
    have hx0 : ∀ k : Nat, 0 < k → x.toBitVec.getLsbD k = false := fun k hk => by
      rcases e1 with rfl | rfl
      · simp
      · exact hb k hk
    by_cases h : i < c
    · simp [h, show i < 32 by omega]
    · rw [hb (i - c) (by omega), hx0 (i - c) (by omega)]
      simp [show i < 32 by omega]
end SG
