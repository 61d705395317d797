/-! moves keeps its contracts: the goal of a step is a berth (goOK), that of a clause that clears is any number -/
section MV
variable {l : Launch} {g : jG} {n : Int}
def mvW0 : List aR := [(1, 9, 0, 11)]
def mvW1 : List aR := [(1, 1, 1, 1), (1, 1, 9, 9), (1, 1, 624, 1123), (1, 9, 0, 11)]
def mvX0 (c : Nat) : aK := (244, [some (2, 0, 0, 1, 0), some (0, (c : Int), (c : Int), 0, 0), some (0, 0, 0, 0, 0), none, none, none], [], [], [(0, 0, 1, 0, 0, [])], [], [], mvW0, 1, 0, 0)
def mvX1 (c : Nat) : aK := (244, [some (2, 0, 0, 1, 0), some (0, (c : Int), (c : Int), 0, 0), some (0, 1, 1, 0, 0), none, none, none], [(1, 1, 1, 0, 1073741822)], [], [(0, 0, 1, 0, 0, [])], [(1, 1, 1, 0, 1073741824)], [([(2, 1), (3, -1)], 2)], mvW1, 4, 0, 0)
def mvK0 (c : Nat) (kd glo ghi : Int) : aK := (244, [some (2, 0, 0, 1, 0), some (0, (c : Int), (c : Int), 0, 0), some (0, 0, 0, 0, 0), some (0, 0, 11, 0, 0), some (0, glo, ghi, 0, 0), none], [(1, 1, c, kd, kd)], [], [(0, 0, 1, 0, 0, [])], [], [], mvW0, 1, 0, 0)
def mvK1 (c : Nat) (kd glo ghi : Int) : aK := (244, [some (2, 0, 0, 1, 0), some (0, (c : Int), (c : Int), 0, 0), some (0, 1, 1, 0, 0), some (0, 0, 11, 0, 0), some (0, glo, ghi, 0, 0), none], [(1, 1, c, kd, kd), (1, 1, 1, 0, 1073741822)], [], [(0, 0, 1, 0, 0, [])], [(1, 1, 1, 0, 1073741824)], [([(5, 1), (6, -1)], 2)], mvW1, 4, 0, 0)
def mvB (K : aK) : Bool := chk (TTs, KTx, KIx, K.2.2.2.2.2.2.2.1, Pm, 244, 12, K.2.2.2.2.2.2.2.2.1, 558) K [] [] none 300 true 19 (spState [] K.2.1 K.2.2.1 [] []) 0 0
theorem mv_c00 : (List.range 16).all (fun k => mvB (mvK0 (1130 + 930 * 0 + 1 + 8 * k) 0 0 11) && mvB (mvK0 (1130 + 930 * 0 + 1 + 8 * k) 1 (-2147483648) 2147483647)) = true := by decide +kernel
theorem mv_c01_0 : (mvB (mvK1 (1130 + 930 * 0 + 1 + 8 * 0) 0 0 11) && mvB (mvK1 (1130 + 930 * 0 + 1 + 8 * 0) 1 (-2147483648) 2147483647)) = true := by decide +kernel
theorem mv_c01_1 : (mvB (mvK1 (1130 + 930 * 0 + 1 + 8 * 1) 0 0 11) && mvB (mvK1 (1130 + 930 * 0 + 1 + 8 * 1) 1 (-2147483648) 2147483647)) = true := by decide +kernel
theorem mv_c01_2 : (mvB (mvK1 (1130 + 930 * 0 + 1 + 8 * 2) 0 0 11) && mvB (mvK1 (1130 + 930 * 0 + 1 + 8 * 2) 1 (-2147483648) 2147483647)) = true := by decide +kernel
theorem mv_c01_3 : (mvB (mvK1 (1130 + 930 * 0 + 1 + 8 * 3) 0 0 11) && mvB (mvK1 (1130 + 930 * 0 + 1 + 8 * 3) 1 (-2147483648) 2147483647)) = true := by decide +kernel
theorem mv_c01_4 : (mvB (mvK1 (1130 + 930 * 0 + 1 + 8 * 4) 0 0 11) && mvB (mvK1 (1130 + 930 * 0 + 1 + 8 * 4) 1 (-2147483648) 2147483647)) = true := by decide +kernel
theorem mv_c01_5 : (mvB (mvK1 (1130 + 930 * 0 + 1 + 8 * 5) 0 0 11) && mvB (mvK1 (1130 + 930 * 0 + 1 + 8 * 5) 1 (-2147483648) 2147483647)) = true := by decide +kernel
theorem mv_c01_6 : (mvB (mvK1 (1130 + 930 * 0 + 1 + 8 * 6) 0 0 11) && mvB (mvK1 (1130 + 930 * 0 + 1 + 8 * 6) 1 (-2147483648) 2147483647)) = true := by decide +kernel
theorem mv_c01_7 : (mvB (mvK1 (1130 + 930 * 0 + 1 + 8 * 7) 0 0 11) && mvB (mvK1 (1130 + 930 * 0 + 1 + 8 * 7) 1 (-2147483648) 2147483647)) = true := by decide +kernel
theorem mv_c01_8 : (mvB (mvK1 (1130 + 930 * 0 + 1 + 8 * 8) 0 0 11) && mvB (mvK1 (1130 + 930 * 0 + 1 + 8 * 8) 1 (-2147483648) 2147483647)) = true := by decide +kernel
theorem mv_c01_9 : (mvB (mvK1 (1130 + 930 * 0 + 1 + 8 * 9) 0 0 11) && mvB (mvK1 (1130 + 930 * 0 + 1 + 8 * 9) 1 (-2147483648) 2147483647)) = true := by decide +kernel
theorem mv_c01_10 : (mvB (mvK1 (1130 + 930 * 0 + 1 + 8 * 10) 0 0 11) && mvB (mvK1 (1130 + 930 * 0 + 1 + 8 * 10) 1 (-2147483648) 2147483647)) = true := by decide +kernel
theorem mv_c01_11 : (mvB (mvK1 (1130 + 930 * 0 + 1 + 8 * 11) 0 0 11) && mvB (mvK1 (1130 + 930 * 0 + 1 + 8 * 11) 1 (-2147483648) 2147483647)) = true := by decide +kernel
theorem mv_c01_12 : (mvB (mvK1 (1130 + 930 * 0 + 1 + 8 * 12) 0 0 11) && mvB (mvK1 (1130 + 930 * 0 + 1 + 8 * 12) 1 (-2147483648) 2147483647)) = true := by decide +kernel
theorem mv_c01_13 : (mvB (mvK1 (1130 + 930 * 0 + 1 + 8 * 13) 0 0 11) && mvB (mvK1 (1130 + 930 * 0 + 1 + 8 * 13) 1 (-2147483648) 2147483647)) = true := by decide +kernel
theorem mv_c01_14 : (mvB (mvK1 (1130 + 930 * 0 + 1 + 8 * 14) 0 0 11) && mvB (mvK1 (1130 + 930 * 0 + 1 + 8 * 14) 1 (-2147483648) 2147483647)) = true := by decide +kernel
theorem mv_c01_15 : (mvB (mvK1 (1130 + 930 * 0 + 1 + 8 * 15) 0 0 11) && mvB (mvK1 (1130 + 930 * 0 + 1 + 8 * 15) 1 (-2147483648) 2147483647)) = true := by decide +kernel
theorem mv_c01 : ∀ k, k < 16 → (mvB (mvK1 (1130 + 930 * 0 + 1 + 8 * k) 0 0 11) && mvB (mvK1 (1130 + 930 * 0 + 1 + 8 * k) 1 (-2147483648) 2147483647)) = true := by
  intro k hk
  have hk2 : k = 0 ∨ k = 1 ∨ k = 2 ∨ k = 3 ∨ k = 4 ∨ k = 5 ∨ k = 6 ∨ k = 7 ∨ k = 8 ∨ k = 9 ∨ k = 10 ∨ k = 11 ∨ k = 12 ∨ k = 13 ∨ k = 14 ∨ k = 15 := by omega
  rcases hk2 with rfl | rfl | rfl | rfl | rfl | rfl | rfl | rfl | rfl | rfl | rfl | rfl | rfl | rfl | rfl | rfl
  · exact mv_c01_0
  · exact mv_c01_1
  · exact mv_c01_2
  · exact mv_c01_3
  · exact mv_c01_4
  · exact mv_c01_5
  · exact mv_c01_6
  · exact mv_c01_7
  · exact mv_c01_8
  · exact mv_c01_9
  · exact mv_c01_10
  · exact mv_c01_11
  · exact mv_c01_12
  · exact mv_c01_13
  · exact mv_c01_14
  · exact mv_c01_15
theorem mv_c10 : (List.range 16).all (fun k => mvB (mvK0 (1130 + 930 * 1 + 1 + 8 * k) 0 0 11) && mvB (mvK0 (1130 + 930 * 1 + 1 + 8 * k) 1 (-2147483648) 2147483647)) = true := by decide +kernel
theorem mv_c11_0 : (mvB (mvK1 (1130 + 930 * 1 + 1 + 8 * 0) 0 0 11) && mvB (mvK1 (1130 + 930 * 1 + 1 + 8 * 0) 1 (-2147483648) 2147483647)) = true := by decide +kernel
theorem mv_c11_1 : (mvB (mvK1 (1130 + 930 * 1 + 1 + 8 * 1) 0 0 11) && mvB (mvK1 (1130 + 930 * 1 + 1 + 8 * 1) 1 (-2147483648) 2147483647)) = true := by decide +kernel
theorem mv_c11_2 : (mvB (mvK1 (1130 + 930 * 1 + 1 + 8 * 2) 0 0 11) && mvB (mvK1 (1130 + 930 * 1 + 1 + 8 * 2) 1 (-2147483648) 2147483647)) = true := by decide +kernel
theorem mv_c11_3 : (mvB (mvK1 (1130 + 930 * 1 + 1 + 8 * 3) 0 0 11) && mvB (mvK1 (1130 + 930 * 1 + 1 + 8 * 3) 1 (-2147483648) 2147483647)) = true := by decide +kernel
theorem mv_c11_4 : (mvB (mvK1 (1130 + 930 * 1 + 1 + 8 * 4) 0 0 11) && mvB (mvK1 (1130 + 930 * 1 + 1 + 8 * 4) 1 (-2147483648) 2147483647)) = true := by decide +kernel
theorem mv_c11_5 : (mvB (mvK1 (1130 + 930 * 1 + 1 + 8 * 5) 0 0 11) && mvB (mvK1 (1130 + 930 * 1 + 1 + 8 * 5) 1 (-2147483648) 2147483647)) = true := by decide +kernel
theorem mv_c11_6 : (mvB (mvK1 (1130 + 930 * 1 + 1 + 8 * 6) 0 0 11) && mvB (mvK1 (1130 + 930 * 1 + 1 + 8 * 6) 1 (-2147483648) 2147483647)) = true := by decide +kernel
theorem mv_c11_7 : (mvB (mvK1 (1130 + 930 * 1 + 1 + 8 * 7) 0 0 11) && mvB (mvK1 (1130 + 930 * 1 + 1 + 8 * 7) 1 (-2147483648) 2147483647)) = true := by decide +kernel
theorem mv_c11_8 : (mvB (mvK1 (1130 + 930 * 1 + 1 + 8 * 8) 0 0 11) && mvB (mvK1 (1130 + 930 * 1 + 1 + 8 * 8) 1 (-2147483648) 2147483647)) = true := by decide +kernel
theorem mv_c11_9 : (mvB (mvK1 (1130 + 930 * 1 + 1 + 8 * 9) 0 0 11) && mvB (mvK1 (1130 + 930 * 1 + 1 + 8 * 9) 1 (-2147483648) 2147483647)) = true := by decide +kernel
theorem mv_c11_10 : (mvB (mvK1 (1130 + 930 * 1 + 1 + 8 * 10) 0 0 11) && mvB (mvK1 (1130 + 930 * 1 + 1 + 8 * 10) 1 (-2147483648) 2147483647)) = true := by decide +kernel
theorem mv_c11_11 : (mvB (mvK1 (1130 + 930 * 1 + 1 + 8 * 11) 0 0 11) && mvB (mvK1 (1130 + 930 * 1 + 1 + 8 * 11) 1 (-2147483648) 2147483647)) = true := by decide +kernel
theorem mv_c11_12 : (mvB (mvK1 (1130 + 930 * 1 + 1 + 8 * 12) 0 0 11) && mvB (mvK1 (1130 + 930 * 1 + 1 + 8 * 12) 1 (-2147483648) 2147483647)) = true := by decide +kernel
theorem mv_c11_13 : (mvB (mvK1 (1130 + 930 * 1 + 1 + 8 * 13) 0 0 11) && mvB (mvK1 (1130 + 930 * 1 + 1 + 8 * 13) 1 (-2147483648) 2147483647)) = true := by decide +kernel
theorem mv_c11_14 : (mvB (mvK1 (1130 + 930 * 1 + 1 + 8 * 14) 0 0 11) && mvB (mvK1 (1130 + 930 * 1 + 1 + 8 * 14) 1 (-2147483648) 2147483647)) = true := by decide +kernel
theorem mv_c11_15 : (mvB (mvK1 (1130 + 930 * 1 + 1 + 8 * 15) 0 0 11) && mvB (mvK1 (1130 + 930 * 1 + 1 + 8 * 15) 1 (-2147483648) 2147483647)) = true := by decide +kernel
theorem mv_c11 : ∀ k, k < 16 → (mvB (mvK1 (1130 + 930 * 1 + 1 + 8 * k) 0 0 11) && mvB (mvK1 (1130 + 930 * 1 + 1 + 8 * k) 1 (-2147483648) 2147483647)) = true := by
  intro k hk
  have hk2 : k = 0 ∨ k = 1 ∨ k = 2 ∨ k = 3 ∨ k = 4 ∨ k = 5 ∨ k = 6 ∨ k = 7 ∨ k = 8 ∨ k = 9 ∨ k = 10 ∨ k = 11 ∨ k = 12 ∨ k = 13 ∨ k = 14 ∨ k = 15 := by omega
  rcases hk2 with rfl | rfl | rfl | rfl | rfl | rfl | rfl | rfl | rfl | rfl | rfl | rfl | rfl | rfl | rfl | rfl
  · exact mv_c11_0
  · exact mv_c11_1
  · exact mv_c11_2
  · exact mv_c11_3
  · exact mv_c11_4
  · exact mv_c11_5
  · exact mv_c11_6
  · exact mv_c11_7
  · exact mv_c11_8
  · exact mv_c11_9
  · exact mv_c11_10
  · exact mv_c11_11
  · exact mv_c11_12
  · exact mv_c11_13
  · exact mv_c11_14
  · exact mv_c11_15
theorem mv_c0 {t k : Nat} (ht : t < 2) (hk : k < 16) : mvB (mvK0 (1130 + 930 * t + 1 + 8 * k) 0 0 11) = true ∧ mvB (mvK0 (1130 + 930 * t + 1 + 8 * k) 1 (-2147483648) 2147483647) = true := by
  have h2 : t = 0 ∨ t = 1 := by omega
  rcases h2 with rfl | rfl
  · have := List.all_eq_true.mp mv_c00 k (List.mem_range.mpr hk)
    rwa [Bool.and_eq_true] at this
  · have := List.all_eq_true.mp mv_c10 k (List.mem_range.mpr hk)
    rwa [Bool.and_eq_true] at this
theorem mv_c1 {t k : Nat} (ht : t < 2) (hk : k < 16) : mvB (mvK1 (1130 + 930 * t + 1 + 8 * k) 0 0 11) = true ∧ mvB (mvK1 (1130 + 930 * t + 1 + 8 * k) 1 (-2147483648) 2147483647) = true := by
  have h2 : t = 0 ∨ t = 1 := by omega
  rcases h2 with rfl | rfl
  · have := mv_c01 k hk
    rwa [Bool.and_eq_true] at this
  · have := mv_c11 k hk
    rwa [Bool.and_eq_true] at this
end MV
