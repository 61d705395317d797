/-! the law's loop, the law -/
section LY
variable {l : Launch} {g : jG}
theorem lw_sw : decode (jbC 315) 33 = .ok (.tableswitch 1950 0 54 #[235, 268, 301, 344, 387, 420, 473, 516, 549, 592, 625, 658, 681, 704, 737, 780, 813, 876, 899, 922, 935, 948, 961, 984, 1007, 1040, 1073, 1096, 1109, 1132, 1175, 1198, 1241, 1284, 1307, 1340, 1353, 1396, 1419, 1452, 1475, 1508, 1541, 1574, 1617, 1650, 1693, 1746, 1779, 1802, 1845, 1868, 1891, 1914, 1937], 235) := by decide +kernel
set_option maxRecDepth 16384 in
theorem lw_case {n : Int} (hlow : ∀ (k : Nat) (K : aK), KTx[k]? = some K → kOK TTs g (EIm n) l K) {b0 b1 : Nat} {bk : aB} {h : jH} (hI : lwI g n b0 b1 bk h) (hn : n ≤ 30000) {i : Int32} (hi : 0 ≤ i.toInt ∧ i.toInt + 6 ≤ (jsN g : Int)) (hN : jsN g ≤ 3072) {kc ks rc rs : Nat} {Q : Option Value → jH → Prop} (hr : bk 6 = none → 7 ≤ rc ∧ 20000 ≤ rs)
    (kk : ∀ bk' h' rc' rs', lwI g (n + 40) b0 b1 bk' h' → (bk' 6 = none → 7 ≤ rc' ∧ 20000 ≤ rs') → J l g 315 100 1983 (lwL g b0 b1 i) [] h' (kc + rc') (ks + rs') Q) (a : Int32) (ha1 : 0 ≤ a.toInt) : J l g 315 100 33 (lwL g b0 b1 i) [.int a] h (48 + (kc + rc)) (4307 + (ks + rs)) Q := by
  have k1 : ∀ bk' h', lwI g (n + 40) b0 b1 bk' h' → k6 bk bk' → J l g 315 100 1983 (lwL g b0 b1 i) [] h' (kc + rc) (ks + rs) Q := fun bk' h' hI' h6 => kk bk' h' rc rs hI' (fun e => hr (by
    cases e2 : bk 6 with
    | none => rfl
    | some b => rw [h6 b e2] at e; cases e))
  have k2 : bk 6 = none → ∀ bk' h', lwI g (n + 40) b0 b1 bk' h' → ¬ bk' 6 = none → J l g 315 100 1983 (lwL g b0 b1 i) [] h' (kc + (rc - 7)) (ks + (rs - 20000)) Q := fun _ bk' h' hI' h6 => kk bk' h' (rc - 7) (rs - 20000) hI' (fun e => absurd e h6)
  by_cases hb : 54 < a.toInt
  · refine j_tableOut lw_sw (Or.inr hb) (tgt := 1983) (by decide) (J.room (kc := kc + rc) (ks := ks + rs) (k1 bk h ?_ (fun _ q => q)) (by omega) (by omega))
    exact ⟨hI.1, hI.2.1, EIm_mono (show n ≤ n + 40 by omega) hI.2.2.1, hI.2.2.2.1, hI.2.2.2.2.1, hI.2.2.2.2.2.1, fun f hf => by have := hI.2.2.2.2.2.2.1 f hf; omega, hI.2.2.2.2.2.2.2⟩
  obtain ⟨k, hk⟩ : ∃ k : Nat, a.toInt = (k : Int) := ⟨a.toInt.toNat, by omega⟩
  have hk2 : k < 55 := by omega
  match k, hk, hk2 with
  | 0, hk, _ => exact j_tableIn lw_sw (by omega) (by omega) (off := 235) (tgt := 268) (by rw [hk]; rfl) (by decide) (J.room (kc := 0 + (kc + rc)) (ks := 0 + (ks + rs)) (lc_0 hI hi hN (cpS.weak (cp_0 hlow hI)) k1) (by omega) (by omega))
  | 1, hk, _ => exact j_tableIn lw_sw (by omega) (by omega) (off := 268) (tgt := 301) (by rw [hk]; rfl) (by decide) (J.room (kc := 0 + (kc + rc)) (ks := 0 + (ks + rs)) (lc_1 hI hi hN (cpS.weak (cp_1 hlow hI)) k1) (by omega) (by omega))
  | 2, hk, _ => exact j_tableIn lw_sw (by omega) (by omega) (off := 301) (tgt := 334) (by rw [hk]; rfl) (by decide) (J.room (kc := 0 + (kc + rc)) (ks := 0 + (ks + rs)) (lc_2 hI hi hN (cp_2 hlow hI hn) k1) (by omega) (by omega))
  | 3, hk, _ => exact j_tableIn lw_sw (by omega) (by omega) (off := 344) (tgt := 377) (by rw [hk]; rfl) (by decide) (J.room (kc := 0 + (kc + rc)) (ks := 0 + (ks + rs)) (lc_3 hI hi hN (cp_3 hlow hI hn) k1) (by omega) (by omega))
  | 4, hk, _ => exact j_tableIn lw_sw (by omega) (by omega) (off := 387) (tgt := 420) (by rw [hk]; rfl) (by decide) (J.room (kc := 0 + (kc + rc)) (ks := 0 + (ks + rs)) (lc_4 hI hi hN (cp_4 hlow hI hn) k1) (by omega) (by omega))
  | 5, hk, _ => exact j_tableIn lw_sw (by omega) (by omega) (off := 420) (tgt := 453) (by rw [hk]; rfl) (by decide) (J.room (kc := 0 + (kc + rc)) (ks := 0 + (ks + rs)) (lc_5 hI hi hN (cp_5 hlow hI hn) k1) (by omega) (by omega))
  | 6, hk, _ => exact j_tableIn lw_sw (by omega) (by omega) (off := 473) (tgt := 506) (by rw [hk]; rfl) (by decide) (J.room (kc := 0 + (kc + rc)) (ks := 0 + (ks + rs)) (lc_6 hI hi hN (cp_6 hlow hI hn) k1) (by omega) (by omega))
  | 7, hk, _ => exact j_tableIn lw_sw (by omega) (by omega) (off := 516) (tgt := 549) (by rw [hk]; rfl) (by decide) (J.room (kc := 0 + (kc + rc)) (ks := 0 + (ks + rs)) (lc_7 hI hi hN (cp_7 hlow hI) k1) (by omega) (by omega))
  | 8, hk, _ => exact j_tableIn lw_sw (by omega) (by omega) (off := 549) (tgt := 582) (by rw [hk]; rfl) (by decide) (J.room (kc := 0 + (kc + rc)) (ks := 0 + (ks + rs)) (lc_8 hI hi hN (cpS.weak (cp_8 hlow hI)) k1) (by omega) (by omega))
  | 9, hk, _ => exact j_tableIn lw_sw (by omega) (by omega) (off := 592) (tgt := 625) (by rw [hk]; rfl) (by decide) (J.room (kc := 0 + (kc + rc)) (ks := 0 + (ks + rs)) (lc_9 hI hi hN (cp_9 hlow hI) k1) (by omega) (by omega))
  | 10, hk, _ => exact j_tableIn lw_sw (by omega) (by omega) (off := 625) (tgt := 658) (by rw [hk]; rfl) (by decide) (J.room (kc := 0 + (kc + rc)) (ks := 0 + (ks + rs)) (lc_10 hI hi hN (cp_10 hlow hI) k1) (by omega) (by omega))
  | 11, hk, _ => exact j_tableIn lw_sw (by omega) (by omega) (off := 658) (tgt := 691) (by rw [hk]; rfl) (by decide) (J.room (kc := 0 + (kc + rc)) (ks := 0 + (ks + rs)) (lc_11 hI hi hN (cp_11 hlow hI) k1) (by omega) (by omega))
  | 12, hk, _ => exact j_tableIn lw_sw (by omega) (by omega) (off := 681) (tgt := 714) (by rw [hk]; rfl) (by decide) (J.room (kc := 0 + (kc + rc)) (ks := 0 + (ks + rs)) (lc_12 hI hi hN (cp_12 hlow hI) k1) (by omega) (by omega))
  | 13, hk, _ => exact j_tableIn lw_sw (by omega) (by omega) (off := 704) (tgt := 737) (by rw [hk]; rfl) (by decide) (J.room (kc := 0 + (kc + rc)) (ks := 0 + (ks + rs)) (lc_13 hI hi hN (cp_13 hlow hI) k1) (by omega) (by omega))
  | 14, hk, _ => exact j_tableIn lw_sw (by omega) (by omega) (off := 737) (tgt := 770) (by rw [hk]; rfl) (by decide) (J.room (kc := 0 + (kc + rc)) (ks := 0 + (ks + rs)) (lc_14 hI hi hN (cp_14 hlow hI) k1) (by omega) (by omega))
  | 15, hk, _ => exact j_tableIn lw_sw (by omega) (by omega) (off := 780) (tgt := 813) (by rw [hk]; rfl) (by decide) (J.room (kc := 0 + (kc + rc)) (ks := 0 + (ks + rs)) (lc_15 hI hi hN (cp_15 hlow hI) k1) (by omega) (by omega))
  | 16, hk, _ => exact j_tableIn lw_sw (by omega) (by omega) (off := 813) (tgt := 846) (by rw [hk]; rfl) (by decide) (J.room (kc := 0 + (kc + rc)) (ks := 0 + (ks + rs)) (lc_16 hI hi hN (cp_16 hlow hI) k1) (by omega) (by omega))
  | 17, hk, _ => exact j_tableIn lw_sw (by omega) (by omega) (off := 876) (tgt := 909) (by rw [hk]; rfl) (by decide) (J.room (kc := 0 + (kc + rc)) (ks := 0 + (ks + rs)) (lc_17 hI hi hN (cp_17 hlow hI) k1) (by omega) (by omega))
  | 18, hk, _ => exact j_tableIn lw_sw (by omega) (by omega) (off := 899) (tgt := 932) (by rw [hk]; rfl) (by decide) (J.room (kc := 0 + (kc + rc)) (ks := 0 + (ks + rs)) (lc_18 hI hi hN (cpS.weak (cp_18 hlow hI)) k1) (by omega) (by omega))
  | 19, hk, _ => exact j_tableIn lw_sw (by omega) (by omega) (off := 922) (tgt := 955) (by rw [hk]; rfl) (by decide) (J.room (kc := 0 + (kc + rc)) (ks := 0 + (ks + rs)) (lc_19 hI hi hN (cp_19 hlow hI) k1) (by omega) (by omega))
  | 20, hk, _ => exact j_tableIn lw_sw (by omega) (by omega) (off := 935) (tgt := 968) (by rw [hk]; rfl) (by decide) (J.room (kc := 0 + (kc + rc)) (ks := 0 + (ks + rs)) (lc_20 hI hi hN (cp_20 hlow hI) k1) (by omega) (by omega))
  | 21, hk, _ => exact j_tableIn lw_sw (by omega) (by omega) (off := 948) (tgt := 981) (by rw [hk]; rfl) (by decide) (J.room (kc := 42 + (kc + rc)) (ks := 3498 + (ks + rs)) (lc_21 hI hi hN (cp_21 hlow hI) k1) (by omega) (by omega))
  | 22, hk, _ => exact j_tableIn lw_sw (by omega) (by omega) (off := 961) (tgt := 994) (by rw [hk]; rfl) (by decide) (J.room (kc := 0 + (kc + rc)) (ks := 0 + (ks + rs)) (lc_22 hI hi hN (cp_22 hlow hI) k1) (by omega) (by omega))
  | 23, hk, _ => exact j_tableIn lw_sw (by omega) (by omega) (off := 984) (tgt := 1017) (by rw [hk]; rfl) (by decide) (J.room (kc := 0 + (kc + rc)) (ks := 0 + (ks + rs)) (lc_23 hI hi hN (cp_23 hlow hI) k1) (by omega) (by omega))
  | 24, hk, _ => exact j_tableIn lw_sw (by omega) (by omega) (off := 1007) (tgt := 1040) (by rw [hk]; rfl) (by decide) (J.room (kc := 0 + (kc + rc)) (ks := 0 + (ks + rs)) (lc_24 hI hi hN (cp_24 hlow hI) k1) (by omega) (by omega))
  | 25, hk, _ => exact j_tableIn lw_sw (by omega) (by omega) (off := 1040) (tgt := 1073) (by rw [hk]; rfl) (by decide) (J.room (kc := 0 + (kc + rc)) (ks := 0 + (ks + rs)) (lc_25 hI hi hN (cp_25 hlow hI) k1) (by omega) (by omega))
  | 26, hk, _ => exact j_tableIn lw_sw (by omega) (by omega) (off := 1073) (tgt := 1106) (by rw [hk]; rfl) (by decide) (J.room (kc := 0 + (kc + rc)) (ks := 0 + (ks + rs)) (lc_26 hI hi hN (cp_26 hlow hI) k1) (by omega) (by omega))
  | 27, hk, _ => exact j_tableIn lw_sw (by omega) (by omega) (off := 1096) (tgt := 1129) (by rw [hk]; rfl) (by decide) (J.room (kc := 0 + (kc + rc)) (ks := 0 + (ks + rs)) (lc_27 hI hi hN (cp_27 hlow hI) k1) (by omega) (by omega))
  | 28, hk, _ => exact j_tableIn lw_sw (by omega) (by omega) (off := 1109) (tgt := 1142) (by rw [hk]; rfl) (by decide) (J.room (kc := 0 + (kc + rc)) (ks := 0 + (ks + rs)) (lc_28 hI hi hN (cp_28 hlow hI) k1) (by omega) (by omega))
  | 29, hk, _ => exact j_tableIn lw_sw (by omega) (by omega) (off := 1132) (tgt := 1165) (by rw [hk]; rfl) (by decide) (J.room (kc := 0 + (kc + rc)) (ks := 0 + (ks + rs)) (lc_29 hI hi hN (cp_29 hlow hI) k1) (by omega) (by omega))
  | 30, hk, _ => exact j_tableIn lw_sw (by omega) (by omega) (off := 1175) (tgt := 1208) (by rw [hk]; rfl) (by decide) (J.room (kc := 0 + (kc + rc)) (ks := 0 + (ks + rs)) (lc_30 hI hi hN (cpS.weak (cp_30 hlow hI)) k1) (by omega) (by omega))
  | 31, hk, _ => exact j_tableIn lw_sw (by omega) (by omega) (off := 1198) (tgt := 1231) (by rw [hk]; rfl) (by decide) (J.room (kc := 0 + (kc + rc)) (ks := 0 + (ks + rs)) (lc_31 hI hi hN (cpS.weak (cp_31 hlow hI)) k1) (by omega) (by omega))
  | 32, hk, _ => exact j_tableIn lw_sw (by omega) (by omega) (off := 1241) (tgt := 1274) (by rw [hk]; rfl) (by decide) (J.room (kc := 0 + (kc + rc)) (ks := 0 + (ks + rs)) (lc_32 hI hi hN (cpS.weak (cp_32 hlow hI)) k1) (by omega) (by omega))
  | 33, hk, _ => 
    rcases (cp_33 hlow hI : cpS l g n b0 b1 h _ _ [.int (jsX g (i + Int32.ofInt 1).toNatClampNeg)] 0 0 false (k6 bk) ∨ _) with hc | ⟨h6, hc⟩
    · exact j_tableIn lw_sw (by omega) (by omega) (off := 1284) (tgt := 1317) (by rw [hk]; rfl) (by decide) (J.room (kc := 0 + (kc + rc)) (ks := 0 + (ks + rs)) (lc_33 hI hi hN hc k1) (by omega) (by omega))
    · obtain ⟨r1, r2⟩ := hr h6
      exact j_tableIn lw_sw (by omega) (by omega) (off := 1284) (tgt := 1317) (by rw [hk]; rfl) (by decide) (J.room (kc := 7 + (kc + (rc - 7))) (ks := 20000 + (ks + (rs - 20000))) (lc_33 hI hi hN hc (k2 h6)) (by omega) (by omega))
  | 34, hk, _ => 
    rcases (cp_34 hlow hI : cpS l g n b0 b1 h _ _ [.int (jsX g (i + Int32.ofInt 1).toNatClampNeg), .int (jsX g (i + Int32.ofInt 2).toNatClampNeg)] 0 0 false (k6 bk) ∨ _) with hc | ⟨h6, hc⟩
    · exact j_tableIn lw_sw (by omega) (by omega) (off := 1307) (tgt := 1340) (by rw [hk]; rfl) (by decide) (J.room (kc := 0 + (kc + rc)) (ks := 0 + (ks + rs)) (lc_34 hI hi hN hc k1) (by omega) (by omega))
    · obtain ⟨r1, r2⟩ := hr h6
      exact j_tableIn lw_sw (by omega) (by omega) (off := 1307) (tgt := 1340) (by rw [hk]; rfl) (by decide) (J.room (kc := 7 + (kc + (rc - 7))) (ks := 20000 + (ks + (rs - 20000))) (lc_34 hI hi hN hc (k2 h6)) (by omega) (by omega))
  | 35, hk, _ => exact j_tableIn lw_sw (by omega) (by omega) (off := 1340) (tgt := 1373) (by rw [hk]; rfl) (by decide) (J.room (kc := 0 + (kc + rc)) (ks := 0 + (ks + rs)) (lc_35 hI hi hN (cpS.weak (cp_35 hlow hI)) k1) (by omega) (by omega))
  | 36, hk, _ => exact j_tableIn lw_sw (by omega) (by omega) (off := 1353) (tgt := 1386) (by rw [hk]; rfl) (by decide) (J.room (kc := 0 + (kc + rc)) (ks := 0 + (ks + rs)) (lc_36 hI hi hN (cpS.weak (cp_36 hlow hI)) k1) (by omega) (by omega))
  | 37, hk, _ => exact j_tableIn lw_sw (by omega) (by omega) (off := 1396) (tgt := 1429) (by rw [hk]; rfl) (by decide) (J.room (kc := 0 + (kc + rc)) (ks := 0 + (ks + rs)) (lc_37 hI hi hN (cp_37 hlow hI) k1) (by omega) (by omega))
  | 38, hk, _ => exact j_tableIn lw_sw (by omega) (by omega) (off := 1419) (tgt := 1452) (by rw [hk]; rfl) (by decide) (J.room (kc := 0 + (kc + rc)) (ks := 0 + (ks + rs)) (lc_38 hI hi hN (cpS.weak (cp_38 hlow hI)) k1) (by omega) (by omega))
  | 39, hk, _ => exact j_tableIn lw_sw (by omega) (by omega) (off := 1452) (tgt := 1485) (by rw [hk]; rfl) (by decide) (J.room (kc := 0 + (kc + rc)) (ks := 0 + (ks + rs)) (lc_39 hI hi hN (cp_39 hlow hI) k1) (by omega) (by omega))
  | 40, hk, _ => exact j_tableIn lw_sw (by omega) (by omega) (off := 1475) (tgt := 1508) (by rw [hk]; rfl) (by decide) (J.room (kc := 0 + (kc + rc)) (ks := 0 + (ks + rs)) (lc_40 hI hi hN (cp_40 hlow hI) k1) (by omega) (by omega))
  | 41, hk, _ => exact j_tableIn lw_sw (by omega) (by omega) (off := 1508) (tgt := 1541) (by rw [hk]; rfl) (by decide) (J.room (kc := 0 + (kc + rc)) (ks := 0 + (ks + rs)) (lc_41 hI hi hN (cp_41 hlow hI) k1) (by omega) (by omega))
  | 42, hk, _ => exact j_tableIn lw_sw (by omega) (by omega) (off := 1541) (tgt := 1574) (by rw [hk]; rfl) (by decide) (J.room (kc := 0 + (kc + rc)) (ks := 0 + (ks + rs)) (lc_42 hI hi hN (cp_42 hlow hI) k1) (by omega) (by omega))
  | 43, hk, _ => exact j_tableIn lw_sw (by omega) (by omega) (off := 1574) (tgt := 1607) (by rw [hk]; rfl) (by decide) (J.room (kc := 0 + (kc + rc)) (ks := 0 + (ks + rs)) (lc_43 hI hi hN (cp_43 hlow hI) k1) (by omega) (by omega))
  | 44, hk, _ => exact j_tableIn lw_sw (by omega) (by omega) (off := 1617) (tgt := 1650) (by rw [hk]; rfl) (by decide) (J.room (kc := 0 + (kc + rc)) (ks := 0 + (ks + rs)) (lc_44 hI hi hN (cpS.weak (cp_44 hlow hI)) k1) (by omega) (by omega))
  | 45, hk, _ => exact j_tableIn lw_sw (by omega) (by omega) (off := 1650) (tgt := 1683) (by rw [hk]; rfl) (by decide) (J.room (kc := 0 + (kc + rc)) (ks := 0 + (ks + rs)) (lc_45 hI hi hN (cp_45 hlow hI) k1) (by omega) (by omega))
  | 46, hk, _ => exact j_tableIn lw_sw (by omega) (by omega) (off := 1693) (tgt := 1726) (by rw [hk]; rfl) (by decide) (J.room (kc := 0 + (kc + rc)) (ks := 0 + (ks + rs)) (lc_46 hI hi hN (cp_46 hlow hI hn) k1) (by omega) (by omega))
  | 47, hk, _ => exact j_tableIn lw_sw (by omega) (by omega) (off := 1746) (tgt := 1779) (by rw [hk]; rfl) (by decide) (J.room (kc := 0 + (kc + rc)) (ks := 0 + (ks + rs)) (lc_47 hI hi hN (cpS.weak (cp_47 hlow hI)) k1) (by omega) (by omega))
  | 48, hk, _ => exact j_tableIn lw_sw (by omega) (by omega) (off := 1779) (tgt := 1812) (by rw [hk]; rfl) (by decide) (J.room (kc := 0 + (kc + rc)) (ks := 0 + (ks + rs)) (lc_48 hI hi hN (cp_48 hlow hI hn) k1) (by omega) (by omega))
  | 49, hk, _ => exact j_tableIn lw_sw (by omega) (by omega) (off := 1802) (tgt := 1835) (by rw [hk]; rfl) (by decide) (J.room (kc := 0 + (kc + rc)) (ks := 0 + (ks + rs)) (lc_49 hI hi hN (cp_49 hlow hI) k1) (by omega) (by omega))
  | 50, hk, _ => exact j_tableIn lw_sw (by omega) (by omega) (off := 1845) (tgt := 1878) (by rw [hk]; rfl) (by decide) (J.room (kc := 0 + (kc + rc)) (ks := 0 + (ks + rs)) (lc_50 hI hi hN (cp_50 hlow hI) k1) (by omega) (by omega))
  | 51, hk, _ => exact j_tableIn lw_sw (by omega) (by omega) (off := 1868) (tgt := 1901) (by rw [hk]; rfl) (by decide) (lc_51 hI hi hN (cpS.weak (cp_51 hlow hI)) k1)
  | 52, hk, _ => exact j_tableIn lw_sw (by omega) (by omega) (off := 1891) (tgt := 1924) (by rw [hk]; rfl) (by decide) (J.room (kc := 0 + (kc + rc)) (ks := 0 + (ks + rs)) (lc_52 hI hi hN (cpS.weak (cp_52 hlow hI)) k1) (by omega) (by omega))
  | 53, hk, _ => exact j_tableIn lw_sw (by omega) (by omega) (off := 1914) (tgt := 1947) (by rw [hk]; rfl) (by decide) (J.room (kc := 0 + (kc + rc)) (ks := 0 + (ks + rs)) (lc_53 hI hi hN (cp_53 hlow hI) k1) (by omega) (by omega))
  | 54, hk, _ => exact j_tableIn lw_sw (by omega) (by omega) (off := 1937) (tgt := 1970) (by rw [hk]; rfl) (by decide) (J.room (kc := 0 + (kc + rc)) (ks := 0 + (ks + rs)) (lc_54 hI hi hN (cp_54 hlow hI) k1) (by omega) (by omega))
  | k + 55, _, hk2 => omega
set_option maxRecDepth 16384 in
theorem lw_loop (hall : ∀ (n : Int) (k : Nat) (K : aK), KTx[k]? = some K → kOK TTs g (EIm n) l K) (hN : jsN g ≤ 3072) {b0 b1 : Nat} : ∀ (r c : Nat) (bk : aB) (h : jH) (rc rs : Nat), c + r = 512 → lwI g (40 * (c : Int)) b0 b1 bk h → (bk 6 = none → 7 ≤ rc ∧ 20000 ≤ rs) → J l g 315 100 18 (lwL g b0 b1 (Int32.ofInt ((6 * c : Nat) : Int))) [] h (48 * r + rc) (4307 * r + rs) (fun v _ => v = some (.int 1)) := by
  intro r
  induction r with
  | zero =>
    intro c bk h rc rs hc hI hr
    have e1 : (Int32.ofInt ((6 * c : Nat) : Int)).toInt = 6 * c := i32_ofInt (by omega) (by omega)
    have e2 : (Int32.ofNat (jsN g)).toInt = jsN g := by rw [show Int32.ofNat (jsN g) = Int32.ofInt ((jsN g : Nat) : Int) from rfl]; exact i32_ofInt (by omega) (by omega)
    have e3 : (Int32.ofNat (jsN g) - (Int8.ofInt 6).toInt32).toInt = jsN g - 6 := by
      have e6 : ((Int8.ofInt 6).toInt32).toInt = 6 := by decide
      rw [i32_sub (by rw [e2, e6]; omega) (by rw [e2, e6]; omega), e2, e6]
    refine j_iload_n (k4 := 3) (dQ (by decide +kernel)) rfl ?_
    refine j_aload_n (k4 := 0) (dQ (by decide +kernel)) rfl ?_
    refine j_slen (dQ (by decide +kernel)) ?_
    refine j_bipush (n := 6) (dQ (by decide +kernel)) ?_
    refine j_isub (dQ (by decide +kernel)) ?_
    refine j_icmp_gt (off := 1965) (tgt := 1989) (dQ (by decide +kernel)) (by decide) (fun _ => ?_) (fun hne => absurd (Int32.lt_iff_toInt_lt.mpr (by rw [e3, e1]; omega)) hne)
    refine j_iconst (n := 1) (dQ (by decide +kernel)) ?_
    exact j_ret (v := some (.int 1)) ⟨by decide +kernel, Or.inr (Or.inl ⟨rfl, Or.inr rfl⟩)⟩ rfl rfl
  | succ r ih =>
    intro c bk h rc rs hc hI hr
    have e1 : (Int32.ofInt ((6 * c : Nat) : Int)).toInt = 6 * c := i32_ofInt (by omega) (by omega)
    have e2 : (Int32.ofNat (jsN g)).toInt = jsN g := by rw [show Int32.ofNat (jsN g) = Int32.ofInt ((jsN g : Nat) : Int) from rfl]; exact i32_ofInt (by omega) (by omega)
    have e3 : (Int32.ofNat (jsN g) - (Int8.ofInt 6).toInt32).toInt = jsN g - 6 := by
      have e6 : ((Int8.ofInt 6).toInt32).toInt = 6 := by decide
      rw [i32_sub (by rw [e2, e6]; omega) (by rw [e2, e6]; omega), e2, e6]
    refine j_iload_n (k4 := 3) (dQ (by decide +kernel)) rfl ?_
    refine j_aload_n (k4 := 0) (dQ (by decide +kernel)) rfl ?_
    refine j_slen (dQ (by decide +kernel)) ?_
    refine j_bipush (n := 6) (dQ (by decide +kernel)) ?_
    refine j_isub (dQ (by decide +kernel)) ?_
    refine j_icmp_gt (off := 1965) (tgt := 1989) (dQ (by decide +kernel)) (by decide) (fun _ => ?_) (fun hne => ?_)
    · refine j_iconst (n := 1) (dQ (by decide +kernel)) ?_
      exact j_ret (v := some (.int 1)) ⟨by decide +kernel, Or.inr (Or.inl ⟨rfl, Or.inr rfl⟩)⟩ rfl rfl
    · have hle : (6 * c : Int) + 6 ≤ jsN g := by
        have h1 := mt Int32.lt_iff_toInt_lt.mpr hne
        rw [e3, e1] at h1
        omega
      refine j_aload_n (k4 := 0) (dQ (by decide +kernel)) rfl ?_
      refine j_iload_n (k4 := 3) (dQ (by decide +kernel)) rfl ?_
      refine j_sld (i32_in (by omega) (by omega)) (dQ (by decide +kernel)) ?_
      refine j_bipush (n := 63) (dQ (by decide +kernel)) ?_
      refine j_iand (dQ (by decide +kernel)) ?_
      have hand := i32_and (x := jsX g (Int32.ofInt ((6 * c : Nat) : Int)).toNatClampNeg) (y := (Int8.ofInt 63).toInt32) (by decide)
      rw [show 48 * (r + 1) + rc = 48 + (48 * r + rc) by omega, show 4307 * (r + 1) + rs = 4307 + (4307 * r + rs) by omega]
      refine lw_case (hall _) hI (by omega) ⟨by omega, by omega⟩ hN hr (fun bk' h' rc' rs' hI' hr' => ?_) _ hand.1
      refine j_iinc (i := 3) (n := 6) (dQ (by decide +kernel)) (by decide +kernel) rfl ?_
      refine j_goto (off := -1968) (tgt := 18) (dQ (by decide +kernel)) (by decide) ?_
      have e4 : Int32.ofInt ((6 * c : Nat) : Int) + Int32.ofInt 6 = Int32.ofInt ((6 * (c + 1) : Nat) : Int) := by
        rw [← Int32.ofInt_add]
        congr 1
      have e5 : 40 * (c : Int) + 40 = 40 * ((c + 1 : Nat) : Int) := by omega
      rw [e5] at hI'
      have := ih (c + 1) bk' h' rc' rs' (by omega) hI' hr'
      rw [← e4] at this
      exact this
theorem new_run2 {y d pc own : Nat} {al : List (Option Value)} {st : List Value} {h : jH} {kc ks : Nat} {Q : Option Value → jH → Prop} {i j ci y2 d2 mc ms : Nat} {L : List cV} {P : jH → Prop} (hd0 : decode (jbC y) pc = .ok (.new i, 3)) (hd1 : decode (jbC y) (pc + 3) = .ok (.dup, 1)) (hd2 : decode (jbC y) (pc + 3 + 1) = .ok (.invokespecial j, 3)) (ho : jcN own = (jyN y).cls) (hi : (own, i, ci) ∈ jeL) (hL : cdfT[ci]? = some L) (hj : (own, j, y2) ∈ jeM ∨ (own, j, y2) ∈ jeN) (hy : y2 < 315) (hk : jkd y2 = 2) (hr0 : jrT y2 = none) (hi0 : (jyN y2).name = "<init>") (hyI : y2 ∈ jeI) (hnp : jnp y2 = 0) (hd : d2 + 1 ≤ d) (hst : (st.map fun v => v.category).sum ≤ 7)
    (hcal : jCal l g y2 d2 [.ref (g.2.2 + h.length)] (chp g h [.inr (ci, L)]) mc ms (fun v h' => v = none ∧ P h'))
    (k : ∀ h', P h' → J l g y d (pc + 3 + 1 + 3) al (.ref (g.2.2 + h.length) :: st) h' kc ks Q) : J l g y d pc al st h (1 + (mc + kc)) (L.length + (ms + ks)) Q := by
  obtain ⟨r, a1, a2, a3, a4, a5, a6⟩ := cdfT_at hL
  rw [a2]
  refine j_new (fs := L.map (cval g h.length)) hd0 ho hi a1 a3 a4 a5 (fun ty hty q hq => ?_) ?_
  · obtain ⟨t, t1, t2⟩ := a6 q hq
    rw [hty q hq] at t1
    cases t1
    have hq2 : q < L.length := by omega
    rw [List.getElem?_eq_getElem hq2] at t2
    rw [vp_V, List.getD_eq_getElem?_getD, List.getElem?_map, List.getElem?_eq_getElem hq2]
    exact cdef_val t2
  · refine j_dup hd1 rfl ?_
    have e : h ++ [.inr (ci, L.map (cval g h.length))] = chp g h [.inr (ci, L)] := rfl
    rw [e]
    obtain ⟨m1, m2, -, -⟩ := je_mem hy
    show J l g y d (pc + 3 + 1) al (([] : List Value).reverse ++ .ref (g.2.2 + h.length) :: (.ref (g.2.2 + h.length) :: st)) _ _ _ _
    have hst2 : ((Value.ref (g.2.2 + h.length) :: st).map fun v => v.category).sum ≤ 8 := by
      show 1 + (st.map fun v => v.category).sum ≤ 8
      omega
    rcases hj with hj | hj
    · exact j_callI hd2 ho hj hy m1 m2 hk hr0 hi0 hyI hnp.symm hd hst2 hcal (fun v h' hq => by
        obtain ⟨rfl, hp⟩ := hq
        exact k h' hp)
    · exact j_callIN hd2 ho hj hy m1 m2 hk hr0 hi0 hyI hnp.symm hd hst2 hcal (fun v h' hq => by
        obtain ⟨rfl, hp⟩ := hq
        exact k h' hp)
theorem cdL (i : Nat) (hi : i = 11 ∨ i = 12) : cdfT[i]? = some (cdfT.getD i []) ∧ (cdfT.getD i []).length ≤ 100 := by
  rcases hi with rfl | rfl
  · exact ⟨rfl, by decide +kernel⟩
  · exact ⟨rfl, by decide +kernel⟩
set_option maxRecDepth 16384 in
theorem law_J (hall : ∀ (l : Launch) (g : jG) (n : Int) (k : Nat) (K : aK), KTx[k]? = some K → kOK TTs g (EIm n) l K) (l : Launch) (g : jG) (hN : jsN g ≤ 3072) : J l g 315 100 0 (jal 315 [.ref (g.2.1 80)]) [] [] rmC rmS (fun v _ => v = some (.int 1)) := by
  obtain ⟨L, H0, hL, hc, hty⟩ := iniB_ok ini_0
  have hr0 := rI0_ok
  obtain ⟨d1, d2⟩ := cdL 11 (Or.inl rfl)
  obtain ⟨d3, d4⟩ := cdL 12 (Or.inr rfl)
  cases d1.symm.trans hL
  rw [hc] at hr0
  have hr0 : rIC H0 = true := hr0
  show J l g 315 100 0 [some (.ref (g.2.1 80)), none, none, none] [] [] _ _ _
  refine J.room (kc := 1 + (61 + (1 + (25 + (48 * 512 + 7))))) (ks := (cdfT.getD 11 []).length + (6281 + ((cdfT.getD 12 []).length + (195855 + (4307 * 512 + 20000))))) ?_ (by unfold rmC; omega) (Nat.le_trans (Nat.add_le_add d2 (Nat.add_le_add_left (Nat.add_le_add_right d4 _) _)) (Nat.le_of_ble_eq_true (by decide +kernel)))
  refine new_run (own := 13) (i := 7) (j := 9) (ci := 11) (y2 := 0) (own2 := 11) (fuel := 500) (d2 := 8) (by decide +kernel) (by decide +kernel) (by decide +kernel) lw_cls (by decide +kernel) d1 (Or.inl (by decide +kernel)) (by decide) (by decide +kernel) (by decide +kernel) (by decide +kernel) (by decide +kernel) (by decide +kernel) (by decide +kernel) (by decide +kernel) (by decide +kernel) (by decide) (by decide) hc ?_
  refine j_astore_n (k4 := 1) (dQ (by decide +kernel)) (by decide +kernel) ?_
  refine new_run2 (own := 13) (i := 10) (j := 12) (ci := 12) (y2 := 203) (d2 := 20) (by decide +kernel) (by decide +kernel) (by decide +kernel) lw_cls (by decide +kernel) d3 (Or.inl (by decide +kernel)) (by decide) (by decide +kernel) (by decide +kernel) (by decide +kernel) (by decide +kernel) (by decide +kernel) (by decide) (by decide) (minit_ok2 rfl rfl (by decide)) (fun h' hp => ?_)
  obtain ⟨H1, rfl, hty1, hF⟩ := hp
  refine j_astore_n (k4 := 2) (dQ (by decide +kernel)) (by decide +kernel) ?_
  refine j_iconst (n := 0) (dQ (by decide +kernel)) ?_
  refine j_istore_n (k4 := 3) (dQ (by decide +kernel)) (by decide +kernel) ?_
  obtain ⟨bk, hI⟩ := lw_ini (g := g) hty hty1 hF hr0
  exact lw_loop (hall l g) hN 512 0 bk _ 7 20000 rfl hI (fun _ => ⟨by decide, by decide⟩)
end LY
