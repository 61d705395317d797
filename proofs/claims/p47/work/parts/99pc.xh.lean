/-! exact walks: helpers (written by wip/groupB/gen_x0.py) -/
section XH
variable {l : Launch} {g : jG} {h : jH}
theorem i32_z : (0 : Int32).toInt = 0 := by decide
set_option maxRecDepth 8192 in
theorem x_isBerth_1 {x : Int32} (h1 : 0 ≤ x.toInt) (h2 : x.toInt ≤ 11) : jCal l g 14 1 [.int x] h 0 0 (fun v h' => v = some (.int (Int32.ofInt 1)) ∧ h = h') := by
  have hcls : jcN 11 = (jyN 14).cls := by decide +kernel
  have cn0 : (Int32.ofInt 12).toInt = 12 := by decide
  have cn1 : (Int32.ofInt 1).toInt = 1 := by decide
  refine jCal_of (by decide +kernel) (show 1 ≤ jmx 14 by decide +kernel) ?_
  show J l g 14 1 0 [some (.int x)] [] h 0 0 _
  refine j_iload_n (k4 := 0) (dQ (by decide +kernel)) rfl ?_
  refine j_if_lt (off := 13) (tgt := 14) (dQ (by decide +kernel)) (by decide) (fun q => absurd (i32_lt.mp q) (by rw [i32_z]; omega)) (fun _ => ?_)
  refine j_iload_n (k4 := 0) (dQ (by decide +kernel)) rfl ?_
  refine x_bi (n := 12) (dQ (by decide +kernel)) (by decide) ?_
  refine j_icmp_ge (off := 7) (tgt := 14) (dQ (by decide +kernel)) (by decide) (fun q => absurd (i32_le.mp q) (by omega)) (fun _ => ?_)
  refine j_iconst (n := 1) (dQ (by decide +kernel)) ?_
  refine j_goto (off := 4) (tgt := 15) (dQ (by decide +kernel)) (by decide) ?_
  exact j_ret (v := some (.int (Int32.ofInt 1))) ⟨by decide +kernel, Or.inr (Or.inl ⟨by decide +kernel, by decide⟩)⟩ ⟨rfl, rfl⟩ rfl
set_option maxRecDepth 8192 in
theorem x_isBerth_0l {x : Int32} (h1 : x.toInt < 0) : jCal l g 14 1 [.int x] h 0 0 (fun v h' => v = some (.int (Int32.ofInt 0)) ∧ h = h') := by
  have hcls : jcN 11 = (jyN 14).cls := by decide +kernel
  have cn0 : (Int32.ofInt 0).toInt = 0 := by decide
  refine jCal_of (by decide +kernel) (show 1 ≤ jmx 14 by decide +kernel) ?_
  show J l g 14 1 0 [some (.int x)] [] h 0 0 _
  refine j_iload_n (k4 := 0) (dQ (by decide +kernel)) rfl ?_
  refine j_if_lt (off := 13) (tgt := 14) (dQ (by decide +kernel)) (by decide) (fun _ => ?_) (fun q => absurd (i32_lt.mpr (by rw [i32_z]; omega)) q)
  refine j_iconst (n := 0) (dQ (by decide +kernel)) ?_
  exact j_ret (v := some (.int (Int32.ofInt 0))) ⟨by decide +kernel, Or.inr (Or.inl ⟨by decide +kernel, by decide⟩)⟩ ⟨rfl, rfl⟩ rfl
set_option maxRecDepth 8192 in
theorem x_isBerth_0h {x : Int32} (h1 : 11 < x.toInt) : jCal l g 14 1 [.int x] h 0 0 (fun v h' => v = some (.int (Int32.ofInt 0)) ∧ h = h') := by
  have hcls : jcN 11 = (jyN 14).cls := by decide +kernel
  have cn0 : (Int32.ofInt 12).toInt = 12 := by decide
  have cn1 : (Int32.ofInt 0).toInt = 0 := by decide
  refine jCal_of (by decide +kernel) (show 1 ≤ jmx 14 by decide +kernel) ?_
  show J l g 14 1 0 [some (.int x)] [] h 0 0 _
  refine j_iload_n (k4 := 0) (dQ (by decide +kernel)) rfl ?_
  refine j_if_lt (off := 13) (tgt := 14) (dQ (by decide +kernel)) (by decide) (fun q => absurd (i32_lt.mp q) (by rw [i32_z]; omega)) (fun _ => ?_)
  refine j_iload_n (k4 := 0) (dQ (by decide +kernel)) rfl ?_
  refine x_bi (n := 12) (dQ (by decide +kernel)) (by decide) ?_
  refine j_icmp_ge (off := 7) (tgt := 14) (dQ (by decide +kernel)) (by decide) (fun _ => ?_) (fun q => absurd (i32_le.mpr (by omega)) q)
  refine j_iconst (n := 0) (dQ (by decide +kernel)) ?_
  exact j_ret (v := some (.int (Int32.ofInt 0))) ⟨by decide +kernel, Or.inr (Or.inl ⟨by decide +kernel, by decide⟩)⟩ ⟨rfl, rfl⟩ rfl
set_option maxRecDepth 8192 in
theorem x_isTrack_1 {x : Int32} (h1 : 0 ≤ x.toInt) (h2 : x.toInt ≤ 15) : jCal l g 15 1 [.int x] h 0 0 (fun v h' => v = some (.int (Int32.ofInt 1)) ∧ h = h') := by
  have hcls : jcN 11 = (jyN 15).cls := by decide +kernel
  have cn0 : (Int32.ofInt 16).toInt = 16 := by decide
  have cn1 : (Int32.ofInt 1).toInt = 1 := by decide
  refine jCal_of (by decide +kernel) (show 1 ≤ jmx 15 by decide +kernel) ?_
  show J l g 15 1 0 [some (.int x)] [] h 0 0 _
  refine j_iload_n (k4 := 0) (dQ (by decide +kernel)) rfl ?_
  refine j_if_lt (off := 13) (tgt := 14) (dQ (by decide +kernel)) (by decide) (fun q => absurd (i32_lt.mp q) (by rw [i32_z]; omega)) (fun _ => ?_)
  refine j_iload_n (k4 := 0) (dQ (by decide +kernel)) rfl ?_
  refine x_bi (n := 16) (dQ (by decide +kernel)) (by decide) ?_
  refine j_icmp_ge (off := 7) (tgt := 14) (dQ (by decide +kernel)) (by decide) (fun q => absurd (i32_le.mp q) (by omega)) (fun _ => ?_)
  refine j_iconst (n := 1) (dQ (by decide +kernel)) ?_
  refine j_goto (off := 4) (tgt := 15) (dQ (by decide +kernel)) (by decide) ?_
  exact j_ret (v := some (.int (Int32.ofInt 1))) ⟨by decide +kernel, Or.inr (Or.inl ⟨by decide +kernel, by decide⟩)⟩ ⟨rfl, rfl⟩ rfl
set_option maxRecDepth 8192 in
theorem x_isTrack_0l {x : Int32} (h1 : x.toInt < 0) : jCal l g 15 1 [.int x] h 0 0 (fun v h' => v = some (.int (Int32.ofInt 0)) ∧ h = h') := by
  have hcls : jcN 11 = (jyN 15).cls := by decide +kernel
  have cn0 : (Int32.ofInt 0).toInt = 0 := by decide
  refine jCal_of (by decide +kernel) (show 1 ≤ jmx 15 by decide +kernel) ?_
  show J l g 15 1 0 [some (.int x)] [] h 0 0 _
  refine j_iload_n (k4 := 0) (dQ (by decide +kernel)) rfl ?_
  refine j_if_lt (off := 13) (tgt := 14) (dQ (by decide +kernel)) (by decide) (fun _ => ?_) (fun q => absurd (i32_lt.mpr (by rw [i32_z]; omega)) q)
  refine j_iconst (n := 0) (dQ (by decide +kernel)) ?_
  exact j_ret (v := some (.int (Int32.ofInt 0))) ⟨by decide +kernel, Or.inr (Or.inl ⟨by decide +kernel, by decide⟩)⟩ ⟨rfl, rfl⟩ rfl
set_option maxRecDepth 8192 in
theorem x_isTrack_0h {x : Int32} (h1 : 15 < x.toInt) : jCal l g 15 1 [.int x] h 0 0 (fun v h' => v = some (.int (Int32.ofInt 0)) ∧ h = h') := by
  have hcls : jcN 11 = (jyN 15).cls := by decide +kernel
  have cn0 : (Int32.ofInt 16).toInt = 16 := by decide
  have cn1 : (Int32.ofInt 0).toInt = 0 := by decide
  refine jCal_of (by decide +kernel) (show 1 ≤ jmx 15 by decide +kernel) ?_
  show J l g 15 1 0 [some (.int x)] [] h 0 0 _
  refine j_iload_n (k4 := 0) (dQ (by decide +kernel)) rfl ?_
  refine j_if_lt (off := 13) (tgt := 14) (dQ (by decide +kernel)) (by decide) (fun q => absurd (i32_lt.mp q) (by rw [i32_z]; omega)) (fun _ => ?_)
  refine j_iload_n (k4 := 0) (dQ (by decide +kernel)) rfl ?_
  refine x_bi (n := 16) (dQ (by decide +kernel)) (by decide) ?_
  refine j_icmp_ge (off := 7) (tgt := 14) (dQ (by decide +kernel)) (by decide) (fun _ => ?_) (fun q => absurd (i32_le.mpr (by omega)) q)
  refine j_iconst (n := 0) (dQ (by decide +kernel)) ?_
  exact j_ret (v := some (.int (Int32.ofInt 0))) ⟨by decide +kernel, Or.inr (Or.inl ⟨by decide +kernel, by decide⟩)⟩ ⟨rfl, rfl⟩ rfl
set_option maxRecDepth 8192 in
theorem x_isFlag_1a {x : Int32} (h1 : x.toInt = 0) : jCal l g 19 1 [.int x] h 0 0 (fun v h' => v = some (.int (Int32.ofInt 1)) ∧ h = h') := by
  have hcls : jcN 11 = (jyN 19).cls := by decide +kernel
  have cn0 : (Int32.ofInt 1).toInt = 1 := by decide
  refine jCal_of (by decide +kernel) (show 1 ≤ jmx 19 by decide +kernel) ?_
  show J l g 19 1 0 [some (.int x)] [] h 0 0 _
  refine j_iload_n (k4 := 0) (dQ (by decide +kernel)) rfl ?_
  refine j_if_eq (off := 8) (tgt := 9) (dQ (by decide +kernel)) (by decide) (fun _ => ?_) (fun q => absurd (i32_eq (show _ = (0 : Int32).toInt by rw [i32_z]; omega)) q)
  refine j_iconst (n := 1) (dQ (by decide +kernel)) ?_
  refine j_goto (off := 4) (tgt := 14) (dQ (by decide +kernel)) (by decide) ?_
  exact j_ret (v := some (.int (Int32.ofInt 1))) ⟨by decide +kernel, Or.inr (Or.inl ⟨by decide +kernel, by decide⟩)⟩ ⟨rfl, rfl⟩ rfl
set_option maxRecDepth 8192 in
theorem x_isFlag_1b {x : Int32} (h1 : x.toInt = 1) : jCal l g 19 1 [.int x] h 0 0 (fun v h' => v = some (.int (Int32.ofInt 1)) ∧ h = h') := by
  have hcls : jcN 11 = (jyN 19).cls := by decide +kernel
  have cn0 : (Int32.ofInt 1).toInt = 1 := by decide
  refine jCal_of (by decide +kernel) (show 1 ≤ jmx 19 by decide +kernel) ?_
  show J l g 19 1 0 [some (.int x)] [] h 0 0 _
  refine j_iload_n (k4 := 0) (dQ (by decide +kernel)) rfl ?_
  refine j_if_eq (off := 8) (tgt := 9) (dQ (by decide +kernel)) (by decide) (fun q => absurd (congrArg Int32.toInt q) (by rw [i32_z]; omega)) (fun _ => ?_)
  refine j_iload_n (k4 := 0) (dQ (by decide +kernel)) rfl ?_
  refine j_iconst (n := 1) (dQ (by decide +kernel)) ?_
  refine j_icmp_ne (off := 7) (tgt := 13) (dQ (by decide +kernel)) (by decide) (fun q => absurd (i32_eq (by omega)) q) (fun _ => ?_)
  refine j_iconst (n := 1) (dQ (by decide +kernel)) ?_
  refine j_goto (off := 4) (tgt := 14) (dQ (by decide +kernel)) (by decide) ?_
  exact j_ret (v := some (.int (Int32.ofInt 1))) ⟨by decide +kernel, Or.inr (Or.inl ⟨by decide +kernel, by decide⟩)⟩ ⟨rfl, rfl⟩ rfl
set_option maxRecDepth 8192 in
theorem x_isFlag_0l {x : Int32} (h1 : x.toInt < 0) : jCal l g 19 1 [.int x] h 0 0 (fun v h' => v = some (.int (Int32.ofInt 0)) ∧ h = h') := by
  have hcls : jcN 11 = (jyN 19).cls := by decide +kernel
  have cn0 : (Int32.ofInt 1).toInt = 1 := by decide
  have cn1 : (Int32.ofInt 0).toInt = 0 := by decide
  refine jCal_of (by decide +kernel) (show 1 ≤ jmx 19 by decide +kernel) ?_
  show J l g 19 1 0 [some (.int x)] [] h 0 0 _
  refine j_iload_n (k4 := 0) (dQ (by decide +kernel)) rfl ?_
  refine j_if_eq (off := 8) (tgt := 9) (dQ (by decide +kernel)) (by decide) (fun q => absurd (congrArg Int32.toInt q) (by rw [i32_z]; omega)) (fun _ => ?_)
  refine j_iload_n (k4 := 0) (dQ (by decide +kernel)) rfl ?_
  refine j_iconst (n := 1) (dQ (by decide +kernel)) ?_
  refine j_icmp_ne (off := 7) (tgt := 13) (dQ (by decide +kernel)) (by decide) (fun _ => ?_) (fun q => absurd (fun q => absurd (congrArg Int32.toInt q) (by omega)) q)
  refine j_iconst (n := 0) (dQ (by decide +kernel)) ?_
  exact j_ret (v := some (.int (Int32.ofInt 0))) ⟨by decide +kernel, Or.inr (Or.inl ⟨by decide +kernel, by decide⟩)⟩ ⟨rfl, rfl⟩ rfl
set_option maxRecDepth 8192 in
theorem x_isFlag_0h {x : Int32} (h1 : 1 < x.toInt) : jCal l g 19 1 [.int x] h 0 0 (fun v h' => v = some (.int (Int32.ofInt 0)) ∧ h = h') := by
  have hcls : jcN 11 = (jyN 19).cls := by decide +kernel
  have cn0 : (Int32.ofInt 1).toInt = 1 := by decide
  have cn1 : (Int32.ofInt 0).toInt = 0 := by decide
  refine jCal_of (by decide +kernel) (show 1 ≤ jmx 19 by decide +kernel) ?_
  show J l g 19 1 0 [some (.int x)] [] h 0 0 _
  refine j_iload_n (k4 := 0) (dQ (by decide +kernel)) rfl ?_
  refine j_if_eq (off := 8) (tgt := 9) (dQ (by decide +kernel)) (by decide) (fun q => absurd (congrArg Int32.toInt q) (by rw [i32_z]; omega)) (fun _ => ?_)
  refine j_iload_n (k4 := 0) (dQ (by decide +kernel)) rfl ?_
  refine j_iconst (n := 1) (dQ (by decide +kernel)) ?_
  refine j_icmp_ne (off := 7) (tgt := 13) (dQ (by decide +kernel)) (by decide) (fun _ => ?_) (fun q => absurd (fun q => absurd (congrArg Int32.toInt q) (by omega)) q)
  refine j_iconst (n := 0) (dQ (by decide +kernel)) ?_
  exact j_ret (v := some (.int (Int32.ofInt 0))) ⟨by decide +kernel, Or.inr (Or.inl ⟨by decide +kernel, by decide⟩)⟩ ⟨rfl, rfl⟩ rfl
theorem x_isFlag_1 {x : Int32} (h1 : 0 ≤ x.toInt) (h2 : x.toInt ≤ 1) : jCal l g 19 1 [.int x] h 0 0 (fun v h' => v = some (.int (Int32.ofInt 1)) ∧ h = h') := by
  by_cases e : x.toInt = 0
  · exact x_isFlag_1a e
  · exact x_isFlag_1b (by omega)
set_option maxRecDepth 8192 in
theorem x_isName_1 {x : Int32} (h1 : 1 ≤ x.toInt) (h2 : x.toInt ≤ 999) : jCal l g 34 1 [.int x] h 0 0 (fun v h' => v = some (.int (Int32.ofInt 1)) ∧ h = h') := by
  have hcls : jcN 11 = (jyN 34).cls := by decide +kernel
  have cn0 : (Int32.ofInt 1).toInt = 1 := by decide
  have cn1 : (Int32.ofInt 999).toInt = 999 := by decide
  refine jCal_of (by decide +kernel) (show 1 ≤ jmx 34 by decide +kernel) ?_
  show J l g 34 1 0 [some (.int x)] [] h 0 0 _
  refine j_iload_n (k4 := 0) (dQ (by decide +kernel)) rfl ?_
  refine j_iconst (n := 1) (dQ (by decide +kernel)) ?_
  refine j_icmp_lt (off := 14) (tgt := 16) (dQ (by decide +kernel)) (by decide) (fun q => absurd (i32_lt.mp q) (by omega)) (fun _ => ?_)
  refine j_iload_n (k4 := 0) (dQ (by decide +kernel)) rfl ?_
  refine x_si (n := 999) (dQ (by decide +kernel)) (by decide) ?_
  refine j_icmp_gt (off := 7) (tgt := 16) (dQ (by decide +kernel)) (by decide) (fun q => absurd (i32_lt.mp q) (by omega)) (fun _ => ?_)
  refine j_iconst (n := 1) (dQ (by decide +kernel)) ?_
  refine j_goto (off := 4) (tgt := 17) (dQ (by decide +kernel)) (by decide) ?_
  exact j_ret (v := some (.int (Int32.ofInt 1))) ⟨by decide +kernel, Or.inr (Or.inl ⟨by decide +kernel, by decide⟩)⟩ ⟨rfl, rfl⟩ rfl
set_option maxRecDepth 8192 in
theorem x_isName_0l {x : Int32} (h1 : x.toInt < 1) : jCal l g 34 1 [.int x] h 0 0 (fun v h' => v = some (.int (Int32.ofInt 0)) ∧ h = h') := by
  have hcls : jcN 11 = (jyN 34).cls := by decide +kernel
  have cn0 : (Int32.ofInt 1).toInt = 1 := by decide
  have cn1 : (Int32.ofInt 0).toInt = 0 := by decide
  refine jCal_of (by decide +kernel) (show 1 ≤ jmx 34 by decide +kernel) ?_
  show J l g 34 1 0 [some (.int x)] [] h 0 0 _
  refine j_iload_n (k4 := 0) (dQ (by decide +kernel)) rfl ?_
  refine j_iconst (n := 1) (dQ (by decide +kernel)) ?_
  refine j_icmp_lt (off := 14) (tgt := 16) (dQ (by decide +kernel)) (by decide) (fun _ => ?_) (fun q => absurd (i32_lt.mpr (by omega)) q)
  refine j_iconst (n := 0) (dQ (by decide +kernel)) ?_
  exact j_ret (v := some (.int (Int32.ofInt 0))) ⟨by decide +kernel, Or.inr (Or.inl ⟨by decide +kernel, by decide⟩)⟩ ⟨rfl, rfl⟩ rfl
set_option maxRecDepth 8192 in
theorem x_isName_0h {x : Int32} (h1 : 999 < x.toInt) : jCal l g 34 1 [.int x] h 0 0 (fun v h' => v = some (.int (Int32.ofInt 0)) ∧ h = h') := by
  have hcls : jcN 11 = (jyN 34).cls := by decide +kernel
  have cn0 : (Int32.ofInt 1).toInt = 1 := by decide
  have cn1 : (Int32.ofInt 999).toInt = 999 := by decide
  have cn2 : (Int32.ofInt 0).toInt = 0 := by decide
  refine jCal_of (by decide +kernel) (show 1 ≤ jmx 34 by decide +kernel) ?_
  show J l g 34 1 0 [some (.int x)] [] h 0 0 _
  refine j_iload_n (k4 := 0) (dQ (by decide +kernel)) rfl ?_
  refine j_iconst (n := 1) (dQ (by decide +kernel)) ?_
  refine j_icmp_lt (off := 14) (tgt := 16) (dQ (by decide +kernel)) (by decide) (fun q => absurd (i32_lt.mp q) (by omega)) (fun _ => ?_)
  refine j_iload_n (k4 := 0) (dQ (by decide +kernel)) rfl ?_
  refine x_si (n := 999) (dQ (by decide +kernel)) (by decide) ?_
  refine j_icmp_gt (off := 7) (tgt := 16) (dQ (by decide +kernel)) (by decide) (fun _ => ?_) (fun q => absurd (i32_lt.mpr (by omega)) q)
  refine j_iconst (n := 0) (dQ (by decide +kernel)) ?_
  exact j_ret (v := some (.int (Int32.ofInt 0))) ⟨by decide +kernel, Or.inr (Or.inl ⟨by decide +kernel, by decide⟩)⟩ ⟨rfl, rfl⟩ rfl
set_option maxRecDepth 8192 in
theorem x_isMinute_1 {x : Int32} (h1 : 0 ≤ x.toInt) (h2 : x.toInt ≤ 9999) : jCal l g 21 1 [.int x] h 0 0 (fun v h' => v = some (.int (Int32.ofInt 1)) ∧ h = h') := by
  have hcls : jcN 11 = (jyN 21).cls := by decide +kernel
  have cn0 : (Int32.ofInt 9999).toInt = 9999 := by decide
  have cn1 : (Int32.ofInt 1).toInt = 1 := by decide
  refine jCal_of (by decide +kernel) (show 1 ≤ jmx 21 by decide +kernel) ?_
  show J l g 21 1 0 [some (.int x)] [] h 0 0 _
  refine j_iload_n (k4 := 0) (dQ (by decide +kernel)) rfl ?_
  refine j_if_lt (off := 14) (tgt := 15) (dQ (by decide +kernel)) (by decide) (fun q => absurd (i32_lt.mp q) (by rw [i32_z]; omega)) (fun _ => ?_)
  refine j_iload_n (k4 := 0) (dQ (by decide +kernel)) rfl ?_
  refine x_si (n := 9999) (dQ (by decide +kernel)) (by decide) ?_
  refine j_icmp_gt (off := 7) (tgt := 15) (dQ (by decide +kernel)) (by decide) (fun q => absurd (i32_lt.mp q) (by omega)) (fun _ => ?_)
  refine j_iconst (n := 1) (dQ (by decide +kernel)) ?_
  refine j_goto (off := 4) (tgt := 16) (dQ (by decide +kernel)) (by decide) ?_
  exact j_ret (v := some (.int (Int32.ofInt 1))) ⟨by decide +kernel, Or.inr (Or.inl ⟨by decide +kernel, by decide⟩)⟩ ⟨rfl, rfl⟩ rfl
set_option maxRecDepth 8192 in
theorem x_isMinute_0l {x : Int32} (h1 : x.toInt < 0) : jCal l g 21 1 [.int x] h 0 0 (fun v h' => v = some (.int (Int32.ofInt 0)) ∧ h = h') := by
  have hcls : jcN 11 = (jyN 21).cls := by decide +kernel
  have cn0 : (Int32.ofInt 0).toInt = 0 := by decide
  refine jCal_of (by decide +kernel) (show 1 ≤ jmx 21 by decide +kernel) ?_
  show J l g 21 1 0 [some (.int x)] [] h 0 0 _
  refine j_iload_n (k4 := 0) (dQ (by decide +kernel)) rfl ?_
  refine j_if_lt (off := 14) (tgt := 15) (dQ (by decide +kernel)) (by decide) (fun _ => ?_) (fun q => absurd (i32_lt.mpr (by rw [i32_z]; omega)) q)
  refine j_iconst (n := 0) (dQ (by decide +kernel)) ?_
  exact j_ret (v := some (.int (Int32.ofInt 0))) ⟨by decide +kernel, Or.inr (Or.inl ⟨by decide +kernel, by decide⟩)⟩ ⟨rfl, rfl⟩ rfl
set_option maxRecDepth 8192 in
theorem x_isMinute_0h {x : Int32} (h1 : 9999 < x.toInt) : jCal l g 21 1 [.int x] h 0 0 (fun v h' => v = some (.int (Int32.ofInt 0)) ∧ h = h') := by
  have hcls : jcN 11 = (jyN 21).cls := by decide +kernel
  have cn0 : (Int32.ofInt 9999).toInt = 9999 := by decide
  have cn1 : (Int32.ofInt 0).toInt = 0 := by decide
  refine jCal_of (by decide +kernel) (show 1 ≤ jmx 21 by decide +kernel) ?_
  show J l g 21 1 0 [some (.int x)] [] h 0 0 _
  refine j_iload_n (k4 := 0) (dQ (by decide +kernel)) rfl ?_
  refine j_if_lt (off := 14) (tgt := 15) (dQ (by decide +kernel)) (by decide) (fun q => absurd (i32_lt.mp q) (by rw [i32_z]; omega)) (fun _ => ?_)
  refine j_iload_n (k4 := 0) (dQ (by decide +kernel)) rfl ?_
  refine x_si (n := 9999) (dQ (by decide +kernel)) (by decide) ?_
  refine j_icmp_gt (off := 7) (tgt := 15) (dQ (by decide +kernel)) (by decide) (fun _ => ?_) (fun q => absurd (i32_lt.mpr (by omega)) q)
  refine j_iconst (n := 0) (dQ (by decide +kernel)) ?_
  exact j_ret (v := some (.int (Int32.ofInt 0))) ⟨by decide +kernel, Or.inr (Or.inl ⟨by decide +kernel, by decide⟩)⟩ ⟨rfl, rfl⟩ rfl
set_option maxRecDepth 8192 in
theorem x_isBox_1 {x : Int32} (h1 : 0 ≤ x.toInt) (h2 : x.toInt ≤ 2) : jCal l g 179 1 [.int x] h 0 0 (fun v h' => v = some (.int (Int32.ofInt 1)) ∧ h = h') := by
  have hcls : jcN 11 = (jyN 179).cls := by decide +kernel
  have cn0 : (Int32.ofInt 3).toInt = 3 := by decide
  have cn1 : (Int32.ofInt 1).toInt = 1 := by decide
  refine jCal_of (by decide +kernel) (show 1 ≤ jmx 179 by decide +kernel) ?_
  show J l g 179 1 0 [some (.int x)] [] h 0 0 _
  refine j_iload_n (k4 := 0) (dQ (by decide +kernel)) rfl ?_
  refine j_if_lt (off := 12) (tgt := 13) (dQ (by decide +kernel)) (by decide) (fun q => absurd (i32_lt.mp q) (by rw [i32_z]; omega)) (fun _ => ?_)
  refine j_iload_n (k4 := 0) (dQ (by decide +kernel)) rfl ?_
  refine j_iconst (n := 3) (dQ (by decide +kernel)) ?_
  refine j_icmp_ge (off := 7) (tgt := 13) (dQ (by decide +kernel)) (by decide) (fun q => absurd (i32_le.mp q) (by omega)) (fun _ => ?_)
  refine j_iconst (n := 1) (dQ (by decide +kernel)) ?_
  refine j_goto (off := 4) (tgt := 14) (dQ (by decide +kernel)) (by decide) ?_
  exact j_ret (v := some (.int (Int32.ofInt 1))) ⟨by decide +kernel, Or.inr (Or.inl ⟨by decide +kernel, by decide⟩)⟩ ⟨rfl, rfl⟩ rfl
set_option maxRecDepth 8192 in
theorem x_isBox_0l {x : Int32} (h1 : x.toInt < 0) : jCal l g 179 1 [.int x] h 0 0 (fun v h' => v = some (.int (Int32.ofInt 0)) ∧ h = h') := by
  have hcls : jcN 11 = (jyN 179).cls := by decide +kernel
  have cn0 : (Int32.ofInt 0).toInt = 0 := by decide
  refine jCal_of (by decide +kernel) (show 1 ≤ jmx 179 by decide +kernel) ?_
  show J l g 179 1 0 [some (.int x)] [] h 0 0 _
  refine j_iload_n (k4 := 0) (dQ (by decide +kernel)) rfl ?_
  refine j_if_lt (off := 12) (tgt := 13) (dQ (by decide +kernel)) (by decide) (fun _ => ?_) (fun q => absurd (i32_lt.mpr (by rw [i32_z]; omega)) q)
  refine j_iconst (n := 0) (dQ (by decide +kernel)) ?_
  exact j_ret (v := some (.int (Int32.ofInt 0))) ⟨by decide +kernel, Or.inr (Or.inl ⟨by decide +kernel, by decide⟩)⟩ ⟨rfl, rfl⟩ rfl
set_option maxRecDepth 8192 in
theorem x_isBox_0h {x : Int32} (h1 : 2 < x.toInt) : jCal l g 179 1 [.int x] h 0 0 (fun v h' => v = some (.int (Int32.ofInt 0)) ∧ h = h') := by
  have hcls : jcN 11 = (jyN 179).cls := by decide +kernel
  have cn0 : (Int32.ofInt 3).toInt = 3 := by decide
  have cn1 : (Int32.ofInt 0).toInt = 0 := by decide
  refine jCal_of (by decide +kernel) (show 1 ≤ jmx 179 by decide +kernel) ?_
  show J l g 179 1 0 [some (.int x)] [] h 0 0 _
  refine j_iload_n (k4 := 0) (dQ (by decide +kernel)) rfl ?_
  refine j_if_lt (off := 12) (tgt := 13) (dQ (by decide +kernel)) (by decide) (fun q => absurd (i32_lt.mp q) (by rw [i32_z]; omega)) (fun _ => ?_)
  refine j_iload_n (k4 := 0) (dQ (by decide +kernel)) rfl ?_
  refine j_iconst (n := 3) (dQ (by decide +kernel)) ?_
  refine j_icmp_ge (off := 7) (tgt := 13) (dQ (by decide +kernel)) (by decide) (fun _ => ?_) (fun q => absurd (i32_le.mpr (by omega)) q)
  refine j_iconst (n := 0) (dQ (by decide +kernel)) ?_
  exact j_ret (v := some (.int (Int32.ofInt 0))) ⟨by decide +kernel, Or.inr (Or.inl ⟨by decide +kernel, by decide⟩)⟩ ⟨rfl, rfl⟩ rfl
set_option maxRecDepth 8192 in
theorem x_isCode_1 {x : Int32} (h1 : 0 ≤ x.toInt) (h2 : x.toInt ≤ 99) : jCal l g 181 1 [.int x] h 0 0 (fun v h' => v = some (.int (Int32.ofInt 1)) ∧ h = h') := by
  have hcls : jcN 11 = (jyN 181).cls := by decide +kernel
  have cn0 : (Int32.ofInt 100).toInt = 100 := by decide
  have cn1 : (Int32.ofInt 1).toInt = 1 := by decide
  refine jCal_of (by decide +kernel) (show 1 ≤ jmx 181 by decide +kernel) ?_
  show J l g 181 1 0 [some (.int x)] [] h 0 0 _
  refine j_iload_n (k4 := 0) (dQ (by decide +kernel)) rfl ?_
  refine j_if_lt (off := 13) (tgt := 14) (dQ (by decide +kernel)) (by decide) (fun q => absurd (i32_lt.mp q) (by rw [i32_z]; omega)) (fun _ => ?_)
  refine j_iload_n (k4 := 0) (dQ (by decide +kernel)) rfl ?_
  refine x_bi (n := 100) (dQ (by decide +kernel)) (by decide) ?_
  refine j_icmp_ge (off := 7) (tgt := 14) (dQ (by decide +kernel)) (by decide) (fun q => absurd (i32_le.mp q) (by omega)) (fun _ => ?_)
  refine j_iconst (n := 1) (dQ (by decide +kernel)) ?_
  refine j_goto (off := 4) (tgt := 15) (dQ (by decide +kernel)) (by decide) ?_
  exact j_ret (v := some (.int (Int32.ofInt 1))) ⟨by decide +kernel, Or.inr (Or.inl ⟨by decide +kernel, by decide⟩)⟩ ⟨rfl, rfl⟩ rfl
set_option maxRecDepth 8192 in
theorem x_isCode_0l {x : Int32} (h1 : x.toInt < 0) : jCal l g 181 1 [.int x] h 0 0 (fun v h' => v = some (.int (Int32.ofInt 0)) ∧ h = h') := by
  have hcls : jcN 11 = (jyN 181).cls := by decide +kernel
  have cn0 : (Int32.ofInt 0).toInt = 0 := by decide
  refine jCal_of (by decide +kernel) (show 1 ≤ jmx 181 by decide +kernel) ?_
  show J l g 181 1 0 [some (.int x)] [] h 0 0 _
  refine j_iload_n (k4 := 0) (dQ (by decide +kernel)) rfl ?_
  refine j_if_lt (off := 13) (tgt := 14) (dQ (by decide +kernel)) (by decide) (fun _ => ?_) (fun q => absurd (i32_lt.mpr (by rw [i32_z]; omega)) q)
  refine j_iconst (n := 0) (dQ (by decide +kernel)) ?_
  exact j_ret (v := some (.int (Int32.ofInt 0))) ⟨by decide +kernel, Or.inr (Or.inl ⟨by decide +kernel, by decide⟩)⟩ ⟨rfl, rfl⟩ rfl
set_option maxRecDepth 8192 in
theorem x_isCode_0h {x : Int32} (h1 : 99 < x.toInt) : jCal l g 181 1 [.int x] h 0 0 (fun v h' => v = some (.int (Int32.ofInt 0)) ∧ h = h') := by
  have hcls : jcN 11 = (jyN 181).cls := by decide +kernel
  have cn0 : (Int32.ofInt 100).toInt = 100 := by decide
  have cn1 : (Int32.ofInt 0).toInt = 0 := by decide
  refine jCal_of (by decide +kernel) (show 1 ≤ jmx 181 by decide +kernel) ?_
  show J l g 181 1 0 [some (.int x)] [] h 0 0 _
  refine j_iload_n (k4 := 0) (dQ (by decide +kernel)) rfl ?_
  refine j_if_lt (off := 13) (tgt := 14) (dQ (by decide +kernel)) (by decide) (fun q => absurd (i32_lt.mp q) (by rw [i32_z]; omega)) (fun _ => ?_)
  refine j_iload_n (k4 := 0) (dQ (by decide +kernel)) rfl ?_
  refine x_bi (n := 100) (dQ (by decide +kernel)) (by decide) ?_
  refine j_icmp_ge (off := 7) (tgt := 14) (dQ (by decide +kernel)) (by decide) (fun _ => ?_) (fun q => absurd (i32_le.mpr (by omega)) q)
  refine j_iconst (n := 0) (dQ (by decide +kernel)) ?_
  exact j_ret (v := some (.int (Int32.ofInt 0))) ⟨by decide +kernel, Or.inr (Or.inl ⟨by decide +kernel, by decide⟩)⟩ ⟨rfl, rfl⟩ rfl
set_option maxRecDepth 8192 in
theorem xm_in_1 {a b c : Int64} (h1 : b.toInt ≤ a.toInt) (h2 : a.toInt ≤ c.toInt) : jCal l g 205 1 [.long a, .long b, .long c] h 0 0 (fun v h' => v = some (.int (Int32.ofInt 1)) ∧ h = h') := by
  have hcls : jcN 12 = (jyN 205).cls := by decide +kernel
  have cn0 : (Int32.ofInt 1).toInt = 1 := by decide
  refine jCal_of (by decide +kernel) (show 6 ≤ jmx 205 by decide +kernel) ?_
  show J l g 205 1 0 [some (.long a), none, some (.long b), none, some (.long c), none] [] h 0 0 _
  refine j_lload_n (k4 := 0) (dQ (by decide +kernel)) rfl ?_
  refine j_lload_n (k4 := 2) (dQ (by decide +kernel)) rfl ?_
  refine x_lcmp (dQ (by decide +kernel)) (fun r1 hr1 => ?_)
  refine j_if_lt (off := 14) (tgt := 17) (dQ (by decide +kernel)) (by decide) (fun q => absurd (i32_lt.mp q) (by rw [i32_z]; omega)) (fun _ => ?_)
  refine j_lload_n (k4 := 0) (dQ (by decide +kernel)) rfl ?_
  refine j_lload (i := 4) (dQ (by decide +kernel)) rfl ?_
  refine x_lcmp (dQ (by decide +kernel)) (fun r2 hr2 => ?_)
  refine j_if_gt (off := 7) (tgt := 17) (dQ (by decide +kernel)) (by decide) (fun q => absurd (i32_lt.mp q) (by rw [i32_z]; omega)) (fun _ => ?_)
  refine j_iconst (n := 1) (dQ (by decide +kernel)) ?_
  refine j_goto (off := 4) (tgt := 18) (dQ (by decide +kernel)) (by decide) ?_
  exact j_ret (v := some (.int (Int32.ofInt 1))) ⟨by decide +kernel, Or.inr (Or.inl ⟨by decide +kernel, by decide⟩)⟩ ⟨rfl, rfl⟩ rfl
set_option maxRecDepth 8192 in
theorem xm_in_0l {a b c : Int64} (h1 : a.toInt < b.toInt) : jCal l g 205 1 [.long a, .long b, .long c] h 0 0 (fun v h' => v = some (.int (Int32.ofInt 0)) ∧ h = h') := by
  have hcls : jcN 12 = (jyN 205).cls := by decide +kernel
  have cn0 : (Int32.ofInt 0).toInt = 0 := by decide
  refine jCal_of (by decide +kernel) (show 6 ≤ jmx 205 by decide +kernel) ?_
  show J l g 205 1 0 [some (.long a), none, some (.long b), none, some (.long c), none] [] h 0 0 _
  refine j_lload_n (k4 := 0) (dQ (by decide +kernel)) rfl ?_
  refine j_lload_n (k4 := 2) (dQ (by decide +kernel)) rfl ?_
  refine x_lcmp (dQ (by decide +kernel)) (fun r1 hr1 => ?_)
  refine j_if_lt (off := 14) (tgt := 17) (dQ (by decide +kernel)) (by decide) (fun _ => ?_) (fun q => absurd (i32_lt.mpr (by rw [i32_z]; omega)) q)
  refine j_iconst (n := 0) (dQ (by decide +kernel)) ?_
  exact j_ret (v := some (.int (Int32.ofInt 0))) ⟨by decide +kernel, Or.inr (Or.inl ⟨by decide +kernel, by decide⟩)⟩ ⟨rfl, rfl⟩ rfl
set_option maxRecDepth 8192 in
theorem xm_in_0h {a b c : Int64} (h1 : b.toInt ≤ a.toInt) (h2 : c.toInt < a.toInt) : jCal l g 205 1 [.long a, .long b, .long c] h 0 0 (fun v h' => v = some (.int (Int32.ofInt 0)) ∧ h = h') := by
  have hcls : jcN 12 = (jyN 205).cls := by decide +kernel
  have cn0 : (Int32.ofInt 0).toInt = 0 := by decide
  refine jCal_of (by decide +kernel) (show 6 ≤ jmx 205 by decide +kernel) ?_
  show J l g 205 1 0 [some (.long a), none, some (.long b), none, some (.long c), none] [] h 0 0 _
  refine j_lload_n (k4 := 0) (dQ (by decide +kernel)) rfl ?_
  refine j_lload_n (k4 := 2) (dQ (by decide +kernel)) rfl ?_
  refine x_lcmp (dQ (by decide +kernel)) (fun r1 hr1 => ?_)
  refine j_if_lt (off := 14) (tgt := 17) (dQ (by decide +kernel)) (by decide) (fun q => absurd (i32_lt.mp q) (by rw [i32_z]; omega)) (fun _ => ?_)
  refine j_lload_n (k4 := 0) (dQ (by decide +kernel)) rfl ?_
  refine j_lload (i := 4) (dQ (by decide +kernel)) rfl ?_
  refine x_lcmp (dQ (by decide +kernel)) (fun r2 hr2 => ?_)
  refine j_if_gt (off := 7) (tgt := 17) (dQ (by decide +kernel)) (by decide) (fun _ => ?_) (fun q => absurd (i32_lt.mpr (by rw [i32_z]; omega)) q)
  refine j_iconst (n := 0) (dQ (by decide +kernel)) ?_
  exact j_ret (v := some (.int (Int32.ofInt 0))) ⟨by decide +kernel, Or.inr (Or.inl ⟨by decide +kernel, by decide⟩)⟩ ⟨rfl, rfl⟩ rfl
set_option maxRecDepth 8192 in
theorem xm_isBerth_1 {x : Int32} (h1 : 0 ≤ x.toInt) (h2 : x.toInt ≤ 11) : jCal l g 235 2 [.int x] h 0 0 (fun v h' => v = some (.int (Int32.ofInt 1)) ∧ h = h') := by
  have hcls : jcN 12 = (jyN 235).cls := by decide +kernel
  have cn0 : (Int32.ofInt 1).toInt = 1 := by decide
  refine jCal_of (by decide +kernel) (show 1 ≤ jmx 235 by decide +kernel) ?_
  show J l g 235 2 0 [some (.int x)] [] h 0 0 _
  refine j_iload_n (k4 := 0) (dQ (by decide +kernel)) rfl ?_
  refine x_i2l (dQ (by decide +kernel)) (fun r1 hr1 => ?_)
  refine j_lconst (n := 0) (dQ (by decide +kernel)) ?_
  have hq2 : (Int64.ofNat ((0 : Fin 2) : Nat)).toInt = 0 := by decide
  refine j_ldc2 (own := 12) (i := 108) (v := 11) hcls (by decide +kernel) (by decide +kernel) ?_
  have hq3 : (11 : Int64).toInt = 11 := by decide
  refine j_cS (own := 12) (i := 100) (y2 := 205) (d2 := 1) (mc := 0) (ms := 0) (kc := 0) (ks := 0) (As := [.long r1, .long (Int64.ofNat ((0 : Fin 2) : Nat)), .long (11 : Int64)]) (st := []) (dQ (by decide +kernel)) hcls (by decide +kernel) (by decide) (by decide +kernel) (show 3 = jnp 205 by decide +kernel) (by decide) (show 0 ≤ 8 by decide) (xm_in_1 (by omega) (by omega)) (fun v hv5 hq => ?_)
  obtain ⟨rfl, rfl⟩ := hq
  exact j_ret (v := some (.int (Int32.ofInt 1))) ⟨by decide +kernel, Or.inr (Or.inl ⟨by decide +kernel, by decide⟩)⟩ ⟨rfl, rfl⟩ rfl
set_option maxRecDepth 8192 in
theorem xm_isBerth_0l {x : Int32} (h1 : x.toInt < 0) : jCal l g 235 2 [.int x] h 0 0 (fun v h' => v = some (.int (Int32.ofInt 0)) ∧ h = h') := by
  have hcls : jcN 12 = (jyN 235).cls := by decide +kernel
  have cn0 : (Int32.ofInt 0).toInt = 0 := by decide
  refine jCal_of (by decide +kernel) (show 1 ≤ jmx 235 by decide +kernel) ?_
  show J l g 235 2 0 [some (.int x)] [] h 0 0 _
  refine j_iload_n (k4 := 0) (dQ (by decide +kernel)) rfl ?_
  refine x_i2l (dQ (by decide +kernel)) (fun r1 hr1 => ?_)
  refine j_lconst (n := 0) (dQ (by decide +kernel)) ?_
  have hq2 : (Int64.ofNat ((0 : Fin 2) : Nat)).toInt = 0 := by decide
  refine j_ldc2 (own := 12) (i := 108) (v := 11) hcls (by decide +kernel) (by decide +kernel) ?_
  have hq3 : (11 : Int64).toInt = 11 := by decide
  refine j_cS (own := 12) (i := 100) (y2 := 205) (d2 := 1) (mc := 0) (ms := 0) (kc := 0) (ks := 0) (As := [.long r1, .long (Int64.ofNat ((0 : Fin 2) : Nat)), .long (11 : Int64)]) (st := []) (dQ (by decide +kernel)) hcls (by decide +kernel) (by decide) (by decide +kernel) (show 3 = jnp 205 by decide +kernel) (by decide) (show 0 ≤ 8 by decide) (xm_in_0l (by omega)) (fun v hv5 hq => ?_)
  obtain ⟨rfl, rfl⟩ := hq
  exact j_ret (v := some (.int (Int32.ofInt 0))) ⟨by decide +kernel, Or.inr (Or.inl ⟨by decide +kernel, by decide⟩)⟩ ⟨rfl, rfl⟩ rfl
set_option maxRecDepth 8192 in
theorem xm_isBerth_0h {x : Int32} (h1 : 11 < x.toInt) : jCal l g 235 2 [.int x] h 0 0 (fun v h' => v = some (.int (Int32.ofInt 0)) ∧ h = h') := by
  have hcls : jcN 12 = (jyN 235).cls := by decide +kernel
  have cn0 : (Int32.ofInt 0).toInt = 0 := by decide
  refine jCal_of (by decide +kernel) (show 1 ≤ jmx 235 by decide +kernel) ?_
  show J l g 235 2 0 [some (.int x)] [] h 0 0 _
  refine j_iload_n (k4 := 0) (dQ (by decide +kernel)) rfl ?_
  refine x_i2l (dQ (by decide +kernel)) (fun r1 hr1 => ?_)
  refine j_lconst (n := 0) (dQ (by decide +kernel)) ?_
  have hq2 : (Int64.ofNat ((0 : Fin 2) : Nat)).toInt = 0 := by decide
  refine j_ldc2 (own := 12) (i := 108) (v := 11) hcls (by decide +kernel) (by decide +kernel) ?_
  have hq3 : (11 : Int64).toInt = 11 := by decide
  refine j_cS (own := 12) (i := 100) (y2 := 205) (d2 := 1) (mc := 0) (ms := 0) (kc := 0) (ks := 0) (As := [.long r1, .long (Int64.ofNat ((0 : Fin 2) : Nat)), .long (11 : Int64)]) (st := []) (dQ (by decide +kernel)) hcls (by decide +kernel) (by decide) (by decide +kernel) (show 3 = jnp 205 by decide +kernel) (by decide) (show 0 ≤ 8 by decide) (xm_in_0h (by omega) (by omega)) (fun v hv5 hq => ?_)
  obtain ⟨rfl, rfl⟩ := hq
  exact j_ret (v := some (.int (Int32.ofInt 0))) ⟨by decide +kernel, Or.inr (Or.inl ⟨by decide +kernel, by decide⟩)⟩ ⟨rfl, rfl⟩ rfl
set_option maxRecDepth 8192 in
theorem xm_isTrack_1 {x : Int32} (h1 : 0 ≤ x.toInt) (h2 : x.toInt ≤ 15) : jCal l g 239 2 [.int x] h 0 0 (fun v h' => v = some (.int (Int32.ofInt 1)) ∧ h = h') := by
  have hcls : jcN 12 = (jyN 239).cls := by decide +kernel
  have cn0 : (Int32.ofInt 1).toInt = 1 := by decide
  refine jCal_of (by decide +kernel) (show 1 ≤ jmx 239 by decide +kernel) ?_
  show J l g 239 2 0 [some (.int x)] [] h 0 0 _
  refine j_iload_n (k4 := 0) (dQ (by decide +kernel)) rfl ?_
  refine x_i2l (dQ (by decide +kernel)) (fun r1 hr1 => ?_)
  refine j_lconst (n := 0) (dQ (by decide +kernel)) ?_
  have hq2 : (Int64.ofNat ((0 : Fin 2) : Nat)).toInt = 0 := by decide
  refine j_ldc2 (own := 12) (i := 110) (v := 15) hcls (by decide +kernel) (by decide +kernel) ?_
  have hq3 : (15 : Int64).toInt = 15 := by decide
  refine j_cS (own := 12) (i := 100) (y2 := 205) (d2 := 1) (mc := 0) (ms := 0) (kc := 0) (ks := 0) (As := [.long r1, .long (Int64.ofNat ((0 : Fin 2) : Nat)), .long (15 : Int64)]) (st := []) (dQ (by decide +kernel)) hcls (by decide +kernel) (by decide) (by decide +kernel) (show 3 = jnp 205 by decide +kernel) (by decide) (show 0 ≤ 8 by decide) (xm_in_1 (by omega) (by omega)) (fun v hv5 hq => ?_)
  obtain ⟨rfl, rfl⟩ := hq
  exact j_ret (v := some (.int (Int32.ofInt 1))) ⟨by decide +kernel, Or.inr (Or.inl ⟨by decide +kernel, by decide⟩)⟩ ⟨rfl, rfl⟩ rfl
set_option maxRecDepth 8192 in
theorem xm_isTrack_0l {x : Int32} (h1 : x.toInt < 0) : jCal l g 239 2 [.int x] h 0 0 (fun v h' => v = some (.int (Int32.ofInt 0)) ∧ h = h') := by
  have hcls : jcN 12 = (jyN 239).cls := by decide +kernel
  have cn0 : (Int32.ofInt 0).toInt = 0 := by decide
  refine jCal_of (by decide +kernel) (show 1 ≤ jmx 239 by decide +kernel) ?_
  show J l g 239 2 0 [some (.int x)] [] h 0 0 _
  refine j_iload_n (k4 := 0) (dQ (by decide +kernel)) rfl ?_
  refine x_i2l (dQ (by decide +kernel)) (fun r1 hr1 => ?_)
  refine j_lconst (n := 0) (dQ (by decide +kernel)) ?_
  have hq2 : (Int64.ofNat ((0 : Fin 2) : Nat)).toInt = 0 := by decide
  refine j_ldc2 (own := 12) (i := 110) (v := 15) hcls (by decide +kernel) (by decide +kernel) ?_
  have hq3 : (15 : Int64).toInt = 15 := by decide
  refine j_cS (own := 12) (i := 100) (y2 := 205) (d2 := 1) (mc := 0) (ms := 0) (kc := 0) (ks := 0) (As := [.long r1, .long (Int64.ofNat ((0 : Fin 2) : Nat)), .long (15 : Int64)]) (st := []) (dQ (by decide +kernel)) hcls (by decide +kernel) (by decide) (by decide +kernel) (show 3 = jnp 205 by decide +kernel) (by decide) (show 0 ≤ 8 by decide) (xm_in_0l (by omega)) (fun v hv5 hq => ?_)
  obtain ⟨rfl, rfl⟩ := hq
  exact j_ret (v := some (.int (Int32.ofInt 0))) ⟨by decide +kernel, Or.inr (Or.inl ⟨by decide +kernel, by decide⟩)⟩ ⟨rfl, rfl⟩ rfl
set_option maxRecDepth 8192 in
theorem xm_isTrack_0h {x : Int32} (h1 : 15 < x.toInt) : jCal l g 239 2 [.int x] h 0 0 (fun v h' => v = some (.int (Int32.ofInt 0)) ∧ h = h') := by
  have hcls : jcN 12 = (jyN 239).cls := by decide +kernel
  have cn0 : (Int32.ofInt 0).toInt = 0 := by decide
  refine jCal_of (by decide +kernel) (show 1 ≤ jmx 239 by decide +kernel) ?_
  show J l g 239 2 0 [some (.int x)] [] h 0 0 _
  refine j_iload_n (k4 := 0) (dQ (by decide +kernel)) rfl ?_
  refine x_i2l (dQ (by decide +kernel)) (fun r1 hr1 => ?_)
  refine j_lconst (n := 0) (dQ (by decide +kernel)) ?_
  have hq2 : (Int64.ofNat ((0 : Fin 2) : Nat)).toInt = 0 := by decide
  refine j_ldc2 (own := 12) (i := 110) (v := 15) hcls (by decide +kernel) (by decide +kernel) ?_
  have hq3 : (15 : Int64).toInt = 15 := by decide
  refine j_cS (own := 12) (i := 100) (y2 := 205) (d2 := 1) (mc := 0) (ms := 0) (kc := 0) (ks := 0) (As := [.long r1, .long (Int64.ofNat ((0 : Fin 2) : Nat)), .long (15 : Int64)]) (st := []) (dQ (by decide +kernel)) hcls (by decide +kernel) (by decide) (by decide +kernel) (show 3 = jnp 205 by decide +kernel) (by decide) (show 0 ≤ 8 by decide) (xm_in_0h (by omega) (by omega)) (fun v hv5 hq => ?_)
  obtain ⟨rfl, rfl⟩ := hq
  exact j_ret (v := some (.int (Int32.ofInt 0))) ⟨by decide +kernel, Or.inr (Or.inl ⟨by decide +kernel, by decide⟩)⟩ ⟨rfl, rfl⟩ rfl
set_option maxRecDepth 8192 in
theorem xm_isMinute_1 {x : Int32} (h1 : 0 ≤ x.toInt) (h2 : x.toInt ≤ 9999) : jCal l g 238 2 [.int x] h 0 0 (fun v h' => v = some (.int (Int32.ofInt 1)) ∧ h = h') := by
  have hcls : jcN 12 = (jyN 238).cls := by decide +kernel
  have cn0 : (Int32.ofInt 1).toInt = 1 := by decide
  refine jCal_of (by decide +kernel) (show 1 ≤ jmx 238 by decide +kernel) ?_
  show J l g 238 2 0 [some (.int x)] [] h 0 0 _
  refine j_iload_n (k4 := 0) (dQ (by decide +kernel)) rfl ?_
  refine x_i2l (dQ (by decide +kernel)) (fun r1 hr1 => ?_)
  refine j_lconst (n := 0) (dQ (by decide +kernel)) ?_
  have hq2 : (Int64.ofNat ((0 : Fin 2) : Nat)).toInt = 0 := by decide
  refine j_ldc2 (own := 12) (i := 112) (v := 9999) hcls (by decide +kernel) (by decide +kernel) ?_
  have hq3 : (9999 : Int64).toInt = 9999 := by decide
  refine j_cS (own := 12) (i := 100) (y2 := 205) (d2 := 1) (mc := 0) (ms := 0) (kc := 0) (ks := 0) (As := [.long r1, .long (Int64.ofNat ((0 : Fin 2) : Nat)), .long (9999 : Int64)]) (st := []) (dQ (by decide +kernel)) hcls (by decide +kernel) (by decide) (by decide +kernel) (show 3 = jnp 205 by decide +kernel) (by decide) (show 0 ≤ 8 by decide) (xm_in_1 (by omega) (by omega)) (fun v hv5 hq => ?_)
  obtain ⟨rfl, rfl⟩ := hq
  exact j_ret (v := some (.int (Int32.ofInt 1))) ⟨by decide +kernel, Or.inr (Or.inl ⟨by decide +kernel, by decide⟩)⟩ ⟨rfl, rfl⟩ rfl
set_option maxRecDepth 8192 in
theorem xm_isMinute_0l {x : Int32} (h1 : x.toInt < 0) : jCal l g 238 2 [.int x] h 0 0 (fun v h' => v = some (.int (Int32.ofInt 0)) ∧ h = h') := by
  have hcls : jcN 12 = (jyN 238).cls := by decide +kernel
  have cn0 : (Int32.ofInt 0).toInt = 0 := by decide
  refine jCal_of (by decide +kernel) (show 1 ≤ jmx 238 by decide +kernel) ?_
  show J l g 238 2 0 [some (.int x)] [] h 0 0 _
  refine j_iload_n (k4 := 0) (dQ (by decide +kernel)) rfl ?_
  refine x_i2l (dQ (by decide +kernel)) (fun r1 hr1 => ?_)
  refine j_lconst (n := 0) (dQ (by decide +kernel)) ?_
  have hq2 : (Int64.ofNat ((0 : Fin 2) : Nat)).toInt = 0 := by decide
  refine j_ldc2 (own := 12) (i := 112) (v := 9999) hcls (by decide +kernel) (by decide +kernel) ?_
  have hq3 : (9999 : Int64).toInt = 9999 := by decide
  refine j_cS (own := 12) (i := 100) (y2 := 205) (d2 := 1) (mc := 0) (ms := 0) (kc := 0) (ks := 0) (As := [.long r1, .long (Int64.ofNat ((0 : Fin 2) : Nat)), .long (9999 : Int64)]) (st := []) (dQ (by decide +kernel)) hcls (by decide +kernel) (by decide) (by decide +kernel) (show 3 = jnp 205 by decide +kernel) (by decide) (show 0 ≤ 8 by decide) (xm_in_0l (by omega)) (fun v hv5 hq => ?_)
  obtain ⟨rfl, rfl⟩ := hq
  exact j_ret (v := some (.int (Int32.ofInt 0))) ⟨by decide +kernel, Or.inr (Or.inl ⟨by decide +kernel, by decide⟩)⟩ ⟨rfl, rfl⟩ rfl
set_option maxRecDepth 8192 in
theorem xm_isMinute_0h {x : Int32} (h1 : 9999 < x.toInt) : jCal l g 238 2 [.int x] h 0 0 (fun v h' => v = some (.int (Int32.ofInt 0)) ∧ h = h') := by
  have hcls : jcN 12 = (jyN 238).cls := by decide +kernel
  have cn0 : (Int32.ofInt 0).toInt = 0 := by decide
  refine jCal_of (by decide +kernel) (show 1 ≤ jmx 238 by decide +kernel) ?_
  show J l g 238 2 0 [some (.int x)] [] h 0 0 _
  refine j_iload_n (k4 := 0) (dQ (by decide +kernel)) rfl ?_
  refine x_i2l (dQ (by decide +kernel)) (fun r1 hr1 => ?_)
  refine j_lconst (n := 0) (dQ (by decide +kernel)) ?_
  have hq2 : (Int64.ofNat ((0 : Fin 2) : Nat)).toInt = 0 := by decide
  refine j_ldc2 (own := 12) (i := 112) (v := 9999) hcls (by decide +kernel) (by decide +kernel) ?_
  have hq3 : (9999 : Int64).toInt = 9999 := by decide
  refine j_cS (own := 12) (i := 100) (y2 := 205) (d2 := 1) (mc := 0) (ms := 0) (kc := 0) (ks := 0) (As := [.long r1, .long (Int64.ofNat ((0 : Fin 2) : Nat)), .long (9999 : Int64)]) (st := []) (dQ (by decide +kernel)) hcls (by decide +kernel) (by decide) (by decide +kernel) (show 3 = jnp 205 by decide +kernel) (by decide) (show 0 ≤ 8 by decide) (xm_in_0h (by omega) (by omega)) (fun v hv5 hq => ?_)
  obtain ⟨rfl, rfl⟩ := hq
  exact j_ret (v := some (.int (Int32.ofInt 0))) ⟨by decide +kernel, Or.inr (Or.inl ⟨by decide +kernel, by decide⟩)⟩ ⟨rfl, rfl⟩ rfl
set_option maxRecDepth 8192 in
theorem xm_isName_1 {x : Int32} (h1 : 1 ≤ x.toInt) (h2 : x.toInt ≤ 999) : jCal l g 249 2 [.int x] h 0 0 (fun v h' => v = some (.int (Int32.ofInt 1)) ∧ h = h') := by
  have hcls : jcN 12 = (jyN 249).cls := by decide +kernel
  have cn0 : (Int32.ofInt 1).toInt = 1 := by decide
  refine jCal_of (by decide +kernel) (show 1 ≤ jmx 249 by decide +kernel) ?_
  show J l g 249 2 0 [some (.int x)] [] h 0 0 _
  refine j_iload_n (k4 := 0) (dQ (by decide +kernel)) rfl ?_
  refine x_i2l (dQ (by decide +kernel)) (fun r1 hr1 => ?_)
  refine j_lconst (n := 1) (dQ (by decide +kernel)) ?_
  have hq2 : (Int64.ofNat ((1 : Fin 2) : Nat)).toInt = 1 := by decide
  refine j_ldc2 (own := 12) (i := 114) (v := 999) hcls (by decide +kernel) (by decide +kernel) ?_
  have hq3 : (999 : Int64).toInt = 999 := by decide
  refine j_cS (own := 12) (i := 100) (y2 := 205) (d2 := 1) (mc := 0) (ms := 0) (kc := 0) (ks := 0) (As := [.long r1, .long (Int64.ofNat ((1 : Fin 2) : Nat)), .long (999 : Int64)]) (st := []) (dQ (by decide +kernel)) hcls (by decide +kernel) (by decide) (by decide +kernel) (show 3 = jnp 205 by decide +kernel) (by decide) (show 0 ≤ 8 by decide) (xm_in_1 (by omega) (by omega)) (fun v hv5 hq => ?_)
  obtain ⟨rfl, rfl⟩ := hq
  exact j_ret (v := some (.int (Int32.ofInt 1))) ⟨by decide +kernel, Or.inr (Or.inl ⟨by decide +kernel, by decide⟩)⟩ ⟨rfl, rfl⟩ rfl
set_option maxRecDepth 8192 in
theorem xm_isName_0l {x : Int32} (h1 : x.toInt < 1) : jCal l g 249 2 [.int x] h 0 0 (fun v h' => v = some (.int (Int32.ofInt 0)) ∧ h = h') := by
  have hcls : jcN 12 = (jyN 249).cls := by decide +kernel
  have cn0 : (Int32.ofInt 0).toInt = 0 := by decide
  refine jCal_of (by decide +kernel) (show 1 ≤ jmx 249 by decide +kernel) ?_
  show J l g 249 2 0 [some (.int x)] [] h 0 0 _
  refine j_iload_n (k4 := 0) (dQ (by decide +kernel)) rfl ?_
  refine x_i2l (dQ (by decide +kernel)) (fun r1 hr1 => ?_)
  refine j_lconst (n := 1) (dQ (by decide +kernel)) ?_
  have hq2 : (Int64.ofNat ((1 : Fin 2) : Nat)).toInt = 1 := by decide
  refine j_ldc2 (own := 12) (i := 114) (v := 999) hcls (by decide +kernel) (by decide +kernel) ?_
  have hq3 : (999 : Int64).toInt = 999 := by decide
  refine j_cS (own := 12) (i := 100) (y2 := 205) (d2 := 1) (mc := 0) (ms := 0) (kc := 0) (ks := 0) (As := [.long r1, .long (Int64.ofNat ((1 : Fin 2) : Nat)), .long (999 : Int64)]) (st := []) (dQ (by decide +kernel)) hcls (by decide +kernel) (by decide) (by decide +kernel) (show 3 = jnp 205 by decide +kernel) (by decide) (show 0 ≤ 8 by decide) (xm_in_0l (by omega)) (fun v hv5 hq => ?_)
  obtain ⟨rfl, rfl⟩ := hq
  exact j_ret (v := some (.int (Int32.ofInt 0))) ⟨by decide +kernel, Or.inr (Or.inl ⟨by decide +kernel, by decide⟩)⟩ ⟨rfl, rfl⟩ rfl
set_option maxRecDepth 8192 in
theorem xm_isName_0h {x : Int32} (h1 : 999 < x.toInt) : jCal l g 249 2 [.int x] h 0 0 (fun v h' => v = some (.int (Int32.ofInt 0)) ∧ h = h') := by
  have hcls : jcN 12 = (jyN 249).cls := by decide +kernel
  have cn0 : (Int32.ofInt 0).toInt = 0 := by decide
  refine jCal_of (by decide +kernel) (show 1 ≤ jmx 249 by decide +kernel) ?_
  show J l g 249 2 0 [some (.int x)] [] h 0 0 _
  refine j_iload_n (k4 := 0) (dQ (by decide +kernel)) rfl ?_
  refine x_i2l (dQ (by decide +kernel)) (fun r1 hr1 => ?_)
  refine j_lconst (n := 1) (dQ (by decide +kernel)) ?_
  have hq2 : (Int64.ofNat ((1 : Fin 2) : Nat)).toInt = 1 := by decide
  refine j_ldc2 (own := 12) (i := 114) (v := 999) hcls (by decide +kernel) (by decide +kernel) ?_
  have hq3 : (999 : Int64).toInt = 999 := by decide
  refine j_cS (own := 12) (i := 100) (y2 := 205) (d2 := 1) (mc := 0) (ms := 0) (kc := 0) (ks := 0) (As := [.long r1, .long (Int64.ofNat ((1 : Fin 2) : Nat)), .long (999 : Int64)]) (st := []) (dQ (by decide +kernel)) hcls (by decide +kernel) (by decide) (by decide +kernel) (show 3 = jnp 205 by decide +kernel) (by decide) (show 0 ≤ 8 by decide) (xm_in_0h (by omega) (by omega)) (fun v hv5 hq => ?_)
  obtain ⟨rfl, rfl⟩ := hq
  exact j_ret (v := some (.int (Int32.ofInt 0))) ⟨by decide +kernel, Or.inr (Or.inl ⟨by decide +kernel, by decide⟩)⟩ ⟨rfl, rfl⟩ rfl
set_option maxRecDepth 8192 in
theorem x_allow {x : Int32} {b : Nat} {fs : List Value} (hc : h[b + 0]? = some (.inr (11, fs))) (hl : fs.length = 12) : jCal l g 17 1 [.ref (g.2.2 + (b + 0)), .int x] h 0 0 (fun v h' => v = some (.int x) ∧ h' = h.set (b + 0) (.inr (11, fs.set 7 (.int (Int32.ofInt 0))))) := by
  have hcls : jcN 11 = (jyN 17).cls := by decide +kernel
  have cn0 : (Int32.ofInt 0).toInt = 0 := by decide
  refine jCal_of (by decide +kernel) (show 2 ≤ jmx 17 by decide +kernel) ?_
  show J l g 17 1 0 [some (.ref (g.2.2 + (b + 0))), some (.int x)] [] h 0 0 _
  refine j_aload_n (k4 := 0) (dQ (by decide +kernel)) rfl ?_
  refine j_iconst (n := 0) (dQ (by decide +kernel)) ?_
  refine j_put (own := 11) (i := 374) (ci := 11) (f := 7) (ty := .int) (dQ (by decide +kernel)) hcls (by decide +kernel) hc rfl (by decide +kernel) (by rw [hl]; decide) (by decide +kernel) (by decide +kernel) rfl rfl ?_
  have n1 : (fs.set 7 (.int (Int32.ofInt 0))).length = 12 := by rw [List.length_set]; exact hl
  have f2 : (fs.set 7 (.int (Int32.ofInt 0)))[7]? = some (.int (Int32.ofInt 0)) := List.getElem?_set_self (by rw [hl]; decide)
  have k3 : (h.set (b + 0) (.inr (11, (fs.set 7 (.int (Int32.ofInt 0))))))[b + 0]? = some (.inr (11, (fs.set 7 (.int (Int32.ofInt 0))))) := List.getElem?_set_self (List.getElem?_eq_some_iff.mp hc).1
  refine j_iload_n (k4 := 1) (dQ (by decide +kernel)) rfl ?_
  exact j_ret (v := some (.int x)) ⟨by decide +kernel, Or.inl (by decide +kernel)⟩ ⟨rfl, rfl⟩ rfl
set_option maxRecDepth 8192 in
theorem x_refuse {x : Int32} {b : Nat} {fs : List Value} (hc : h[b + 0]? = some (.inr (11, fs))) (hl : fs.length = 12) : jCal l g 16 1 [.ref (g.2.2 + (b + 0)), .int x] h 0 0 (fun v h' => v = some (.int x) ∧ h' = h.set (b + 0) (.inr (11, fs.set 7 (.int x)))) := by
  have hcls : jcN 11 = (jyN 16).cls := by decide +kernel
  refine jCal_of (by decide +kernel) (show 2 ≤ jmx 16 by decide +kernel) ?_
  show J l g 16 1 0 [some (.ref (g.2.2 + (b + 0))), some (.int x)] [] h 0 0 _
  refine j_aload_n (k4 := 0) (dQ (by decide +kernel)) rfl ?_
  refine j_iload_n (k4 := 1) (dQ (by decide +kernel)) rfl ?_
  refine j_put (own := 11) (i := 374) (ci := 11) (f := 7) (ty := .int) (dQ (by decide +kernel)) hcls (by decide +kernel) hc rfl (by decide +kernel) (by rw [hl]; decide) (by decide +kernel) (by decide +kernel) rfl rfl ?_
  have n1 : (fs.set 7 (.int x)).length = 12 := by rw [List.length_set]; exact hl
  have f2 : (fs.set 7 (.int x))[7]? = some (.int x) := List.getElem?_set_self (by rw [hl]; decide)
  have k3 : (h.set (b + 0) (.inr (11, (fs.set 7 (.int x)))))[b + 0]? = some (.inr (11, (fs.set 7 (.int x)))) := List.getElem?_set_self (List.getElem?_eq_some_iff.mp hc).1
  refine j_iload_n (k4 := 1) (dQ (by decide +kernel)) rfl ?_
  exact j_ret (v := some (.int x)) ⟨by decide +kernel, Or.inl (by decide +kernel)⟩ ⟨rfl, rfl⟩ rfl
set_option maxRecDepth 8192 in
theorem xm_was {x : Int32} {b : Nat} {fs : List Value} (hc : h[b + 0]? = some (.inr (12, fs))) (hl : fs.length = 42) : jCal l g 216 1 [.ref (g.2.2 + (b + 0)), .int x] h 0 0 (fun v h' => v = some (.int x) ∧ h' = h.set (b + 0) (.inr (12, fs.set 1 (.int (Int32.ofInt 0))))) := by
  have hcls : jcN 12 = (jyN 216).cls := by decide +kernel
  have cn0 : (Int32.ofInt 0).toInt = 0 := by decide
  refine jCal_of (by decide +kernel) (show 2 ≤ jmx 216 by decide +kernel) ?_
  show J l g 216 1 0 [some (.ref (g.2.2 + (b + 0))), some (.int x)] [] h 0 0 _
  refine j_aload_n (k4 := 0) (dQ (by decide +kernel)) rfl ?_
  refine j_iconst (n := 0) (dQ (by decide +kernel)) ?_
  refine j_put (own := 12) (i := 97) (ci := 12) (f := 1) (ty := .int) (dQ (by decide +kernel)) hcls (by decide +kernel) hc rfl (by decide +kernel) (by rw [hl]; decide) (by decide +kernel) (by decide +kernel) rfl rfl ?_
  have n1 : (fs.set 1 (.int (Int32.ofInt 0))).length = 42 := by rw [List.length_set]; exact hl
  have f2 : (fs.set 1 (.int (Int32.ofInt 0)))[1]? = some (.int (Int32.ofInt 0)) := List.getElem?_set_self (by rw [hl]; decide)
  have k3 : (h.set (b + 0) (.inr (12, (fs.set 1 (.int (Int32.ofInt 0))))))[b + 0]? = some (.inr (12, (fs.set 1 (.int (Int32.ofInt 0))))) := List.getElem?_set_self (List.getElem?_eq_some_iff.mp hc).1
  refine j_iload_n (k4 := 1) (dQ (by decide +kernel)) rfl ?_
  exact j_ret (v := some (.int x)) ⟨by decide +kernel, Or.inl (by decide +kernel)⟩ ⟨rfl, rfl⟩ rfl
set_option maxRecDepth 8192 in
theorem xm_tellN {x : Int32} {b : Nat} {fs : List Value} (hc : h[b + 0]? = some (.inr (12, fs))) (hl : fs.length = 42) (h0 : x.toInt < 0) : jCal l g 206 1 [.ref (g.2.2 + (b + 0)), .int x] h 0 0 (fun v h' => v = some (.int x) ∧ h' = h.set (b + 0) (.inr (12, fs.set 1 (.int x)))) := by
  have hcls : jcN 12 = (jyN 206).cls := by decide +kernel
  refine jCal_of (by decide +kernel) (show 2 ≤ jmx 206 by decide +kernel) ?_
  show J l g 206 1 0 [some (.ref (g.2.2 + (b + 0))), some (.int x)] [] h 0 0 _
  refine j_aload_n (k4 := 0) (dQ (by decide +kernel)) rfl ?_
  refine j_iload_n (k4 := 1) (dQ (by decide +kernel)) rfl ?_
  refine j_if_ge (off := 7) (tgt := 9) (dQ (by decide +kernel)) (by decide) (fun q => absurd (i32_le.mp q) (by rw [i32_z]; omega)) (fun _ => ?_)
  refine j_iload_n (k4 := 1) (dQ (by decide +kernel)) rfl ?_
  refine j_goto (off := 4) (tgt := 10) (dQ (by decide +kernel)) (by decide) ?_
  refine j_put (own := 12) (i := 97) (ci := 12) (f := 1) (ty := .int) (dQ (by decide +kernel)) hcls (by decide +kernel) hc rfl (by decide +kernel) (by rw [hl]; decide) (by decide +kernel) (by decide +kernel) rfl rfl ?_
  have n1 : (fs.set 1 (.int x)).length = 42 := by rw [List.length_set]; exact hl
  have f2 : (fs.set 1 (.int x))[1]? = some (.int x) := List.getElem?_set_self (by rw [hl]; decide)
  have k3 : (h.set (b + 0) (.inr (12, (fs.set 1 (.int x)))))[b + 0]? = some (.inr (12, (fs.set 1 (.int x)))) := List.getElem?_set_self (List.getElem?_eq_some_iff.mp hc).1
  refine j_iload_n (k4 := 1) (dQ (by decide +kernel)) rfl ?_
  exact j_ret (v := some (.int x)) ⟨by decide +kernel, Or.inl (by decide +kernel)⟩ ⟨rfl, rfl⟩ rfl
set_option maxRecDepth 8192 in
theorem xm_tellP {x : Int32} {b : Nat} {fs : List Value} (hc : h[b + 0]? = some (.inr (12, fs))) (hl : fs.length = 42) (h0 : 0 ≤ x.toInt) : jCal l g 206 1 [.ref (g.2.2 + (b + 0)), .int x] h 0 0 (fun v h' => v = some (.int x) ∧ h' = h.set (b + 0) (.inr (12, fs.set 1 (.int (Int32.ofInt 0))))) := by
  have hcls : jcN 12 = (jyN 206).cls := by decide +kernel
  have cn0 : (Int32.ofInt 0).toInt = 0 := by decide
  refine jCal_of (by decide +kernel) (show 2 ≤ jmx 206 by decide +kernel) ?_
  show J l g 206 1 0 [some (.ref (g.2.2 + (b + 0))), some (.int x)] [] h 0 0 _
  refine j_aload_n (k4 := 0) (dQ (by decide +kernel)) rfl ?_
  refine j_iload_n (k4 := 1) (dQ (by decide +kernel)) rfl ?_
  refine j_if_ge (off := 7) (tgt := 9) (dQ (by decide +kernel)) (by decide) (fun _ => ?_) (fun q => absurd (i32_le.mpr (by rw [i32_z]; omega)) q)
  refine j_iconst (n := 0) (dQ (by decide +kernel)) ?_
  refine j_put (own := 12) (i := 97) (ci := 12) (f := 1) (ty := .int) (dQ (by decide +kernel)) hcls (by decide +kernel) hc rfl (by decide +kernel) (by rw [hl]; decide) (by decide +kernel) (by decide +kernel) rfl rfl ?_
  have n1 : (fs.set 1 (.int (Int32.ofInt 0))).length = 42 := by rw [List.length_set]; exact hl
  have f2 : (fs.set 1 (.int (Int32.ofInt 0)))[1]? = some (.int (Int32.ofInt 0)) := List.getElem?_set_self (by rw [hl]; decide)
  have k3 : (h.set (b + 0) (.inr (12, (fs.set 1 (.int (Int32.ofInt 0))))))[b + 0]? = some (.inr (12, (fs.set 1 (.int (Int32.ofInt 0))))) := List.getElem?_set_self (List.getElem?_eq_some_iff.mp hc).1
  refine j_iload_n (k4 := 1) (dQ (by decide +kernel)) rfl ?_
  exact j_ret (v := some (.int x)) ⟨by decide +kernel, Or.inl (by decide +kernel)⟩ ⟨rfl, rfl⟩ rfl
end XH
