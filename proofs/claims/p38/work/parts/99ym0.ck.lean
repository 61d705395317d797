/-! methods keep their contracts: numbers from 0 on -/
theorem ck_0 : ((List.range 10).map (fun j => j + 0)).all (ckOne Pm) = true := by decide +kernel
theorem ck_10 : ((List.range 10).map (fun j => j + 10)).all (ckOne Pm) = true := by decide +kernel
theorem ck_20 : ((List.range 10).map (fun j => j + 20)).all (ckOne Pm) = true := by decide +kernel
theorem ck_30 : ((List.range 10).map (fun j => j + 30)).all (ckOne Pm) = true := by decide +kernel
theorem ck_40 : ((List.range 10).map (fun j => j + 40)).all (ckOne Pm) = true := by decide +kernel
theorem ck_50 : ((List.range 10).map (fun j => j + 50)).all (ckOne Pm) = true := by decide +kernel
theorem ck_60 : ((List.range 10).map (fun j => j + 60)).all (ckOne Pm) = true := by decide +kernel
theorem ck_70 : ((List.range 10).map (fun j => j + 70)).all (ckOne Pm) = true := by decide +kernel
theorem ck_80 : ((List.range 10).map (fun j => j + 80)).all (ckOne Pm) = true := by decide +kernel
theorem ck_90 : ((List.range 10).map (fun j => j + 90)).all (ckOne Pm) = true := by decide +kernel
theorem ck_100 : ((List.range 10).map (fun j => j + 100)).all (ckOne Pm) = true := by decide +kernel
theorem ck_110 : ((List.range 10).map (fun j => j + 110)).all (ckOne Pm) = true := by decide +kernel
theorem ck_120 : ((List.range 10).map (fun j => j + 120)).all (ckOne Pm) = true := by decide +kernel
