/-! methods keep their contracts: numbers from 130 on -/
theorem ck_130 : ((List.range 10).map (fun j => j + 130)).all (ckOne Pm) = true := by decide +kernel
theorem ck_140 : ((List.range 10).map (fun j => j + 140)).all (ckOne Pm) = true := by decide +kernel
theorem ck_150 : ((List.range 10).map (fun j => j + 150)).all (ckOne Pm) = true := by decide +kernel
theorem ck_160 : ((List.range 10).map (fun j => j + 160)).all (ckOne Pm) = true := by decide +kernel
theorem ck_170 : ((List.range 10).map (fun j => j + 170)).all (ckOne Pm) = true := by decide +kernel
theorem ck_180 : ((List.range 10).map (fun j => j + 180)).all (ckOne Pm) = true := by decide +kernel
theorem ck_190 : ((List.range 10).map (fun j => j + 190)).all (ckOne Pm) = true := by decide +kernel
theorem ck_200 : ((List.range 10).map (fun j => j + 200)).all (ckOne Pm) = true := by decide +kernel
theorem ck_210 : ((List.range 10).map (fun j => j + 210)).all (ckOne Pm) = true := by decide +kernel
theorem ck_220 : ((List.range 10).map (fun j => j + 220)).all (ckOne Pm) = true := by decide +kernel
theorem ck_230 : ((List.range 10).map (fun j => j + 230)).all (ckOne Pm) = true := by decide +kernel
theorem ck_240 : ((List.range 10).map (fun j => j + 240)).all (ckOne Pm) = true := by decide +kernel
theorem ck_250 : ((List.range 10).map (fun j => j + 250)).all (ckOne Pm) = true := by decide +kernel
