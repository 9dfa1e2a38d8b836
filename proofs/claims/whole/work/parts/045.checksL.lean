/-! CHECKS of the law's entries -/
theorem ckL_0_0 : chkS (mt 284) lks_14 cd_284 0 ((cd_284_0.drop 0).take 50) = true := by decide +kernel
theorem ckL_0_1 : chkS (mt 284) lks_14 cd_284 50 ((cd_284_0.drop 50).take 50) = true := by decide +kernel
theorem ckL_0_2 : chkS (mt 284) lks_14 cd_284 100 ((cd_284_0.drop 100).take 50) = true := by decide +kernel
theorem ckL_0_3 : chkS (mt 284) lks_14 cd_284 150 ((cd_284_0.drop 150).take 50) = true := by decide +kernel
theorem ckL_1_0 : chkS (mt 284) lks_14 cd_284 200 ((cd_284_1.drop 0).take 50) = true := by decide +kernel
theorem ckL_1_1 : chkS (mt 284) lks_14 cd_284 250 ((cd_284_1.drop 50).take 50) = true := by decide +kernel
theorem ckL_1_2 : chkS (mt 284) lks_14 cd_284 300 ((cd_284_1.drop 100).take 50) = true := by decide +kernel
theorem ckL_1_3 : chkS (mt 284) lks_14 cd_284 350 ((cd_284_1.drop 150).take 50) = true := by decide +kernel
theorem ckL_2_0 : chkS (mt 284) lks_14 cd_284 400 ((cd_284_2.drop 0).take 50) = true := by decide +kernel
theorem ckL_2_1 : chkS (mt 284) lks_14 cd_284 450 ((cd_284_2.drop 50).take 50) = true := by decide +kernel
theorem ckL_2_2 : chkS (mt 284) lks_14 cd_284 500 ((cd_284_2.drop 100).take 50) = true := by decide +kernel
theorem ckL_2_3 : chkS (mt 284) lks_14 cd_284 550 ((cd_284_2.drop 150).take 50) = true := by decide +kernel
theorem ckL_3_0 : chkS (mt 284) lks_14 cd_284 600 ((cd_284_3.drop 0).take 50) = true := by decide +kernel
