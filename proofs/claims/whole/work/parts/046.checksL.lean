/-! CHECKS of the law's entries -/
theorem ckL_3_1 : chkS (mt 284) lks_14 cd_284 650 ((cd_284_3.drop 50).take 50) = true := by decide +kernel
theorem ckL_3_2 : chkS (mt 284) lks_14 cd_284 700 ((cd_284_3.drop 100).take 50) = true := by decide +kernel
theorem ckL_3_3 : chkS (mt 284) lks_14 cd_284 750 ((cd_284_3.drop 150).take 50) = true := by decide +kernel
theorem ckL_4_0 : chkS (mt 284) lks_14 cd_284 800 ((cd_284_4.drop 0).take 50) = true := by decide +kernel
theorem ckL_4_1 : chkS (mt 284) lks_14 cd_284 850 ((cd_284_4.drop 50).take 50) = true := by decide +kernel
theorem ckL_4_2 : chkS (mt 284) lks_14 cd_284 900 ((cd_284_4.drop 100).take 50) = true := by decide +kernel
theorem ckL_4_3 : chkS (mt 284) lks_14 cd_284 950 ((cd_284_4.drop 150).take 50) = true := by decide +kernel
theorem ckL_5_0 : chkS (mt 284) lks_14 cd_284 1000 ((cd_284_5.drop 0).take 50) = true := by decide +kernel
theorem ckL_5_1 : chkS (mt 284) lks_14 cd_284 1050 ((cd_284_5.drop 50).take 50) = true := by decide +kernel
theorem ckL_5_2 : chkS (mt 284) lks_14 cd_284 1100 ((cd_284_5.drop 100).take 50) = true := by decide +kernel
theorem ckL_5_3 : chkS (mt 284) lks_14 cd_284 1150 ((cd_284_5.drop 150).take 50) = true := by decide +kernel
theorem ckL_6_0 : chkS (mt 284) lks_14 cd_284 1200 ((cd_284_6.drop 0).take 50) = true := by decide +kernel
theorem ckL_6_1 : chkS (mt 284) lks_14 cd_284 1250 ((cd_284_6.drop 50).take 50) = true := by decide +kernel
