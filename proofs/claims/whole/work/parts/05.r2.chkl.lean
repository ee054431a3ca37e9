/-! ===== the law as its table says, group 2 (printed by program) ===== -/
theorem chkL_1080 : (((cd_333.drop 1080).take 60).length = 60) ∧ chkA 333 ((cd_333.drop 1080).take 60) 1080 = true := by decide +kernel
theorem chkL_1140 : (((cd_333.drop 1140).take 60).length = 60) ∧ chkA 333 ((cd_333.drop 1140).take 60) 1140 = true := by decide +kernel
theorem chkL_1200 : (((cd_333.drop 1200).take 60).length = 60) ∧ chkA 333 ((cd_333.drop 1200).take 60) 1200 = true := by decide +kernel
theorem chkL_1260 : (((cd_333.drop 1260).take 60).length = 60) ∧ chkA 333 ((cd_333.drop 1260).take 60) 1260 = true := by decide +kernel
theorem chkL_1320 : (((cd_333.drop 1320).take 60).length = 60) ∧ chkA 333 ((cd_333.drop 1320).take 60) 1320 = true := by decide +kernel
theorem chkL_1380 : (((cd_333.drop 1380).take 60).length = 60) ∧ chkA 333 ((cd_333.drop 1380).take 60) 1380 = true := by decide +kernel
theorem chkL_1440 : (((cd_333.drop 1440).take 60).length = 60) ∧ chkA 333 ((cd_333.drop 1440).take 60) 1440 = true := by decide +kernel
theorem chkL_1500 : (((cd_333.drop 1500).take 60).length = 60) ∧ chkA 333 ((cd_333.drop 1500).take 60) 1500 = true := by decide +kernel
theorem chkL_1560 : (((cd_333.drop 1560).take 60).length = 60) ∧ chkA 333 ((cd_333.drop 1560).take 60) 1560 = true := by decide +kernel
