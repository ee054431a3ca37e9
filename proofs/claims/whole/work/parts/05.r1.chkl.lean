/-! ===== the law as its table says, group 1 (printed by program) ===== -/
theorem chkL_540 : (((cd_333.drop 540).take 60).length = 60) ∧ chkA 333 ((cd_333.drop 540).take 60) 540 = true := by decide +kernel
theorem chkL_600 : (((cd_333.drop 600).take 60).length = 60) ∧ chkA 333 ((cd_333.drop 600).take 60) 600 = true := by decide +kernel
theorem chkL_660 : (((cd_333.drop 660).take 60).length = 60) ∧ chkA 333 ((cd_333.drop 660).take 60) 660 = true := by decide +kernel
theorem chkL_720 : (((cd_333.drop 720).take 60).length = 60) ∧ chkA 333 ((cd_333.drop 720).take 60) 720 = true := by decide +kernel
theorem chkL_780 : (((cd_333.drop 780).take 60).length = 60) ∧ chkA 333 ((cd_333.drop 780).take 60) 780 = true := by decide +kernel
theorem chkL_840 : (((cd_333.drop 840).take 60).length = 60) ∧ chkA 333 ((cd_333.drop 840).take 60) 840 = true := by decide +kernel
theorem chkL_900 : (((cd_333.drop 900).take 60).length = 60) ∧ chkA 333 ((cd_333.drop 900).take 60) 900 = true := by decide +kernel
theorem chkL_960 : (((cd_333.drop 960).take 60).length = 60) ∧ chkA 333 ((cd_333.drop 960).take 60) 960 = true := by decide +kernel
theorem chkL_1020 : (((cd_333.drop 1020).take 60).length = 60) ∧ chkA 333 ((cd_333.drop 1020).take 60) 1020 = true := by decide +kernel
