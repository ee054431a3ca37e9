/-! ===== the law as its table says, group 3 (printed by program) ===== -/
theorem chkL_1620 : (((cd_333.drop 1620).take 60).length = 60) ∧ chkA 333 ((cd_333.drop 1620).take 60) 1620 = true := by decide +kernel
theorem chkL_1680 : (((cd_333.drop 1680).take 36).length = 36) ∧ chkA 333 ((cd_333.drop 1680).take 36) 1680 = true := by decide +kernel
theorem chkL_end : cd_333.drop 1716 = [] := by decide +kernel
