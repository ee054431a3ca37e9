/-! ===== all methods are as their tables say ===== -/
theorem chkR_1716 : chkA 333 (cd_333.drop 1716) 1716 = true := by rw [chkL_end]; rfl
theorem chkR_1680 : chkA 333 (cd_333.drop 1680) 1680 = true := chkA_cut _ _ 36 chkL_1680.1 chkL_1680.2 (by rw [List.drop_drop]; exact chkR_1716)
theorem chkR_1620 : chkA 333 (cd_333.drop 1620) 1620 = true := chkA_cut _ _ 60 chkL_1620.1 chkL_1620.2 (by rw [List.drop_drop]; exact chkR_1680)
theorem chkR_1560 : chkA 333 (cd_333.drop 1560) 1560 = true := chkA_cut _ _ 60 chkL_1560.1 chkL_1560.2 (by rw [List.drop_drop]; exact chkR_1620)
theorem chkR_1500 : chkA 333 (cd_333.drop 1500) 1500 = true := chkA_cut _ _ 60 chkL_1500.1 chkL_1500.2 (by rw [List.drop_drop]; exact chkR_1560)
theorem chkR_1440 : chkA 333 (cd_333.drop 1440) 1440 = true := chkA_cut _ _ 60 chkL_1440.1 chkL_1440.2 (by rw [List.drop_drop]; exact chkR_1500)
theorem chkR_1380 : chkA 333 (cd_333.drop 1380) 1380 = true := chkA_cut _ _ 60 chkL_1380.1 chkL_1380.2 (by rw [List.drop_drop]; exact chkR_1440)
theorem chkR_1320 : chkA 333 (cd_333.drop 1320) 1320 = true := chkA_cut _ _ 60 chkL_1320.1 chkL_1320.2 (by rw [List.drop_drop]; exact chkR_1380)
theorem chkR_1260 : chkA 333 (cd_333.drop 1260) 1260 = true := chkA_cut _ _ 60 chkL_1260.1 chkL_1260.2 (by rw [List.drop_drop]; exact chkR_1320)
theorem chkR_1200 : chkA 333 (cd_333.drop 1200) 1200 = true := chkA_cut _ _ 60 chkL_1200.1 chkL_1200.2 (by rw [List.drop_drop]; exact chkR_1260)
theorem chkR_1140 : chkA 333 (cd_333.drop 1140) 1140 = true := chkA_cut _ _ 60 chkL_1140.1 chkL_1140.2 (by rw [List.drop_drop]; exact chkR_1200)
theorem chkR_1080 : chkA 333 (cd_333.drop 1080) 1080 = true := chkA_cut _ _ 60 chkL_1080.1 chkL_1080.2 (by rw [List.drop_drop]; exact chkR_1140)
theorem chkR_1020 : chkA 333 (cd_333.drop 1020) 1020 = true := chkA_cut _ _ 60 chkL_1020.1 chkL_1020.2 (by rw [List.drop_drop]; exact chkR_1080)
theorem chkR_960 : chkA 333 (cd_333.drop 960) 960 = true := chkA_cut _ _ 60 chkL_960.1 chkL_960.2 (by rw [List.drop_drop]; exact chkR_1020)
theorem chkR_900 : chkA 333 (cd_333.drop 900) 900 = true := chkA_cut _ _ 60 chkL_900.1 chkL_900.2 (by rw [List.drop_drop]; exact chkR_960)
theorem chkR_840 : chkA 333 (cd_333.drop 840) 840 = true := chkA_cut _ _ 60 chkL_840.1 chkL_840.2 (by rw [List.drop_drop]; exact chkR_900)
theorem chkR_780 : chkA 333 (cd_333.drop 780) 780 = true := chkA_cut _ _ 60 chkL_780.1 chkL_780.2 (by rw [List.drop_drop]; exact chkR_840)
theorem chkR_720 : chkA 333 (cd_333.drop 720) 720 = true := chkA_cut _ _ 60 chkL_720.1 chkL_720.2 (by rw [List.drop_drop]; exact chkR_780)
theorem chkR_660 : chkA 333 (cd_333.drop 660) 660 = true := chkA_cut _ _ 60 chkL_660.1 chkL_660.2 (by rw [List.drop_drop]; exact chkR_720)
theorem chkR_600 : chkA 333 (cd_333.drop 600) 600 = true := chkA_cut _ _ 60 chkL_600.1 chkL_600.2 (by rw [List.drop_drop]; exact chkR_660)
theorem chkR_540 : chkA 333 (cd_333.drop 540) 540 = true := chkA_cut _ _ 60 chkL_540.1 chkL_540.2 (by rw [List.drop_drop]; exact chkR_600)
theorem chkR_480 : chkA 333 (cd_333.drop 480) 480 = true := chkA_cut _ _ 60 chkL_480.1 chkL_480.2 (by rw [List.drop_drop]; exact chkR_540)
theorem chkR_420 : chkA 333 (cd_333.drop 420) 420 = true := chkA_cut _ _ 60 chkL_420.1 chkL_420.2 (by rw [List.drop_drop]; exact chkR_480)
theorem chkR_360 : chkA 333 (cd_333.drop 360) 360 = true := chkA_cut _ _ 60 chkL_360.1 chkL_360.2 (by rw [List.drop_drop]; exact chkR_420)
theorem chkR_300 : chkA 333 (cd_333.drop 300) 300 = true := chkA_cut _ _ 60 chkL_300.1 chkL_300.2 (by rw [List.drop_drop]; exact chkR_360)
theorem chkR_240 : chkA 333 (cd_333.drop 240) 240 = true := chkA_cut _ _ 60 chkL_240.1 chkL_240.2 (by rw [List.drop_drop]; exact chkR_300)
theorem chkR_180 : chkA 333 (cd_333.drop 180) 180 = true := chkA_cut _ _ 60 chkL_180.1 chkL_180.2 (by rw [List.drop_drop]; exact chkR_240)
theorem chkR_120 : chkA 333 (cd_333.drop 120) 120 = true := chkA_cut _ _ 60 chkL_120.1 chkL_120.2 (by rw [List.drop_drop]; exact chkR_180)
theorem chkR_60 : chkA 333 (cd_333.drop 60) 60 = true := chkA_cut _ _ 60 chkL_60.1 chkL_60.2 (by rw [List.drop_drop]; exact chkR_120)
theorem chkR_0 : chkA 333 (cd_333.drop 0) 0 = true := chkA_cut _ _ 60 chkL_0.1 chkL_0.2 (by rw [List.drop_drop]; exact chkR_60)
theorem chk_law : chkM 333 = true := chkR_0
theorem chk_all : ∀ k, k < NM → chkM k = true := by
  intro k hk
  have hk : k < 334 := hk
  by_cases h1 : k < 100
  · exact chka (Nat.zero_le _) h1
  · by_cases h2 : k < 200
    · exact chkb (by omega) h2
    · by_cases h3 : k < 333
      · exact chkc (by omega) h3
      · have : k = 333 := by omega
        subst this
        exact chk_law
