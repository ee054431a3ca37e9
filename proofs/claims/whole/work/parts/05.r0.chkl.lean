/-! ===== the law is as its table says (printed by program) ===== -/
theorem chkA_app {k : Nat} : ∀ (l1 l2 : List AIns) (i : Nat), chkA k l1 i = true → chkA k l2 (i + l1.length) = true → chkA k (l1 ++ l2) i = true
  | [], l2, i, _, h => h
  | a :: l1, l2, i, h1, h2 => by
    simp only [chkA, Bool.and_eq_true, List.cons_append] at h1 ⊢
    exact ⟨h1.1, chkA_app l1 l2 (i + 1) h1.2 (by rw [List.length_cons] at h2; rwa [show i + 1 + l1.length = i + (l1.length + 1) by omega])⟩
theorem chkA_cut {k : Nat} (l : List AIns) (i m : Nat) (hm : (l.take m).length = m) (h1 : chkA k (l.take m) i = true) (h2 : chkA k (l.drop m) (i + m) = true) : chkA k l i = true := by
  rw [← List.take_append_drop m l]
  exact chkA_app _ _ _ h1 (by rw [hm]; exact h2)
theorem chkL_0 : (((cd_333.drop 0).take 60).length = 60) ∧ chkA 333 ((cd_333.drop 0).take 60) 0 = true := by decide +kernel
theorem chkL_60 : (((cd_333.drop 60).take 60).length = 60) ∧ chkA 333 ((cd_333.drop 60).take 60) 60 = true := by decide +kernel
theorem chkL_120 : (((cd_333.drop 120).take 60).length = 60) ∧ chkA 333 ((cd_333.drop 120).take 60) 120 = true := by decide +kernel
theorem chkL_180 : (((cd_333.drop 180).take 60).length = 60) ∧ chkA 333 ((cd_333.drop 180).take 60) 180 = true := by decide +kernel
theorem chkL_240 : (((cd_333.drop 240).take 60).length = 60) ∧ chkA 333 ((cd_333.drop 240).take 60) 240 = true := by decide +kernel
theorem chkL_300 : (((cd_333.drop 300).take 60).length = 60) ∧ chkA 333 ((cd_333.drop 300).take 60) 300 = true := by decide +kernel
theorem chkL_360 : (((cd_333.drop 360).take 60).length = 60) ∧ chkA 333 ((cd_333.drop 360).take 60) 360 = true := by decide +kernel
theorem chkL_420 : (((cd_333.drop 420).take 60).length = 60) ∧ chkA 333 ((cd_333.drop 420).take 60) 420 = true := by decide +kernel
theorem chkL_480 : (((cd_333.drop 480).take 60).length = 60) ∧ chkA 333 ((cd_333.drop 480).take 60) 480 = true := by decide +kernel
