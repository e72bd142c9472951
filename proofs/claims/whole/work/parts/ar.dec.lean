theorem okD_0 : ∀ k, k < 20 → okD (mby (0 + k)) (mcd (0 + k)) = true := by decide +kernel
theorem okD_1 : ∀ k, k < 20 → okD (mby (20 + k)) (mcd (20 + k)) = true := by decide +kernel
theorem okD_2 : ∀ k, k < 20 → okD (mby (40 + k)) (mcd (40 + k)) = true := by decide +kernel
theorem okD_3 : ∀ k, k < 20 → okD (mby (60 + k)) (mcd (60 + k)) = true := by decide +kernel
theorem okD_4 : ∀ k, k < 20 → okD (mby (80 + k)) (mcd (80 + k)) = true := by decide +kernel
theorem okD_5 : ∀ k, k < 20 → okD (mby (100 + k)) (mcd (100 + k)) = true := by decide +kernel
