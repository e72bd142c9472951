theorem okD_6 : ∀ k, k < 20 → okD (mby (120 + k)) (mcd (120 + k)) = true := by decide +kernel
theorem okD_7 : ∀ k, k < 20 → okD (mby (140 + k)) (mcd (140 + k)) = true := by decide +kernel
theorem okD_8 : ∀ k, k < 20 → okD (mby (160 + k)) (mcd (160 + k)) = true := by decide +kernel
theorem okD_9 : ∀ k, k < 20 → okD (mby (180 + k)) (mcd (180 + k)) = true := by decide +kernel
theorem okD_10 : ∀ k, k < 20 → okD (mby (200 + k)) (mcd (200 + k)) = true := by decide +kernel
theorem okD_11 : ∀ k, k < 20 → okD (mby (220 + k)) (mcd (220 + k)) = true := by decide +kernel
