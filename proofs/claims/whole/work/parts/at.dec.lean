theorem okD_12 : ∀ k, k < 20 → okD (mby (240 + k)) (mcd (240 + k)) = true := by decide +kernel
theorem okD_13 : ∀ k, k < 20 → okD (mby (260 + k)) (mcd (260 + k)) = true := by decide +kernel
theorem okD_14 : ∀ k, k < 20 → okD (mby (280 + k)) (mcd (280 + k)) = true := by decide +kernel
theorem okD_15 : ∀ k, k < 20 → okD (mby (300 + k)) (mcd (300 + k)) = true := by decide +kernel
theorem okD_16 : ∀ k, k < 20 → okD (mby (320 + k)) (mcd (320 + k)) = true := by decide +kernel
