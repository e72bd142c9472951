/-! every row is what the code's bytes say -/
def okD (cc : ByteArray) (cd : Cod) : Bool := cd.all fun it => decide (decode cc it.1 = .ok (it.2.1, it.2.2.1))
theorem okD_0 : ∀ k, k < 20 → okD (mby (0 + k)) (mcd (0 + k)) = true := by decide +kernel
theorem okD_1 : ∀ k, k < 20 → okD (mby (20 + k)) (mcd (20 + k)) = true := by decide +kernel
theorem okD_2 : ∀ k, k < 20 → okD (mby (40 + k)) (mcd (40 + k)) = true := by decide +kernel
theorem okD_3 : ∀ k, k < 20 → okD (mby (60 + k)) (mcd (60 + k)) = true := by decide +kernel
theorem okD_4 : ∀ k, k < 20 → okD (mby (80 + k)) (mcd (80 + k)) = true := by decide +kernel
theorem okD_5 : ∀ k, k < 20 → okD (mby (100 + k)) (mcd (100 + k)) = true := by decide +kernel
theorem okD_6 : ∀ k, k < 20 → okD (mby (120 + k)) (mcd (120 + k)) = true := by decide +kernel
theorem okD_7 : ∀ k, k < 20 → okD (mby (140 + k)) (mcd (140 + k)) = true := by decide +kernel
theorem okD_8 : ∀ k, k < 20 → okD (mby (160 + k)) (mcd (160 + k)) = true := by decide +kernel
theorem okD_9 : ∀ k, k < 20 → okD (mby (180 + k)) (mcd (180 + k)) = true := by decide +kernel
theorem okD_10 : ∀ k, k < 20 → okD (mby (200 + k)) (mcd (200 + k)) = true := by decide +kernel
theorem okD_11 : ∀ k, k < 20 → okD (mby (220 + k)) (mcd (220 + k)) = true := by decide +kernel
theorem okD_12 : ∀ k, k < 20 → okD (mby (240 + k)) (mcd (240 + k)) = true := by decide +kernel
theorem okD_13 : ∀ k, k < 20 → okD (mby (260 + k)) (mcd (260 + k)) = true := by decide +kernel
theorem okD_14 : ∀ k, k < 20 → okD (mby (280 + k)) (mcd (280 + k)) = true := by decide +kernel
theorem okD_15 : ∀ k, k < 20 → okD (mby (300 + k)) (mcd (300 + k)) = true := by decide +kernel
theorem okD_16 : ∀ k, k < 20 → okD (mby (320 + k)) (mcd (320 + k)) = true := by decide +kernel
theorem okDL : okD code cd_L = true := by decide +kernel
