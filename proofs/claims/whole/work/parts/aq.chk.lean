theorem okA_0 : ∀ k, k < 34 → okA (0 + k) = true := by decide +kernel
theorem okA_1 : ∀ k, k < 34 → okA (34 + k) = true := by decide +kernel
theorem okA_2 : ∀ k, k < 34 → okA (68 + k) = true := by decide +kernel
theorem okA_3 : ∀ k, k < 34 → okA (102 + k) = true := by decide +kernel
theorem okA_4 : ∀ k, k < 34 → okA (136 + k) = true := by decide +kernel
theorem okA_5 : ∀ k, k < 34 → okA (170 + k) = true := by decide +kernel
theorem okA_6 : ∀ k, k < 34 → okA (204 + k) = true := by decide +kernel
theorem okA_7 : ∀ k, k < 34 → okA (238 + k) = true := by decide +kernel
theorem okA_8 : ∀ k, k < 34 → okA (272 + k) = true := by decide +kernel
theorem okA_9 : ∀ k, k < 34 → okA (306 + k) = true := by decide +kernel
theorem okL : chn cd_L = true ∧ cd_L.all (okI 13 4) = true := by decide +kernel
