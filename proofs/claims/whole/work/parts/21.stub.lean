theorem okA_all : ∀ k, k < 340 → okA k = true := sorry
theorem okD_all : ∀ k, k < 340 → okD (mby k) (mcd k) = true := sorry
theorem okL : chn cd_L = true ∧ cd_L.all (okI 13 4) = true := sorry
theorem okDL : okD code cd_L = true := sorry
