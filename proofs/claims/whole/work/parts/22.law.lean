/-- WHAT IS LEFT: the law's loop over the small machine comes to 1 -/
theorem law_pure (L : Nat) (hL : L ≤ 3072) (xs : Nat → Int32) : ∃ σ' : Sg, evAt (L + 1, xs) (ev 100) cd_L (jmp cd_L 18) [.ref 0, .ref 4, .ref 102, .int 0] [] σ0 = some (some (.int 1), σ') := sorry
