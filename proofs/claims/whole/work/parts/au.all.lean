theorem okA_all : ∀ k, k < 340 → okA k = true := by
  intro k hk
  rcases Nat.lt_or_ge k 34 with h | h
  · have := okA_0 (k - 0) (by omega)
    rwa [show 0 + (k - 0) = k by omega] at this
  rcases Nat.lt_or_ge k 68 with h | h
  · have := okA_1 (k - 34) (by omega)
    rwa [show 34 + (k - 34) = k by omega] at this
  rcases Nat.lt_or_ge k 102 with h | h
  · have := okA_2 (k - 68) (by omega)
    rwa [show 68 + (k - 68) = k by omega] at this
  rcases Nat.lt_or_ge k 136 with h | h
  · have := okA_3 (k - 102) (by omega)
    rwa [show 102 + (k - 102) = k by omega] at this
  rcases Nat.lt_or_ge k 170 with h | h
  · have := okA_4 (k - 136) (by omega)
    rwa [show 136 + (k - 136) = k by omega] at this
  rcases Nat.lt_or_ge k 204 with h | h
  · have := okA_5 (k - 170) (by omega)
    rwa [show 170 + (k - 170) = k by omega] at this
  rcases Nat.lt_or_ge k 238 with h | h
  · have := okA_6 (k - 204) (by omega)
    rwa [show 204 + (k - 204) = k by omega] at this
  rcases Nat.lt_or_ge k 272 with h | h
  · have := okA_7 (k - 238) (by omega)
    rwa [show 238 + (k - 238) = k by omega] at this
  rcases Nat.lt_or_ge k 306 with h | h
  · have := okA_8 (k - 272) (by omega)
    rwa [show 272 + (k - 272) = k by omega] at this
  rcases Nat.lt_or_ge k 340 with h | h
  · have := okA_9 (k - 306) (by omega)
    rwa [show 306 + (k - 306) = k by omega] at this
  · omega
theorem okD_all : ∀ k, k < 340 → okD (mby k) (mcd k) = true := by
  intro k hk
  rcases Nat.lt_or_ge k 20 with h | h
  · have := okD_0 (k - 0) (by omega)
    rwa [show 0 + (k - 0) = k by omega] at this
  rcases Nat.lt_or_ge k 40 with h | h
  · have := okD_1 (k - 20) (by omega)
    rwa [show 20 + (k - 20) = k by omega] at this
  rcases Nat.lt_or_ge k 60 with h | h
  · have := okD_2 (k - 40) (by omega)
    rwa [show 40 + (k - 40) = k by omega] at this
  rcases Nat.lt_or_ge k 80 with h | h
  · have := okD_3 (k - 60) (by omega)
    rwa [show 60 + (k - 60) = k by omega] at this
  rcases Nat.lt_or_ge k 100 with h | h
  · have := okD_4 (k - 80) (by omega)
    rwa [show 80 + (k - 80) = k by omega] at this
  rcases Nat.lt_or_ge k 120 with h | h
  · have := okD_5 (k - 100) (by omega)
    rwa [show 100 + (k - 100) = k by omega] at this
  rcases Nat.lt_or_ge k 140 with h | h
  · have := okD_6 (k - 120) (by omega)
    rwa [show 120 + (k - 120) = k by omega] at this
  rcases Nat.lt_or_ge k 160 with h | h
  · have := okD_7 (k - 140) (by omega)
    rwa [show 140 + (k - 140) = k by omega] at this
  rcases Nat.lt_or_ge k 180 with h | h
  · have := okD_8 (k - 160) (by omega)
    rwa [show 160 + (k - 160) = k by omega] at this
  rcases Nat.lt_or_ge k 200 with h | h
  · have := okD_9 (k - 180) (by omega)
    rwa [show 180 + (k - 180) = k by omega] at this
  rcases Nat.lt_or_ge k 220 with h | h
  · have := okD_10 (k - 200) (by omega)
    rwa [show 200 + (k - 200) = k by omega] at this
  rcases Nat.lt_or_ge k 240 with h | h
  · have := okD_11 (k - 220) (by omega)
    rwa [show 220 + (k - 220) = k by omega] at this
  rcases Nat.lt_or_ge k 260 with h | h
  · have := okD_12 (k - 240) (by omega)
    rwa [show 240 + (k - 240) = k by omega] at this
  rcases Nat.lt_or_ge k 280 with h | h
  · have := okD_13 (k - 260) (by omega)
    rwa [show 260 + (k - 260) = k by omega] at this
  rcases Nat.lt_or_ge k 300 with h | h
  · have := okD_14 (k - 280) (by omega)
    rwa [show 280 + (k - 280) = k by omega] at this
  rcases Nat.lt_or_ge k 320 with h | h
  · have := okD_15 (k - 300) (by omega)
    rwa [show 300 + (k - 300) = k by omega] at this
  rcases Nat.lt_or_ge k 340 with h | h
  · have := okD_16 (k - 320) (by omega)
    rwa [show 320 + (k - 320) = k by omega] at this
  · omega
