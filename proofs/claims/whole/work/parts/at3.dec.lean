theorem okD_cut (cc : ByteArray) (cd : Cod) (a b : Nat) (e : a + 50 = b) (h1 : okD cc ((cd.drop a).take 50) = true) (h2 : okD cc (cd.drop b) = true) : okD cc (cd.drop a) = true := by
  subst e
  unfold okD at h1 h2 ⊢
  rw [← List.take_append_drop 50 (cd.drop a), List.all_append, h1, List.drop_drop, h2]
  rfl
theorem okDL_end : okD code (cd_L.drop 850) = true := by decide +kernel
theorem okDL_f16 : okD code (cd_L.drop 800) = true := okD_cut code cd_L 800 850 rfl okDL_16 okDL_end
theorem okDL_f15 : okD code (cd_L.drop 750) = true := okD_cut code cd_L 750 800 rfl okDL_15 okDL_f16
theorem okDL_f14 : okD code (cd_L.drop 700) = true := okD_cut code cd_L 700 750 rfl okDL_14 okDL_f15
theorem okDL_f13 : okD code (cd_L.drop 650) = true := okD_cut code cd_L 650 700 rfl okDL_13 okDL_f14
theorem okDL_f12 : okD code (cd_L.drop 600) = true := okD_cut code cd_L 600 650 rfl okDL_12 okDL_f13
theorem okDL_f11 : okD code (cd_L.drop 550) = true := okD_cut code cd_L 550 600 rfl okDL_11 okDL_f12
theorem okDL_f10 : okD code (cd_L.drop 500) = true := okD_cut code cd_L 500 550 rfl okDL_10 okDL_f11
theorem okDL_f9 : okD code (cd_L.drop 450) = true := okD_cut code cd_L 450 500 rfl okDL_9 okDL_f10
theorem okDL_f8 : okD code (cd_L.drop 400) = true := okD_cut code cd_L 400 450 rfl okDL_8 okDL_f9
theorem okDL_f7 : okD code (cd_L.drop 350) = true := okD_cut code cd_L 350 400 rfl okDL_7 okDL_f8
theorem okDL_f6 : okD code (cd_L.drop 300) = true := okD_cut code cd_L 300 350 rfl okDL_6 okDL_f7
theorem okDL_f5 : okD code (cd_L.drop 250) = true := okD_cut code cd_L 250 300 rfl okDL_5 okDL_f6
theorem okDL_f4 : okD code (cd_L.drop 200) = true := okD_cut code cd_L 200 250 rfl okDL_4 okDL_f5
theorem okDL_f3 : okD code (cd_L.drop 150) = true := okD_cut code cd_L 150 200 rfl okDL_3 okDL_f4
theorem okDL_f2 : okD code (cd_L.drop 100) = true := okD_cut code cd_L 100 150 rfl okDL_2 okDL_f3
theorem okDL_f1 : okD code (cd_L.drop 50) = true := okD_cut code cd_L 50 100 rfl okDL_1 okDL_f2
theorem okDL_f0 : okD code (cd_L.drop 0) = true := okD_cut code cd_L 0 50 rfl okDL_0 okDL_f1
theorem okDL : okD code cd_L = true := by
  have h := okDL_f0
  rw [List.drop_zero] at h
  exact h
