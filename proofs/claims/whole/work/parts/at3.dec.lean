theorem okD_cut {cc : ByteArray} {cd : Cod} (a : Nat) (h1 : okD cc ((cd.drop a).take 50) = true) (h2 : okD cc (cd.drop (a + 50)) = true) : okD cc (cd.drop a) = true := by
  unfold okD at h1 h2 ⊢
  rw [← List.take_append_drop 50 (cd.drop a), List.all_append, h1, List.drop_drop, h2]
  rfl
theorem okDL_end : okD code (cd_L.drop 550) = true := by decide +kernel
theorem okDL : okD code cd_L = true := okD_cut 0 okDL_0 (okD_cut 50 okDL_1 (okD_cut 100 okDL_2 (okD_cut 150 okDL_3 (okD_cut 200 okDL_4 (okD_cut 250 okDL_5 (okD_cut 300 okDL_6 (okD_cut 350 okDL_7 (okD_cut 400 okDL_8 (okD_cut 450 okDL_9 (okD_cut 500 okDL_10 (okDL_end)))))))))))
