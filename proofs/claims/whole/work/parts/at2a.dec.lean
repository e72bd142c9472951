theorem okDL_0 : okD code ((cd_L.drop 0).take 50) = true := by decide +kernel
