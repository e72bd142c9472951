theorem okDL_8 : okD code ((cd_L.drop 400).take 50) = true := by decide +kernel
