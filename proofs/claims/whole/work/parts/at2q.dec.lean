theorem okDL_16 : okD code ((cd_L.drop 800).take 50) = true := by decide +kernel
