theorem okDL_5 : okD code ((cd_L.drop 250).take 50) = true := by decide +kernel
