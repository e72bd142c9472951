theorem okDL_2 : okD code ((cd_L.drop 100).take 50) = true := by decide +kernel
