theorem okDL_1 : okD code ((cd_L.drop 50).take 50) = true := by decide +kernel
