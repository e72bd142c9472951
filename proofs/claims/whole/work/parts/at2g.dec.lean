theorem okDL_6 : okD code ((cd_L.drop 300).take 50) = true := by decide +kernel
