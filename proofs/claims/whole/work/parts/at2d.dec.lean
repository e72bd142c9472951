theorem okDL_3 : okD code ((cd_L.drop 150).take 50) = true := by decide +kernel
