theorem okDL_10 : okD code ((cd_L.drop 500).take 50) = true := by decide +kernel
