theorem okDL_7 : okD code ((cd_L.drop 350).take 50) = true := by decide +kernel
