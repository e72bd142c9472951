theorem okDL_11 : okD code ((cd_L.drop 550).take 50) = true := by decide +kernel
