theorem okDL_13 : okD code ((cd_L.drop 650).take 50) = true := by decide +kernel
