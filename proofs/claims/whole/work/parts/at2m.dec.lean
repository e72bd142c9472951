theorem okDL_12 : okD code ((cd_L.drop 600).take 50) = true := by decide +kernel
