theorem okDL_14 : okD code ((cd_L.drop 700).take 50) = true := by decide +kernel
