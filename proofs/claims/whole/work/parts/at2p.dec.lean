theorem okDL_15 : okD code ((cd_L.drop 750).take 50) = true := by decide +kernel
