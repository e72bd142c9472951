theorem okDL_4 : okD code ((cd_L.drop 200).take 50) = true := by decide +kernel
