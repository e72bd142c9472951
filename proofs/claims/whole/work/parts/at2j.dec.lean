theorem okDL_9 : okD code ((cd_L.drop 450).take 50) = true := by decide +kernel
