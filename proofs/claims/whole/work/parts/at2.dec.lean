theorem okDL : okD code cd_L = true := by decide +kernel
