theorem pm_eok_0 : pmEok 0 15 = true := by decide +kernel
theorem pm_eok_1 : pmEok 15 21 = true := by decide +kernel
theorem pm_eok_2 : pmEok 36 14 = true := by decide +kernel
theorem pm_eok_3 : pmEok 50 25 = true := by decide +kernel
theorem pm_eok_4 : pmEok 75 19 = true := by decide +kernel
theorem pm_eok_5 : pmEok 94 25 = true := by decide +kernel
theorem pm_eok_6 : pmEok 119 18 = true := by decide +kernel
theorem pm_eok_7 : pmEok 137 26 = true := by decide +kernel
