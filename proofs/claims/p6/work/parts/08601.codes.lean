theorem pm_eok_8 : pmEok 163 21 = true := by decide +kernel
theorem pm_eok_9 : pmEok 184 21 = true := by decide +kernel
theorem pm_eok_10 : pmEok 205 17 = true := by decide +kernel
theorem pm_eok_11 : pmEok 222 18 = true := by decide +kernel
theorem pm_eok_12 : pmEok 240 18 = true := by decide +kernel
theorem pm_eok_13 : pmEok 258 10 = true := by decide +kernel
theorem pm_eok_14 : pmEok 268 17 = true := by decide +kernel
theorem pm_eok_15 : pmEok 285 17 = true := by decide +kernel
