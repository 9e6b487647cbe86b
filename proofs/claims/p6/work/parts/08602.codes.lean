theorem pm_eok_16 : pmEok 302 16 = true := by decide +kernel
theorem pm_eok_17 : pmEok 318 15 = true := by decide +kernel
theorem pm_eok_18 : pmEok 333 13 = true := by decide +kernel
theorem pm_eok_19 : pmEok 346 17 = true := by decide +kernel
theorem pm_eok_20 : pmEok 363 24 = true := by decide +kernel
theorem pm_eok_21 : pmEok 387 1 = true := by decide +kernel
