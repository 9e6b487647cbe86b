theorem pmD_ok (y : Nat) (hy : y < 388) : pmDok2 y = true := by
  by_cases h0 : y < 15
  · exact pmEok_ok pm_eok_0 y (by omega) (by omega)
  by_cases h1 : y < 36
  · exact pmEok_ok pm_eok_1 y (by omega) (by omega)
  by_cases h2 : y < 50
  · exact pmEok_ok pm_eok_2 y (by omega) (by omega)
  by_cases h3 : y < 75
  · exact pmEok_ok pm_eok_3 y (by omega) (by omega)
  by_cases h4 : y < 94
  · exact pmEok_ok pm_eok_4 y (by omega) (by omega)
  by_cases h5 : y < 119
  · exact pmEok_ok pm_eok_5 y (by omega) (by omega)
  by_cases h6 : y < 137
  · exact pmEok_ok pm_eok_6 y (by omega) (by omega)
  by_cases h7 : y < 163
  · exact pmEok_ok pm_eok_7 y (by omega) (by omega)
  by_cases h8 : y < 184
  · exact pmEok_ok pm_eok_8 y (by omega) (by omega)
  by_cases h9 : y < 205
  · exact pmEok_ok pm_eok_9 y (by omega) (by omega)
  by_cases h10 : y < 222
  · exact pmEok_ok pm_eok_10 y (by omega) (by omega)
  by_cases h11 : y < 240
  · exact pmEok_ok pm_eok_11 y (by omega) (by omega)
  by_cases h12 : y < 258
  · exact pmEok_ok pm_eok_12 y (by omega) (by omega)
  by_cases h13 : y < 268
  · exact pmEok_ok pm_eok_13 y (by omega) (by omega)
  by_cases h14 : y < 285
  · exact pmEok_ok pm_eok_14 y (by omega) (by omega)
  by_cases h15 : y < 302
  · exact pmEok_ok pm_eok_15 y (by omega) (by omega)
  by_cases h16 : y < 318
  · exact pmEok_ok pm_eok_16 y (by omega) (by omega)
  by_cases h17 : y < 333
  · exact pmEok_ok pm_eok_17 y (by omega) (by omega)
  by_cases h18 : y < 346
  · exact pmEok_ok pm_eok_18 y (by omega) (by omega)
  by_cases h19 : y < 363
  · exact pmEok_ok pm_eok_19 y (by omega) (by omega)
  by_cases h20 : y < 387
  · exact pmEok_ok pm_eok_20 y (by omega) (by omega)
  by_cases h21 : y < 388
  · exact pmEok_ok pm_eok_21 y (by omega) (by omega)
  omega
