theorem pm_pok_0 : pmPok 0 24 = true := by decide +kernel
theorem pm_pok_1 : pmPok 24 24 = true := by decide +kernel
theorem pm_pok_2 : pmPok 48 24 = true := by decide +kernel
theorem pm_pok_3 : pmPok 72 24 = true := by decide +kernel
theorem pm_pok_4 : pmPok 96 24 = true := by decide +kernel
theorem pm_pok_5 : pmPok 120 24 = true := by decide +kernel
theorem pm_pok_6 : pmPok 144 24 = true := by decide +kernel
theorem pm_pok_7 : pmPok 168 24 = true := by decide +kernel
theorem pm_pok_8 : pmPok 192 24 = true := by decide +kernel
theorem pm_pok_9 : pmPok 216 24 = true := by decide +kernel
theorem pm_pok_10 : pmPok 240 24 = true := by decide +kernel
theorem pm_pok_11 : pmPok 264 24 = true := by decide +kernel
theorem pm_pok_12 : pmPok 288 24 = true := by decide +kernel
theorem pm_pok_13 : pmPok 312 24 = true := by decide +kernel
theorem pm_pok_14 : pmPok 336 24 = true := by decide +kernel
theorem pm_pok_15 : pmPok 360 24 = true := by decide +kernel
theorem pm_pok_16 : pmPok 384 3 = true := by decide +kernel
theorem pmP_ok (y : Nat) (hy : y < pmLaw) : pmPok2 y = true := by
  have hy : y < 387 := hy
  by_cases h0 : y < 24
  · have := List.all_eq_true.mp pm_pok_0 (y - 0) (List.mem_range.mpr (by omega))
    rwa [show 0 + (y - 0) = y by omega] at this
  by_cases h1 : y < 48
  · have := List.all_eq_true.mp pm_pok_1 (y - 24) (List.mem_range.mpr (by omega))
    rwa [show 24 + (y - 24) = y by omega] at this
  by_cases h2 : y < 72
  · have := List.all_eq_true.mp pm_pok_2 (y - 48) (List.mem_range.mpr (by omega))
    rwa [show 48 + (y - 48) = y by omega] at this
  by_cases h3 : y < 96
  · have := List.all_eq_true.mp pm_pok_3 (y - 72) (List.mem_range.mpr (by omega))
    rwa [show 72 + (y - 72) = y by omega] at this
  by_cases h4 : y < 120
  · have := List.all_eq_true.mp pm_pok_4 (y - 96) (List.mem_range.mpr (by omega))
    rwa [show 96 + (y - 96) = y by omega] at this
  by_cases h5 : y < 144
  · have := List.all_eq_true.mp pm_pok_5 (y - 120) (List.mem_range.mpr (by omega))
    rwa [show 120 + (y - 120) = y by omega] at this
  by_cases h6 : y < 168
  · have := List.all_eq_true.mp pm_pok_6 (y - 144) (List.mem_range.mpr (by omega))
    rwa [show 144 + (y - 144) = y by omega] at this
  by_cases h7 : y < 192
  · have := List.all_eq_true.mp pm_pok_7 (y - 168) (List.mem_range.mpr (by omega))
    rwa [show 168 + (y - 168) = y by omega] at this
  by_cases h8 : y < 216
  · have := List.all_eq_true.mp pm_pok_8 (y - 192) (List.mem_range.mpr (by omega))
    rwa [show 192 + (y - 192) = y by omega] at this
  by_cases h9 : y < 240
  · have := List.all_eq_true.mp pm_pok_9 (y - 216) (List.mem_range.mpr (by omega))
    rwa [show 216 + (y - 216) = y by omega] at this
  by_cases h10 : y < 264
  · have := List.all_eq_true.mp pm_pok_10 (y - 240) (List.mem_range.mpr (by omega))
    rwa [show 240 + (y - 240) = y by omega] at this
  by_cases h11 : y < 288
  · have := List.all_eq_true.mp pm_pok_11 (y - 264) (List.mem_range.mpr (by omega))
    rwa [show 264 + (y - 264) = y by omega] at this
  by_cases h12 : y < 312
  · have := List.all_eq_true.mp pm_pok_12 (y - 288) (List.mem_range.mpr (by omega))
    rwa [show 288 + (y - 288) = y by omega] at this
  by_cases h13 : y < 336
  · have := List.all_eq_true.mp pm_pok_13 (y - 312) (List.mem_range.mpr (by omega))
    rwa [show 312 + (y - 312) = y by omega] at this
  by_cases h14 : y < 360
  · have := List.all_eq_true.mp pm_pok_14 (y - 336) (List.mem_range.mpr (by omega))
    rwa [show 336 + (y - 336) = y by omega] at this
  by_cases h15 : y < 384
  · have := List.all_eq_true.mp pm_pok_15 (y - 360) (List.mem_range.mpr (by omega))
    rwa [show 360 + (y - 360) = y by omega] at this
  by_cases h16 : y < 387
  · have := List.all_eq_true.mp pm_pok_16 (y - 384) (List.mem_range.mpr (by omega))
    rwa [show 384 + (y - 384) = y by omega] at this
  omega
