theorem pmP_ok (y : Nat) (hy : y < pmLaw) : pmPok2 y = true := by sorry
theorem pmD_ok (y : Nat) (hy : y < 388) : pmDok2 y = true := by sorry
