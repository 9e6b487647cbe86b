noncomputable section
section KBJ
variable {M : pM} {y : Int} {N r n : Nat}
theorem kMt_le (h : ∀ i : Nat, i < n → kBrd M y i = true → kBrc M y i < r ∧ kRwx M y i (kBrc M y i)) : kBrc M y n ≤ r := by
  refine Nat.le_of_not_lt fun c => ?_
  obtain ⟨i, i1, i2, i3⟩ := kBrc_ex (M := M) (y := y) (k := r) (n := n) c
  have := (h i i1 i2).1
  omega
/-- the class's loop to its end -/
theorem kJ_lo (h : ∀ i : Nat, i < N → kBrd M y i = true → kBrc M y i < r ∧ kRwx M y i (kBrc M y i)) (c : kBrc M y N < r) : kJd M y N r ((kBrc M y N : Int) + 1) :=
  Or.inr ⟨kBrc M y N, rfl, ⟨by omega, Nat.le_refl _, Or.inl c⟩, fun i i1 i2 _ => (h i i1 i2).2, fun _ i i1 i2 i3 => by
    have := kBrc_lt i1 i2
    omega⟩
theorem kJ_eq (h : ∀ i : Nat, i < N → kBrd M y i = true → kBrc M y i < r ∧ kRwx M y i (kBrc M y i)) (c : r ≤ kBrc M y N) : kJd M y N r 0 := by
  have := kMt_le h
  exact Or.inl ⟨rfl, by omega, fun i i1 i2 => (h i i1 i2).2⟩
/-- the class's loop left early -/
theorem kJ_mid (h : ∀ i : Nat, i < n → kBrd M y i = true → kBrc M y i < r ∧ kRwx M y i (kBrc M y i)) (hn : n < N) (hb : kBrd M y n = true) (c : r ≤ kBrc M y n ∨ ¬ kRwx M y n (kBrc M y n)) : kJd M y N r ((kBrc M y n : Int) + 1) := by
  have l := kMt_le h
  have g := kBrc_lt hn hb
  refine Or.inr ⟨kBrc M y n, rfl, ⟨l, by omega, Or.inr g⟩, fun i i1 i2 i3 => ?_, fun c1 i i1 i2 i3 => ?_⟩
  · have : i < n := by
      refine Nat.lt_of_not_le fun e => ?_
      have := kBrc_le (M := M) (y := y) e
      omega
    exact (h i this i2).2
  · have e : i = n := by
      rcases Nat.lt_trichotomy i n with e | e | e
      · have := kBrc_lt e i2
        omega
      · exact e
      · have := kBrc_lt e hb
        omega
    subst e
    rcases c with c | c
    · omega
    · exact c
/-- the reference's loop: rows below k are as due -/
theorem kJ_row {k : Nat} (hx1 : ∀ j : Nat, j < 16 → k_gi M 389 j = k_gi M 465 (2 * j)) (hx2 : ∀ j : Nat, j < 16 → k_gi M 390 j = k_gi M 465 (2 * j + 1)) (hd : ∀ i : Nat, i < N → kBrd M y i = true → kRwd M y i (kBrc M y i)) {i : Nat} (hN : N ≤ 16) (i1 : i < N) (i2 : kBrd M y i = true) (i3 : kBrc M y i = k) : kRwx M y i k ↔ (k_gi M 465 (2 * k) = k_gi M 466 (2 * k) ∧ k_gi M 465 (2 * k + 1) = k_gi M 466 (2 * k + 1)) := by
  have d := hd i i1 i2
  rw [i3] at d
  have kl : k < 16 := by
    have a := kBrc_lt i1 i2
    have b := kBrc_n (M := M) (y := y) N
    omega
  unfold kRwx
  rw [hx1 k kl, hx2 k kl, d.1, d.2]
theorem kJ_ref {k : Nat} (hN : N ≤ 16) (hx1 : ∀ j : Nat, j < 16 → k_gi M 389 j = k_gi M 465 (2 * j)) (hx2 : ∀ j : Nat, j < 16 → k_gi M 390 j = k_gi M 465 (2 * j + 1)) (hd : ∀ i : Nat, i < N → kBrd M y i = true → kRwd M y i (kBrc M y i)) (hk : k ≤ kBrc M y N) (hr : ∀ j : Nat, j < k → k_gi M 465 (2 * j) = k_gi M 466 (2 * j) ∧ k_gi M 465 (2 * j + 1) = k_gi M 466 (2 * j + 1)) (kr : k < r) (c : kBrc M y N ≤ k ∨ ¬ (k_gi M 465 (2 * k) = k_gi M 466 (2 * k) ∧ k_gi M 465 (2 * k + 1) = k_gi M 466 (2 * k + 1))) : kJd M y N r ((k : Int) + 1) := by
  refine Or.inr ⟨k, rfl, ⟨by omega, hk, Or.inl kr⟩, fun i i1 i2 i3 => (kJ_row hx1 hx2 hd hN i1 i2 rfl).mpr (hr _ i3), fun _ i i1 i2 i3 hh => ?_⟩
  rcases c with c | c
  · have := kBrc_lt i1 i2
    omega
  · exact c ((kJ_row hx1 hx2 hd hN i1 i2 i3).mp hh)
theorem kJ_rend (hN : N ≤ 16) (hx1 : ∀ j : Nat, j < 16 → k_gi M 389 j = k_gi M 465 (2 * j)) (hx2 : ∀ j : Nat, j < 16 → k_gi M 390 j = k_gi M 465 (2 * j + 1)) (hd : ∀ i : Nat, i < N → kBrd M y i = true → kRwd M y i (kBrc M y i)) (hk : r ≤ kBrc M y N) (hr : ∀ j : Nat, j < r → k_gi M 465 (2 * j) = k_gi M 466 (2 * j) ∧ k_gi M 465 (2 * j + 1) = k_gi M 466 (2 * j + 1)) : (r < kBrc M y N → kJd M y N r ((r : Int) + 1)) ∧ (kBrc M y N ≤ r → kJd M y N r 0) := by
  refine ⟨fun c => Or.inr ⟨r, rfl, ⟨Nat.le_refl _, hk, Or.inr c⟩, fun i i1 i2 i3 => (kJ_row hx1 hx2 hd hN i1 i2 rfl).mpr (hr _ i3), fun c1 => by omega⟩, fun c => Or.inl ⟨rfl, by omega, fun i i1 i2 => (kJ_row hx1 hx2 hd hN i1 i2 rfl).mpr (hr _ ?_)⟩⟩
  have := kBrc_lt i1 i2
  omega
end KBJ
end
