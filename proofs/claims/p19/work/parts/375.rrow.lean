noncomputable section
section KBR
variable {M : pM} {y s v : Int}
theorem kXc_e (j : Nat) : kXc M (2 * j) = k_gi M 389 j := by
  unfold kXc
  rw [show 2 * j % 2 = 0 by omega, show 2 * j / 2 = j by omega]
  rfl
theorem kXc_o (j : Nat) : kXc M (2 * j + 1) = k_gi M 390 j := by
  unfold kXc
  rw [show (2 * j + 1) % 2 = 1 by omega, show (2 * j + 1) / 2 = j by omega]
  rfl
/-- nothing proved yet: the rows are alike -/
theorem kX_0 (h1 : ∀ j : Nat, j < 16 → k_gi M 389 j = k_gi M 465 (2 * j)) (h2 : ∀ j : Nat, j < 16 → k_gi M 390 j = k_gi M 465 (2 * j + 1)) : kRwt M 0 y 0 0 := ⟨0, rfl, fun i hi => absurd hi (Nat.not_lt_zero i), fun j _ hj => ⟨by rw [kXc_e]; exact h1 j hj, by rw [kXc_o]; exact h2 j hj⟩⟩
/-- one version more -/
theorem kX_nx {k : Nat} (hk : (k : Int) = s) (hb : kBrd M y k = true → kRwx M y k (kBrc M y k)) (h : kRwt M 0 y s v) : kRwt M 0 y (s + 1) v := by
  obtain ⟨n, a1, a2, a3⟩ := h
  have e : n = k := by omega
  subst e
  refine ⟨n + 1, by omega, fun i hi hbi => ?_, a3⟩
  by_cases c : i = n
  · subst c
    exact hb hbi
  · exact a2 i (by omega) hbi
theorem kDu_nx {k : Nat} (hk : (k : Int) = s) (hb : kBrd M y k = true → kRwd M y k (kBrc M y k)) (h : kRwt M 1 y s v) : kRwt M 1 y (s + 1) v := by
  obtain ⟨n, a1, a2⟩ := h
  have e : n = k := by omega
  subst e
  refine ⟨n + 1, by omega, fun i hi hbi => ?_⟩
  by_cases c : i = n
  · subst c
    exact hb hbi
  · exact a2 i (by omega) hbi
theorem kMt_nx {k : Nat} (hk : (k : Int) = s) (hb : kBrd M y k = true → (kBrc M y k : Int) < v ∧ kRwx M y k (kBrc M y k)) (h : kRwt M 3 y s v) : kRwt M 3 y (s + 1) v := by
  obtain ⟨n, a1, a2⟩ := h
  have e : n = k := by omega
  subst e
  refine ⟨n + 1, by omega, fun i hi hbi => ?_⟩
  by_cases c : i = n
  · subst c
    exact hb hbi
  · exact a2 i (by omega) hbi
/-- what is copied is what the class has -/
theorem kDx {n p : Nat} (hx : ∀ i : Nat, i < n → kBrd M y i = true → kRwx M y i (kBrc M y i)) (hd : ∀ i : Nat, i < n → kBrd M y i = true → kRwd M y i (kBrc M y i)) (hp : p < 2 * kBrc M y n) : k_gi M 466 p = kXc M p := by
  by_cases c : p % 2 = 0
  · obtain ⟨j, rfl⟩ : ∃ j : Nat, p = 2 * j := ⟨p / 2, by omega⟩
    obtain ⟨i, i1, i2, i3⟩ := kBrc_ex (M := M) (y := y) (k := j) (n := n) (by omega)
    have x := hx i i1 i2
    have d := hd i i1 i2
    rw [i3] at x d
    rw [kXc_e]
    exact d.1.trans x.1.symm
  · obtain ⟨j, rfl⟩ : ∃ j : Nat, p = 2 * j + 1 := ⟨p / 2, by omega⟩
    obtain ⟨i, i1, i2, i3⟩ := kBrc_ex (M := M) (y := y) (k := j) (n := n) (by omega)
    have x := hx i i1 i2
    have d := hd i i1 i2
    rw [i3] at x d
    rw [kXc_o]
    exact d.2.trans x.2.symm
/-- from the rows to the copies, and back to the relations -/
theorem kCp_0 {n : Nat} (h : kRwt M 0 y s v) : kRwt M 2 0 0 v := by
  obtain ⟨n, a1, a2, a3⟩ := h
  intro p hp hv
  have hv : 2 * v ≤ (p : Int) := by omega
  obtain ⟨e1, e2⟩ := a3 (p / 2) (by omega) (by omega)
  by_cases c : p % 2 = 0
  · have e : p = 2 * (p / 2) := by omega
    rw [e]
    exact e1.symm
  · have e : p = 2 * (p / 2) + 1 := by omega
    rw [e]
    exact e2.symm
theorem kCp_end (h : kRwt M 2 0 s v) (hs : 2 * v ≤ s) {j : Nat} (hj : j < 16) : k_gi M 389 j = k_gi M 465 (2 * j) ∧ k_gi M 390 j = k_gi M 465 (2 * j + 1) := by
  have a := h (2 * j) (by omega) (by omega)
  have b := h (2 * j + 1) (by omega) (by omega)
  rw [kXc_e] at a
  rw [kXc_o] at b
  exact ⟨a.symm, b.symm⟩
end KBR
end
