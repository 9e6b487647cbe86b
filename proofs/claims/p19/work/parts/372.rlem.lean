noncomputable section
/-! who is barred: counting -/
section KBA
variable {M M' : pM} {y : Int} {p : Nat → Bool}
theorem kBrc_s (n : Nat) : kBrc M y (n + 1) = kBrc M y n + cond (kBrd M y n) 1 0 := rfl
theorem kBrc_le {i : Nat} : ∀ {n : Nat}, i ≤ n → kBrc M y i ≤ kBrc M y n
  | 0, h => by
    have : i = 0 := by omega
    subst this
    exact Nat.le_refl _
  | n + 1, h => by
    by_cases e : i = n + 1
    · subst e
      exact Nat.le_refl _
    · have := kBrc_le (i := i) (n := n) (by omega)
      rw [kBrc_s]
      omega
theorem kBrc_lt {i n : Nat} (h : i < n) (hb : kBrd M y i = true) : kBrc M y i < kBrc M y n := by
  have e := kBrc_s (M := M) (y := y) i
  rw [hb, cond_true] at e
  have := kBrc_le (M := M) (y := y) (i := i + 1) (n := n) h
  omega
theorem kBrc_n : ∀ n : Nat, kBrc M y n ≤ n
  | 0 => Nat.le_refl _
  | n + 1 => by
    have := kBrc_n n
    rw [kBrc_s]
    cases kBrd M y n
    · rw [cond_false]
      omega
    · rw [cond_true]
      omega
theorem kBrc_ex {k : Nat} : ∀ {n : Nat}, k < kBrc M y n → ∃ i : Nat, i < n ∧ kBrd M y i = true ∧ kBrc M y i = k
  | 0, h => by
    have h : k < 0 := h
    omega
  | n + 1, h => by
    by_cases e : k < kBrc M y n
    · obtain ⟨i, h1, h2⟩ := kBrc_ex e
      exact ⟨i, by omega, h2⟩
    · rw [kBrc_s] at h
      cases hb : kBrd M y n with
      | false =>
        rw [hb, cond_false] at h
        omega
      | true =>
        rw [hb, cond_true] at h
        exact ⟨n, by omega, hb, by omega⟩
theorem kFg_s (k : Nat) : kFg p (k + 1) = cond (Nat.blt (kFg p k) 12) (kFg p k) (cond (p k) k 12) := rfl
theorem kFg_st {e : Nat} (h : kFg p e < 12) : ∀ {k : Nat}, e ≤ k → kFg p k = kFg p e
  | 0, hk => by
    have : e = 0 := by omega
    subst this
    rfl
  | k + 1, hk => by
    by_cases c : e = k + 1
    · subst c
      rfl
    · have i := kFg_st h (k := k) (by omega)
      rw [kFg_s, i, show Nat.blt (kFg p e) 12 = true from Nat.ble_eq_true_of_le h, cond_true]
theorem kFg_hit {e k : Nat} (h : kFg p e = 12) (hp : p e = true) (h12 : e < 12) (hk : e < k) : kFg p k = e := by
  have s : kFg p (e + 1) = e := by
    rw [kFg_s, h, hp]
    rfl
  rw [kFg_st (e := e + 1) (by omega) (by omega), s]
theorem kFg_miss {e : Nat} (h : kFg p e = 12) (hp : p e = false) : kFg p (e + 1) = 12 := by
  rw [kFg_s, h, hp]
  rfl
theorem kFg_cg {p q : Nat → Bool} (h : ∀ j : Nat, j < 12 → p j = q j) : ∀ {k : Nat}, k ≤ 12 → kFg p k = kFg q k
  | 0, _ => rfl
  | k + 1, hk => by rw [kFg_s, kFg_s, kFg_cg h (k := k) (by omega), h k (by omega)]
/-- judging says one thing -/
theorem kJd_uq {n r : Nat} {v w : Int} (h1 : kJd M y n r v) (h2 : kJd M y n r w) : v = w := by
  have aux : ∀ {k l : Nat}, (k ≤ r ∧ k ≤ kBrc M y n ∧ (k < r ∨ k < kBrc M y n)) → (k < r → ∀ i : Nat, i < n → kBrd M y i = true → kBrc M y i = k → ¬ kRwx M y i k) → (l ≤ r ∧ l ≤ kBrc M y n ∧ (l < r ∨ l < kBrc M y n)) → (∀ i : Nat, i < n → kBrd M y i = true → kBrc M y i < l → kRwx M y i (kBrc M y i)) → ¬ k < l := by
    intro k l a b c d hkl
    obtain ⟨i, i1, i2, i3⟩ := kBrc_ex (M := M) (y := y) (k := k) (n := n) (by omega)
    have g := d i i1 i2 (by omega)
    rw [i3] at g
    exact b (by omega) i i1 i2 i3 g
  rcases h1 with ⟨a1, a2, a3⟩ | ⟨k, a1, a2, a3, a4⟩
  · rcases h2 with ⟨b1, -, -⟩ | ⟨l, b1, b2, b3, b4⟩
    · omega
    · obtain ⟨i, i1, i2, i3⟩ := kBrc_ex (M := M) (y := y) (k := l) (n := n) (by omega)
      have g := a3 i i1 i2
      rw [i3] at g
      exact (b4 (by omega) i i1 i2 i3 g).elim
  · rcases h2 with ⟨b1, b2, b3⟩ | ⟨l, b1, b2, b3, b4⟩
    · obtain ⟨i, i1, i2, i3⟩ := kBrc_ex (M := M) (y := y) (k := k) (n := n) (by omega)
      have g := b3 i i1 i2
      rw [i3] at g
      exact (a4 (by omega) i i1 i2 i3 g).elim
    · have x1 := aux a2 a4 b2 b3
      have x2 := aux b2 b4 a2 a3
      omega
end KBA
end
