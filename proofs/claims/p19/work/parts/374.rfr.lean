noncomputable section
section KBF
variable {M M' : pM} {y s v : Int}
theorem kRb_fr (h : ∀ n : Nat, k_gi M' 451 n = k_gi M 451 n) (i f : Nat) : kRb M' i f = kRb M i f := by
  unfold kRb
  rw [h]
theorem kBrd_fr (h0 : ∀ n : Nat, k_gi M' 450 n = k_gi M 450 n) (h : ∀ n : Nat, k_gi M' 451 n = k_gi M 451 n) (i : Nat) : kBrd M' y i = kBrd M y i := by
  unfold kBrd
  rw [h0, h0, kRb_fr h]
theorem kBrc_fr (h0 : ∀ n : Nat, k_gi M' 450 n = k_gi M 450 n) (h : ∀ n : Nat, k_gi M' 451 n = k_gi M 451 n) : ∀ n : Nat, kBrc M' y n = kBrc M y n
  | 0 => rfl
  | n + 1 => by rw [kBrc_s, kBrc_s, kBrc_fr h0 h n, kBrd_fr h0 h]
theorem kBw_fr (h : ∀ n : Nat, k_gi M' 451 n = k_gi M 451 n) (i : Nat) : kBw M' y i = kBw M y i := by
  have e : (fun j => kRb M' i (kFx (y % 4096).toNat j)) = fun j => kRb M i (kFx (y % 4096).toNat j) := funext fun j => kRb_fr h i _
  unfold kBw
  rw [e]
/-- how many bar: an entry -/
def kT13 (M : pM) (y s v : Int) : Prop := ∃ n : Nat, (n : Int) = s ∧ ((kBrc M y n : Nat) : Int) = v
theorem kT13.uq {w : Int} (h1 : kT13 M y s v) (h2 : kT13 M y s w) : v = w := by
  obtain ⟨n, a1, a2⟩ := h1
  obtain ⟨m, b1, b2⟩ := h2
  have e : m = n := by omega
  subst e
  omega
theorem kT13_0 : kT13 M y 0 0 := ⟨0, rfl, rfl⟩
theorem kT13.nx {k : Nat} {b : Bool} (hk : (k : Int) = s) (hb : kBrd M y k = b) (h : kT13 M y s v) : kT13 M y (s + 1) (v + cond b 1 0) := by
  obtain ⟨n, a1, a2⟩ := h
  have e : n = k := by omega
  subst e
  refine ⟨n + 1, by omega, ?_⟩
  rw [kBrc_s, hb]
  cases b
  · rw [cond_false, cond_false]
    omega
  · rw [cond_true, cond_true]
    omega
theorem kT13.fr (h0 : ∀ n : Nat, k_gi M' 450 n = k_gi M 450 n) (h1 : ∀ n : Nat, k_gi M' 451 n = k_gi M 451 n) (h : kT13 M y s v) : kT13 M' y s v := by
  obtain ⟨n, a1, a2⟩ := h
  exact ⟨n, a1, by rw [kBrc_fr h0 h1]; exact a2⟩
/-- rows: class's, reference's -/
theorem kRwx_fr (h1 : ∀ n : Nat, k_gi M' 451 n = k_gi M 451 n) {i k : Nat} (ha : k_gi M' 389 k = k_gi M 389 k) (hb : k_gi M' 390 k = k_gi M 390 k) : kRwx M' y i k ↔ kRwx M y i k := by
  unfold kRwx
  rw [ha, hb, kBw_fr h1]
theorem kRwd_fr (h1 : ∀ n : Nat, k_gi M' 451 n = k_gi M 451 n) {i k : Nat} (ha : k_gi M' 466 (2 * k) = k_gi M 466 (2 * k)) (hb : k_gi M' 466 (2 * k + 1) = k_gi M 466 (2 * k + 1)) : kRwd M' y i k ↔ kRwd M y i k := by
  unfold kRwd
  rw [ha, hb, kBw_fr h1]
end KBF
end
