noncomputable section
/-! who is barred; rows -/
/-- is the reference's row i met by f -/
def kRb (M : pM) (i f : Nat) : Bool := decide (kBt (f % 32) ((k_gi M 451 (128 * i + f / 32)).getD 0) = 1)
/-- is version i in force that day and not fit (y = facts + 4096 day) -/
def kBrd (M : pM) (y : Int) (i : Nat) : Bool := decide ((k_gi M 450 (26 * i + 7)).getD 0 ≤ y / 4096) && ((decide ((k_gi M 450 (26 * i + 8)).getD 0 < 0) || decide (y / 4096 < (k_gi M 450 (26 * i + 8)).getD 0)) && !(kRb M i (y % 4096).toNat))
def kBrc (M : pM) (y : Int) : Nat → Nat
  | 0 => 0
  | n + 1 => kBrc M y n + cond (kBrd M y n) 1 0
/-- the least below k, or 12 -/
def kFg (p : Nat → Bool) : Nat → Nat
  | 0 => 12
  | k + 1 => cond (Nat.blt (kFg p k) 12) (kFg p k) (cond (p k) k 12)
def kFx (f j : Nat) : Nat := f ^^^ 2 ^ j
/-- what alone bars version i -/
def kBw (M : pM) (y : Int) (i : Nat) : Int := cond (Nat.blt (kFg (fun j => kRb M i (kFx (y % 4096).toNat j)) 12) 12) (kFg (fun j => kRb M i (kFx (y % 4096).toNat j)) 12 : Int) (-1)
/-- the class's rows' ints, one behind the other -/
def kXc (M : pM) (p : Nat) : Option Int := cond (Nat.beq (p % 2) 0) (k_gi M 389 (p / 2)) (k_gi M 390 (p / 2))
/-- row k of the class's is what version i wants -/
def kRwx (M : pM) (y : Int) (i k : Nat) : Prop := k_gi M 389 k = some (i : Int) ∧ k_gi M 390 k = some (kBw M y i)
def kRwd (M : pM) (y : Int) (i k : Nat) : Prop := k_gi M 466 (2 * k) = some (i : Int) ∧ k_gi M 466 (2 * k + 1) = some (kBw M y i)
/-- what judging r rows against n versions says -/
def kJd (M : pM) (y : Int) (n r : Nat) (v : Int) : Prop := (v = 0 ∧ kBrc M y n = r ∧ ∀ i : Nat, i < n → kBrd M y i = true → kRwx M y i (kBrc M y i)) ∨ ∃ k : Nat, v = (k : Int) + 1 ∧ (k ≤ r ∧ k ≤ kBrc M y n ∧ (k < r ∨ k < kBrc M y n)) ∧ (∀ i : Nat, i < n → kBrd M y i = true → kBrc M y i < k → kRwx M y i (kBrc M y i)) ∧ (k < r → ∀ i : Nat, i < n → kBrd M y i = true → kBrc M y i = k → ¬ kRwx M y i k)
/-- 14, 15 -/
def kRwt (M : pM) (t : Nat) (y s v : Int) : Prop := match t with
  | 0 => ∃ n : Nat, (n : Int) = s ∧ (∀ i : Nat, i < n → kBrd M y i = true → kRwx M y i (kBrc M y i)) ∧ ∀ j : Nat, v ≤ (j : Int) → j < 16 → kXc M (2 * j) = k_gi M 465 (2 * j) ∧ kXc M (2 * j + 1) = k_gi M 465 (2 * j + 1)
  | 1 => ∃ n : Nat, (n : Int) = s ∧ ∀ i : Nat, i < n → kBrd M y i = true → kRwd M y i (kBrc M y i)
  | 2 => ∀ p : Nat, p < 32 → ((p : Int) < s ∨ 2 * v ≤ (p : Int)) → k_gi M 465 p = kXc M p
  | 3 => ∃ n : Nat, (n : Int) = s ∧ ∀ i : Nat, i < n → kBrd M y i = true → (kBrc M y i : Int) < v ∧ kRwx M y i (kBrc M y i)
  | 4 => ∃ n r : Nat, ((n + 32 * r : Nat) : Int) = s ∧ n < 32 ∧ kJd M y n r v
  | 5 => s ≤ v ∧ ∀ k : Nat, (k : Int) < s → k_gi M 465 (2 * k) = k_gi M 466 (2 * k) ∧ k_gi M 465 (2 * k + 1) = k_gi M 466 (2 * k + 1)
  | _ => False
end
