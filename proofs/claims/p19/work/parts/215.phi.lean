noncomputable section
/-! what may be known of cells beyond bounds: kept in the cache under negative cells -/
def kNum (w : Value) (x : Int) : Prop := (∃ y : Int32, w = .int y ∧ y.toInt = x) ∨ ∃ y : Int64, w = .long y ∧ y.toInt = x
/-- the number that lies there -/
def k_gi (M : pM) (a j : Nat) : Option Int := match M[a]? with
  | some c => (match c.2[j]? with
    | some (.int y) => some y.toInt
    | some (.long y) => some y.toInt
    | _ => none)
  | none => none
def kInt (M : pM) (a j x : Int) : Prop := 0 ≤ a ∧ 0 ≤ j ∧ k_gi M a.toNat j.toNat = some x
theorem kInt.uq {M : pM} {a j x y : Int} (h : kInt M a j x) (k : kInt M a j y) : x = y := Option.some.inj (h.2.2.symm.trans k.2.2)
theorem k_gi_some {M : pM} {a j : Nat} {x : Int} (h : k_gi M a j = some x) : ∃ (c : pC) (w : Value), M[a]? = some c ∧ c.2[j]? = some w ∧ kNum w x := by
  unfold k_gi at h
  split at h
  · rename_i c hc
    split at h
    · rename_i y hy
      cases h
      exact ⟨c, _, hc, hy, Or.inl ⟨y, rfl, rfl⟩⟩
    · rename_i y hy
      cases h
      exact ⟨c, _, hc, hy, Or.inr ⟨y, rfl, rfl⟩⟩
    · cases h
  · cases h
theorem k_gi_of {M : pM} {a j : Nat} {x : Int} {c : pC} {w : Value} (h1 : M[a]? = some c) (h2 : c.2[j]? = some w) (h3 : kNum w x) : k_gi M a j = some x := by
  unfold k_gi
  rw [h1]
  dsimp only
  rw [h2]
  rcases h3 with ⟨y, rfl, rfl⟩ | ⟨y, rfl, rfl⟩ <;> rfl
/-- 3: the signs read from the left: where it stands, how many numbers lie ready -/
def kZs (M : pM) (q : Nat × Int) : Option (Nat × Int) := match k_gi M 461 q.1 with
  | none => none
  | some x => if 0 ≤ x ∧ x ≤ 11 ∧ q.2 ≤ 198 then some (q.1 + 1, q.2 + 1) else
    if x = 20 ∧ 1 ≤ q.2 then some (q.1 + 1, q.2) else
    if 21 ≤ x ∧ x ≤ 23 ∧ 2 ≤ q.2 then some (q.1 + 1, q.2 - 1) else
    if x = 30 ∧ q.2 ≤ 198 then (match k_gi M 461 (q.1 + 2) with
      | none => none
      | some y => if 0 ≤ y ∧ y ≤ 397 then some (q.1 + 3 + y.toNat, q.2 + 1) else none) else none
def kZi (M : pM) : Nat → Option (Nat × Int)
  | 0 => some (0, 0)
  | t + 1 => (kZi M t).bind (kZs M)
/-- 4, 5: how many of the waits are of a kind -/
def kWt (M : pM) (lo hi : Int) : Nat → Int → Prop
  | 0, a => a = 0
  | k + 1, a => ∃ x, k_gi M 462 k = some x ∧ (20 ≤ x ∧ x ≤ 24) ∧ ((lo ≤ x ∧ x ≤ hi ∧ kWt M lo hi k (a - 1)) ∨ (¬ (lo ≤ x ∧ x ≤ hi) ∧ kWt M lo hi k a))
/-- 6, 8: the letters before s are of versions before v, have no more seals than these ask, and elder ones set in -/
def kSx (M : pM) (L l0 V v0 s v : Int) : Prop := (∀ l : Int, 0 ≤ l → l < s → ∃ e x y z, kInt M L (l0 + (12 * l + 1)) e ∧ 0 ≤ e ∧ e < v ∧ kInt M L (l0 + (12 * l + 6)) x ∧ kInt M V (v0 + (26 * e + 3)) y ∧ x ≤ y ∧ kInt M L (l0 + (12 * l + 8)) z ∧ z < l) ∧ ∀ k : Int, 0 ≤ k → k < 16 → ∃ y, kInt M V (v0 + (26 * k + 3)) y ∧ 0 ≤ y
/-- 7: how many entries are of a roll -/
def kCn (M : pM) (p : Int) : Nat → Int → Prop
  | 0, n => n = 0
  | k + 1, n => ∃ x, k_gi M 457 (2 * k) = some x ∧ ((x = p ∧ kCn M p k (n - 1)) ∨ (x ≠ p ∧ kCn M p k n))
/-- 9, 10: rows that hold the same: a cell, its first slot, the stride; the other's; how many at most -/
abbrev kRw : Type := (Int × Int × Int) × (Int × Int × Int) × Int
def kRel : List kRw := [((450, 0, 1), (477, 300, 1), 416), ((453, 0, 1), (477, 740, 1), 288), ((452, 0, 1), (477, 716, 1), 24), ((3, 0, 1), (452, 1, 2), 12), ((184, 0, 1), (477, 717, 2), 12), ((3, 0, 1), (477, 717, 2), 12), ((184, 0, 1), (452, 1, 2), 12)]
def kSl (t : Int × Int × Int) (i : Int) : Int := t.2.1 + t.2.2 * i
def kPq (M : pM) (t u : Int × Int × Int) (i : Int) : Prop := ∃ x, kInt M t.1 (kSl t i) x ∧ kInt M u.1 (kSl u i) x
theorem kPq.symm {M : pM} {t u : Int × Int × Int} {i : Int} (h : kPq M t u i) : kPq M u t i := by
  obtain ⟨x, a, b⟩ := h
  exact ⟨x, b, a⟩
def kRl (M : pM) (p s : Int) (b : Int → Prop) : Prop := ∃ r, 0 ≤ p ∧ kRel[p.toNat]? = some r ∧ s ≤ r.2.2 ∧ ∀ i : Int, 0 ≤ i → i < s → b i → kPq M r.1 r.2.1 i
/-- 13: folds over rows: a cell, slots a row, rows at most; least, most, start; the parameters' radices; rules: tests (true: is 0; false: is not below 0), value; behind them: as it was. Words over 0: the value so far, 1: the row, 2 and on: what the row holds, 8 and on: the parameters -/
abbrev kFo : Type := (Int × Int × Int) × (Int × Int × Int) × List Int × List (List (Bool × kE) × kE)
def kFold : List kFo := []
def kFoff : Int := 16777216
def kFenv (M : pM) (F : kFo) (ps : List Int) (k : Nat) (v : Int) : Nat → Int := fun i => cond (Nat.beq i 0) v (cond (Nat.beq i 1) (k : Int) (cond (Nat.blt i 8) ((k_gi M F.1.1.toNat (F.1.2.1 * (k : Int) + ((i - 2 : Nat) : Int)).toNat).getD 0) (ps.getD (i - 8) 0)))
def kFt1 (ρ : Nat → Int) (t : Bool × kE) : Bool := cond t.1 (decide (k_ev ρ t.2 = 0)) (decide (0 ≤ k_ev ρ t.2))
def kFru (ρ : Nat → Int) : List (List (Bool × kE) × kE) → Int
  | [] => ρ 0
  | r :: t => cond (r.1.all (kFt1 ρ)) (k_ev ρ r.2) (kFru ρ t)
def kFv (M : pM) (F : kFo) (ps : List Int) : Nat → Int
  | 0 => F.2.1.2.2
  | k + 1 => kFru (kFenv M F ps k (kFv M F ps k)) F.2.2.2
def kFps : List Int → Int → List Int
  | [], Q => [Q]
  | r :: t, Q => Q % r :: kFps t (Q / r)
def kFp (M : pM) (p s v : Int) : Prop := ∃ F, kFold[(p % 8).toNat]? = some F ∧ ∃ k : Nat, (k : Int) = s ∧ kFv M F (kFps F.2.2.1 (p / 8 - kFoff)) k = v
theorem kFv.fr {M M' : pM} {F : kFo} {ps : List Int} (hs : ∀ n : Nat, k_gi M' F.1.1.toNat n = k_gi M F.1.1.toNat n) : ∀ k : Nat, kFv M' F ps k = kFv M F ps k
  | 0 => rfl
  | k + 1 => by
    show kFru (kFenv M' F ps k (kFv M' F ps k)) F.2.2.2 = kFru (kFenv M F ps k (kFv M F ps k)) F.2.2.2
    have : kFenv M' F ps k (kFv M' F ps k) = kFenv M F ps k (kFv M F ps k) := by
      rw [kFv.fr hs k]
      funext i
      unfold kFenv
      rw [hs]
    rw [this]
/-! 15: the tape's text. Bytes by rules to places and values, tokens by rules to the whole parse's fault -/
abbrev kRu : Type := List (List (Bool × kE) × (Nat × List kE))
def kRuv (ρ : Nat → Int) (z : Nat × List Int) : kRu → Nat × List Int
  | [] => z
  | r :: t => cond (r.1.all (kFt1 ρ)) (r.2.1, r.2.2.map (k_ev ρ)) (kRuv ρ z t)
/-- the bytes, and how many -/
abbrev kTx : Type := (Nat → Int) × Int
def kTt (M : pM) : kTx := (fun i => (k_gi M 460 i).getD 0, (k_gi M 443 17).getD 0)
def kClp (lo hi x : Int) : Int := if x < lo then lo else if hi < x then hi else x
def kR00 : kRu := [([(false, ((-1), [(5, (-1)), (6, 1)])), (true, ((-32), [(4, 1)]))], (1, [(0, [])])),
  ([], (0, [(0, [(5, 1)])]))]
def kR01 : kRu := [([(false, (0, [(5, 1), (6, (-1))]))], (0, [(0, [(5, 1)])])),
  ([(false, ((-97), [(4, 1)])), (false, (122, [(4, (-1))]))], (1, [(2, [])])),
  ([(false, ((-48), [(4, 1)])), (false, (57, [(4, (-1))]))], (1, [(3, [])])),
  ([], (0, [(1, [(5, 1)])]))]
def kR02 : kRu := [([(false, ((-1), [(5, (-1)), (6, 1)])), (false, ((-97), [(4, 1)])), (false, (122, [(4, (-1))]))], (1, [(2, [])])),
  ([], (0, [(0, [(5, 1)])]))]
def kR03 : kRu := [([(false, ((-1), [(5, (-1)), (6, 1)])), (false, ((-48), [(4, 1)])), (false, (57, [(4, (-1))]))], (1, [(3, [])])),
  ([], (0, [(0, [(5, 1)])]))]
def kR0 : List kRu := [kR00, kR01, kR02, kR03]
def kR10 : kRu := [([(false, (0, [(5, 1), (6, (-1))]))], (0, [(0, [])])),
  ([(false, ((-97), [(4, 1)])), (false, (122, [(4, (-1))]))], (0, [(1, [])])),
  ([(false, ((-48), [(4, 1)])), (false, (57, [(4, (-1))]))], (0, [(2, [])])),
  ([], (0, [(3, [])]))]
def kR11 : kRu := [([(false, (0, [(5, 1), (6, (-1))]))], (0, [(0, [])])),
  ([(false, ((-97), [(4, 1)])), (false, (122, [(4, (-1))]))], (1, [(2, []), (0, [(1, 1)]), (1, []), ((-96), [(4, 1)])])),
  ([(false, ((-48), [(4, 1)])), (false, (57, [(4, (-1))]))], (1, [(3, []), (0, [(1, 1)]), (1, []), ((-48), [(4, 1)])])),
  ([], (0, [(0, [(4, 1)])]))]
def kR12 : kRu := [([(false, (0, [(1, (-1)), (5, 1)])), (false, ((-9), [(2, 1)]))], (0, [(0, [])])),
  ([(false, (0, [(1, (-1)), (5, 1)]))], (0, [(0, [(3, 1)])])),
  ([(false, ((-8), [(2, 1)]))], (1, [(2, []), (0, [(1, 1)]), (9, []), (0, [])])),
  ([(false, (96, [(4, (-1))]))], (1, [(2, []), (0, [(1, 1)]), (1, [(2, 1)]), (1, [(3, 27)])])),
  ([(false, ((-123), [(4, 1)]))], (1, [(2, []), (0, [(1, 1)]), (1, [(2, 1)]), (26, [(3, 27)])])),
  ([], (1, [(2, []), (0, [(1, 1)]), (1, [(2, 1)]), ((-96), [(3, 27), (4, 1)])]))]
def kR13 : kRu := [([(false, (0, [(1, (-1)), (5, 1)]))], (0, [(0, [(3, 1)])])),
  ([(false, ((-3), [(2, 1)]))], (1, [(3, []), (0, [(1, 1)]), (3, []), (0, [(3, 1)])])),
  ([(false, (47, [(4, (-1))]))], (1, [(3, []), (0, [(1, 1)]), (1, [(2, 1)]), (0, [(3, 10)])])),
  ([(false, ((-58), [(4, 1)]))], (1, [(3, []), (0, [(1, 1)]), (1, [(2, 1)]), (9, [(3, 10)])])),
  ([], (1, [(3, []), (0, [(1, 1)]), (1, [(2, 1)]), ((-48), [(3, 10), (4, 1)])]))]
def kR14 : kRu := [([(false, (0, [(5, 1), (6, (-1))]))], (0, [((-1), [])])),
  ([(false, (3, [(1, (-1)), (5, 1)])), (false, ((-48), [(4, 1)])), (false, (57, [(4, (-1))]))], (1, [(3, []), (0, [(1, 1)]), (1, []), ((-48), [(4, 1)])])),
  ([], (0, [((-1), [])]))]
def kR1 : List kRu := [kR10, kR11, kR12, kR13, kR14]
def kPw (k : Nat) : Int := ((2 ^ k : Nat) : Int)
def kR20 : kRu := [([(true, (0, [(23, 1)])), (true, ((-1), [(7, 1)])), (true, (0, [(8, 1)]))], (0, [(0, []), ((kPw 4105 - 512), [])])),
  ([(true, (0, [(23, 1)])), (true, ((-1), [(7, 1)]))], (0, [(0, []), (0, [])])),
  ([(true, (0, [(23, 1)]))], (0, [(1, [(26, 1)]), (0, [])])),
  ([(true, ((-1), [(23, 1)])), (true, ((-223456), [(24, 1)])), (true, ((-4), [(25, 1)])), (true, (0, [(6, 1)]))], (1, [(1, []), (0, []), (0, []), (1, [(3, 1)]), (0, []), (0, []), (0, []), (0, []), (0, []), (0, [])])),
  ([(true, ((-1), [(23, 1)])), (true, ((-13903), [(24, 1)])), (true, ((-3), [(25, 1)])), (true, (0, [(7, 1)]))], (1, [(2, []), (0, []), (0, []), (2, [(3, 1)]), (0, []), (0, []), (0, []), (0, []), (0, []), (0, [])])),
  ([(true, ((-1), [(23, 1)])), (true, ((-12253591), [(24, 1)])), (true, ((-5), [(25, 1)])), (true, (0, [(8, 1)]))], (1, [(7, []), (0, []), (0, []), (4, [(3, 1)]), (0, []), (0, []), (0, []), (0, []), (0, []), (0, [])])),
  ([(true, ((-1), [(23, 1)])), (true, ((-10196866), [(24, 1)])), (true, ((-5), [(25, 1)])), (true, (0, [(9, 1)]))], (1, [(3, []), (0, []), (0, []), (8, [(3, 1)]), (0, []), (0, []), (0, []), (0, []), (0, []), (0, [])])),
  ([(true, ((-1), [(23, 1)])), (true, ((-4514), [(24, 1)])), (true, ((-3), [(25, 1)])), (true, (0, [(10, 1)]))], (1, [(4, []), (0, []), (0, []), (16, [(3, 1)]), (0, []), (0, []), (0, []), (0, []), (0, []), (0, [])])),
  ([(true, ((-1), [(23, 1)])), (true, ((-365565), [(24, 1)])), (true, ((-4), [(25, 1)])), (true, (0, [(11, 1)]))], (1, [(5, []), (0, []), (0, []), (32, [(3, 1)]), (0, []), (0, []), (0, []), (0, []), (0, []), (0, [])])),
  ([(true, ((-1), [(23, 1)])), (true, ((-3488), [(24, 1)])), (true, ((-3), [(25, 1)])), (true, (0, [(12, 1)]))], (1, [(4, []), (0, []), (0, []), (64, [(3, 1)]), (0, []), (0, []), (0, []), (0, []), (0, []), (0, [])])),
  ([], (0, [(1, [(26, 1)]), (0, [])]))]
def kR21 : kRu := [([(true, ((-1), [(23, 1)])), (true, ((-175252482), [(24, 1)])), (true, ((-6), [(25, 1)]))], (1, [(6, []), (0, []), (0, [(2, 1)]), (0, [(3, 1)]), (0, [(4, 1)]), (0, []), (0, []), (0, []), (0, []), (0, [])])),
  ([(true, ((-1), [(23, 1)])), (true, ((-1841972), [(24, 1)])), (true, ((-5), [(25, 1)]))], (1, [(6, []), (0, []), (0, [(2, 1)]), (0, [(3, 1)]), (0, [(4, 1)]), (0, []), (0, []), (0, []), (0, []), (0, [])])),
  ([(true, ((-1), [(23, 1)])), (true, ((-230511656), [(24, 1)])), (true, ((-6), [(25, 1)]))], (1, [(6, []), (0, []), (0, [(2, 1)]), (0, [(3, 1)]), (0, [(4, 1)]), (0, []), (0, []), (0, []), (0, []), (0, [])])),
  ([(true, ((-1), [(23, 1)])), (true, ((-1277953191), [(24, 1)])), (true, ((-7), [(25, 1)]))], (1, [(6, []), (0, []), (0, [(2, 1)]), (0, [(3, 1)]), (0, [(4, 1)]), (0, []), (0, []), (0, []), (0, []), (0, [])])),
  ([(true, ((-1), [(23, 1)])), (true, ((-466094), [(24, 1)])), (true, ((-4), [(25, 1)]))], (1, [(6, []), (0, []), (0, [(2, 1)]), (0, [(3, 1)]), (0, [(4, 1)]), (0, []), (0, []), (0, []), (0, []), (0, [])])),
  ([(true, ((-1), [(23, 1)])), (true, ((-8934941513), [(24, 1)])), (true, ((-7), [(25, 1)]))], (1, [(6, []), (0, []), (0, [(2, 1)]), (0, [(3, 1)]), (0, [(4, 1)]), (0, []), (0, []), (0, []), (0, []), (0, [])])),
  ([], (0, [(1, [(26, 1)]), (0, [])]))]
def kR22 : kRu := [([(false, (11, [(1, (-1))])), (false, (0, [(28, 1)]))], (1, [(2, []), (1, [(1, 1)]), (0, [(2, 1)]), (0, [(3, 1)]), (0, [(4, 1)]), (0, []), (0, []), (0, []), (0, []), (0, [])])),
  ([(false, (11, [(1, (-1))])), (true, ((-1), [(23, 1)])), (true, ((-232608281), [(24, 1)])), (true, ((-6), [(25, 1)]))], (1, [(2, []), (1, [(1, 1)]), (0, [(2, 1)]), (0, [(3, 1)]), (0, [(4, 1)]), (0, []), (0, []), (0, []), (0, []), (0, [])])),
  ([(false, (11, [(1, (-1))])), (true, ((-1), [(23, 1)])), (true, ((-237307), [(24, 1)])), (true, ((-4), [(25, 1)]))], (1, [(2, []), (1, [(1, 1)]), (0, [(2, 1)]), (0, [(3, 1)]), (0, [(4, 1)]), (0, []), (0, []), (0, []), (0, []), (0, [])])),
  ([(false, (11, [(1, (-1))])), (true, ((-1), [(23, 1)])), (true, ((-21568592), [(24, 1)])), (true, ((-6), [(25, 1)]))], (1, [(2, []), (1, [(1, 1)]), (0, [(2, 1)]), (0, [(3, 1)]), (0, [(4, 1)]), (0, []), (0, []), (0, []), (0, []), (0, [])])),
  ([(false, ((-1), [(1, 1)]))], (2, [(6, []), (0, []), (0, [(2, 1)]), (0, [(3, 1)]), (0, [(4, 1)]), (0, []), (0, []), (0, []), (0, []), (0, [])])),
  ([], (0, [(1, [(26, 1)]), (0, [])]))]
def kR23 : kRu := [([(true, (0, [(28, 1)])), (true, (0, [(19, 1)]))], (1, [(3, []), (1, []), (0, [(2, 1)]), (0, [(3, 1)]), (0, [(4, 1)]), (1, [(5, 1)]), (0, []), (0, []), (0, []), (0, [])])),
  ([(true, ((-1), [(28, 1)])), (true, (0, [(20, 1)]))], (1, [(3, []), (1, []), (0, [(2, 1)]), (0, [(3, 1)]), (0, [(4, 1)]), (2, [(5, 1)]), (0, []), (0, []), (0, []), (0, [])])),
  ([(true, ((-2), [(28, 1)])), (true, (0, [(21, 1)]))], (1, [(3, []), (1, []), (0, [(2, 1)]), (0, [(3, 1)]), (0, [(4, 1)]), (4, [(5, 1)]), (0, []), (0, []), (0, []), (0, [])])),
  ([(true, ((-3), [(28, 1)])), (true, (0, [(22, 1)]))], (1, [(3, []), (1, []), (0, [(2, 1)]), (0, [(3, 1)]), (0, [(4, 1)]), (8, [(5, 1)]), (0, []), (0, []), (0, []), (0, [])])),
  ([(false, ((-1), [(1, 1)]))], (2, [(6, []), (0, []), (0, [(2, 1)]), (0, [(3, 1)]), (0, [(4, 1)]), (0, []), (0, []), (0, []), (0, []), (0, [])])),
  ([], (0, [(1, [(26, 1)]), (0, [])]))]
def kR24 : kRu := [([(false, (0, [(28, 1)]))], (1, [(6, []), (0, []), (0, [(2, 1)]), (0, [(3, 1)]), (0, [(4, 1)]), (0, []), (0, []), (0, []), (0, []), (0, [])])),
  ([], (0, [(1, [(26, 1)]), (0, [])]))]
def kR25 : kRu := [([(false, (0, [(28, 1)])), (false, (2, [(28, (-1))]))], (1, [(6, []), (0, []), (0, [(2, 1)]), (0, [(3, 1)]), (0, [(4, 1)]), (0, []), (0, []), (0, []), (0, []), (0, [])])),
  ([], (0, [(1, [(26, 1)]), (0, [])]))]
def kR26 : kRu := [([(true, ((-3), [(23, 1)])), (true, ((-59), [(24, 1)]))], (1, [(0, []), (0, []), (0, []), (0, [(3, 1)]), (0, []), (0, []), (0, []), (0, []), (0, []), (0, [])])),
  ([], (0, [(1, [(26, 1)]), (0, [])]))]
def kR27 : kRu := [([(true, ((-1), [(23, 1)])), (true, ((-10631), [(24, 1)])), (true, ((-3), [(25, 1)])), (true, ((-1), [(32, 1)]))], (1, [(7, []), (0, []), (0, [(2, 1)]), (0, [(3, 1)]), (0, [(4, 1)]), (0, []), (0, [(33, 1)]), (0, []), (0, [(31, 1)]), (0, [])])),
  ([(true, ((-1), [(23, 1)])), (true, ((-10631), [(24, 1)])), (true, ((-3), [(25, 1)]))], (1, [(7, []), (0, []), (0, [(2, 1)]), (0, [(3, 1)]), (0, [(4, 1)]), (0, []), (1, [(29, 8)]), (0, []), (0, [(31, 1)]), (0, [])])),
  ([(true, ((-3), [(23, 1)])), (true, ((-40), [(24, 1)])), (false, (4, [(2, (-1))]))], (1, [(7, []), (0, []), (1, [(2, 1)]), (0, [(3, 1)]), (0, [(4, 1)]), (0, []), (5, [(29, 8)]), (0, []), (0, [(31, 1)]), (0, [])])),
  ([(true, ((-1), [(23, 1)])), (true, ((-118928), [(24, 1)])), (true, ((-4), [(25, 1)]))], (1, [(9, []), (0, []), (0, [(2, 1)]), (0, [(3, 1)]), (0, [(4, 1)]), (0, []), (0, [(29, 1)]), (0, []), (0, [(31, 1)]), (0, [])])),
  ([(true, ((-1), [(23, 1)])), (true, ((-267347), [(24, 1)])), (true, ((-4), [(25, 1)]))], (1, [(10, []), (0, []), (0, [(2, 1)]), (0, [(3, 1)]), (0, [(4, 1)]), (0, []), (0, [(29, 1)]), (0, []), (0, [(31, 1)]), (0, [])])),
  ([], (0, [(1, [(26, 1)]), (0, [])]))]
def kR28 : kRu := [([(true, ((-1), [(32, 1)]))], (2, [(8, []), (0, []), (0, [(2, 1)]), (0, [(3, 1)]), (0, [(4, 1)]), (0, []), (0, [(33, 1)]), (0, []), ((kPw 4096 - 1), [(31, 1), (34, (-2))]), (0, [])])),
  ([(true, ((-2), [(32, 1)]))], (2, [(8, []), (0, []), (0, [(2, 1)]), (0, [(3, 1)]), (0, [(4, 1)]), (0, []), (0, [(33, 1)]), (0, []), (0, [(36, (kPw 4096)), (37, 1)]), (0, [])])),
  ([(true, ((-1), [(23, 1)])), (true, ((-1111), [(24, 1)])), (true, ((-3), [(25, 1)]))], (1, [(7, []), (0, []), (0, [(2, 1)]), (0, [(3, 1)]), (0, [(4, 1)]), (0, []), (2, [(29, 8)]), (0, []), (0, [(31, 1)]), (0, [])])),
  ([], (2, [(14, []), (0, []), (0, [(2, 1)]), (0, [(3, 1)]), (0, [(4, 1)]), (0, []), (0, [(29, 1)]), (0, []), (0, [(31, 1)]), (0, [])]))]
def kR29 : kRu := [([(false, (0, [(28, 1)])), (false, (11, [(28, (-1))]))], (1, [(8, []), (0, []), (0, [(2, 1)]), (0, [(3, 1)]), (0, [(4, 1)]), (0, []), (0, [(29, 1)]), (0, []), (0, [(31, (kPw 4096)), (40, 1)]), (0, [])])),
  ([], (0, [(1, [(26, 1)]), (0, [])]))]
def kR210 : kRu := [([(false, (0, [(28, 1)])), (false, (12, [(28, (-1))]))], (1, [(11, []), (0, []), (0, [(2, 1)]), (0, [(3, 1)]), (0, [(4, 1)]), (0, []), (0, [(29, 1)]), (0, [(28, 1)]), (0, [(31, 1)]), (0, [])])),
  ([], (0, [(1, [(26, 1)]), (0, [])]))]
def kR211 : kRu := [([(true, ((-3), [(23, 1)])), (true, ((-40), [(24, 1)]))], (1, [(12, []), (0, []), (0, [(2, 1)]), (0, [(3, 1)]), (0, [(4, 1)]), (0, []), (0, [(29, 1)]), (0, [(30, 1)]), (0, [(31, 1)]), (0, [])])),
  ([], (0, [(1, [(26, 1)]), (0, [])]))]
def kR212 : kRu := [([(false, (11, [(1, (-1))])), (false, (0, [(28, 1)])), (false, (11, [(28, (-1))]))], (1, [(13, []), (1, [(1, 1)]), (0, [(2, 1)]), (0, [(3, 1)]), (0, [(4, 1)]), (0, []), (0, [(29, 1)]), (16, [(28, 16), (42, 1), (43, 256)]), (0, [(31, 1)]), (0, [])])),
  ([], (0, [(1, [(26, 1)]), (0, [])]))]
def kR213 : kRu := [([(true, ((-3), [(23, 1)])), (true, ((-41), [(24, 1)]))], (1, [(8, []), (0, []), (0, [(2, 1)]), (0, [(3, 1)]), (0, [(4, 1)]), (0, []), (0, [(29, 1)]), (0, []), (0, [(31, (kPw 4096)), (41, 1)]), (0, [])])),
  ([], (2, [(12, []), (0, [(1, 1)]), (0, [(2, 1)]), (0, [(3, 1)]), (0, [(4, 1)]), (0, []), (0, [(29, 1)]), (0, [(30, 1)]), (0, [(31, 1)]), (0, [])]))]
def kR214 : kRu := [([(true, ((-1), [(32, 1)]))], (2, [(14, []), (0, []), (0, [(2, 1)]), (0, [(3, 1)]), (0, [(4, 1)]), (0, []), (0, [(33, 1)]), (0, []), ((kPw 4096 - 1), [(31, 1), (34, (-2))]), (0, [])])),
  ([(true, ((-2), [(32, 1)]))], (2, [(14, []), (0, []), (0, [(2, 1)]), (0, [(3, 1)]), (0, [(4, 1)]), (0, []), (0, [(33, 1)]), (0, []), (0, [(36, (kPw 4096)), (37, 1)]), (0, [])])),
  ([(true, ((-3), [(32, 1)]))], (2, [(14, []), (0, []), (0, [(2, 1)]), (0, [(3, 1)]), (0, [(4, 1)]), (0, []), (0, [(33, 1)]), (0, []), (0, [(36, (kPw 4096)), (38, 1)]), (0, [])])),
  ([(true, ((-1), [(23, 1)])), (true, ((-423), [(24, 1)])), (true, ((-2), [(25, 1)]))], (1, [(7, []), (0, []), (0, [(2, 1)]), (0, [(3, 1)]), (0, [(4, 1)]), (0, []), (3, [(29, 8)]), (0, []), (0, [(31, 1)]), (0, [])])),
  ([], (2, [(15, []), (0, []), (0, [(2, 1)]), (0, [(3, 1)]), (0, [(4, 1)]), (0, []), (0, [(29, 1)]), (0, []), (0, [(31, 1)]), (0, [])]))]
def kR215 : kRu := [([(true, (0, [(2, 1)])), (true, (0, [(13, 1)])), (true, ((-1), [(23, 1)])), (true, ((-309007594), [(24, 1)])), (true, ((-6), [(25, 1)]))], (1, [(7, []), (0, []), (0, [(2, 1)]), (0, [(3, 1)]), (1, [(4, 1)]), (0, []), (4, [(29, 8)]), (0, []), (0, [(31, 1)]), (0, [])])),
  ([(true, ((-1), [(2, 1)])), (true, (0, [(14, 1)])), (true, ((-1), [(23, 1)])), (true, ((-309007594), [(24, 1)])), (true, ((-6), [(25, 1)]))], (1, [(7, []), (0, []), (0, [(2, 1)]), (0, [(3, 1)]), (2, [(4, 1)]), (0, []), (4, [(29, 8)]), (0, []), (0, [(31, 1)]), (0, [])])),
  ([(true, ((-2), [(2, 1)])), (true, (0, [(15, 1)])), (true, ((-1), [(23, 1)])), (true, ((-309007594), [(24, 1)])), (true, ((-6), [(25, 1)]))], (1, [(7, []), (0, []), (0, [(2, 1)]), (0, [(3, 1)]), (4, [(4, 1)]), (0, []), (4, [(29, 8)]), (0, []), (0, [(31, 1)]), (0, [])])),
  ([(true, ((-3), [(2, 1)])), (true, (0, [(16, 1)])), (true, ((-1), [(23, 1)])), (true, ((-309007594), [(24, 1)])), (true, ((-6), [(25, 1)]))], (1, [(7, []), (0, []), (0, [(2, 1)]), (0, [(3, 1)]), (8, [(4, 1)]), (0, []), (4, [(29, 8)]), (0, []), (0, [(31, 1)]), (0, [])])),
  ([(true, ((-4), [(2, 1)])), (true, (0, [(17, 1)])), (true, ((-1), [(23, 1)])), (true, ((-309007594), [(24, 1)])), (true, ((-6), [(25, 1)]))], (1, [(7, []), (0, []), (0, [(2, 1)]), (0, [(3, 1)]), (16, [(4, 1)]), (0, []), (4, [(29, 8)]), (0, []), (0, [(31, 1)]), (0, [])])),
  ([(true, ((-5), [(2, 1)])), (true, (0, [(18, 1)])), (true, ((-1), [(23, 1)])), (true, ((-309007594), [(24, 1)])), (true, ((-6), [(25, 1)]))], (1, [(7, []), (0, []), (0, [(2, 1)]), (0, [(3, 1)]), (32, [(4, 1)]), (0, []), (4, [(29, 8)]), (0, []), (0, [(31, 1)]), (0, [])])),
  ([], (2, [(16, []), (0, []), (0, [(2, 1)]), (0, [(3, 1)]), (0, [(4, 1)]), (0, []), (0, [(29, 1)]), (0, []), (0, [(31, 1)]), (0, [])]))]
def kR216 : kRu := [([(true, ((-1), [(32, 1)]))], (2, [(16, []), (0, []), (0, [(2, 1)]), (0, [(3, 1)]), (0, [(4, 1)]), (0, []), (0, [(33, 1)]), (0, []), ((kPw 4096 - 1), [(31, 1), (34, (-2))]), (0, [])])),
  ([(true, ((-2), [(32, 1)]))], (2, [(16, []), (0, []), (0, [(2, 1)]), (0, [(3, 1)]), (0, [(4, 1)]), (0, []), (0, [(33, 1)]), (0, []), (0, [(36, (kPw 4096)), (37, 1)]), (0, [])])),
  ([(true, ((-3), [(32, 1)]))], (2, [(16, []), (0, []), (0, [(2, 1)]), (0, [(3, 1)]), (0, [(4, 1)]), (0, []), (0, [(33, 1)]), (0, []), (0, [(36, (kPw 4096)), (38, 1)]), (0, [])])),
  ([(true, ((-4), [(32, 1)]))], (2, [(16, []), (0, []), (0, [(2, 1)]), (0, [(3, 1)]), (0, [(4, 1)]), (0, []), (0, [(33, 1)]), (0, []), (0, [(36, (kPw 4096)), (39, 1)]), (0, [])])),
  ([(true, (0, [(2, 1)]))], (2, [(6, []), (0, []), (0, []), (0, [(3, 1)]), (0, []), (0, []), (0, []), (0, []), (0, []), (0, [(34, 512)])])),
  ([(true, ((-1), [(2, 1)])), (true, ((-3), [(23, 1)])), (true, ((-41), [(24, 1)]))], (2, [(17, []), (0, []), (0, []), (0, [(3, 1)]), (0, [(4, 1), (14, (-2))]), (0, []), (0, [(33, 1)]), (0, []), (0, [(31, 1)]), (0, [])])),
  ([(true, ((-2), [(2, 1)])), (true, ((-3), [(23, 1)])), (true, ((-41), [(24, 1)]))], (2, [(17, []), (0, []), (1, []), (0, [(3, 1)]), (0, [(4, 1), (15, (-4))]), (0, []), (0, [(33, 1)]), (0, []), (0, [(31, 1)]), (0, [])])),
  ([(true, ((-3), [(2, 1)])), (true, ((-3), [(23, 1)])), (true, ((-41), [(24, 1)]))], (2, [(17, []), (0, []), (2, []), (0, [(3, 1)]), (0, [(4, 1), (16, (-8))]), (0, []), (0, [(33, 1)]), (0, []), (0, [(31, 1)]), (0, [])])),
  ([(true, ((-4), [(2, 1)])), (true, ((-3), [(23, 1)])), (true, ((-41), [(24, 1)]))], (2, [(17, []), (0, []), (3, []), (0, [(3, 1)]), (0, [(4, 1), (17, (-16))]), (0, []), (0, [(33, 1)]), (0, []), (0, [(31, 1)]), (0, [])])),
  ([(true, ((-5), [(2, 1)])), (true, ((-3), [(23, 1)])), (true, ((-41), [(24, 1)]))], (2, [(17, []), (0, []), (4, []), (0, [(3, 1)]), (0, [(4, 1), (18, (-32))]), (0, []), (0, [(33, 1)]), (0, []), (0, [(31, 1)]), (0, [])])),
  ([], (0, [(1, [(26, 1)]), (0, [])]))]
def kR217 : kRu := [([(true, ((-1), [(32, 1)]))], (2, [(17, []), (0, []), (0, [(2, 1)]), (0, [(3, 1)]), (0, [(4, 1)]), (0, []), (0, [(33, 1)]), (0, []), ((kPw 4096 - 1), [(31, 1), (34, (-2))]), (0, [])])),
  ([], (1, [(8, []), (0, []), (0, [(2, 1)]), (0, [(3, 1)]), (0, [(4, 1)]), (0, []), (0, [(29, 1)]), (0, []), (0, [(31, 1)]), (0, [])]))]
def kR2 : List kRu := [kR20, kR21, kR22, kR23, kR24, kR25, kR26, kR27, kR28, kR29, kR210, kR211, kR212, kR213, kR214, kR215, kR216, kR217]
def kBe (T : kTx) (ws : List Int) (p : Nat) : Nat → Int := fun i => cond (Nat.beq i 4) (T.1 p) (cond (Nat.beq i 5) (p : Int) (cond (Nat.beq i 6) T.2 (ws.getD i 0)))
/-- one byte: what comes of it; true: places, false: values -/
def kBs (T : kTx) (z : Bool) (ws : List Int) (p : Nat) : Nat × List Int := kRuv (kBe T ws p) (0, [0]) ((cond z kR0 kR1).getD (ws.getD 0 0).toNat [])
def kBc (z : Bool) (p : Nat) (x : Int) : Int := cond z (kClp (p : Int) 400 x) (kClp (-1) 549755813888 x)
def kBr (T : kTx) (z : Bool) : Nat → List Int → Nat → Int
  | 0, _, _ => cond z 400 0
  | f + 1, ws, p => cond (Nat.beq (kBs T z ws p).1 0) (kBc z p ((kBs T z ws p).2.getD 0 0)) (kBr T z f (kBs T z ws p).2 (p + 1))
def kBv (T : kTx) (z : Bool) (ws : List Int) (p : Nat) : Int := kBr T z (401 - p) ws p
/-! sets of facts' sets as numbers below 2^4096 -/
def kBgN : Nat := 4096
def kBg : Int := 2 ^ kBgN
/-- the number whose bit s is p s, of the first n -/
def kSet (p : Nat → Bool) : Nat → Nat
  | 0 => 0
  | n + 1 => cond (p n) (2 ^ n) 0 + kSet p n
/-- bit u -/
def kBt (u : Nat) (x : Int) : Int := x / 2 ^ u % 2
/-- the u-th long of a set -/
def kWv (u : Nat) (x : Int) : BitVec 64 := BitVec.ofNat 64 (x.toNat >>> (64 * u))
def kWd (u : Nat) (x : Int) : Int := (kWv u x).toInt
/-- how many facts below z of a list (base 16, a digit is a fact and 1) the facts s have -/
def kCnl (s : Int) (z : Int) : Nat → Int → Int
  | 0, _ => 0
  | n + 1, L => cond (decide (1 ≤ L % 16 ∧ L % 16 ≤ z)) (kBt (L % 16 - 1).toNat s) 0 + kCnl s z n (L / 16)
def kCnt (s L : Int) : Int := kCnl s 12 14 L
/-- how often a list has fact g -/
def kTms (g : Nat) : Nat → Int → Int
  | 0, _ => 0
  | n + 1, L => cond (decide (L % 16 = (g : Int) + 1)) 1 0 + kTms g n (L / 16)
/-- the sets that have fact f; that have so many of a list -/
def kFct (f : Int) : Nat := kSet (fun s => decide (kBt f.toNat (s : Int) = 1)) kBgN
def kMst (Q : Int) : Nat := kSet (fun s => decide (Q % 16 ≤ kCnt (s : Int) (Q / 16))) kBgN
/-- what 64 sets have counted, from 16 - least on: the facts below f, and i times fact f -/
def kSlc (w f i : Nat) (Q : Int) (u : Nat) : Int := 16 - Q % 16 + kCnl ((64 * w + u : Nat) : Int) (f : Int) 14 (Q / 16) + (i : Int) * kBt f ((64 * w + u : Nat) : Int)
def kSlv (b w f i : Nat) (Q : Int) : BitVec 64 := BitVec.ofNat 64 (kSet (fun u => decide (kBt b (kSlc w f i Q u) = 1)) 64)
def kLf4 (z u s : Int) : Int :=
  cond (decide (z = 0)) (kWd u.toNat s)
  (cond (decide (z = 1)) (kBt u.toNat s)
  (cond (decide (z = 2)) (kMst s : Int)
  (cond (decide (z = 4)) (kBt u.toNat s)
  (cond (decide (z = 5)) (s / u)
  (cond (decide (z = 8)) (Int64.ofInt (u - 9223372036854775808) &&& Int64.ofInt s).toInt
  (cond (decide (z = 9)) (Int64.ofInt (u - 9223372036854775808) ^^^ Int64.ofInt s).toInt
  (cond (decide (z = 10)) (kSlv (u % 8).toNat (u / 8 % 64).toNat (u / 512 % 16).toNat (u / 8192).toNat s).toInt
  (cond (decide (z = 11)) (kCnt u s)
  (cond (decide (z = 12)) ((1 : Int32) <<< (Int32.ofInt s &&& 31)).toInt
  (cond (decide (z = 13)) (Int32.ofInt (u - 2147483648) ||| Int32.ofInt s).toInt
    (Int32.ofInt (u - 2147483648) ^^^ Int32.ofInt s).toInt))))))))))
def kAnd (x y : Int) : Int := ((x.toNat &&& y.toNat : Nat) : Int)
def kOr (x y : Int) : Int := ((x.toNat ||| y.toNat : Nat) : Int)
def kLf2 (o x s : Int) : Int := cond (decide (o = 4)) (kAnd x s) (cond (decide (o = 5)) (kOr x s) (cond (decide (o = 6)) (kFct s : Int) (kLf4 (x % 16) (x / 16) s)))
/-- what waits, is listed, is pending: what a token's rules may ask besides -/
def kMx (W Q P nu : Int) (i : Nat) : Int := cond (Nat.beq i 29) W (cond (Nat.beq i 30) Q (cond (Nat.beq i 31) P (cond (Nat.beq i 32) (W % 8) (cond (Nat.beq i 33) (W / 8) (cond (Nat.beq i 34) (P % kBg) (cond (Nat.beq i 35) (P / kBg % kBg) (cond (Nat.beq i 36) (P / kBg / kBg)
  (cond (Nat.beq i 37) (kAnd (P / kBg % kBg) (P % kBg)) (cond (Nat.beq i 38) (kOr (P / kBg % kBg) (P % kBg)) (cond (Nat.beq i 39) (kAnd (P / kBg % kBg) (kBg - 1 - P % kBg)) (cond (Nat.beq i 40) (kFct nu : Int) (cond (Nat.beq i 41) (kMst Q : Int) (cond (Nat.beq i 42) (Q % 16) (Q / 16))))))))))))))
def kMe (T : kTx) (ws : List Int) (p : Nat) : Nat → Int := fun i => cond (Nat.blt i 6) (ws.getD i 0) (cond (Nat.blt i 13) (ws.getD 3 0 / 2 ^ (i - 6) % 2) (cond (Nat.blt i 19) (ws.getD 4 0 / 2 ^ (i - 13) % 2) (cond (Nat.blt i 23) (ws.getD 5 0 / 2 ^ (i - 19) % 2) (cond (Nat.beq i 23) (kBv T false [0, 0, 0, 0] p) (cond (Nat.beq i 24) (kBv T false [1, kBv T true [1] p, 0, 0] p) (cond (Nat.beq i 25) (kBv T true [1] p - (p : Int)) (cond (Nat.beq i 26) (p : Int) (cond (Nat.beq i 27) T.2 (cond (Nat.beq i 28) (kBv T false [4, kBv T true [1] p, 0, 0] p)
  (kMx (ws.getD 6 0) (ws.getD 7 0) (ws.getD 8 0) (kBv T false [4, kBv T true [1] p, 0, 0] p) i))))))))))
/-- a state's leaf: 0 the fault and what comes besides; 1 a state at the token behind, 2 one at this token: nine words, and what comes besides -/
def kMs (T : kTx) (ws : List Int) (p : Nat) : Nat × List Int := kRuv (kMe T ws p) (0, [1 + (p : Int), 0]) (kR2.getD (ws.getD 0 0).toNat [])
/-- the token behind -/
def kMn (T : kTx) (p : Nat) : Nat := (kBv T true [0] (kBv T true [1] p).toNat).toNat
def kMr (T : kTx) : Nat → List Int → Nat → Option Int
  | 0, _, _ => none
  | f + 1, ws, p => cond (Nat.beq (kMs T ws p).1 0) (some (kClp 0 401 ((kMs T ws p).2.getD 0 0) + (kMs T ws p).2.getD 1 0)) ((kMr T f ((kMs T ws p).2.take 9) (cond (Nat.beq (kMs T ws p).1 1) (kMn T p) p)).map (fun v => v + (kMs T ws p).2.getD 9 0))
/-- what is parsed from here says v, if it ends: the fault and one, and 512 times the set -/
def kMw (T : kTx) (ws : List Int) (p : Nat) (v : Int) : Prop := ∀ (f : Nat) (u : Int), kMr T f ws p = some u → u = v
/-- 0: places, 1: values -/
def kTV (T : kTx) (i : Nat) (ws : List Int) (p : Nat) : Int := cond (Nat.beq i 0) (kBv T true ws p) (kBv T false ws p)
/-- 2: the parse -/
def kTW (T : kTx) (i : Nat) (ws : List Int) (p : Nat) (v : Int) : Prop := cond (Nat.blt i 2) (kTV T i ws p = v) (kMw T ws p v)
def kTrd (i : Nat) : List Int := cond (Nat.beq i 0) [] (cond (Nat.beq i 1) [8, 65536, 512] [32, 16, 8, 128, 64, 16, kPw 432, kPw 56])
def kTof (i : Nat) : Int := cond (Nat.beq i 1) 4722366482869645213696 0
def kTd (i : Nat) (Q : Int) : List Int := kFps (kTrd i) (Q - kTof i)
def kS9 : List Int := [0, 0, 0, 0, 0, 0, 0, 0, 0]
/-- a byte as the class's row holds it; the byte x of a long; functions of longs -/
def kSgb (b : Int) : Int := if b ≤ 127 then b else b - 256
def kByt (x : Nat) (v : Int) : Int := v % 18446744073709551616 / 256 ^ x % 256
def kLf (Q s : Int) : Int := cond (decide (Q % 8 = 0)) (Int64.ofInt s <<< ((32 : Int32).toInt64 &&& 63)).toInt (cond (decide (Q % 8 = 1)) (Int64.ofInt s &&& Int64.ofInt 4294967295).toInt (cond (decide (Q % 8 = 2)) (Int64.ofInt (Q / 8 - 9223372036854775808) ||| Int64.ofInt s).toInt (cond (decide (Q % 8 = 3)) (kByt (Q / 8).toNat s) (kLf2 (Q % 8) (Q / 8) s))))
/-! 15, sub 7: the versions of forms: rows of 26 (0 form, 7 from, 8 until) -/
def kVg (M : pM) (V v0 i o : Nat) : Int := (k_gi M V (v0 + (26 * i + o))).getD 0
/-- row i is of form f and in force on day d -/
def kVib (M : pM) (f d : Int) (i : Nat) : Bool := decide (kVg M 450 0 i 0 = f) && (decide (kVg M 450 0 i 7 ≤ d) && (decide (kVg M 450 0 i 8 < 0) || decide (d < kVg M 450 0 i 8)))
theorem kVib_iff {M : pM} {f d : Int} {i : Nat} : kVib M f d i = true ↔ kVg M 450 0 i 0 = f ∧ kVg M 450 0 i 7 ≤ d ∧ (kVg M 450 0 i 8 < 0 ∨ d < kVg M 450 0 i 8) := by
  unfold kVib
  simp only [Bool.and_eq_true, Bool.or_eq_true, decide_eq_true_eq]
/-- the last of the first k that is so -/
def kVla (M : pM) (f d : Int) : Nat → Int
  | 0 => -1
  | k + 1 => cond (kVib M f d k) (k : Int) (kVla M f d k)
/-- of the first n no two of a form overlap, none is from later than t -/
def kViv (M : pM) (V v0 : Nat) (n t : Int) : Prop := n ≤ 16 ∧ (∀ v w : Nat, v < w → (w : Int) < n → kVg M V v0 v 0 = kVg M V v0 w 0 → 0 ≤ kVg M V v0 v 8 ∧ kVg M V v0 v 8 ≤ kVg M V v0 w 7) ∧ ∀ v : Nat, (v : Int) < n → kVg M V v0 v 7 ≤ t
/-- row i: the class's and the reference's; of the reference's row l is ended on day t -/
def kVeq (M : pM) (X : Nat × Nat × Nat) (V v0 : Nat) (l t : Int) (i : Nat) : Prop := ∃ f a u y : Int, k_gi M X.1 i = some f ∧ k_gi M V (v0 + (26 * i + 0)) = some f ∧ k_gi M X.2.1 i = some a ∧ k_gi M V (v0 + (26 * i + 7)) = some a ∧ k_gi M X.2.2 i = some u ∧ k_gi M V (v0 + (26 * i + 8)) = some y ∧ ((u = cond (decide ((i : Int) = l)) t y ∧ 0 ≤ u) ∨ (u = -3 ∧ cond (decide ((i : Int) = l)) t y = -1))
def kXn : Nat × Nat × Nat := (18, 59, 60)
def kXk : Nat × Nat × Nat := (199, 240, 241)
def kVfs (M : pM) (X : Nat × Nat × Nat) (V v0 D : Nat) (n : Int) : Prop := (∀ i : Nat, i < 16 → kVeq M X V v0 (-1) 0 i) ∧ ∃ t, k_gi M D 0 = some t ∧ kViv M V v0 n t
/-- 2: the class's has the last of f ended today; 3: and its row k is any; 1: and its row k is new -/
def kVpd (M : pM) (g f t : Int) (k : Nat) : Prop := k_gi M 444 0 = some t ∧ 0 ≤ t ∧ kViv M 450 0 (k : Int) t ∧ (∀ i : Nat, i < 16 → g = 2 ∨ i ≠ k → kVeq M kXn 450 0 (kVla M f t k) t i) ∧ (g = 2 ∨ g = 3 ∨ g = 1 ∧ k_gi M 18 k = some f ∧ k_gi M 59 k = some t ∧ k_gi M 60 k = some (-3))
def kVpe (M : pM) (n v : Int) : Prop := (v = 0 ∧ kVfs M kXn 450 0 444 n) ∨ ∃ (g f t : Int) (k : Nat), v = g + 4 * f ∧ (k : Int) = n ∧ kVpd M g f t k
def kFmt (M : pM) (t : Nat) (f d s v : Int) : Prop := match t with
  | 0 => kVfs M kXn 450 0 444 s
  | 1 => kVfs M kXk 477 300 477 s
  | 2 => ∀ i : Nat, i < 16 → (i : Int) < s → kVeq M kXk 450 0 (-1) 0 i
  | 3 => ∀ i : Nat, i < 16 → (i : Int) < s → kVeq M kXn 477 300 (-1) 0 i
  | 4 => ∃ k : Nat, (k : Int) = s ∧ k ≤ 16 ∧ kVla M f d k = v
  | 5 => kVpe M s v
  | _ => False
/-! 15, sub 7, t 6 and 7: tables -/
/-- digit i, base 2^4096 -/
def kDg (P : Int) (i : Nat) : Int := P / kBg ^ i % kBg
/-- the class's row: its longs from lo on, below hi, are those of a set -/
def kTl (M : pM) (c : Nat) (lo hi : Int) (X : Int) : Prop := ∀ j : Nat, j < 64 → lo ≤ (j : Int) → (j : Int) < hi → k_gi M c j = some (kWd j X)
/-- the reference's row r: its bits below s are those of a set, the others 0 -/
def kTi (M : pM) (r : Nat) (s X : Int) : Prop := ∀ q : Nat, q < 128 → ∃ x : Int32, k_gi M 451 (128 * r + q) = some x.toInt ∧ ∀ u : Nat, u < 32 → x.toBitVec.getLsbD u = (decide (((32 * q + u : Nat) : Int) < s) && decide (kBt (32 * q + u) X = 1))
/-- a row of the class's tables from c on is the reference's -/
def kRwS (M : pM) (c i : Nat) : Prop := ∃ X : Int, 0 ≤ X ∧ X < kBg ∧ kTl M (c + i) 0 64 X ∧ kTi M i 4096 X
/-- the facts of n signs from y on -/
def kLss (M : pM) (y : Nat) : Nat → Option Int
  | 0 => some 0
  | n + 1 => match kLss M y n, k_gi M 461 (y + n) with
    | some L, some x => cond (decide (0 ≤ x ∧ x ≤ 11)) (some (16 * L + (x + 1))) none
    | _, _ => none
def kBop (x a b : Int) : Int := cond (decide (x = 21)) (kAnd a b) (cond (decide (x = 22)) (kOr a b) (kAnd a (kBg - 1 - b)))
/-- a sign, or a 'most' and its list: place, pending sets, how many -/
def kRs (M : pM) (q : Nat × Int × Nat) : Option (Nat × Int × Nat) := match k_gi M 461 q.1 with
  | none => none
  | some x => if 0 ≤ x ∧ x ≤ 11 ∧ q.2.2 ≤ 198 then some (q.1 + 1, (kFct x : Int) + kBg * q.2.1, q.2.2 + 1) else
    if x = 20 ∧ 1 ≤ q.2.2 then some (q.1 + 1, q.2.1 - 2 * (q.2.1 % kBg) + (kBg - 1), q.2.2) else
    if 21 ≤ x ∧ x ≤ 23 ∧ 2 ≤ q.2.2 then some (q.1 + 1, kBop x (q.2.1 / kBg % kBg) (q.2.1 % kBg) + kBg * (q.2.1 / kBg / kBg), q.2.2 - 1) else
    if x = 30 ∧ q.2.2 ≤ 198 then (match k_gi M 461 (q.1 + 1), k_gi M 461 (q.1 + 2) with
      | some l, some y => if 0 ≤ l ∧ l ≤ 12 ∧ 0 ≤ y ∧ y ≤ 12 then (match kLss M (q.1 + 3) y.toNat with
          | some L => some (q.1 + 3 + y.toNat, (kMst (l + 16 * L) : Int) + kBg * q.2.1, q.2.2 + 1)
          | none => none) else none
      | _, _ => none) else none
def kRp (M : pM) : Nat → Option (Nat × Int × Nat)
  | 0 => some (0, 0, 0)
  | t + 1 => (kRp M t).bind (kRs M)
/-- what waits: 1 not, 2 and, 3 or, 4 unless, 5 open; two 'not' are none -/
def kWs (M : pM) : Nat → Option Int
  | 0 => some 0
  | k + 1 => match kWs M k, k_gi M 462 k with
    | some W, some x => cond (decide (21 ≤ x ∧ x ≤ 24)) (some (8 * W + (x - 19))) (cond (decide (x = 20)) (some (cond (decide (W % 8 = 1)) (W / 8) (8 * W + 1))) none)
    | _, _ => none
def kTab (M : pM) (k : Nat) (y s v : Int) : Prop := match k with
  | 0 => 0 ≤ s ∧ s ≤ 19 ∧ ∀ i : Nat, (i : Int) < s → kTl M (369 + i) 0 64 (kDg v (s.toNat - 1 - i))
  | 1 => 0 ≤ y ∧ kTl M y.toNat 0 s v
  | 2 => 0 ≤ y ∧ kTl M y.toNat s 64 v
  | 3 => ∀ g : Nat, g < 12 → k_gi M 388 g = some (kTms g 14 v)
  | 4 => 0 ≤ y ∧ ∀ j : Nat, (j : Int) < s → k_gi M y.toNat j = some 0
  | 5 => ∃ t k n : Nat, (k : Int) = s ∧ kRp M t = some (k, v, n)
  | 6 => ∃ k : Nat, (k : Int) = s ∧ kWs M k = some v
  | 7 => ∃ z n : Nat, (z : Int) = y ∧ ((z + n : Nat) : Int) = s ∧ kLss M z n = some v
  | 8 => 0 ≤ s ∧ ∀ i : Nat, (i : Int) < s → k_gi M 464 i = some (kBt y.toNat (kDg v (s.toNat - 1 - i)))
  | 9 => 0 ≤ y ∧ kTi M y.toNat s v
  | 10 => 0 ≤ y ∧ ∀ q : Nat, q < 128 → (q : Int) < s → k_gi M 451 (128 * y.toNat + q) = some 0
  | 11 => v ≤ s ∧ ∀ i : Nat, i < 16 → ((i : Int) < s → kRwS M 63 i) ∧ ((i : Int) < v → kRwS M 244 i)
  | 12 => ∀ i : Nat, i < 16 → (i : Int) < s → (i : Int) < y / 2 → kRwS M (cond (decide (y % 2 = 0)) 63 244) i
  | _ => False
end
