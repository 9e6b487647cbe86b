noncomputable section
/-! what may be known of cells beyond bounds: kept in the cache under negative cells -/
def kNum (w : Value) (x : Int) : Prop := (∃ y : Int32, w = .int y ∧ y.toInt = x) ∨ ∃ y : Int64, w = .long y ∧ y.toInt = x
/-- the number that lies there -/
def k_gi (M : pM) (a j : Nat) : Option Int := match M[a]? with
  | some c => (match c.2[j]? with
    | some (.int y) => some y.toInt
    | some (.long y) => some y.toInt
    | _ => none)
  | none => none
def kInt (M : pM) (a j x : Int) : Prop := 0 ≤ a ∧ 0 ≤ j ∧ k_gi M a.toNat j.toNat = some x
theorem kInt.uq {M : pM} {a j x y : Int} (h : kInt M a j x) (k : kInt M a j y) : x = y := Option.some.inj (h.2.2.symm.trans k.2.2)
theorem k_gi_some {M : pM} {a j : Nat} {x : Int} (h : k_gi M a j = some x) : ∃ (c : pC) (w : Value), M[a]? = some c ∧ c.2[j]? = some w ∧ kNum w x := by
  unfold k_gi at h
  split at h
  · rename_i c hc
    split at h
    · rename_i y hy
      cases h
      exact ⟨c, _, hc, hy, Or.inl ⟨y, rfl, rfl⟩⟩
    · rename_i y hy
      cases h
      exact ⟨c, _, hc, hy, Or.inr ⟨y, rfl, rfl⟩⟩
    · cases h
  · cases h
theorem k_gi_of {M : pM} {a j : Nat} {x : Int} {c : pC} {w : Value} (h1 : M[a]? = some c) (h2 : c.2[j]? = some w) (h3 : kNum w x) : k_gi M a j = some x := by
  unfold k_gi
  rw [h1]
  dsimp only
  rw [h2]
  rcases h3 with ⟨y, rfl, rfl⟩ | ⟨y, rfl, rfl⟩ <;> rfl
/-- 3: the signs read from the left: where it stands, how many numbers lie ready -/
def kZs (M : pM) (q : Nat × Int) : Option (Nat × Int) := match k_gi M 461 q.1 with
  | none => none
  | some x => if 0 ≤ x ∧ x ≤ 11 ∧ q.2 ≤ 198 then some (q.1 + 1, q.2 + 1) else
    if x = 20 ∧ 1 ≤ q.2 then some (q.1 + 1, q.2) else
    if 21 ≤ x ∧ x ≤ 23 ∧ 2 ≤ q.2 then some (q.1 + 1, q.2 - 1) else
    if x = 30 ∧ q.2 ≤ 198 then (match k_gi M 461 (q.1 + 2) with
      | none => none
      | some y => if 0 ≤ y ∧ y ≤ 397 then some (q.1 + 3 + y.toNat, q.2 + 1) else none) else none
def kZi (M : pM) : Nat → Option (Nat × Int)
  | 0 => some (0, 0)
  | t + 1 => (kZi M t).bind (kZs M)
/-- 4, 5: how many of the waits are of a kind -/
def kWt (M : pM) (lo hi : Int) : Nat → Int → Prop
  | 0, a => a = 0
  | k + 1, a => ∃ x, k_gi M 462 k = some x ∧ (20 ≤ x ∧ x ≤ 24) ∧ ((lo ≤ x ∧ x ≤ hi ∧ kWt M lo hi k (a - 1)) ∨ (¬ (lo ≤ x ∧ x ≤ hi) ∧ kWt M lo hi k a))
/-- 6, 8: the letters before s are of versions before v, have no more seals than these ask, and elder ones set in -/
def kSx (M : pM) (L l0 V v0 s v : Int) : Prop := (∀ l : Int, 0 ≤ l → l < s → ∃ e x y z, kInt M L (l0 + (12 * l + 1)) e ∧ 0 ≤ e ∧ e < v ∧ kInt M L (l0 + (12 * l + 6)) x ∧ kInt M V (v0 + (26 * e + 3)) y ∧ x ≤ y ∧ kInt M L (l0 + (12 * l + 8)) z ∧ z < l) ∧ ∀ k : Int, 0 ≤ k → k < 16 → ∃ y, kInt M V (v0 + (26 * k + 3)) y ∧ 0 ≤ y
/-- 7: how many entries are of a roll -/
def kCn (M : pM) (p : Int) : Nat → Int → Prop
  | 0, n => n = 0
  | k + 1, n => ∃ x, k_gi M 457 (2 * k) = some x ∧ ((x = p ∧ kCn M p k (n - 1)) ∨ (x ≠ p ∧ kCn M p k n))
/-- 9, 10: rows that hold the same: a cell, its first slot, the stride; the other's; how many at most -/
abbrev kRw : Type := (Int × Int × Int) × (Int × Int × Int) × Int
def kRel : List kRw := [((450, 0, 1), (477, 300, 1), 416), ((453, 0, 1), (477, 740, 1), 288), ((445, 0, 1), (477, 10, 1), 8), ((446, 0, 1), (477, 18, 1), 10), ((447, 0, 1), (477, 28, 1), 48), ((459, 0, 1), (477, 2202, 1), 4), ((8, 0, 1), (445, 0, 2), 4), ((189, 0, 1), (477, 10, 2), 4), ((8, 0, 1), (477, 10, 2), 4), ((189, 0, 1), (445, 0, 2), 4), ((10, 0, 1), (446, 0, 1), 10), ((191, 0, 1), (477, 18, 1), 10), ((10, 0, 1), (477, 18, 1), 10), ((191, 0, 1), (446, 0, 1), 10), ((81, 0, 1), (447, 0, 3), 16), ((262, 0, 1), (477, 28, 3), 16), ((81, 0, 1), (477, 28, 3), 16), ((262, 0, 1), (447, 0, 3), 16), ((82, 0, 1), (447, 1, 3), 16), ((263, 0, 1), (477, 29, 3), 16), ((82, 0, 1), (477, 29, 3), 16), ((263, 0, 1), (447, 1, 3), 16), ((83, 0, 1), (447, 2, 3), 16), ((264, 0, 1), (477, 30, 3), 16), ((83, 0, 1), (477, 30, 3), 16), ((264, 0, 1), (447, 2, 3), 16), ((6, 0, 1), (459, 0, 1), 4), ((187, 0, 1), (477, 2202, 1), 4), ((6, 0, 1), (477, 2202, 1), 4), ((187, 0, 1), (459, 0, 1), 4), ((9, 0, 1), (445, 1, 2), 4), ((190, 0, 1), (477, 11, 2), 4), ((9, 0, 1), (477, 11, 2), 4), ((190, 0, 1), (445, 1, 2), 4)]
def kSl (t : Int × Int × Int) (i : Int) : Int := t.2.1 + t.2.2 * i
def kPq (M : pM) (t u : Int × Int × Int) (i : Int) : Prop := ∃ x, kInt M t.1 (kSl t i) x ∧ kInt M u.1 (kSl u i) x
theorem kPq.symm {M : pM} {t u : Int × Int × Int} {i : Int} (h : kPq M t u i) : kPq M u t i := by
  obtain ⟨x, a, b⟩ := h
  exact ⟨x, b, a⟩
def kRl (M : pM) (p s : Int) (b : Int → Prop) : Prop := ∃ r, 0 ≤ p ∧ kRel[p.toNat]? = some r ∧ s ≤ r.2.2 ∧ ∀ i : Int, 0 ≤ i → i < s → b i → kPq M r.1 r.2.1 i
/-- 13: folds over rows: a cell, slots a row, rows at most; least, most, start; the parameters' radices; rules: tests (true: is 0; false: is not below 0), value; behind them: as it was. Words over 0: the value so far, 1: the row, 2 and on: what the row holds, 8 and on: the parameters -/
abbrev kFo : Type := (Int × Int × Int) × (Int × Int × Int) × List Int × List (List (Bool × kE) × kE)
def kFold : List kFo := []
def kFoff : Int := 16777216
def kFenv (M : pM) (F : kFo) (ps : List Int) (k : Nat) (v : Int) : Nat → Int := fun i => cond (Nat.beq i 0) v (cond (Nat.beq i 1) (k : Int) (cond (Nat.blt i 8) ((k_gi M F.1.1.toNat (F.1.2.1 * (k : Int) + ((i - 2 : Nat) : Int)).toNat).getD 0) (ps.getD (i - 8) 0)))
def kFt1 (ρ : Nat → Int) (t : Bool × kE) : Bool := cond t.1 (decide (k_ev ρ t.2 = 0)) (decide (0 ≤ k_ev ρ t.2))
def kFru (ρ : Nat → Int) : List (List (Bool × kE) × kE) → Int
  | [] => ρ 0
  | r :: t => cond (r.1.all (kFt1 ρ)) (k_ev ρ r.2) (kFru ρ t)
def kFv (M : pM) (F : kFo) (ps : List Int) : Nat → Int
  | 0 => F.2.1.2.2
  | k + 1 => kFru (kFenv M F ps k (kFv M F ps k)) F.2.2.2
def kFps : List Int → Int → List Int
  | [], Q => [Q]
  | r :: t, Q => Q % r :: kFps t (Q / r)
def kFp (M : pM) (p s v : Int) : Prop := ∃ F, kFold[(p % 8).toNat]? = some F ∧ ∃ k : Nat, (k : Int) = s ∧ kFv M F (kFps F.2.2.1 (p / 8 - kFoff)) k = v
theorem kFv.fr {M M' : pM} {F : kFo} {ps : List Int} (hs : ∀ n : Nat, k_gi M' F.1.1.toNat n = k_gi M F.1.1.toNat n) : ∀ k : Nat, kFv M' F ps k = kFv M F ps k
  | 0 => rfl
  | k + 1 => by
    show kFru (kFenv M' F ps k (kFv M' F ps k)) F.2.2.2 = kFru (kFenv M F ps k (kFv M F ps k)) F.2.2.2
    have : kFenv M' F ps k (kFv M' F ps k) = kFenv M F ps k (kFv M F ps k) := by
      rw [kFv.fr hs k]
      funext i
      unfold kFenv
      rw [hs]
    rw [this]
/-! 15: the tape's text. Bytes by rules to places and values, tokens by rules to the whole parse's fault -/
abbrev kRu : Type := List (List (Bool × kE) × (Nat × List kE))
def kRuv (ρ : Nat → Int) (z : Nat × List Int) : kRu → Nat × List Int
  | [] => z
  | r :: t => cond (r.1.all (kFt1 ρ)) (r.2.1, r.2.2.map (k_ev ρ)) (kRuv ρ z t)
/-- the bytes, and how many -/
abbrev kTx : Type := (Nat → Int) × Int
def kTt (M : pM) : kTx := (fun i => (k_gi M 460 i).getD 0, (k_gi M 443 17).getD 0)
def kClp (lo hi x : Int) : Int := if x < lo then lo else if hi < x then hi else x
def kR00 : kRu := [([(false, ((-1), [(5, (-1)), (6, 1)])), (true, ((-32), [(4, 1)]))], (1, [(0, [])])),
  ([], (0, [(0, [(5, 1)])]))]
def kR01 : kRu := [([(false, (0, [(5, 1), (6, (-1))]))], (0, [(0, [(5, 1)])])),
  ([(false, ((-97), [(4, 1)])), (false, (122, [(4, (-1))]))], (1, [(2, [])])),
  ([(false, ((-48), [(4, 1)])), (false, (57, [(4, (-1))]))], (1, [(3, [])])),
  ([], (0, [(1, [(5, 1)])]))]
def kR02 : kRu := [([(false, ((-1), [(5, (-1)), (6, 1)])), (false, ((-97), [(4, 1)])), (false, (122, [(4, (-1))]))], (1, [(2, [])])),
  ([], (0, [(0, [(5, 1)])]))]
def kR03 : kRu := [([(false, ((-1), [(5, (-1)), (6, 1)])), (false, ((-48), [(4, 1)])), (false, (57, [(4, (-1))]))], (1, [(3, [])])),
  ([], (0, [(0, [(5, 1)])]))]
def kR0 : List kRu := [kR00, kR01, kR02, kR03]
def kR10 : kRu := [([(false, (0, [(5, 1), (6, (-1))]))], (0, [(0, [])])),
  ([(false, ((-97), [(4, 1)])), (false, (122, [(4, (-1))]))], (0, [(1, [])])),
  ([(false, ((-48), [(4, 1)])), (false, (57, [(4, (-1))]))], (0, [(2, [])])),
  ([], (0, [(3, [])]))]
def kR11 : kRu := [([(false, (0, [(5, 1), (6, (-1))]))], (0, [(0, [])])),
  ([(false, ((-97), [(4, 1)])), (false, (122, [(4, (-1))]))], (1, [(2, []), (0, [(1, 1)]), (1, []), ((-96), [(4, 1)])])),
  ([(false, ((-48), [(4, 1)])), (false, (57, [(4, (-1))]))], (1, [(3, []), (0, [(1, 1)]), (1, []), ((-48), [(4, 1)])])),
  ([], (0, [(0, [(4, 1)])]))]
def kR12 : kRu := [([(false, (0, [(1, (-1)), (5, 1)])), (false, ((-9), [(2, 1)]))], (0, [(0, [])])),
  ([(false, (0, [(1, (-1)), (5, 1)]))], (0, [(0, [(3, 1)])])),
  ([(false, ((-8), [(2, 1)]))], (1, [(2, []), (0, [(1, 1)]), (9, []), (0, [])])),
  ([(false, (96, [(4, (-1))]))], (1, [(2, []), (0, [(1, 1)]), (1, [(2, 1)]), (1, [(3, 27)])])),
  ([(false, ((-123), [(4, 1)]))], (1, [(2, []), (0, [(1, 1)]), (1, [(2, 1)]), (26, [(3, 27)])])),
  ([], (1, [(2, []), (0, [(1, 1)]), (1, [(2, 1)]), ((-96), [(3, 27), (4, 1)])]))]
def kR13 : kRu := [([(false, (0, [(1, (-1)), (5, 1)]))], (0, [(0, [(3, 1)])])),
  ([(false, ((-3), [(2, 1)]))], (1, [(3, []), (0, [(1, 1)]), (3, []), (0, [(3, 1)])])),
  ([(false, (47, [(4, (-1))]))], (1, [(3, []), (0, [(1, 1)]), (1, [(2, 1)]), (0, [(3, 10)])])),
  ([(false, ((-58), [(4, 1)]))], (1, [(3, []), (0, [(1, 1)]), (1, [(2, 1)]), (9, [(3, 10)])])),
  ([], (1, [(3, []), (0, [(1, 1)]), (1, [(2, 1)]), ((-48), [(3, 10), (4, 1)])]))]
def kR14 : kRu := [([(false, (0, [(5, 1), (6, (-1))]))], (0, [((-1), [])])),
  ([(false, (3, [(1, (-1)), (5, 1)])), (false, ((-48), [(4, 1)])), (false, (57, [(4, (-1))]))], (1, [(3, []), (0, [(1, 1)]), (1, []), ((-48), [(4, 1)])])),
  ([], (0, [((-1), [])]))]
def kR1 : List kRu := [kR10, kR11, kR12, kR13, kR14]
def kR20 : kRu := [([(true, (0, [(23, 1)])), (true, ((-1), [(7, 1)]))], (0, [((-1), [])])),
  ([(true, (0, [(23, 1)]))], (0, [(0, [(26, 1)])])),
  ([(true, ((-1), [(23, 1)])), (true, ((-223456), [(24, 1)])), (true, ((-4), [(25, 1)])), (true, (0, [(6, 1)]))], (1, [(1, []), (0, []), (0, []), (1, [(3, 1)]), (0, []), (0, [])])),
  ([(true, ((-1), [(23, 1)])), (true, ((-13903), [(24, 1)])), (true, ((-3), [(25, 1)])), (true, (0, [(7, 1)]))], (1, [(2, []), (0, []), (0, []), (2, [(3, 1)]), (0, []), (0, [])])),
  ([(true, ((-1), [(23, 1)])), (true, ((-12253591), [(24, 1)])), (true, ((-5), [(25, 1)])), (true, (0, [(8, 1)]))], (1, [(7, []), (0, []), (0, []), (4, [(3, 1)]), (0, []), (0, [])])),
  ([(true, ((-1), [(23, 1)])), (true, ((-10196866), [(24, 1)])), (true, ((-5), [(25, 1)])), (true, (0, [(9, 1)]))], (1, [(3, []), (0, []), (0, []), (8, [(3, 1)]), (0, []), (0, [])])),
  ([(true, ((-1), [(23, 1)])), (true, ((-4514), [(24, 1)])), (true, ((-3), [(25, 1)])), (true, (0, [(10, 1)]))], (1, [(4, []), (0, []), (0, []), (16, [(3, 1)]), (0, []), (0, [])])),
  ([(true, ((-1), [(23, 1)])), (true, ((-365565), [(24, 1)])), (true, ((-4), [(25, 1)])), (true, (0, [(11, 1)]))], (1, [(5, []), (0, []), (0, []), (32, [(3, 1)]), (0, []), (0, [])])),
  ([(true, ((-1), [(23, 1)])), (true, ((-3488), [(24, 1)])), (true, ((-3), [(25, 1)])), (true, (0, [(12, 1)]))], (1, [(4, []), (0, []), (0, []), (64, [(3, 1)]), (0, []), (0, [])])),
  ([], (0, [(0, [(26, 1)])]))]
def kR21 : kRu := [([(true, ((-1), [(23, 1)])), (true, ((-175252482), [(24, 1)])), (true, ((-6), [(25, 1)]))], (1, [(6, []), (0, []), (0, [(2, 1)]), (0, [(3, 1)]), (0, [(4, 1)]), (0, [])])),
  ([(true, ((-1), [(23, 1)])), (true, ((-1841972), [(24, 1)])), (true, ((-5), [(25, 1)]))], (1, [(6, []), (0, []), (0, [(2, 1)]), (0, [(3, 1)]), (0, [(4, 1)]), (0, [])])),
  ([(true, ((-1), [(23, 1)])), (true, ((-230511656), [(24, 1)])), (true, ((-6), [(25, 1)]))], (1, [(6, []), (0, []), (0, [(2, 1)]), (0, [(3, 1)]), (0, [(4, 1)]), (0, [])])),
  ([(true, ((-1), [(23, 1)])), (true, ((-1277953191), [(24, 1)])), (true, ((-7), [(25, 1)]))], (1, [(6, []), (0, []), (0, [(2, 1)]), (0, [(3, 1)]), (0, [(4, 1)]), (0, [])])),
  ([(true, ((-1), [(23, 1)])), (true, ((-466094), [(24, 1)])), (true, ((-4), [(25, 1)]))], (1, [(6, []), (0, []), (0, [(2, 1)]), (0, [(3, 1)]), (0, [(4, 1)]), (0, [])])),
  ([(true, ((-1), [(23, 1)])), (true, ((-8934941513), [(24, 1)])), (true, ((-7), [(25, 1)]))], (1, [(6, []), (0, []), (0, [(2, 1)]), (0, [(3, 1)]), (0, [(4, 1)]), (0, [])])),
  ([], (0, [(0, [(26, 1)])]))]
def kR22 : kRu := [([(false, (11, [(1, (-1))])), (false, (0, [(28, 1)]))], (1, [(2, []), (1, [(1, 1)]), (0, [(2, 1)]), (0, [(3, 1)]), (0, [(4, 1)]), (0, [])])),
  ([(false, (11, [(1, (-1))])), (true, ((-1), [(23, 1)])), (true, ((-232608281), [(24, 1)])), (true, ((-6), [(25, 1)]))], (1, [(2, []), (1, [(1, 1)]), (0, [(2, 1)]), (0, [(3, 1)]), (0, [(4, 1)]), (0, [])])),
  ([(false, (11, [(1, (-1))])), (true, ((-1), [(23, 1)])), (true, ((-237307), [(24, 1)])), (true, ((-4), [(25, 1)]))], (1, [(2, []), (1, [(1, 1)]), (0, [(2, 1)]), (0, [(3, 1)]), (0, [(4, 1)]), (0, [])])),
  ([(false, (11, [(1, (-1))])), (true, ((-1), [(23, 1)])), (true, ((-21568592), [(24, 1)])), (true, ((-6), [(25, 1)]))], (1, [(2, []), (1, [(1, 1)]), (0, [(2, 1)]), (0, [(3, 1)]), (0, [(4, 1)]), (0, [])])),
  ([(false, ((-1), [(1, 1)]))], (2, [(6, []), (0, []), (0, [(2, 1)]), (0, [(3, 1)]), (0, [(4, 1)]), (0, [])])),
  ([], (0, [(0, [(26, 1)])]))]
def kR23 : kRu := [([(true, (0, [(28, 1)])), (true, (0, [(19, 1)]))], (1, [(3, []), (1, []), (0, [(2, 1)]), (0, [(3, 1)]), (0, [(4, 1)]), (1, [(5, 1)])])),
  ([(true, ((-1), [(28, 1)])), (true, (0, [(20, 1)]))], (1, [(3, []), (1, []), (0, [(2, 1)]), (0, [(3, 1)]), (0, [(4, 1)]), (2, [(5, 1)])])),
  ([(true, ((-2), [(28, 1)])), (true, (0, [(21, 1)]))], (1, [(3, []), (1, []), (0, [(2, 1)]), (0, [(3, 1)]), (0, [(4, 1)]), (4, [(5, 1)])])),
  ([(true, ((-3), [(28, 1)])), (true, (0, [(22, 1)]))], (1, [(3, []), (1, []), (0, [(2, 1)]), (0, [(3, 1)]), (0, [(4, 1)]), (8, [(5, 1)])])),
  ([(false, ((-1), [(1, 1)]))], (2, [(6, []), (0, []), (0, [(2, 1)]), (0, [(3, 1)]), (0, [(4, 1)]), (0, [])])),
  ([], (0, [(0, [(26, 1)])]))]
def kR24 : kRu := [([(false, (0, [(28, 1)]))], (1, [(6, []), (0, []), (0, [(2, 1)]), (0, [(3, 1)]), (0, [(4, 1)]), (0, [])])),
  ([], (0, [(0, [(26, 1)])]))]
def kR25 : kRu := [([(false, (0, [(28, 1)])), (false, (2, [(28, (-1))]))], (1, [(6, []), (0, []), (0, [(2, 1)]), (0, [(3, 1)]), (0, [(4, 1)]), (0, [])])),
  ([], (0, [(0, [(26, 1)])]))]
def kR26 : kRu := [([(true, ((-3), [(23, 1)])), (true, ((-59), [(24, 1)]))], (1, [(0, []), (0, []), (0, []), (0, [(3, 1)]), (0, []), (0, [])])),
  ([], (0, [(0, [(26, 1)])]))]
def kR27 : kRu := [([(true, ((-1), [(23, 1)])), (true, ((-10631), [(24, 1)])), (true, ((-3), [(25, 1)]))], (1, [(7, []), (0, []), (0, [(2, 1)]), (0, [(3, 1)]), (0, [(4, 1)]), (0, [])])),
  ([(true, ((-3), [(23, 1)])), (true, ((-40), [(24, 1)])), (false, (4, [(2, (-1))]))], (1, [(7, []), (0, []), (1, [(2, 1)]), (0, [(3, 1)]), (0, [(4, 1)]), (0, [])])),
  ([(true, ((-1), [(23, 1)])), (true, ((-118928), [(24, 1)])), (true, ((-4), [(25, 1)]))], (1, [(9, []), (0, []), (0, [(2, 1)]), (0, [(3, 1)]), (0, [(4, 1)]), (0, [])])),
  ([(true, ((-1), [(23, 1)])), (true, ((-267347), [(24, 1)])), (true, ((-4), [(25, 1)]))], (1, [(10, []), (0, []), (0, [(2, 1)]), (0, [(3, 1)]), (0, [(4, 1)]), (0, [])])),
  ([], (0, [(0, [(26, 1)])]))]
def kR28 : kRu := [([(true, ((-1), [(23, 1)])), (true, ((-1111), [(24, 1)])), (true, ((-3), [(25, 1)]))], (1, [(7, []), (0, []), (0, [(2, 1)]), (0, [(3, 1)]), (0, [(4, 1)]), (0, [])])),
  ([], (2, [(14, []), (0, []), (0, [(2, 1)]), (0, [(3, 1)]), (0, [(4, 1)]), (0, [])]))]
def kR29 : kRu := [([(false, (0, [(28, 1)])), (false, (11, [(28, (-1))]))], (1, [(8, []), (0, []), (0, [(2, 1)]), (0, [(3, 1)]), (0, [(4, 1)]), (0, [])])),
  ([], (0, [(0, [(26, 1)])]))]
def kR210 : kRu := [([(false, (0, [(28, 1)])), (false, (12, [(28, (-1))]))], (1, [(11, []), (0, []), (0, [(2, 1)]), (0, [(3, 1)]), (0, [(4, 1)]), (0, [])])),
  ([], (0, [(0, [(26, 1)])]))]
def kR211 : kRu := [([(true, ((-3), [(23, 1)])), (true, ((-40), [(24, 1)]))], (1, [(12, []), (0, []), (0, [(2, 1)]), (0, [(3, 1)]), (0, [(4, 1)]), (0, [])])),
  ([], (0, [(0, [(26, 1)])]))]
def kR212 : kRu := [([(false, (11, [(1, (-1))])), (false, (0, [(28, 1)])), (false, (11, [(28, (-1))]))], (1, [(13, []), (1, [(1, 1)]), (0, [(2, 1)]), (0, [(3, 1)]), (0, [(4, 1)]), (0, [])])),
  ([], (0, [(0, [(26, 1)])]))]
def kR213 : kRu := [([(true, ((-3), [(23, 1)])), (true, ((-41), [(24, 1)]))], (1, [(8, []), (0, []), (0, [(2, 1)]), (0, [(3, 1)]), (0, [(4, 1)]), (0, [])])),
  ([], (2, [(12, []), (0, [(1, 1)]), (0, [(2, 1)]), (0, [(3, 1)]), (0, [(4, 1)]), (0, [])]))]
def kR214 : kRu := [([(true, ((-1), [(23, 1)])), (true, ((-423), [(24, 1)])), (true, ((-2), [(25, 1)]))], (1, [(7, []), (0, []), (0, [(2, 1)]), (0, [(3, 1)]), (0, [(4, 1)]), (0, [])])),
  ([], (2, [(15, []), (0, []), (0, [(2, 1)]), (0, [(3, 1)]), (0, [(4, 1)]), (0, [])]))]
def kR215 : kRu := [([(true, (0, [(2, 1)])), (true, (0, [(13, 1)])), (true, ((-1), [(23, 1)])), (true, ((-309007594), [(24, 1)])), (true, ((-6), [(25, 1)]))], (1, [(7, []), (0, []), (0, [(2, 1)]), (0, [(3, 1)]), (1, [(4, 1)]), (0, [])])),
  ([(true, ((-1), [(2, 1)])), (true, (0, [(14, 1)])), (true, ((-1), [(23, 1)])), (true, ((-309007594), [(24, 1)])), (true, ((-6), [(25, 1)]))], (1, [(7, []), (0, []), (0, [(2, 1)]), (0, [(3, 1)]), (2, [(4, 1)]), (0, [])])),
  ([(true, ((-2), [(2, 1)])), (true, (0, [(15, 1)])), (true, ((-1), [(23, 1)])), (true, ((-309007594), [(24, 1)])), (true, ((-6), [(25, 1)]))], (1, [(7, []), (0, []), (0, [(2, 1)]), (0, [(3, 1)]), (4, [(4, 1)]), (0, [])])),
  ([(true, ((-3), [(2, 1)])), (true, (0, [(16, 1)])), (true, ((-1), [(23, 1)])), (true, ((-309007594), [(24, 1)])), (true, ((-6), [(25, 1)]))], (1, [(7, []), (0, []), (0, [(2, 1)]), (0, [(3, 1)]), (8, [(4, 1)]), (0, [])])),
  ([(true, ((-4), [(2, 1)])), (true, (0, [(17, 1)])), (true, ((-1), [(23, 1)])), (true, ((-309007594), [(24, 1)])), (true, ((-6), [(25, 1)]))], (1, [(7, []), (0, []), (0, [(2, 1)]), (0, [(3, 1)]), (16, [(4, 1)]), (0, [])])),
  ([(true, ((-5), [(2, 1)])), (true, (0, [(18, 1)])), (true, ((-1), [(23, 1)])), (true, ((-309007594), [(24, 1)])), (true, ((-6), [(25, 1)]))], (1, [(7, []), (0, []), (0, [(2, 1)]), (0, [(3, 1)]), (32, [(4, 1)]), (0, [])])),
  ([], (2, [(16, []), (0, []), (0, [(2, 1)]), (0, [(3, 1)]), (0, [(4, 1)]), (0, [])]))]
def kR216 : kRu := [([(true, (0, [(2, 1)]))], (2, [(6, []), (0, []), (0, []), (0, [(3, 1)]), (0, []), (0, [])])),
  ([(true, ((-1), [(2, 1)])), (true, ((-3), [(23, 1)])), (true, ((-41), [(24, 1)]))], (1, [(8, []), (0, []), (0, []), (0, [(3, 1)]), (0, [(4, 1), (14, (-2))]), (0, [])])),
  ([(true, ((-2), [(2, 1)])), (true, ((-3), [(23, 1)])), (true, ((-41), [(24, 1)]))], (1, [(8, []), (0, []), (1, []), (0, [(3, 1)]), (0, [(4, 1), (15, (-4))]), (0, [])])),
  ([(true, ((-3), [(2, 1)])), (true, ((-3), [(23, 1)])), (true, ((-41), [(24, 1)]))], (1, [(8, []), (0, []), (2, []), (0, [(3, 1)]), (0, [(4, 1), (16, (-8))]), (0, [])])),
  ([(true, ((-4), [(2, 1)])), (true, ((-3), [(23, 1)])), (true, ((-41), [(24, 1)]))], (1, [(8, []), (0, []), (3, []), (0, [(3, 1)]), (0, [(4, 1), (17, (-16))]), (0, [])])),
  ([(true, ((-5), [(2, 1)])), (true, ((-3), [(23, 1)])), (true, ((-41), [(24, 1)]))], (1, [(8, []), (0, []), (4, []), (0, [(3, 1)]), (0, [(4, 1), (18, (-32))]), (0, [])])),
  ([], (0, [(0, [(26, 1)])]))]
def kR2 : List kRu := [kR20, kR21, kR22, kR23, kR24, kR25, kR26, kR27, kR28, kR29, kR210, kR211, kR212, kR213, kR214, kR215, kR216]
def kBe (T : kTx) (ws : List Int) (p : Nat) : Nat → Int := fun i => cond (Nat.beq i 4) (T.1 p) (cond (Nat.beq i 5) (p : Int) (cond (Nat.beq i 6) T.2 (ws.getD i 0)))
/-- one byte: what comes of it; true: places, false: values -/
def kBs (T : kTx) (z : Bool) (ws : List Int) (p : Nat) : Nat × List Int := kRuv (kBe T ws p) (0, [0]) ((cond z kR0 kR1).getD (ws.getD 0 0).toNat [])
def kBc (z : Bool) (p : Nat) (x : Int) : Int := cond z (kClp (p : Int) 400 x) (kClp (-1) 549755813888 x)
def kBr (T : kTx) (z : Bool) : Nat → List Int → Nat → Int
  | 0, _, _ => cond z 400 0
  | f + 1, ws, p => cond (Nat.beq (kBs T z ws p).1 0) (kBc z p ((kBs T z ws p).2.getD 0 0)) (kBr T z f (kBs T z ws p).2 (p + 1))
def kBv (T : kTx) (z : Bool) (ws : List Int) (p : Nat) : Int := kBr T z (401 - p) ws p
/-- a token: what its rules may ask -/
def kMe (T : kTx) (ws : List Int) (p : Nat) : Nat → Int := fun i => cond (Nat.blt i 6) (ws.getD i 0) (cond (Nat.blt i 13) (ws.getD 3 0 / 2 ^ (i - 6) % 2) (cond (Nat.blt i 19) (ws.getD 4 0 / 2 ^ (i - 13) % 2) (cond (Nat.blt i 23) (ws.getD 5 0 / 2 ^ (i - 19) % 2) (cond (Nat.beq i 23) (kBv T false [0, 0, 0, 0] p) (cond (Nat.beq i 24) (kBv T false [1, kBv T true [1] p, 0, 0] p) (cond (Nat.beq i 25) (kBv T true [1] p - (p : Int)) (cond (Nat.beq i 26) (p : Int) (cond (Nat.beq i 27) T.2 (kBv T false [4, kBv T true [1] p, 0, 0] p)))))))))
def kMs (T : kTx) (ws : List Int) (p : Nat) : Nat × List Int := kRuv (kMe T ws p) (0, [(p : Int)]) (kR2.getD (ws.getD 0 0).toNat [])
/-- the token behind -/
def kMn (T : kTx) (p : Nat) : Nat := (kBv T true [0] (kBv T true [1] p).toNat).toNat
def kMr (T : kTx) : Nat → List Int → Nat → Option Int
  | 0, _, _ => none
  | f + 1, ws, p => cond (Nat.beq (kMs T ws p).1 0) (some (kClp (-1) 400 ((kMs T ws p).2.getD 0 0))) (kMr T f (kMs T ws p).2 (cond (Nat.beq (kMs T ws p).1 1) (kMn T p) p))
theorem kMr_ex (T : kTx) (ws : List Int) (p : Nat) : ∃ v : Int, (∃ f, kMr T f ws p = some v) ∨ ((∀ f, kMr T f ws p = none) ∧ v = 0) := by
  by_cases h : ∃ f v, kMr T f ws p = some v
  · obtain ⟨f, v, h⟩ := h
    exact ⟨v, Or.inl ⟨f, h⟩⟩
  · refine ⟨0, Or.inr ⟨fun f => ?_, rfl⟩⟩
    cases e : kMr T f ws p with
    | none => rfl
    | some v => exact (h ⟨f, v, e⟩).elim
def kMv (T : kTx) (ws : List Int) (p : Nat) : Int := Classical.choose (kMr_ex T ws p)
theorem kMv_sp (T : kTx) (ws : List Int) (p : Nat) : (∃ f, kMr T f ws p = some (kMv T ws p)) ∨ ((∀ f, kMr T f ws p = none) ∧ kMv T ws p = 0) := Classical.choose_spec (kMr_ex T ws p)
/-- 0: places, 1: values, 2: the fault of what is parsed from here -/
def kTV (T : kTx) (i : Nat) (ws : List Int) (p : Nat) : Int := cond (Nat.beq i 0) (kBv T true ws p) (cond (Nat.beq i 1) (kBv T false ws p) (kMv T ws p))
def kTrd (i : Nat) : List Int := cond (Nat.beq i 0) [] (cond (Nat.beq i 1) [8, 65536, 512] [32, 16, 8, 128, 64])
def kTof (i : Nat) : Int := cond (Nat.beq i 1) 4722366482869645213696 0
def kTd (i : Nat) (Q : Int) : List Int := kFps (kTrd i) (Q - kTof i)
/-- a byte as the class's row holds it; the byte x of a long; functions of longs -/
def kSgb (b : Int) : Int := if b ≤ 127 then b else b - 256
def kByt (x : Nat) (v : Int) : Int := v % 18446744073709551616 / 256 ^ x % 256
def kLf (Q s : Int) : Int := cond (decide (Q % 8 = 0)) (Int64.ofInt s <<< ((32 : Int32).toInt64 &&& 63)).toInt (cond (decide (Q % 8 = 1)) (Int64.ofInt s &&& Int64.ofInt 4294967295).toInt (cond (decide (Q % 8 = 2)) (Int64.ofInt (Q / 8 - 9223372036854775808) ||| Int64.ofInt s).toInt (kByt (Q / 8).toNat s)))
def kPtx (M : pM) (p s v : Int) : Prop := match (p % 8).toNat with
  | 0 => ∃ k : Nat, (k : Int) = s ∧ kTV (kTt M) 0 (kTd 0 (p / 8)) k = v
  | 1 => ∃ k : Nat, (k : Int) = s ∧ kTV (kTt M) 1 (kTd 1 (p / 8)) k = v
  | 2 => ∃ k : Nat, (k : Int) = s ∧ kTV (kTt M) 2 (kTd 2 (p / 8)) k = v
  | 3 => kMv (kTt M) [0, 0, 0, 0, 0, 0] (kBv (kTt M) true [0] 0).toNat = v
  | 4 => kLf (p / 8) s = v
  | 5 => ∀ i : Nat, (i : Int) < s → ∃ b : Int, 0 ≤ b ∧ b ≤ 255 ∧ k_gi M 364 i = some (kSgb b) ∧ k_gi M 460 i = some b
  | 6 => ∀ i : Nat, (i : Int) < s → k_gi M 364 (p / 8 + i).toNat = some (kSgb (kByt i v))
  | _ => False
theorem kPtx_at {M : pM} {p s v : Int} {i : Nat} (hi : (p % 8).toNat = i) (h3 : i < 3) : kPtx M p s v ↔ ∃ k : Nat, (k : Int) = s ∧ kTV (kTt M) i (kTd i (p / 8)) k = v := by
  unfold kPtx
  rw [hi]
  match i, h3 with
  | 0, _ => exact Iff.rfl
  | 1, _ => exact Iff.rfl
  | 2, _ => exact Iff.rfl
theorem kTt.fr {M M' : pM} (h1 : ∀ n : Nat, k_gi M' 460 n = k_gi M 460 n) (h2 : k_gi M' 443 17 = k_gi M 443 17) : kTt M' = kTt M := by
  unfold kTt
  rw [h2]
  congr 1
  funext i
  rw [h1]
theorem kPtx_3 {M : pM} {p s v : Int} (h : (p % 8).toNat = 3) : kPtx M p s v ↔ kMv (kTt M) [0, 0, 0, 0, 0, 0] (kBv (kTt M) true [0] 0).toNat = v := by
  unfold kPtx
  rw [h]
  exact Iff.rfl
theorem kPtx_4 {M : pM} {p s v : Int} (h : (p % 8).toNat = 4) : kPtx M p s v ↔ kLf (p / 8) s = v := by
  unfold kPtx
  rw [h]
  exact Iff.rfl
theorem kPtx_5 {M : pM} {p s v : Int} (h : (p % 8).toNat = 5) : kPtx M p s v ↔ ∀ i : Nat, (i : Int) < s → ∃ b : Int, 0 ≤ b ∧ b ≤ 255 ∧ k_gi M 364 i = some (kSgb b) ∧ k_gi M 460 i = some b := by
  unfold kPtx
  rw [h]
  exact Iff.rfl
theorem kPtx_6 {M : pM} {p s v : Int} (h : (p % 8).toNat = 6) : kPtx M p s v ↔ ∀ i : Nat, (i : Int) < s → k_gi M 364 (p / 8 + i).toNat = some (kSgb (kByt i v)) := by
  unfold kPtx
  rw [h]
  exact Iff.rfl
theorem kPtx_7 {M : pM} {p s v : Int} (h : (p % 8).toNat = 7) : ¬ kPtx M p s v := by
  unfold kPtx
  rw [h]
  exact fun e => e
/-- what stays where what it speaks of does -/
theorem kPtx.fr {M M' : pM} {p s v : Int} (h : kPtx M p s v) (h1 : (p % 8).toNat < 4 ∨ (p % 8).toNat = 5 → ∀ n : Nat, k_gi M' 460 n = k_gi M 460 n) (h2 : (p % 8).toNat < 4 → k_gi M' 443 17 = k_gi M 443 17) (h3 : (p % 8).toNat = 5 ∨ (p % 8).toNat = 6 → ∀ n : Nat, k_gi M' 364 n = k_gi M 364 n) : kPtx M' p s v := by
  have h8 : (p % 8).toNat < 8 := by omega
  by_cases c3 : (p % 8).toNat < 3
  · have h := (kPtx_at rfl c3).mp h
    refine (kPtx_at rfl c3).mpr ?_
    rw [kTt.fr (h1 (Or.inl (by omega))) (h2 (by omega))]
    exact h
  · by_cases c4 : (p % 8).toNat = 3
    · have h := (kPtx_3 c4).mp h
      refine (kPtx_3 c4).mpr ?_
      rw [kTt.fr (h1 (Or.inl (by omega))) (h2 (by omega))]
      exact h
    · by_cases c5 : (p % 8).toNat = 4
      · exact (kPtx_4 c5).mpr ((kPtx_4 c5).mp h)
      · by_cases c6 : (p % 8).toNat = 5
        · refine (kPtx_5 c6).mpr fun j hj => ?_
          obtain ⟨b, b1, b2, b3, b4⟩ := (kPtx_5 c6).mp h j hj
          exact ⟨b, b1, b2, by rw [h3 (Or.inl c6)]; exact b3, by rw [h1 (Or.inr c6)]; exact b4⟩
        · by_cases c7 : (p % 8).toNat = 6
          · refine (kPtx_6 c7).mpr fun j hj => ?_
            rw [h3 (Or.inr c7)]
            exact (kPtx_6 c7).mp h j hj
          · exact (kPtx_7 (by omega) h).elim
/-- how long the script is, and what it holds -/
abbrev kN : Type := Nat × (Nat → Int)
/-- 11: what the script holds at a place -/
def kPh (N : kN) (i : Nat) (M : pM) (p s v : Int) : Prop := match i with
  | 1 => ∀ r : Int, p ≤ r → r ≤ v → 0 ≤ r → r ≤ 36 → kInt M (403 + r) s (v - r)
  | 2 => ∀ r : Int, p ≤ r → r ≤ v → kInt M 471 (41 * r + s) (v - r)
  | 3 => ∃ t k : Nat, (k : Int) = s ∧ kZi M t = some (k, v)
  | 4 => ∃ k : Nat, (k : Int) = s ∧ kWt M 21 23 k v
  | 5 => ∃ k : Nat, (k : Int) = s ∧ kWt M 24 24 k v
  | 6 => kSx M 453 0 450 0 s v
  | 7 => ∃ k : Nat, (k : Int) = s ∧ kCn M p k v
  | 8 => kSx M 477 740 477 300 s v
  | 9 => kRl M p s (fun _ => True)
  | 10 => kRl M p s (fun i => i ≠ v)
  | 11 => ∃ j : Nat, (j : Int) = s ∧ N.2 j = v
  | 12 => s % p = v
  | 13 => kFp M p s v
  | 14 => True
  | 15 => kPtx M p s v
  | _ => False
def kPhi (N : kN) (M : pM) (c s v : Int) : Prop := ∃ (i : Nat) (p : Int), c = -((i : Int) + 16 * p) ∧ i < 16 ∧ kPh N i M p s v
theorem kPhi_of {N : kN} {M : pM} {s v p : Int} {i : Nat} {c : Int} (hc : c = -((i : Int) + 16 * p)) (hi : i < 16) (h : kPh N i M p s v) : kPhi N M c s v := ⟨i, p, hc, hi, h⟩
theorem kPhi_to {N : kN} {M : pM} {s v p : Int} {i : Nat} {c : Int} (hc : c = -((i : Int) + 16 * p)) (hi : i < 16) (h : kPhi N M c s v) : kPh N i M p s v := by
  obtain ⟨i', p', e, h1, h2⟩ := h
  have : i' = i := by omega
  subst this
  have : p' = p := by omega
  subst this
  exact h2
/-- the cells that it speaks of -/
def kFt (i a : Nat) : Prop := match i with
  | 1 => 403 ≤ a ∧ a ≤ 439
  | 2 => a = 471
  | 3 => a = 461
  | 4 => a = 462
  | 5 => a = 462
  | 6 => a = 453 ∨ a = 450
  | 7 => a = 457
  | 8 => a = 477
  | 9 => True
  | 10 => True
  | 13 => True
  | 15 => True
  | _ => False
theorem kInt.fr {M M' : pM} {a j x : Int} (h : kInt M a j x) (hs : ∀ n : Nat, k_gi M' a.toNat n = k_gi M a.toNat n) : kInt M' a j x := ⟨h.1, h.2.1, by rw [hs]; exact h.2.2⟩
theorem kZs.fr {M M' : pM} {q r : Nat × Int} (h : kZs M q = some r) (hs : ∀ n : Nat, n < r.1 → k_gi M' 461 n = k_gi M 461 n) : q.1 < r.1 ∧ kZs M' q = some r := by
  unfold kZs at h
  split at h
  · cases h
  · rename_i x hx
    have key : ∀ z : Nat, q.1 < r.1 → (hz : kZs M' q = (match k_gi M' 461 q.1 with
      | none => none
      | some x => if 0 ≤ x ∧ x ≤ 11 ∧ q.2 ≤ 198 then some (q.1 + 1, q.2 + 1) else
        if x = 20 ∧ 1 ≤ q.2 then some (q.1 + 1, q.2) else
        if 21 ≤ x ∧ x ≤ 23 ∧ 2 ≤ q.2 then some (q.1 + 1, q.2 - 1) else
        if x = 30 ∧ q.2 ≤ 198 then (match k_gi M' 461 (q.1 + 2) with
          | none => none
          | some y => if 0 ≤ y ∧ y ≤ 397 then some (q.1 + 3 + y.toNat, q.2 + 1) else none) else none)) → k_gi M' 461 q.1 = some x := fun _ hl _ => by rw [hs _ hl]; exact hx
    by_cases c1 : 0 ≤ x ∧ x ≤ 11 ∧ q.2 ≤ 198
    · rw [if_pos c1] at h
      cases h
      refine ⟨Nat.lt_succ_self _, ?_⟩
      have e := key 0 (Nat.lt_succ_self _) rfl
      unfold kZs
      rw [e]
      exact if_pos c1
    · rw [if_neg c1] at h
      by_cases c2 : x = 20 ∧ 1 ≤ q.2
      · rw [if_pos c2] at h
        cases h
        refine ⟨Nat.lt_succ_self _, ?_⟩
        have e := key 0 (Nat.lt_succ_self _) rfl
        unfold kZs
        rw [e]
        exact (if_neg c1).trans (if_pos c2)
      · rw [if_neg c2] at h
        by_cases c3 : 21 ≤ x ∧ x ≤ 23 ∧ 2 ≤ q.2
        · rw [if_pos c3] at h
          cases h
          refine ⟨Nat.lt_succ_self _, ?_⟩
          have e := key 0 (Nat.lt_succ_self _) rfl
          unfold kZs
          rw [e]
          exact (if_neg c1).trans ((if_neg c2).trans (if_pos c3))
        · rw [if_neg c3] at h
          by_cases c4 : x = 30 ∧ q.2 ≤ 198
          · rw [if_pos c4] at h
            split at h
            · cases h
            · rename_i y hy
              by_cases c5 : 0 ≤ y ∧ y ≤ 397
              · rw [if_pos c5] at h
                cases h
                have hl : q.1 < q.1 + 3 + y.toNat := by omega
                refine ⟨hl, ?_⟩
                have e := key 0 hl rfl
                have e2 : k_gi M' 461 (q.1 + 2) = some y := by
                  rw [hs _ (by show q.1 + 2 < q.1 + 3 + y.toNat; omega)]
                  exact hy
                unfold kZs
                rw [e]
                refine (if_neg c1).trans ((if_neg c2).trans ((if_neg c3).trans ((if_pos c4).trans ?_)))
                rw [e2]
                exact if_pos c5
              · rw [if_neg c5] at h
                cases h
          · rw [if_neg c4] at h
            cases h
theorem kZi.fr {M M' : pM} : ∀ {t : Nat} {r : Nat × Int}, kZi M t = some r → (∀ n : Nat, n < r.1 → k_gi M' 461 n = k_gi M 461 n) → kZi M' t = some r
  | 0, _, h, _ => h
  | t + 1, r, h, hs => by
    have h : (kZi M t).bind (kZs M) = some r := h
    cases hq : kZi M t with
    | none =>
      rw [hq] at h
      cases h
    | some q =>
      rw [hq] at h
      have h : kZs M q = some r := h
      obtain ⟨hl, h2⟩ := kZs.fr h hs
      show (kZi M' t).bind (kZs M') = some r
      rw [kZi.fr hq (fun n hn => hs n (Nat.lt_trans hn hl))]
      exact h2
theorem kWt.fr {M M' : pM} {lo hi : Int} : ∀ {k : Nat} {a : Int}, kWt M lo hi k a → (∀ n : Nat, n < k → k_gi M' 462 n = k_gi M 462 n) → kWt M' lo hi k a
  | 0, _, h, _ => h
  | k + 1, a, h, hs => by
    obtain ⟨x, h1, h2, h3⟩ := h
    refine ⟨x, by rw [hs k (Nat.lt_succ_self k)]; exact h1, h2, ?_⟩
    rcases h3 with ⟨h3, h4, h5⟩ | ⟨h3, h5⟩
    · exact Or.inl ⟨h3, h4, h5.fr fun n hn => hs n (Nat.lt_succ_of_lt hn)⟩
    · exact Or.inr ⟨h3, h5.fr fun n hn => hs n (Nat.lt_succ_of_lt hn)⟩
theorem kCn.fr {M M' : pM} {p : Int} : ∀ {k : Nat} {a : Int}, kCn M p k a → (∀ n : Nat, k_gi M' 457 n = k_gi M 457 n) → kCn M' p k a
  | 0, _, h, _ => h
  | k + 1, a, h, hs => by
    obtain ⟨x, h1, h3⟩ := h
    refine ⟨x, by rw [hs]; exact h1, ?_⟩
    rcases h3 with ⟨h3, h5⟩ | ⟨h3, h5⟩
    · exact Or.inl ⟨h3, h5.fr hs⟩
    · exact Or.inr ⟨h3, h5.fr hs⟩
theorem kSx.fr {M M' : pM} {L l0 V v0 s v : Int} (h : kSx M L l0 V v0 s v) (h1 : ∀ n : Nat, k_gi M' L.toNat n = k_gi M L.toNat n) (h2 : ∀ n : Nat, k_gi M' V.toNat n = k_gi M V.toNat n) : kSx M' L l0 V v0 s v := by
  refine ⟨fun l hl hl2 => ?_, fun k hk hk2 => ?_⟩
  · obtain ⟨e, x, y, z, a1, a2, a3, a4, a5, a6, a7, a8⟩ := h.1 l hl hl2
    exact ⟨e, x, y, z, a1.fr h1, a2, a3, a4.fr h1, a5.fr h2, a6, a7.fr h1, a8⟩
  · obtain ⟨y, a1, a2⟩ := h.2 k hk hk2
    exact ⟨y, a1.fr h2, a2⟩
theorem kRl.fr {M M' : pM} {p s : Int} {b : Int → Prop} (h : kRl M p s b) (hs : ∀ a n : Nat, k_gi M' a n = k_gi M a n) : kRl M' p s b := by
  obtain ⟨r, h1, h2, h3, h4⟩ := h
  refine ⟨r, h1, h2, h3, fun i a1 a2 a3 => ?_⟩
  obtain ⟨x, e, f⟩ := h4 i a1 a2 a3
  exact ⟨x, e.fr (hs _), f.fr (hs _)⟩
theorem kPh.fr {N : kN} {i : Nat} {M M' : pM} {p s v : Int} (h : kPh N i M p s v) (hs : ∀ a : Nat, kFt i a → ∀ n : Nat, k_gi M' a n = k_gi M a n) : kPh N i M' p s v := by
  match i, h, hs with
  | 1, h, hs =>
    intro r h1 h2 h3 h4
    have k : kInt M (403 + r) s (v - r) := h r h1 h2 h3 h4
    exact k.fr (hs _ ⟨by omega, by omega⟩)
  | 2, h, hs =>
    intro r h1 h2
    have k : kInt M 471 (41 * r + s) (v - r) := h r h1 h2
    exact k.fr (hs 471 rfl)
  | 3, h, hs =>
    obtain ⟨t, k, h1, h2⟩ := h
    exact ⟨t, k, h1, kZi.fr h2 fun n _ => hs 461 rfl n⟩
  | 4, h, hs =>
    obtain ⟨k, h1, h2⟩ := h
    exact ⟨k, h1, h2.fr fun n _ => hs 462 rfl n⟩
  | 5, h, hs =>
    obtain ⟨k, h1, h2⟩ := h
    exact ⟨k, h1, h2.fr fun n _ => hs 462 rfl n⟩
  | 6, h, hs => exact kSx.fr (s := s) (v := v) h (hs 453 (Or.inl rfl)) (hs 450 (Or.inr rfl))
  | 7, h, hs =>
    obtain ⟨k, h1, h2⟩ := h
    exact ⟨k, h1, h2.fr fun n => hs 457 rfl n⟩
  | 8, h, hs => exact kSx.fr (s := s) (v := v) h (hs 477 rfl) (hs 477 rfl)
  | 9, h, hs => exact kRl.fr (b := fun _ => True) h (fun a n => hs a trivial n)
  | 10, h, hs => exact kRl.fr (b := fun i => i ≠ v) h (fun a n => hs a trivial n)
  | 11, h, _ => exact h
  | 12, h, _ => exact h
  | 13, h, hs =>
    obtain ⟨F, h1, k, h2, h3⟩ := h
    exact ⟨F, h1, k, h2, (kFv.fr (fun n => hs _ trivial n) k).trans h3⟩
  | 14, h, _ => exact h
  | 0, h, _ => exact h.elim
  | 15, h, hs => exact kPtx.fr h (fun _ n => hs 460 trivial n) (fun _ => hs 443 trivial 17) (fun _ n => hs 364 trivial n)
  | i + 16, h, _ => exact h.elim
end
