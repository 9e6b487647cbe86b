noncomputable section
/-! what may be known of cells beyond bounds: kept in the cache under negative cells -/
def kNum (w : Value) (x : Int) : Prop := (∃ y : Int32, w = .int y ∧ y.toInt = x) ∨ ∃ y : Int64, w = .long y ∧ y.toInt = x
/-- the number that lies there -/
def k_gi (M : pM) (a j : Nat) : Option Int := match M[a]? with
  | some c => (match c.2[j]? with
    | some (.int y) => some y.toInt
    | some (.long y) => some y.toInt
    | _ => none)
  | none => none
def kInt (M : pM) (a j x : Int) : Prop := 0 ≤ a ∧ 0 ≤ j ∧ k_gi M a.toNat j.toNat = some x
theorem kInt.uq {M : pM} {a j x y : Int} (h : kInt M a j x) (k : kInt M a j y) : x = y := Option.some.inj (h.2.2.symm.trans k.2.2)
theorem k_gi_some {M : pM} {a j : Nat} {x : Int} (h : k_gi M a j = some x) : ∃ (c : pC) (w : Value), M[a]? = some c ∧ c.2[j]? = some w ∧ kNum w x := by
  unfold k_gi at h
  split at h
  · rename_i c hc
    split at h
    · rename_i y hy
      cases h
      exact ⟨c, _, hc, hy, Or.inl ⟨y, rfl, rfl⟩⟩
    · rename_i y hy
      cases h
      exact ⟨c, _, hc, hy, Or.inr ⟨y, rfl, rfl⟩⟩
    · cases h
  · cases h
theorem k_gi_of {M : pM} {a j : Nat} {x : Int} {c : pC} {w : Value} (h1 : M[a]? = some c) (h2 : c.2[j]? = some w) (h3 : kNum w x) : k_gi M a j = some x := by
  unfold k_gi
  rw [h1]
  dsimp only
  rw [h2]
  rcases h3 with ⟨y, rfl, rfl⟩ | ⟨y, rfl, rfl⟩ <;> rfl
/-- 3: the signs read from the left: where it stands, how many numbers lie ready -/
def kZs (M : pM) (q : Nat × Int) : Option (Nat × Int) := match k_gi M 461 q.1 with
  | none => none
  | some x => if 0 ≤ x ∧ x ≤ 11 ∧ q.2 ≤ 198 then some (q.1 + 1, q.2 + 1) else
    if x = 20 ∧ 1 ≤ q.2 then some (q.1 + 1, q.2) else
    if 21 ≤ x ∧ x ≤ 23 ∧ 2 ≤ q.2 then some (q.1 + 1, q.2 - 1) else
    if x = 30 ∧ q.2 ≤ 198 then (match k_gi M 461 (q.1 + 2) with
      | none => none
      | some y => if 0 ≤ y ∧ y ≤ 397 then some (q.1 + 3 + y.toNat, q.2 + 1) else none) else none
def kZi (M : pM) : Nat → Option (Nat × Int)
  | 0 => some (0, 0)
  | t + 1 => (kZi M t).bind (kZs M)
/-- 4, 5: how many of the waits are of a kind -/
def kWt (M : pM) (lo hi : Int) : Nat → Int → Prop
  | 0, a => a = 0
  | k + 1, a => ∃ x, k_gi M 462 k = some x ∧ (20 ≤ x ∧ x ≤ 24) ∧ ((lo ≤ x ∧ x ≤ hi ∧ kWt M lo hi k (a - 1)) ∨ (¬ (lo ≤ x ∧ x ≤ hi) ∧ kWt M lo hi k a))
/-- 6, 8: the letters before s are of versions before v, have no more seals than these ask, and elder ones set in -/
def kSx (M : pM) (L l0 V v0 s v : Int) : Prop := (∀ l : Int, 0 ≤ l → l < s → ∃ e x y z, kInt M L (l0 + (12 * l + 1)) e ∧ 0 ≤ e ∧ e < v ∧ kInt M L (l0 + (12 * l + 6)) x ∧ kInt M V (v0 + (26 * e + 3)) y ∧ x ≤ y ∧ kInt M L (l0 + (12 * l + 8)) z ∧ z < l) ∧ ∀ k : Int, 0 ≤ k → k < 16 → ∃ y, kInt M V (v0 + (26 * k + 3)) y ∧ 0 ≤ y
/-- 7: how many entries are of a roll -/
def kCn (M : pM) (p : Int) : Nat → Int → Prop
  | 0, n => n = 0
  | k + 1, n => ∃ x, k_gi M 457 (2 * k) = some x ∧ ((x = p ∧ kCn M p k (n - 1)) ∨ (x ≠ p ∧ kCn M p k n))
/-- 9, 10: rows that hold the same: a cell, its first slot, the stride; the other's; how many at most -/
abbrev kRw : Type := (Int × Int × Int) × (Int × Int × Int) × Int
def kRel : List kRw := [((450, 0, 1), (477, 300, 1), 416), ((453, 0, 1), (477, 740, 1), 288), ((445, 0, 1), (477, 10, 1), 8), ((446, 0, 1), (477, 18, 1), 10), ((447, 0, 1), (477, 28, 1), 48), ((459, 0, 1), (477, 2202, 1), 4), ((8, 0, 1), (445, 0, 2), 4), ((189, 0, 1), (477, 10, 2), 4), ((8, 0, 1), (477, 10, 2), 4), ((189, 0, 1), (445, 0, 2), 4), ((10, 0, 1), (446, 0, 1), 10), ((191, 0, 1), (477, 18, 1), 10), ((10, 0, 1), (477, 18, 1), 10), ((191, 0, 1), (446, 0, 1), 10), ((81, 0, 1), (447, 0, 3), 16), ((262, 0, 1), (477, 28, 3), 16), ((81, 0, 1), (477, 28, 3), 16), ((262, 0, 1), (447, 0, 3), 16), ((82, 0, 1), (447, 1, 3), 16), ((263, 0, 1), (477, 29, 3), 16), ((82, 0, 1), (477, 29, 3), 16), ((263, 0, 1), (447, 1, 3), 16), ((83, 0, 1), (447, 2, 3), 16), ((264, 0, 1), (477, 30, 3), 16), ((83, 0, 1), (477, 30, 3), 16), ((264, 0, 1), (447, 2, 3), 16), ((6, 0, 1), (459, 0, 1), 4), ((187, 0, 1), (477, 2202, 1), 4), ((6, 0, 1), (477, 2202, 1), 4), ((187, 0, 1), (459, 0, 1), 4)]
def kSl (t : Int × Int × Int) (i : Int) : Int := t.2.1 + t.2.2 * i
def kPq (M : pM) (t u : Int × Int × Int) (i : Int) : Prop := ∃ x, kInt M t.1 (kSl t i) x ∧ kInt M u.1 (kSl u i) x
theorem kPq.symm {M : pM} {t u : Int × Int × Int} {i : Int} (h : kPq M t u i) : kPq M u t i := by
  obtain ⟨x, a, b⟩ := h
  exact ⟨x, b, a⟩
def kRl (M : pM) (p s : Int) (b : Int → Prop) : Prop := ∃ r, 0 ≤ p ∧ kRel[p.toNat]? = some r ∧ s ≤ r.2.2 ∧ ∀ i : Int, 0 ≤ i → i < s → b i → kPq M r.1 r.2.1 i
/-- 13: folds over rows: a cell, slots a row, rows at most; least, most, start; the parameters' radices; rules: tests (true: is 0; false: is not below 0), value; behind them: as it was. Words over 0: the value so far, 1: the row, 2 and on: what the row holds, 8 and on: the parameters -/
abbrev kFo : Type := (Int × Int × Int) × (Int × Int × Int) × List Int × List (List (Bool × kE) × kE)
def kFold : List kFo := []
def kFoff : Int := 16777216
def kFenv (M : pM) (F : kFo) (ps : List Int) (k : Nat) (v : Int) : Nat → Int := fun i => cond (Nat.beq i 0) v (cond (Nat.beq i 1) (k : Int) (cond (Nat.blt i 8) ((k_gi M F.1.1.toNat (F.1.2.1 * (k : Int) + ((i - 2 : Nat) : Int)).toNat).getD 0) (ps.getD (i - 8) 0)))
def kFt1 (ρ : Nat → Int) (t : Bool × kE) : Bool := cond t.1 (decide (k_ev ρ t.2 = 0)) (decide (0 ≤ k_ev ρ t.2))
def kFru (ρ : Nat → Int) : List (List (Bool × kE) × kE) → Int
  | [] => ρ 0
  | r :: t => cond (r.1.all (kFt1 ρ)) (k_ev ρ r.2) (kFru ρ t)
def kFv (M : pM) (F : kFo) (ps : List Int) : Nat → Int
  | 0 => F.2.1.2.2
  | k + 1 => kFru (kFenv M F ps k (kFv M F ps k)) F.2.2.2
def kFps : List Int → Int → List Int
  | [], Q => [Q]
  | r :: t, Q => Q % r :: kFps t (Q / r)
def kFp (M : pM) (p s v : Int) : Prop := ∃ F, kFold[(p % 8).toNat]? = some F ∧ ∃ k : Nat, (k : Int) = s ∧ kFv M F (kFps F.2.2.1 (p / 8 - kFoff)) k = v
theorem kFv.fr {M M' : pM} {F : kFo} {ps : List Int} (hs : ∀ n : Nat, k_gi M' F.1.1.toNat n = k_gi M F.1.1.toNat n) : ∀ k : Nat, kFv M' F ps k = kFv M F ps k
  | 0 => rfl
  | k + 1 => by
    show kFru (kFenv M' F ps k (kFv M' F ps k)) F.2.2.2 = kFru (kFenv M F ps k (kFv M F ps k)) F.2.2.2
    have : kFenv M' F ps k (kFv M' F ps k) = kFenv M F ps k (kFv M F ps k) := by
      rw [kFv.fr hs k]
      funext i
      unfold kFenv
      rw [hs]
    rw [this]
/-- how long the script is, and what it holds -/
abbrev kN : Type := Nat × (Nat → Int)
/-- 11: what the script holds at a place -/
def kPh (N : kN) (i : Nat) (M : pM) (p s v : Int) : Prop := match i with
  | 1 => ∀ r : Int, p ≤ r → r ≤ v → 0 ≤ r → r ≤ 36 → kInt M (403 + r) s (v - r)
  | 2 => ∀ r : Int, p ≤ r → r ≤ v → kInt M 471 (41 * r + s) (v - r)
  | 3 => ∃ t k : Nat, (k : Int) = s ∧ kZi M t = some (k, v)
  | 4 => ∃ k : Nat, (k : Int) = s ∧ kWt M 21 23 k v
  | 5 => ∃ k : Nat, (k : Int) = s ∧ kWt M 24 24 k v
  | 6 => kSx M 453 0 450 0 s v
  | 7 => ∃ k : Nat, (k : Int) = s ∧ kCn M p k v
  | 8 => kSx M 477 740 477 300 s v
  | 9 => kRl M p s (fun _ => True)
  | 10 => kRl M p s (fun i => i ≠ v)
  | 11 => ∃ j : Nat, (j : Int) = s ∧ N.2 j = v
  | 12 => s % p = v
  | 13 => kFp M p s v
  | 14 => True
  | _ => False
def kPhi (N : kN) (M : pM) (c s v : Int) : Prop := ∃ (i : Nat) (p : Int), c = -((i : Int) + 16 * p) ∧ i < 16 ∧ kPh N i M p s v
theorem kPhi_of {N : kN} {M : pM} {s v p : Int} {i : Nat} {c : Int} (hc : c = -((i : Int) + 16 * p)) (hi : i < 16) (h : kPh N i M p s v) : kPhi N M c s v := ⟨i, p, hc, hi, h⟩
theorem kPhi_to {N : kN} {M : pM} {s v p : Int} {i : Nat} {c : Int} (hc : c = -((i : Int) + 16 * p)) (hi : i < 16) (h : kPhi N M c s v) : kPh N i M p s v := by
  obtain ⟨i', p', e, h1, h2⟩ := h
  have : i' = i := by omega
  subst this
  have : p' = p := by omega
  subst this
  exact h2
/-- the cells that it speaks of -/
def kFt (i a : Nat) : Prop := match i with
  | 1 => 403 ≤ a ∧ a ≤ 439
  | 2 => a = 471
  | 3 => a = 461
  | 4 => a = 462
  | 5 => a = 462
  | 6 => a = 453 ∨ a = 450
  | 7 => a = 457
  | 8 => a = 477
  | 9 => True
  | 10 => True
  | 13 => True
  | _ => False
theorem kInt.fr {M M' : pM} {a j x : Int} (h : kInt M a j x) (hs : ∀ n : Nat, k_gi M' a.toNat n = k_gi M a.toNat n) : kInt M' a j x := ⟨h.1, h.2.1, by rw [hs]; exact h.2.2⟩
theorem kZs.fr {M M' : pM} {q r : Nat × Int} (h : kZs M q = some r) (hs : ∀ n : Nat, n < r.1 → k_gi M' 461 n = k_gi M 461 n) : q.1 < r.1 ∧ kZs M' q = some r := by
  unfold kZs at h
  split at h
  · cases h
  · rename_i x hx
    have key : ∀ z : Nat, q.1 < r.1 → (hz : kZs M' q = (match k_gi M' 461 q.1 with
      | none => none
      | some x => if 0 ≤ x ∧ x ≤ 11 ∧ q.2 ≤ 198 then some (q.1 + 1, q.2 + 1) else
        if x = 20 ∧ 1 ≤ q.2 then some (q.1 + 1, q.2) else
        if 21 ≤ x ∧ x ≤ 23 ∧ 2 ≤ q.2 then some (q.1 + 1, q.2 - 1) else
        if x = 30 ∧ q.2 ≤ 198 then (match k_gi M' 461 (q.1 + 2) with
          | none => none
          | some y => if 0 ≤ y ∧ y ≤ 397 then some (q.1 + 3 + y.toNat, q.2 + 1) else none) else none)) → k_gi M' 461 q.1 = some x := fun _ hl _ => by rw [hs _ hl]; exact hx
    by_cases c1 : 0 ≤ x ∧ x ≤ 11 ∧ q.2 ≤ 198
    · rw [if_pos c1] at h
      cases h
      refine ⟨Nat.lt_succ_self _, ?_⟩
      have e := key 0 (Nat.lt_succ_self _) rfl
      unfold kZs
      rw [e]
      exact if_pos c1
    · rw [if_neg c1] at h
      by_cases c2 : x = 20 ∧ 1 ≤ q.2
      · rw [if_pos c2] at h
        cases h
        refine ⟨Nat.lt_succ_self _, ?_⟩
        have e := key 0 (Nat.lt_succ_self _) rfl
        unfold kZs
        rw [e]
        exact (if_neg c1).trans (if_pos c2)
      · rw [if_neg c2] at h
        by_cases c3 : 21 ≤ x ∧ x ≤ 23 ∧ 2 ≤ q.2
        · rw [if_pos c3] at h
          cases h
          refine ⟨Nat.lt_succ_self _, ?_⟩
          have e := key 0 (Nat.lt_succ_self _) rfl
          unfold kZs
          rw [e]
          exact (if_neg c1).trans ((if_neg c2).trans (if_pos c3))
        · rw [if_neg c3] at h
          by_cases c4 : x = 30 ∧ q.2 ≤ 198
          · rw [if_pos c4] at h
            split at h
            · cases h
            · rename_i y hy
              by_cases c5 : 0 ≤ y ∧ y ≤ 397
              · rw [if_pos c5] at h
                cases h
                have hl : q.1 < q.1 + 3 + y.toNat := by omega
                refine ⟨hl, ?_⟩
                have e := key 0 hl rfl
                have e2 : k_gi M' 461 (q.1 + 2) = some y := by
                  rw [hs _ (by show q.1 + 2 < q.1 + 3 + y.toNat; omega)]
                  exact hy
                unfold kZs
                rw [e]
                refine (if_neg c1).trans ((if_neg c2).trans ((if_neg c3).trans ((if_pos c4).trans ?_)))
                rw [e2]
                exact if_pos c5
              · rw [if_neg c5] at h
                cases h
          · rw [if_neg c4] at h
            cases h
theorem kZi.fr {M M' : pM} : ∀ {t : Nat} {r : Nat × Int}, kZi M t = some r → (∀ n : Nat, n < r.1 → k_gi M' 461 n = k_gi M 461 n) → kZi M' t = some r
  | 0, _, h, _ => h
  | t + 1, r, h, hs => by
    have h : (kZi M t).bind (kZs M) = some r := h
    cases hq : kZi M t with
    | none =>
      rw [hq] at h
      cases h
    | some q =>
      rw [hq] at h
      have h : kZs M q = some r := h
      obtain ⟨hl, h2⟩ := kZs.fr h hs
      show (kZi M' t).bind (kZs M') = some r
      rw [kZi.fr hq (fun n hn => hs n (Nat.lt_trans hn hl))]
      exact h2
theorem kWt.fr {M M' : pM} {lo hi : Int} : ∀ {k : Nat} {a : Int}, kWt M lo hi k a → (∀ n : Nat, n < k → k_gi M' 462 n = k_gi M 462 n) → kWt M' lo hi k a
  | 0, _, h, _ => h
  | k + 1, a, h, hs => by
    obtain ⟨x, h1, h2, h3⟩ := h
    refine ⟨x, by rw [hs k (Nat.lt_succ_self k)]; exact h1, h2, ?_⟩
    rcases h3 with ⟨h3, h4, h5⟩ | ⟨h3, h5⟩
    · exact Or.inl ⟨h3, h4, h5.fr fun n hn => hs n (Nat.lt_succ_of_lt hn)⟩
    · exact Or.inr ⟨h3, h5.fr fun n hn => hs n (Nat.lt_succ_of_lt hn)⟩
theorem kCn.fr {M M' : pM} {p : Int} : ∀ {k : Nat} {a : Int}, kCn M p k a → (∀ n : Nat, k_gi M' 457 n = k_gi M 457 n) → kCn M' p k a
  | 0, _, h, _ => h
  | k + 1, a, h, hs => by
    obtain ⟨x, h1, h3⟩ := h
    refine ⟨x, by rw [hs]; exact h1, ?_⟩
    rcases h3 with ⟨h3, h5⟩ | ⟨h3, h5⟩
    · exact Or.inl ⟨h3, h5.fr hs⟩
    · exact Or.inr ⟨h3, h5.fr hs⟩
theorem kSx.fr {M M' : pM} {L l0 V v0 s v : Int} (h : kSx M L l0 V v0 s v) (h1 : ∀ n : Nat, k_gi M' L.toNat n = k_gi M L.toNat n) (h2 : ∀ n : Nat, k_gi M' V.toNat n = k_gi M V.toNat n) : kSx M' L l0 V v0 s v := by
  refine ⟨fun l hl hl2 => ?_, fun k hk hk2 => ?_⟩
  · obtain ⟨e, x, y, z, a1, a2, a3, a4, a5, a6, a7, a8⟩ := h.1 l hl hl2
    exact ⟨e, x, y, z, a1.fr h1, a2, a3, a4.fr h1, a5.fr h2, a6, a7.fr h1, a8⟩
  · obtain ⟨y, a1, a2⟩ := h.2 k hk hk2
    exact ⟨y, a1.fr h2, a2⟩
theorem kRl.fr {M M' : pM} {p s : Int} {b : Int → Prop} (h : kRl M p s b) (hs : ∀ a n : Nat, k_gi M' a n = k_gi M a n) : kRl M' p s b := by
  obtain ⟨r, h1, h2, h3, h4⟩ := h
  refine ⟨r, h1, h2, h3, fun i a1 a2 a3 => ?_⟩
  obtain ⟨x, e, f⟩ := h4 i a1 a2 a3
  exact ⟨x, e.fr (hs _), f.fr (hs _)⟩
theorem kPh.fr {N : kN} {i : Nat} {M M' : pM} {p s v : Int} (h : kPh N i M p s v) (hs : ∀ a : Nat, kFt i a → ∀ n : Nat, k_gi M' a n = k_gi M a n) : kPh N i M' p s v := by
  match i, h, hs with
  | 1, h, hs =>
    intro r h1 h2 h3 h4
    have k : kInt M (403 + r) s (v - r) := h r h1 h2 h3 h4
    exact k.fr (hs _ ⟨by omega, by omega⟩)
  | 2, h, hs =>
    intro r h1 h2
    have k : kInt M 471 (41 * r + s) (v - r) := h r h1 h2
    exact k.fr (hs 471 rfl)
  | 3, h, hs =>
    obtain ⟨t, k, h1, h2⟩ := h
    exact ⟨t, k, h1, kZi.fr h2 fun n _ => hs 461 rfl n⟩
  | 4, h, hs =>
    obtain ⟨k, h1, h2⟩ := h
    exact ⟨k, h1, h2.fr fun n _ => hs 462 rfl n⟩
  | 5, h, hs =>
    obtain ⟨k, h1, h2⟩ := h
    exact ⟨k, h1, h2.fr fun n _ => hs 462 rfl n⟩
  | 6, h, hs => exact kSx.fr (s := s) (v := v) h (hs 453 (Or.inl rfl)) (hs 450 (Or.inr rfl))
  | 7, h, hs =>
    obtain ⟨k, h1, h2⟩ := h
    exact ⟨k, h1, h2.fr fun n => hs 457 rfl n⟩
  | 8, h, hs => exact kSx.fr (s := s) (v := v) h (hs 477 rfl) (hs 477 rfl)
  | 9, h, hs => exact kRl.fr (b := fun _ => True) h (fun a n => hs a trivial n)
  | 10, h, hs => exact kRl.fr (b := fun i => i ≠ v) h (fun a n => hs a trivial n)
  | 11, h, _ => exact h
  | 12, h, _ => exact h
  | 13, h, hs =>
    obtain ⟨F, h1, k, h2, h3⟩ := h
    exact ⟨F, h1, k, h2, (kFv.fr (fun n => hs _ trivial n) k).trans h3⟩
  | 14, h, _ => exact h
  | 0, h, _ => exact h.elim
  | i + 15, h, _ => exact h.elim
end
