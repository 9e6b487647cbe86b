noncomputable section
/-! versions of forms: what follows, by steps -/
section KVL
variable {M M' : pM} {f d t n : Int} {k : Nat}
theorem kVla_succ (M : pM) (f d : Int) (k : Nat) : kVla M f d (k + 1) = cond (kVib M f d k) (k : Int) (kVla M f d k) := rfl
theorem kVla_rg (M : pM) (f d : Int) : ∀ k : Nat, -1 ≤ kVla M f d k ∧ kVla M f d k < (k : Int)
  | 0 => ⟨Int.le_refl _, by show (-1 : Int) < 0; omega⟩
  | k + 1 => by
    rw [kVla_succ]
    have ih := kVla_rg M f d k
    cases kVib M f d k with
    | true =>
      rw [cond_true]
      omega
    | false =>
      rw [cond_false]
      omega
/-- what it says of the rows -/
theorem kVla_is (M : pM) (f d : Int) : ∀ (k a : Nat), kVla M f d k = (a : Int) → a < k ∧ kVib M f d a = true ∧ ∀ w : Nat, a < w → w < k → kVib M f d w = false
  | 0, a, h => by
    have h : (-1 : Int) = (a : Int) := h
    omega
  | k + 1, a, h => by
    rw [kVla_succ] at h
    cases hk : kVib M f d k with
    | true =>
      rw [hk, cond_true] at h
      have : a = k := by omega
      subst this
      exact ⟨by omega, hk, fun w h1 h2 => by omega⟩
    | false =>
      rw [hk, cond_false] at h
      obtain ⟨h1, h2, h3⟩ := kVla_is M f d k a h
      refine ⟨by omega, h2, fun w w1 w2 => ?_⟩
      by_cases hw : w = k
      · subst hw
        exact hk
      · exact h3 w w1 (by omega)
theorem kVla_none (M : pM) (f d : Int) : ∀ k : Nat, kVla M f d k = -1 ↔ ∀ w : Nat, w < k → kVib M f d w = false
  | 0 => ⟨fun _ w hw => by omega, fun _ => rfl⟩
  | k + 1 => by
    rw [kVla_succ]
    cases hk : kVib M f d k with
    | true =>
      rw [cond_true]
      refine ⟨fun h => by omega, fun h => ?_⟩
      have := h k (by omega)
      rw [hk] at this
      cases this
    | false =>
      rw [cond_false, kVla_none M f d k]
      refine ⟨fun h w hw => ?_, fun h w hw => h w (by omega)⟩
      by_cases e : w = k
      · subst e
        exact hk
      · exact h w (by omega)
/-- it stays what it is: no other of the form is in force -/
theorem kVla_up {n' : Int} (hi : kViv M 450 0 n' t) {a e : Nat} (h : kVla M f d e = (a : Int)) : ∀ k : Nat, e ≤ k → (k : Int) ≤ n' → kVla M f d k = (a : Int)
  | k, h1, h2 => by
    obtain ⟨a1, a2, a3⟩ := kVla_is M f d e a h
    obtain ⟨b1, b2, b3⟩ := kVib_iff.mp a2
    induction k with
    | zero =>
      have : e = 0 := by omega
      subst this
      exact h
    | succ k ih =>
      by_cases he : e = k + 1
      · subst he
        exact h
      · rw [kVla_succ, ih (by omega) (by omega)]
        cases hk : kVib M f d k with
        | false => rfl
        | true =>
          exfalso
          obtain ⟨c1, c2, c3⟩ := kVib_iff.mp hk
          have := hi.2.1 a k (by omega) (by omega) (b1.trans c1.symm)
          omega
/-- the row is of the form and in force -/
theorem kVib_yes {i : Nat} {x y u : Int} (h0 : kVg M 450 0 i 0 = x) (h7 : kVg M 450 0 i 7 = y) (h8 : kVg M 450 0 i 8 = u) (e1 : x = f) (e2 : y ≤ d) (e3 : u < 0 ∨ d < u) : kVib M f d i = true := kVib_iff.mpr ⟨h0.trans e1, by omega, by omega⟩
theorem kVib_no {i : Nat} (h : ¬ (kVg M 450 0 i 0 = f ∧ kVg M 450 0 i 7 ≤ d ∧ (kVg M 450 0 i 8 < 0 ∨ d < kVg M 450 0 i 8))) : kVib M f d i = false := by
  cases e : kVib M f d i with
  | false => rfl
  | true => exact (h (kVib_iff.mp e)).elim
/-- the row a of form f, in force on day t, is ended on it -/
def kVend (M M' : pM) (a : Nat) (t : Int) : Prop := k_gi M' 450 (0 + (26 * a + 8)) = some t ∧ (∀ i : Nat, i ≠ a → k_gi M' 450 (0 + (26 * i + 8)) = k_gi M 450 (0 + (26 * i + 8))) ∧ (∀ i : Nat, k_gi M' 450 (0 + (26 * i + 0)) = k_gi M 450 (0 + (26 * i + 0))) ∧ ∀ i : Nat, k_gi M' 450 (0 + (26 * i + 7)) = k_gi M 450 (0 + (26 * i + 7))
theorem kVend.new {a : Nat} (h : kVend M M' a t) : k_gi M' 450 (0 + (26 * a + 8)) = some t := h.1
theorem kVend.oth {a : Nat} (h : kVend M M' a t) : ∀ i : Nat, i ≠ a → k_gi M' 450 (0 + (26 * i + 8)) = k_gi M 450 (0 + (26 * i + 8)) := h.2.1
theorem kVend.c0 {a : Nat} (h : kVend M M' a t) : ∀ i : Nat, k_gi M' 450 (0 + (26 * i + 0)) = k_gi M 450 (0 + (26 * i + 0)) := h.2.2.1
theorem kVend.c7 {a : Nat} (h : kVend M M' a t) : ∀ i : Nat, k_gi M' 450 (0 + (26 * i + 7)) = k_gi M 450 (0 + (26 * i + 7)) := h.2.2.2
theorem kVend.g8 {a : Nat} (h : kVend M M' a t) : kVg M' 450 0 a 8 = t := by
  unfold kVg
  rw [h.new]
  rfl
theorem kVend.iv {a : Nat} (h : kVend M M' a t) (h0 : 0 ≤ t) (hi : kViv M 450 0 n d) (hl : kVib M f t a = true) : kViv M' 450 0 n d := by
  obtain ⟨i1, i2, i3⟩ := hi
  refine ⟨i1, fun v w hv hw e => ?_, fun v hv => ?_⟩
  · rw [kVg.ag (h.c0 v), kVg.ag (h.c0 w)] at e
    have o := i2 v w hv hw e
    rw [kVg.ag (h.c7 w)]
    by_cases ev : v = a
    · subst ev
      rw [h.g8]
      obtain ⟨-, -, b3⟩ := kVib_iff.mp hl
      omega
    · rw [kVg.ag (h.oth v ev)]
      exact o
  · rw [kVg.ag (h.c7 v)]
    exact i3 v hv
theorem kVend.la {a : Nat} (h : kVend M M' a t) (h0 : 0 ≤ t) (hi : kViv M 450 0 n d) (hk : (k : Int) ≤ n) (hl : kVla M f t k = (a : Int)) : kVla M' f t k = -1 := by
  obtain ⟨a1, a2, a3⟩ := kVla_is M f t k a hl
  obtain ⟨b1, b2, b3⟩ := kVib_iff.mp a2
  refine (kVla_none M' f t k).mpr fun w hw => ?_
  by_cases e : w = a
  · subst e
    refine kVib_no fun hh => ?_
    rw [h.g8] at hh
    obtain ⟨-, -, h3⟩ := hh
    omega
  · have same : kVib M' f t w = kVib M f t w := by
      unfold kVib
      rw [kVg.ag (h.c0 w), kVg.ag (h.c7 w), kVg.ag (h.oth w e)]
    rw [same]
    by_cases g : a < w
    · exact a3 w g hw
    · refine kVib_no fun hh => ?_
      obtain ⟨c1, c2, c3⟩ := hh
      have := hi.2.1 w a (by omega) (by omega) (c1.trans b1.symm)
      omega
/-- a new row, where none of the form is in force -/
theorem kViv.new (hi : kViv M 450 0 (k : Int) t) (hk : k < 16) (h0 : kVg M 450 0 k 0 = f) (h7 : kVg M 450 0 k 7 = t) (hl : kVla M f t k = -1) : kViv M 450 0 ((k : Int) + 1) t := by
  obtain ⟨i1, i2, i3⟩ := hi
  refine ⟨by omega, fun v w hv hw e => ?_, fun v hv => ?_⟩
  · by_cases ew : w = k
    · subst ew
      have nb := (kVla_none M f t w).mp hl v hv
      have tv := i3 v (by omega)
      rw [h7]
      by_cases g : 0 ≤ kVg M 450 0 v 8 ∧ kVg M 450 0 v 8 ≤ t
      · exact g
      · have : kVib M f t v = true := kVib_iff.mpr ⟨e.trans h0, tv, by omega⟩
        rw [nb] at this
        cases this
    · exact i2 v w hv (by omega) e
  · by_cases ev : v = k
    · subst ev
      omega
    · exact i3 v (by omega)
theorem kViv.day {t' : Int} (hi : kViv M 450 0 n t) (h : t ≤ t') : kViv M 450 0 n t' := ⟨hi.1, hi.2.1, fun v hv => Int.le_trans (hi.2.2 v hv) h⟩
/-- a row alike: no row ended, or another -/
theorem kVeq.to {X : Nat × Nat × Nat} {V v0 i : Nat} {l l' t t' : Int} (h : kVeq M X V v0 l t i) (h1 : (i : Int) ≠ l) (h2 : (i : Int) ≠ l') : kVeq M X V v0 l' t' i := by
  obtain ⟨f, a, u, y, e1, e2, e3, e4, e5, e6, e7⟩ := h
  rw [decide_eq_false h1, cond_false] at e7
  exact ⟨f, a, u, y, e1, e2, e3, e4, e5, e6, by rw [decide_eq_false h2, cond_false]; exact e7⟩
theorem kVfs.row {X : Nat × Nat × Nat} {V v0 D : Nat} (h : kVfs M X V v0 D n) {l t' : Int} {i : Nat} (hi : i < 16) (hl : (i : Int) ≠ l) : kVeq M X V v0 l t' i := (h.1 i hi).to (by omega) hl
/-- the states of 5 -/
theorem kVpe.fs (h : kVpe M n 0) : kVfs M kXn 450 0 444 n := by
  rcases h with ⟨-, h⟩ | ⟨g, f, t, k, e, -, -, -, -, -, h⟩
  · exact h
  · rcases h with h | h | ⟨h, -⟩ <;> omega
theorem kVpe.pd {g : Int} (h : kVpe M n (g + 4 * f)) (h1 : 1 ≤ g) (h3 : g ≤ 3) : ∃ (t : Int) (k : Nat), (k : Int) = n ∧ kVpd M g f t k := by
  rcases h with ⟨h, -⟩ | ⟨g', f', t, k, e, hn, hp⟩
  · omega
  · have hg : 1 ≤ g' ∧ g' ≤ 3 := by
      rcases hp.2.2.2.2 with h | h | ⟨h, -⟩ <;> omega
    have e1 : g' = g := by omega
    have e2 : f' = f := by omega
    subst e1
    subst e2
    exact ⟨t, k, hn, hp⟩
/-- 2, and none in force: as it was -/
theorem kVpd.fs (h : kVpd M 2 f t k) (hl : kVla M f t k = -1) : kVfs M kXn 450 0 444 (k : Int) := by
  obtain ⟨h1, h2, h3, h4, -⟩ := h
  refine ⟨fun i hi => ?_, t, h1, h3⟩
  have := h4 i hi (Or.inl rfl)
  rw [hl] at this
  exact this.to (by omega) (by omega)
/-- as it was, and none in force: 2 -/
theorem kVfs.pd {n : Int} (h : kVfs M kXn 450 0 444 n) (hk : (k : Int) = n) (ht : k_gi M 444 0 = some t) (h0 : 0 ≤ t) (hl : kVla M f t k = -1) : kVpd M 2 f t k := by
  subst hk
  obtain ⟨h1, t', h2, h3⟩ := h
  rw [ht] at h2
  cases h2
  refine ⟨ht, h0, h3, fun i hi _ => ?_, Or.inl rfl⟩
  rw [hl]
  exact (h1 i hi).to (by omega) (by omega)
/-- the class's row a is ended -/
theorem kVfs.pdx {n : Int} {a : Nat} (h : kVfs M kXn 450 0 444 n) (hk : (k : Int) = n) (ht : k_gi M 444 0 = some t) (h0 : 0 ≤ t) (hl : kVla M f t k = (a : Int)) (hn : k_gi M' 60 a = some t) (ho : ∀ i : Nat, i ≠ a → k_gi M' 60 i = k_gi M 60 i) (hx : ∀ c j : Nat, c ≠ 60 → k_gi M' c j = k_gi M c j) : kVpd M' 2 f t k := by
  subst hk
  obtain ⟨h1, t', h2, h3⟩ := h
  rw [ht] at h2
  cases h2
  have av : kAgV M M' 450 0 := fun i _ => ⟨hx 450 _ (by omega), hx 450 _ (by omega), hx 450 _ (by omega)⟩
  refine ⟨(hx 444 0 (by omega)).trans ht, h0, h3.ag av, fun i hi _ => ?_, Or.inl rfl⟩
  rw [kVla.ag av k h3.le, hl]
  obtain ⟨f', a', u, y, e1, e2, e3, e4, e5, e6, e7⟩ := h1 i hi
  have x1 : k_gi M' 18 i = some f' := (hx 18 i (by omega)).trans e1
  have x3 : k_gi M' 59 i = some a' := (hx 59 i (by omega)).trans e3
  have x2 := (av i hi).1.trans e2
  have x4 := (av i hi).2.1.trans e4
  have x6 := (av i hi).2.2.trans e6
  by_cases e : i = a
  · subst e
    exact ⟨f', a', t, y, x1, x2, x3, x4, hn, x6, Or.inl ⟨by rw [decide_eq_true (rfl : (i : Int) = (i : Int)), cond_true], h0⟩⟩
  · refine ⟨f', a', u, y, x1, x2, x3, x4, (ho i e).trans e5, x6, ?_⟩
    rw [decide_eq_false (show ¬ (i : Int) = -1 by omega), cond_false] at e7
    rw [decide_eq_false (show ¬ (i : Int) = (a : Int) by omega), cond_false]
    exact e7
/-- the class's row k is any -/
theorem kVpd.any {g : Int} (h : kVpd M g f t k) (hg : g = 2 ∨ g = 3) (hx : ∀ i : Nat, i ≠ k → k_gi M' 18 i = k_gi M 18 i ∧ k_gi M' 59 i = k_gi M 59 i ∧ k_gi M' 60 i = k_gi M 60 i) (hv : kAgV M M' 450 0) (hd : k_gi M' 444 0 = k_gi M 444 0) : kVpd M' 3 f t k := by
  obtain ⟨h1, h2, h3, h4, -⟩ := h
  refine ⟨hd.trans h1, h2, h3.ag hv, fun i hi hg => ?_, Or.inr (Or.inl rfl)⟩
  have ne : i ≠ k := by
    rcases hg with hg | hg
    · omega
    · exact hg
  rw [kVla.ag hv k h3.le]
  exact (h4 i hi (Or.inr ne)).ag (hx i ne) (hv i hi)
theorem kVpd.row (h : kVpd M 3 f t k) (h0 : k_gi M 18 k = some f) (h7 : k_gi M 59 k = some t) (h8 : k_gi M 60 k = some (-3)) : kVpd M 1 f t k := by
  obtain ⟨h1, h2, h3, h4, -⟩ := h
  refine ⟨h1, h2, h3, fun i hi hg => h4 i hi (Or.inr ?_), Or.inr (Or.inr ⟨rfl, h0, h7, h8⟩)⟩
  rcases hg with hg | hg
  · omega
  · exact hg
/-- the reference's row a is ended -/
theorem kVpd.clo {g : Int} {a : Nat} (h : kVpd M g f t k) (hl : kVla M f t k = (a : Int)) (he : kVend M M' a t) (hx : ∀ c j : Nat, c ≠ 450 → k_gi M' c j = k_gi M c j) : kVpd M' g f t k := by
  obtain ⟨h1, h2, h3, h4, h5⟩ := h
  obtain ⟨a1, a2, -⟩ := kVla_is M f t k a hl
  refine ⟨(hx 444 0 (by omega)).trans h1, h2, he.iv h2 h3 a2, fun i hi hg => ?_, ?_⟩
  · rw [he.la h2 h3 (Int.le_refl _) hl]
    have o := h4 i hi hg
    rw [hl] at o
    obtain ⟨f', a', u, y, e1, e2, e3, e4, e5, e6, e7⟩ := o
    have x1 : k_gi M' 18 i = some f' := (hx 18 i (by omega)).trans e1
    have x3 : k_gi M' 59 i = some a' := (hx 59 i (by omega)).trans e3
    have x5 : k_gi M' 60 i = some u := (hx 60 i (by omega)).trans e5
    have x2 := (he.c0 i).trans e2
    have x4 := (he.c7 i).trans e4
    by_cases e : i = a
    · subst e
      rw [decide_eq_true (rfl : (i : Int) = (i : Int)), cond_true] at e7
      refine ⟨f', a', u, t, x1, x2, x3, x4, x5, he.new, ?_⟩
      rw [decide_eq_false (show ¬ (i : Int) = -1 by omega), cond_false]
      exact e7
    · rw [decide_eq_false (show ¬ (i : Int) = (a : Int) by omega), cond_false] at e7
      refine ⟨f', a', u, y, x1, x2, x3, x4, x5, (he.oth i e).trans e6, ?_⟩
      rw [decide_eq_false (show ¬ (i : Int) = -1 by omega), cond_false]
      exact e7
  · rcases h5 with h5 | h5 | ⟨h5, h6, h7, h8⟩
    · exact Or.inl h5
    · exact Or.inr (Or.inl h5)
    · exact Or.inr (Or.inr ⟨h5, (hx 18 k (by omega)).trans h6, (hx 59 k (by omega)).trans h7, (hx 60 k (by omega)).trans h8⟩)
/-- the reference's row k changes -/
theorem kVla.ot (hv : ∀ i : Nat, i < k → k_gi M' 450 (0 + (26 * i + 0)) = k_gi M 450 (0 + (26 * i + 0)) ∧ k_gi M' 450 (0 + (26 * i + 7)) = k_gi M 450 (0 + (26 * i + 7)) ∧ k_gi M' 450 (0 + (26 * i + 8)) = k_gi M 450 (0 + (26 * i + 8))) : ∀ e : Nat, e ≤ k → kVla M' f d e = kVla M f d e
  | 0, _ => rfl
  | e + 1, he => by
    rw [kVla_succ, kVla_succ, kVla.ot hv e (by omega)]
    obtain ⟨v0, v7, v8⟩ := hv e (by omega)
    have : kVib M' f d e = kVib M f d e := by
      unfold kVib
      rw [kVg.ag v0, kVg.ag v7, kVg.ag v8]
    rw [this]
theorem kViv.ot (hv : ∀ i : Nat, i < k → k_gi M' 450 (0 + (26 * i + 0)) = k_gi M 450 (0 + (26 * i + 0)) ∧ k_gi M' 450 (0 + (26 * i + 7)) = k_gi M 450 (0 + (26 * i + 7)) ∧ k_gi M' 450 (0 + (26 * i + 8)) = k_gi M 450 (0 + (26 * i + 8))) (h : kViv M 450 0 (k : Int) t) : kViv M' 450 0 (k : Int) t := by
  obtain ⟨h1, h2, h3⟩ := h
  refine ⟨h1, fun v w a1 a2 e => ?_, fun v a1 => ?_⟩
  · obtain ⟨v0, v7, v8⟩ := hv v (by omega)
    obtain ⟨w0, w7, w8⟩ := hv w (by omega)
    rw [kVg.ag v0, kVg.ag w0] at e
    rw [kVg.ag v8, kVg.ag w7]
    exact h2 v w a1 a2 e
  · obtain ⟨-, v7, -⟩ := hv v (by omega)
    rw [kVg.ag v7]
    exact h3 v a1
theorem kVpd.ot (h : kVpd M 1 f t k) (hx : ∀ c j : Nat, c ≠ 450 → k_gi M' c j = k_gi M c j) (hv : ∀ i : Nat, i ≠ k → k_gi M' 450 (0 + (26 * i + 0)) = k_gi M 450 (0 + (26 * i + 0)) ∧ k_gi M' 450 (0 + (26 * i + 7)) = k_gi M 450 (0 + (26 * i + 7)) ∧ k_gi M' 450 (0 + (26 * i + 8)) = k_gi M 450 (0 + (26 * i + 8))) : kVpd M' 1 f t k := by
  obtain ⟨h1, h2, h3, h4, h5⟩ := h
  have hv' : ∀ i : Nat, i < k → k_gi M' 450 (0 + (26 * i + 0)) = k_gi M 450 (0 + (26 * i + 0)) ∧ k_gi M' 450 (0 + (26 * i + 7)) = k_gi M 450 (0 + (26 * i + 7)) ∧ k_gi M' 450 (0 + (26 * i + 8)) = k_gi M 450 (0 + (26 * i + 8)) := fun i hi => hv i (by omega)
  refine ⟨(hx 444 0 (by omega)).trans h1, h2, h3.ot hv', fun i hi hg => ?_, ?_⟩
  · have ne : i ≠ k := by
      rcases hg with hg | hg
      · omega
      · exact hg
    rw [kVla.ot hv' k (Nat.le_refl _)]
    exact (h4 i hi (Or.inr ne)).ag ⟨hx 18 i (by omega), hx 59 i (by omega), hx 60 i (by omega)⟩ (hv i ne)
  · rcases h5 with h5 | h5 | ⟨h5, h6, h7, h8⟩
    · omega
    · omega
    · exact Or.inr (Or.inr ⟨rfl, (hx 18 k (by omega)).trans h6, (hx 59 k (by omega)).trans h7, (hx 60 k (by omega)).trans h8⟩)
/-- the reference's row k is as the class's -/
theorem kVpd.new (h : kVpd M 1 f t k) (hk : k < 16) (hl : kVla M f t k = -1) (h0 : k_gi M 450 (0 + (26 * k + 0)) = some f) (h7 : k_gi M 450 (0 + (26 * k + 7)) = some t) (h8 : k_gi M 450 (0 + (26 * k + 8)) = some (-1)) : kVfs M kXn 450 0 444 ((k : Int) + 1) := by
  obtain ⟨h1, h2, h3, h4, h5⟩ := h
  refine ⟨fun i hi => ?_, t, h1, h3.new hk (f := f) ?_ ?_ hl⟩
  · by_cases e : i = k
    · subst e
      rcases h5 with h5 | h5 | ⟨-, g0, g7, g8⟩
      · omega
      · omega
      · refine ⟨f, t, -3, -1, g0, h0, g7, h7, g8, h8, Or.inr ⟨rfl, ?_⟩⟩
        rw [decide_eq_false (show ¬ (i : Int) = -1 by omega), cond_false]
    · have o := h4 i hi (Or.inr e)
      rw [hl] at o
      exact o.to (by omega) (by omega)
  · unfold kVg
    rw [h0]
    rfl
  · unfold kVg
    rw [h7]
    rfl
/-- both moved: the other's -/
theorem kVfs.mv {X : Nat × Nat × Nat} {V v0 D V' v0' D' : Nat} {n : Int} (h : ∀ i : Nat, i < 16 → kVeq M X V v0 (-1) 0 i) {Y : Nat × Nat × Nat} (hi : kVfs M Y V' v0' D' n) (hv : ∀ i o : Nat, i < 16 → o < 26 → k_gi M V (v0 + (26 * i + o)) = k_gi M V' (v0' + (26 * i + o))) (hd : k_gi M D 0 = k_gi M D' 0) : kVfs M X V v0 D n := by
  obtain ⟨-, t, h2, i1, i2, i3⟩ := hi
  have g : ∀ i o : Nat, i < 16 → o < 26 → kVg M V v0 i o = kVg M V' v0' i o := fun i o a b => by
    unfold kVg
    rw [hv i o a b]
  refine ⟨h, t, hd.trans h2, i1, fun v w a b e => ?_, fun v a => ?_⟩
  · rw [g v 0 (by omega) (by omega), g w 0 (by omega) (by omega)] at e
    rw [g v 8 (by omega) (by omega), g w 7 (by omega) (by omega)]
    exact i2 v w a b e
  · rw [g v 7 (by omega) (by omega)]
    exact i3 v a
end KVL
end
