noncomputable section
def kFms (M : pM) (Q s v : Int) : Prop := cond (decide (6 ≤ Q % 8)) (kTab M ((Q / 8 % 8).toNat + cond (decide (Q % 8 = 7)) 8 0) (Q / 8 / 8) s v) (kFmt M (Q % 8).toNat (Q / 8 % 8) (Q / 8 / 8) s v)
/-- what stays where what it speaks of does -/
def kAgV (M M' : pM) (V v0 : Nat) : Prop := ∀ i : Nat, i < 16 → k_gi M' V (v0 + (26 * i + 0)) = k_gi M V (v0 + (26 * i + 0)) ∧ k_gi M' V (v0 + (26 * i + 7)) = k_gi M V (v0 + (26 * i + 7)) ∧ k_gi M' V (v0 + (26 * i + 8)) = k_gi M V (v0 + (26 * i + 8))
def kAgX (M M' : pM) (X : Nat × Nat × Nat) : Prop := ∀ i : Nat, i < 16 → k_gi M' X.1 i = k_gi M X.1 i ∧ k_gi M' X.2.1 i = k_gi M X.2.1 i ∧ k_gi M' X.2.2 i = k_gi M X.2.2 i
theorem kVg.ag {M M' : pM} {V v0 i o : Nat} (h : k_gi M' V (v0 + (26 * i + o)) = k_gi M V (v0 + (26 * i + o))) : kVg M' V v0 i o = kVg M V v0 i o := by
  unfold kVg
  rw [h]
theorem kVib.ag {M M' : pM} {f d : Int} {i : Nat} (h : kAgV M M' 450 0) (hi : i < 16) : kVib M' f d i = kVib M f d i := by
  obtain ⟨h0, h7, h8⟩ := h i hi
  unfold kVib
  rw [kVg.ag h0, kVg.ag h7, kVg.ag h8]
theorem kVla.ag {M M' : pM} {f d : Int} (h : kAgV M M' 450 0) : ∀ k : Nat, k ≤ 16 → kVla M' f d k = kVla M f d k
  | 0, _ => rfl
  | k + 1, hk => by
    show cond (kVib M' f d k) (k : Int) (kVla M' f d k) = cond (kVib M f d k) (k : Int) (kVla M f d k)
    rw [kVib.ag h (by omega), kVla.ag h k (by omega)]
theorem kViv.ag {M M' : pM} {V v0 : Nat} {n t : Int} (h : kAgV M M' V v0) (hi : kViv M V v0 n t) : kViv M' V v0 n t := by
  obtain ⟨h1, h2, h3⟩ := hi
  refine ⟨h1, fun v w hv hw e => ?_, fun v hv => ?_⟩
  · obtain ⟨v0', v7, v8⟩ := h v (by omega)
    obtain ⟨w0, w7, w8⟩ := h w (by omega)
    rw [kVg.ag v0', kVg.ag w0] at e
    rw [kVg.ag v8, kVg.ag w7]
    exact h2 v w hv hw e
  · obtain ⟨-, v7, -⟩ := h v (by omega)
    rw [kVg.ag v7]
    exact h3 v hv
theorem kVeq.ag {M M' : pM} {X : Nat × Nat × Nat} {V v0 : Nat} {l t : Int} {i : Nat} (hx : k_gi M' X.1 i = k_gi M X.1 i ∧ k_gi M' X.2.1 i = k_gi M X.2.1 i ∧ k_gi M' X.2.2 i = k_gi M X.2.2 i) (hv : k_gi M' V (v0 + (26 * i + 0)) = k_gi M V (v0 + (26 * i + 0)) ∧ k_gi M' V (v0 + (26 * i + 7)) = k_gi M V (v0 + (26 * i + 7)) ∧ k_gi M' V (v0 + (26 * i + 8)) = k_gi M V (v0 + (26 * i + 8))) (h : kVeq M X V v0 l t i) : kVeq M' X V v0 l t i := by
  obtain ⟨f, a, u, y, h1, h2, h3, h4, h5, h6, h7⟩ := h
  obtain ⟨x1, x2, x3⟩ := hx
  obtain ⟨v1, v2, v3⟩ := hv
  exact ⟨f, a, u, y, x1.trans h1, v1.trans h2, x2.trans h3, v2.trans h4, x3.trans h5, v3.trans h6, h7⟩
theorem kVfs.ag {M M' : pM} {X : Nat × Nat × Nat} {V v0 D : Nat} {n : Int} (hv : kAgV M M' V v0) (hx : kAgX M M' X) (hd : k_gi M' D 0 = k_gi M D 0) (h : kVfs M X V v0 D n) : kVfs M' X V v0 D n := by
  obtain ⟨h1, t, h2, h3⟩ := h
  exact ⟨fun i hi => (h1 i hi).ag (hx i hi) (hv i hi), t, hd.trans h2, h3.ag hv⟩
theorem kViv.le {M : pM} {V v0 k : Nat} {t : Int} (h : kViv M V v0 (k : Int) t) : k ≤ 16 := by
  have := h.1
  omega
theorem kVpe.ag {M M' : pM} {n v : Int} (hv : kAgV M M' 450 0) (hx : ∀ i : Nat, k_gi M' 18 i = k_gi M 18 i ∧ k_gi M' 59 i = k_gi M 59 i ∧ k_gi M' 60 i = k_gi M 60 i) (hd : k_gi M' 444 0 = k_gi M 444 0) (h : kVpe M n v) : kVpe M' n v := by
  rcases h with ⟨h1, h2⟩ | ⟨g, f, t, k, h1, h2, h3, h4, h5, h6, h7⟩
  · exact Or.inl ⟨h1, h2.ag hv (fun i _ => hx i) hd⟩
  · refine Or.inr ⟨g, f, t, k, h1, h2, hd.trans h3, h4, h5.ag hv, fun i hi hg => ?_, ?_⟩
    · rw [kVla.ag hv k h5.le]
      exact (h6 i hi hg).ag (hx i) (hv i hi)
    · rcases h7 with h7 | h7 | ⟨h7, h8, h9, h10⟩
      · exact Or.inl h7
      · exact Or.inr (Or.inl h7)
      · exact Or.inr (Or.inr ⟨h7, (hx k).1.trans h8, (hx k).2.1.trans h9, (hx k).2.2.trans h10⟩)
theorem kFmt.ag {M M' : pM} {t : Nat} {f d s v : Int} (h : kFmt M t f d s v) (hv : t = 0 ∨ t = 2 ∨ t = 4 ∨ t = 5 → kAgV M M' 450 0) (hk : t = 1 ∨ t = 3 → kAgV M M' 477 300) (hx : t = 0 ∨ t = 3 ∨ t = 5 → ∀ i : Nat, k_gi M' 18 i = k_gi M 18 i ∧ k_gi M' 59 i = k_gi M 59 i ∧ k_gi M' 60 i = k_gi M 60 i) (hy : t = 1 ∨ t = 2 → ∀ i : Nat, k_gi M' 199 i = k_gi M 199 i ∧ k_gi M' 240 i = k_gi M 240 i ∧ k_gi M' 241 i = k_gi M 241 i) (hd : t = 0 ∨ t = 5 → k_gi M' 444 0 = k_gi M 444 0) (he : t = 1 → k_gi M' 477 0 = k_gi M 477 0) : kFmt M' t f d s v := by
  match t, h, hv, hk, hx, hy, hd, he with
  | 0, h, hv, _, hx, _, hd, _ => exact kVfs.ag (hv (Or.inl rfl)) (fun i _ => hx (Or.inl rfl) i) (hd (Or.inl rfl)) h
  | 1, h, _, hk, _, hy, _, he => exact kVfs.ag (hk (Or.inl rfl)) (fun i _ => hy (Or.inl rfl) i) (he rfl) h
  | 2, h, hv, _, _, hy, _, _ =>
    intro i hi hs
    have g : kVeq M kXk 450 0 (-1) 0 i := h i hi hs
    exact g.ag (hy (Or.inr rfl) i) (hv (Or.inr (Or.inl rfl)) i hi)
  | 3, h, _, hk, hx, _, _, _ =>
    intro i hi hs
    have g : kVeq M kXn 477 300 (-1) 0 i := h i hi hs
    exact g.ag (hx (Or.inr (Or.inl rfl)) i) (hk (Or.inr rfl) i hi)
  | 4, h, hv, _, _, _, _, _ =>
    obtain ⟨k, h1, h2, h3⟩ := h
    exact ⟨k, h1, h2, (kVla.ag (hv (Or.inr (Or.inr (Or.inl rfl)))) k h2).trans h3⟩
  | 5, h, hv, _, hx, _, hd, _ => exact kVpe.ag (hv (Or.inr (Or.inr (Or.inr rfl)))) (hx (Or.inr (Or.inr rfl))) (hd (Or.inr rfl)) h
  | _ + 6, h, _, _, _, _, _, _ => exact h.elim
theorem kFmt.irr {M : pM} {t : Nat} {f d f' d' s v : Int} (ht : t ≠ 4) (h : kFmt M t f d s v) : kFmt M t f' d' s v := by
  match t, ht, h with
  | 0, _, h => exact h
  | 1, _, h => exact h
  | 2, _, h => exact h
  | 3, _, h => exact h
  | 4, ht, _ => exact (ht rfl).elim
  | 5, _, h => exact h
  | _ + 6, _, h => exact h.elim
def kPtx (M : pM) (p s v : Int) : Prop := match (p % 8).toNat with
  | 0 => ∃ k : Nat, (k : Int) = s ∧ kTW (kTt M) 0 (kTd 0 (p / 8)) k v
  | 1 => ∃ k : Nat, (k : Int) = s ∧ kTW (kTt M) 1 (kTd 1 (p / 8)) k v
  | 2 => ∃ k : Nat, (k : Int) = s ∧ kTW (kTt M) 2 (kTd 2 (p / 8)) k v
  | 3 => kMw (kTt M) kS9 (kBv (kTt M) true [0] 0).toNat v
  | 4 => kLf (p / 8) s = v
  | 5 => ∀ i : Nat, (i : Int) < s → ∃ b : Int, 0 ≤ b ∧ b ≤ 255 ∧ k_gi M 364 i = some (kSgb b) ∧ k_gi M 460 i = some b
  | 6 => ∀ i : Nat, (i : Int) < s → k_gi M 364 (p / 8 + i).toNat = some (kSgb (kByt i v))
  | _ => kFms M (p / 8) s v
theorem kPtx_at {M : pM} {p s v : Int} {i : Nat} (hi : (p % 8).toNat = i) (h3 : i < 3) : kPtx M p s v ↔ ∃ k : Nat, (k : Int) = s ∧ kTW (kTt M) i (kTd i (p / 8)) k v := by
  unfold kPtx
  rw [hi]
  match i, h3 with
  | 0, _ => exact Iff.rfl
  | 1, _ => exact Iff.rfl
  | 2, _ => exact Iff.rfl
theorem kTt.fr {M M' : pM} (h1 : ∀ n : Nat, k_gi M' 460 n = k_gi M 460 n) (h2 : k_gi M' 443 17 = k_gi M 443 17) : kTt M' = kTt M := by
  unfold kTt
  rw [h2]
  congr 1
  funext i
  rw [h1]
theorem kPtx_3 {M : pM} {p s v : Int} (h : (p % 8).toNat = 3) : kPtx M p s v ↔ kMw (kTt M) kS9 (kBv (kTt M) true [0] 0).toNat v := by
  unfold kPtx
  rw [h]
  exact Iff.rfl
theorem kPtx_4 {M : pM} {p s v : Int} (h : (p % 8).toNat = 4) : kPtx M p s v ↔ kLf (p / 8) s = v := by
  unfold kPtx
  rw [h]
  exact Iff.rfl
theorem kPtx_5 {M : pM} {p s v : Int} (h : (p % 8).toNat = 5) : kPtx M p s v ↔ ∀ i : Nat, (i : Int) < s → ∃ b : Int, 0 ≤ b ∧ b ≤ 255 ∧ k_gi M 364 i = some (kSgb b) ∧ k_gi M 460 i = some b := by
  unfold kPtx
  rw [h]
  exact Iff.rfl
theorem kPtx_6 {M : pM} {p s v : Int} (h : (p % 8).toNat = 6) : kPtx M p s v ↔ ∀ i : Nat, (i : Int) < s → k_gi M 364 (p / 8 + i).toNat = some (kSgb (kByt i v)) := by
  unfold kPtx
  rw [h]
  exact Iff.rfl
theorem kPtx_7 {M : pM} {p s v : Int} (h : (p % 8).toNat = 7) : kPtx M p s v ↔ kFms M (p / 8) s v := by
  unfold kPtx
  rw [h]
  exact Iff.rfl
/-- what stays where what it speaks of does -/
theorem kPtx.fr {M M' : pM} {p s v : Int} (h : kPtx M p s v) (h1 : (p % 8).toNat < 4 ∨ (p % 8).toNat = 5 → ∀ n : Nat, k_gi M' 460 n = k_gi M 460 n) (h2 : (p % 8).toNat < 4 → k_gi M' 443 17 = k_gi M 443 17) (h3 : (p % 8).toNat = 5 ∨ (p % 8).toNat = 6 → ∀ n : Nat, k_gi M' 364 n = k_gi M 364 n) (h4 : (p % 8).toNat = 7 → ∀ a n : Nat, k_gi M' a n = k_gi M a n) : kPtx M' p s v := by
  have h8 : (p % 8).toNat < 8 := by omega
  by_cases c3 : (p % 8).toNat < 3
  · have h := (kPtx_at rfl c3).mp h
    refine (kPtx_at rfl c3).mpr ?_
    rw [kTt.fr (h1 (Or.inl (by omega))) (h2 (by omega))]
    exact h
  · by_cases c4 : (p % 8).toNat = 3
    · have h := (kPtx_3 c4).mp h
      refine (kPtx_3 c4).mpr ?_
      rw [kTt.fr (h1 (Or.inl (by omega))) (h2 (by omega))]
      exact h
    · by_cases c5 : (p % 8).toNat = 4
      · exact (kPtx_4 c5).mpr ((kPtx_4 c5).mp h)
      · by_cases c6 : (p % 8).toNat = 5
        · refine (kPtx_5 c6).mpr fun j hj => ?_
          obtain ⟨b, b1, b2, b3, b4⟩ := (kPtx_5 c6).mp h j hj
          exact ⟨b, b1, b2, by rw [h3 (Or.inl c6)]; exact b3, by rw [h1 (Or.inr c6)]; exact b4⟩
        · by_cases c7 : (p % 8).toNat = 6
          · refine (kPtx_6 c7).mpr fun j hj => ?_
            rw [h3 (Or.inr c7)]
            exact (kPtx_6 c7).mp h j hj
          · have c : (p % 8).toNat = 7 := by omega
            refine (kPtx_7 c).mpr ?_
            have h := (kPtx_7 c).mp h
            have h4 := h4 c
            unfold kFms at h ⊢
            cases c6 : decide (6 ≤ p / 8 % 8) with
            | true =>
              rw [c6, cond_true] at h
              rw [cond_true]
              exact kTab.fr h fun a _ n => h4 a n
            | false =>
              rw [c6, cond_false] at h
              rw [cond_false]
              refine kFmt.ag h ?_ ?_ ?_ ?_ ?_ ?_
              · exact fun _ i _ => ⟨h4 _ _, h4 _ _, h4 _ _⟩
              · exact fun _ i _ => ⟨h4 _ _, h4 _ _, h4 _ _⟩
              · exact fun _ i => ⟨h4 _ _, h4 _ _, h4 _ _⟩
              · exact fun _ i => ⟨h4 _ _, h4 _ _, h4 _ _⟩
              · exact fun _ => h4 _ _
              · exact fun _ => h4 _ _
/-- how long the script is, and what it holds -/
abbrev kN : Type := Nat × (Nat → Int)
/-- 11: what the script holds at a place -/
def kPh (N : kN) (i : Nat) (M : pM) (p s v : Int) : Prop := match i with
  | 1 => ∀ r : Int, p ≤ r → r ≤ v → 0 ≤ r → r ≤ 36 → kInt M (403 + r) s (v - r)
  | 2 => ∀ r : Int, p ≤ r → r ≤ v → kInt M 471 (41 * r + s) (v - r)
  | 3 => ∃ t k : Nat, (k : Int) = s ∧ kZi M t = some (k, v)
  | 4 => ∃ k : Nat, (k : Int) = s ∧ kWt M 21 23 k v
  | 5 => ∃ k : Nat, (k : Int) = s ∧ kWt M 24 24 k v
  | 6 => kSx M 453 0 450 0 s v
  | 7 => ∃ k : Nat, (k : Int) = s ∧ kCn M p k v
  | 8 => kSx M 477 740 477 300 s v
  | 9 => kRl M p s (fun _ => True)
  | 10 => kRl M p s (fun i => i ≠ v)
  | 11 => ∃ j : Nat, (j : Int) = s ∧ N.2 j = v
  | 12 => s % p = v
  | 13 => kFp M p s v
  | 14 => True
  | 15 => kPtx M p s v
  | _ => False
def kPhi (N : kN) (M : pM) (c s v : Int) : Prop := ∃ (i : Nat) (p : Int), c = -((i : Int) + 16 * p) ∧ i < 16 ∧ kPh N i M p s v
theorem kPhi_of {N : kN} {M : pM} {s v p : Int} {i : Nat} {c : Int} (hc : c = -((i : Int) + 16 * p)) (hi : i < 16) (h : kPh N i M p s v) : kPhi N M c s v := ⟨i, p, hc, hi, h⟩
theorem kPhi_to {N : kN} {M : pM} {s v p : Int} {i : Nat} {c : Int} (hc : c = -((i : Int) + 16 * p)) (hi : i < 16) (h : kPhi N M c s v) : kPh N i M p s v := by
  obtain ⟨i', p', e, h1, h2⟩ := h
  have : i' = i := by omega
  subst this
  have : p' = p := by omega
  subst this
  exact h2
/-- the cells that it speaks of -/
def kFt (i a : Nat) : Prop := match i with
  | 1 => 403 ≤ a ∧ a ≤ 439
  | 2 => a = 471
  | 3 => a = 461
  | 4 => a = 462
  | 5 => a = 462
  | 6 => a = 453 ∨ a = 450
  | 7 => a = 457
  | 8 => a = 477
  | 9 => True
  | 10 => True
  | 13 => True
  | 15 => True
  | _ => False
theorem kInt.fr {M M' : pM} {a j x : Int} (h : kInt M a j x) (hs : ∀ n : Nat, k_gi M' a.toNat n = k_gi M a.toNat n) : kInt M' a j x := ⟨h.1, h.2.1, by rw [hs]; exact h.2.2⟩
theorem kZs.fr {M M' : pM} {q r : Nat × Int} (h : kZs M q = some r) (hs : ∀ n : Nat, n < r.1 → k_gi M' 461 n = k_gi M 461 n) : q.1 < r.1 ∧ kZs M' q = some r := by
  unfold kZs at h
  split at h
  · cases h
  · rename_i x hx
    have key : ∀ z : Nat, q.1 < r.1 → (hz : kZs M' q = (match k_gi M' 461 q.1 with
      | none => none
      | some x => if 0 ≤ x ∧ x ≤ 11 ∧ q.2 ≤ 198 then some (q.1 + 1, q.2 + 1) else
        if x = 20 ∧ 1 ≤ q.2 then some (q.1 + 1, q.2) else
        if 21 ≤ x ∧ x ≤ 23 ∧ 2 ≤ q.2 then some (q.1 + 1, q.2 - 1) else
        if x = 30 ∧ q.2 ≤ 198 then (match k_gi M' 461 (q.1 + 2) with
          | none => none
          | some y => if 0 ≤ y ∧ y ≤ 397 then some (q.1 + 3 + y.toNat, q.2 + 1) else none) else none)) → k_gi M' 461 q.1 = some x := fun _ hl _ => by rw [hs _ hl]; exact hx
    by_cases c1 : 0 ≤ x ∧ x ≤ 11 ∧ q.2 ≤ 198
    · rw [if_pos c1] at h
      cases h
      refine ⟨Nat.lt_succ_self _, ?_⟩
      have e := key 0 (Nat.lt_succ_self _) rfl
      unfold kZs
      rw [e]
      exact if_pos c1
    · rw [if_neg c1] at h
      by_cases c2 : x = 20 ∧ 1 ≤ q.2
      · rw [if_pos c2] at h
        cases h
        refine ⟨Nat.lt_succ_self _, ?_⟩
        have e := key 0 (Nat.lt_succ_self _) rfl
        unfold kZs
        rw [e]
        exact (if_neg c1).trans (if_pos c2)
      · rw [if_neg c2] at h
        by_cases c3 : 21 ≤ x ∧ x ≤ 23 ∧ 2 ≤ q.2
        · rw [if_pos c3] at h
          cases h
          refine ⟨Nat.lt_succ_self _, ?_⟩
          have e := key 0 (Nat.lt_succ_self _) rfl
          unfold kZs
          rw [e]
          exact (if_neg c1).trans ((if_neg c2).trans (if_pos c3))
        · rw [if_neg c3] at h
          by_cases c4 : x = 30 ∧ q.2 ≤ 198
          · rw [if_pos c4] at h
            split at h
            · cases h
            · rename_i y hy
              by_cases c5 : 0 ≤ y ∧ y ≤ 397
              · rw [if_pos c5] at h
                cases h
                have hl : q.1 < q.1 + 3 + y.toNat := by omega
                refine ⟨hl, ?_⟩
                have e := key 0 hl rfl
                have e2 : k_gi M' 461 (q.1 + 2) = some y := by
                  rw [hs _ (by show q.1 + 2 < q.1 + 3 + y.toNat; omega)]
                  exact hy
                unfold kZs
                rw [e]
                refine (if_neg c1).trans ((if_neg c2).trans ((if_neg c3).trans ((if_pos c4).trans ?_)))
                rw [e2]
                exact if_pos c5
              · rw [if_neg c5] at h
                cases h
          · rw [if_neg c4] at h
            cases h
theorem kZi.fr {M M' : pM} : ∀ {t : Nat} {r : Nat × Int}, kZi M t = some r → (∀ n : Nat, n < r.1 → k_gi M' 461 n = k_gi M 461 n) → kZi M' t = some r
  | 0, _, h, _ => h
  | t + 1, r, h, hs => by
    have h : (kZi M t).bind (kZs M) = some r := h
    cases hq : kZi M t with
    | none =>
      rw [hq] at h
      cases h
    | some q =>
      rw [hq] at h
      have h : kZs M q = some r := h
      obtain ⟨hl, h2⟩ := kZs.fr h hs
      show (kZi M' t).bind (kZs M') = some r
      rw [kZi.fr hq (fun n hn => hs n (Nat.lt_trans hn hl))]
      exact h2
theorem kWt.fr {M M' : pM} {lo hi : Int} : ∀ {k : Nat} {a : Int}, kWt M lo hi k a → (∀ n : Nat, n < k → k_gi M' 462 n = k_gi M 462 n) → kWt M' lo hi k a
  | 0, _, h, _ => h
  | k + 1, a, h, hs => by
    obtain ⟨x, h1, h2, h3⟩ := h
    refine ⟨x, by rw [hs k (Nat.lt_succ_self k)]; exact h1, h2, ?_⟩
    rcases h3 with ⟨h3, h4, h5⟩ | ⟨h3, h5⟩
    · exact Or.inl ⟨h3, h4, h5.fr fun n hn => hs n (Nat.lt_succ_of_lt hn)⟩
    · exact Or.inr ⟨h3, h5.fr fun n hn => hs n (Nat.lt_succ_of_lt hn)⟩
theorem kCn.fr {M M' : pM} {p : Int} : ∀ {k : Nat} {a : Int}, kCn M p k a → (∀ n : Nat, k_gi M' 457 n = k_gi M 457 n) → kCn M' p k a
  | 0, _, h, _ => h
  | k + 1, a, h, hs => by
    obtain ⟨x, h1, h3⟩ := h
    refine ⟨x, by rw [hs]; exact h1, ?_⟩
    rcases h3 with ⟨h3, h5⟩ | ⟨h3, h5⟩
    · exact Or.inl ⟨h3, h5.fr hs⟩
    · exact Or.inr ⟨h3, h5.fr hs⟩
theorem kSx.fr {M M' : pM} {L l0 V v0 s v : Int} (h : kSx M L l0 V v0 s v) (h1 : ∀ n : Nat, k_gi M' L.toNat n = k_gi M L.toNat n) (h2 : ∀ n : Nat, k_gi M' V.toNat n = k_gi M V.toNat n) : kSx M' L l0 V v0 s v := by
  refine ⟨fun l hl hl2 => ?_, fun k hk hk2 => ?_⟩
  · obtain ⟨e, x, y, z, a1, a2, a3, a4, a5, a6, a7, a8⟩ := h.1 l hl hl2
    exact ⟨e, x, y, z, a1.fr h1, a2, a3, a4.fr h1, a5.fr h2, a6, a7.fr h1, a8⟩
  · obtain ⟨y, a1, a2⟩ := h.2 k hk hk2
    exact ⟨y, a1.fr h2, a2⟩
theorem kRl.fr {M M' : pM} {p s : Int} {b : Int → Prop} (h : kRl M p s b) (hs : ∀ a n : Nat, k_gi M' a n = k_gi M a n) : kRl M' p s b := by
  obtain ⟨r, h1, h2, h3, h4⟩ := h
  refine ⟨r, h1, h2, h3, fun i a1 a2 a3 => ?_⟩
  obtain ⟨x, e, f⟩ := h4 i a1 a2 a3
  exact ⟨x, e.fr (hs _), f.fr (hs _)⟩
theorem kPh.fr {N : kN} {i : Nat} {M M' : pM} {p s v : Int} (h : kPh N i M p s v) (hs : ∀ a : Nat, kFt i a → ∀ n : Nat, k_gi M' a n = k_gi M a n) : kPh N i M' p s v := by
  match i, h, hs with
  | 1, h, hs =>
    intro r h1 h2 h3 h4
    have k : kInt M (403 + r) s (v - r) := h r h1 h2 h3 h4
    exact k.fr (hs _ ⟨by omega, by omega⟩)
  | 2, h, hs =>
    intro r h1 h2
    have k : kInt M 471 (41 * r + s) (v - r) := h r h1 h2
    exact k.fr (hs 471 rfl)
  | 3, h, hs =>
    obtain ⟨t, k, h1, h2⟩ := h
    exact ⟨t, k, h1, kZi.fr h2 fun n _ => hs 461 rfl n⟩
  | 4, h, hs =>
    obtain ⟨k, h1, h2⟩ := h
    exact ⟨k, h1, h2.fr fun n _ => hs 462 rfl n⟩
  | 5, h, hs =>
    obtain ⟨k, h1, h2⟩ := h
    exact ⟨k, h1, h2.fr fun n _ => hs 462 rfl n⟩
  | 6, h, hs => exact kSx.fr (s := s) (v := v) h (hs 453 (Or.inl rfl)) (hs 450 (Or.inr rfl))
  | 7, h, hs =>
    obtain ⟨k, h1, h2⟩ := h
    exact ⟨k, h1, h2.fr fun n => hs 457 rfl n⟩
  | 8, h, hs => exact kSx.fr (s := s) (v := v) h (hs 477 rfl) (hs 477 rfl)
  | 9, h, hs => exact kRl.fr (b := fun _ => True) h (fun a n => hs a trivial n)
  | 10, h, hs => exact kRl.fr (b := fun i => i ≠ v) h (fun a n => hs a trivial n)
  | 11, h, _ => exact h
  | 12, h, _ => exact h
  | 13, h, hs =>
    obtain ⟨F, h1, k, h2, h3⟩ := h
    exact ⟨F, h1, k, h2, (kFv.fr (fun n => hs _ trivial n) k).trans h3⟩
  | 14, h, _ => exact h
  | 0, h, _ => exact h.elim
  | 15, h, hs => exact kPtx.fr h (fun _ n => hs 460 trivial n) (fun _ => hs 443 trivial 17) (fun _ n => hs 364 trivial n) (fun _ a n => hs a trivial n)
  | i + 16, h, _ => exact h.elim
end
