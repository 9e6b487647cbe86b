noncomputable section
/-! which residues a place may have, what may lie there -/
def k_rg (lo hi : Int) : List Nat := (List.range (hi - lo + 1).toNat).map (fun k => lo.toNat + k)
def k_md (p : Nat) (s : kE) : kE := (s.1 % (p : Int), s.2.filter (fun q => !(decide (q.2 % (p : Int) = 0))))
def k_rs2 (p : Nat) (lo hi : Int) : List Nat := cond (decide (0 ≤ lo) && decide (hi < (p : Int))) (k_rg lo hi) (cond (decide ((p : Int) ≤ lo) && decide (hi < 2 * (p : Int))) (k_rg (lo - p) (hi - p)) (List.range p))
def k_rs (b : kB) (p : Nat) (s : kE) : List Nat := cond (Nat.beq p 1) [0] (k_rs2 p (k_lo b (k_md p s)) (k_hi b (k_md p s)))
theorem k_rg_in {lo hi : Int} {z : Int} {j : Nat} (h0 : 0 ≤ lo) (h1 : lo ≤ z) (h2 : z ≤ hi) (hj : (j : Int) = z) : j ∈ k_rg lo hi := by
  unfold k_rg
  refine List.mem_map.mpr ⟨j - lo.toNat, List.mem_range.mpr (by omega), by omega⟩
theorem k_mdl (σ : Nat → Int) (p : Nat) : ∀ l : List (Nat × Int), ∃ t : Int, k_evl σ l = k_evl σ (l.filter (fun q => !(decide (q.2 % (p : Int) = 0)))) + (p : Int) * t
  | [] => ⟨0, by simp [k_evl]⟩
  | q :: l => by
    obtain ⟨t, ht⟩ := k_mdl σ p l
    cases h : decide (q.2 % (p : Int) = 0) with
    | true =>
      have hd := of_decide_eq_true h
      refine ⟨q.2 / (p : Int) * σ q.1 + t, ?_⟩
      rw [List.filter_cons_of_neg (by simp [hd])]
      have e : q.2 * σ q.1 = (p : Int) * (q.2 / (p : Int) * σ q.1) := by
        rw [← Int.mul_assoc]
        congr 1
        have := Int.mul_ediv_add_emod q.2 (p : Int)
        omega
      simp only [k_evl]
      rw [ht, e, Int.mul_add]
      omega
    | false =>
      have hd := of_decide_eq_false h
      refine ⟨t, ?_⟩
      rw [List.filter_cons_of_pos (by simp [hd])]
      simp only [k_evl]
      rw [ht]
      omega
theorem k_md_ev (σ : Nat → Int) (p : Nat) (s : kE) : ∃ t : Int, k_ev σ s = k_ev σ (k_md p s) + (p : Int) * t := by
  obtain ⟨t, ht⟩ := k_mdl σ p s.2
  refine ⟨s.1 / (p : Int) + t, ?_⟩
  unfold k_ev k_md
  simp only
  rw [ht, Int.mul_add]
  have := Int.mul_ediv_add_emod s.1 (p : Int)
  omega
theorem k_mod_of {j p : Nat} {z t : Int} (hp : 0 < p) (h : (j : Int) = z + (p : Int) * t) (h0 : 0 ≤ z) (h1 : z < (p : Int)) : ((j % p : Nat) : Int) = z := by
  have e : ((j % p : Nat) : Int) = (j : Int) % (p : Int) := Int.natCast_emod j p
  rw [e, h, Int.add_mul_emod_self_left, Int.emod_eq_of_lt h0 h1]
theorem k_rs_ok {σ : Nat → Int} {b : kB} {p j : Nat} {s : kE} (hb : kBd σ b) (hp : 0 < p) (hj : (j : Int) = k_ev σ s) : j % p ∈ k_rs b p s := by
  unfold k_rs
  cases h1 : Nat.beq p 1 with
  | true =>
    rw [pm_beq h1, cond_true, Nat.mod_one]
    exact List.mem_singleton.mpr rfl
  | false =>
    rw [cond_false]
    obtain ⟨t, ht⟩ := k_md_ev σ p s
    have hl := k_lo_le hb (k_md p s)
    have hh := k_hi_ge hb (k_md p s)
    rw [ht] at hj
    unfold k_rs2
    cases h2 : (decide (0 ≤ k_lo b (k_md p s)) && decide (k_hi b (k_md p s) < (p : Int))) with
    | true =>
      simp only [Bool.and_eq_true, decide_eq_true_eq] at h2
      rw [cond_true]
      exact k_rg_in h2.1 hl hh (k_mod_of hp hj (by omega) (by omega))
    | false =>
      rw [cond_false]
      cases h3 : (decide ((p : Int) ≤ k_lo b (k_md p s)) && decide (k_hi b (k_md p s) < 2 * (p : Int))) with
      | true =>
        simp only [Bool.and_eq_true, decide_eq_true_eq] at h3
        rw [cond_true]
        have hj2 : (j : Int) = (k_ev σ (k_md p s) - p) + (p : Int) * (t + 1) := by rw [Int.mul_add, Int.mul_one]; omega
        exact k_rg_in (z := k_ev σ (k_md p s) - p) (by omega) (by omega) (by omega) (k_mod_of hp hj2 (by omega) (by omega))
      | false =>
        rw [cond_false]
        exact List.mem_range.mpr (Nat.mod_lt _ hp)
/-- numbers at a place: kinds 0, 1, 4 -/
def k_dn (ds : List (Nat × Int × Int)) (r : Nat) : Option (Nat × Int × Int) := match ds[r]? with
  | some d => cond (Nat.beq d.1 0 || (Nat.beq d.1 1 || Nat.beq d.1 4)) (some d) none
  | none => none
def k_hl (ds : List (Nat × Int × Int)) : Int × Int → List Nat → Option (Int × Int)
  | w, [] => some w
  | w, r :: t => match k_dn ds r with
    | some d => k_hl ds (cond (decide (d.2.1 < w.1)) d.2.1 w.1, cond (decide (w.2 < d.2.2)) d.2.2 w.2) t
    | none => none
def k_hull (ds : List (Nat × Int × Int)) (rs : List Nat) : Option (Int × Int) := match rs with
  | [] => none
  | r :: t => match k_dn ds r with
    | some d => k_hl ds d.2 t
    | none => none
theorem k_cmin {a b : Int} : (cond (decide (a < b)) a b) ≤ a ∧ (cond (decide (a < b)) a b) ≤ b := by
  cases h : decide (a < b) with
  | true =>
    have := of_decide_eq_true h
    rw [cond_true]
    omega
  | false =>
    have := of_decide_eq_false h
    rw [cond_false]
    omega
theorem k_cmax {a b : Int} : a ≤ (cond (decide (b < a)) a b) ∧ b ≤ (cond (decide (b < a)) a b) := by
  cases h : decide (b < a) with
  | true =>
    have := of_decide_eq_true h
    rw [cond_true]
    omega
  | false =>
    have := of_decide_eq_false h
    rw [cond_false]
    omega
theorem k_hl_ok {ds : List (Nat × Int × Int)} : ∀ (t : List Nat) (w u : Int × Int), k_hl ds w t = some u → (u.1 ≤ w.1 ∧ w.2 ≤ u.2) ∧ ∀ r ∈ t, ∃ d, k_dn ds r = some d ∧ u.1 ≤ d.2.1 ∧ d.2.2 ≤ u.2
  | [], w, u, h => by
    cases h
    exact ⟨⟨Int.le_refl _, Int.le_refl _⟩, fun r hr => by cases hr⟩
  | r :: t, w, u, h => by
    unfold k_hl at h
    split at h
    · rename_i d hd
      obtain ⟨⟨h1, h2⟩, h3⟩ := k_hl_ok t _ _ h
      have h1 : u.1 ≤ cond (decide (d.2.1 < w.1)) d.2.1 w.1 := h1
      have h2 : cond (decide (w.2 < d.2.2)) d.2.2 w.2 ≤ u.2 := h2
      have a := k_cmin (a := d.2.1) (b := w.1)
      have b := k_cmax (a := d.2.2) (b := w.2)
      refine ⟨⟨by omega, by omega⟩, fun r' hr' => ?_⟩
      rcases List.mem_cons.mp hr' with rfl | hr'
      · exact ⟨d, hd, by omega, by omega⟩
      · exact h3 r' hr'
    · cases h
theorem k_hull_ok {ds : List (Nat × Int × Int)} {rs : List Nat} {u : Int × Int} (h : k_hull ds rs = some u) : ∀ r ∈ rs, ∃ d, k_dn ds r = some d ∧ u.1 ≤ d.2.1 ∧ d.2.2 ≤ u.2 := by
  unfold k_hull at h
  split at h
  · cases h
  · split at h
    · rename_i r t d hd
      obtain ⟨⟨h1, h2⟩, h3⟩ := k_hl_ok _ _ _ h
      intro r' hr'
      rcases List.mem_cons.mp hr' with rfl | hr'
      · exact ⟨d, hd, h1, h2⟩
      · exact h3 r' hr'
    · cases h
theorem k_dn_ok {ds : List (Nat × Int × Int)} {r : Nat} {w : Nat × Int × Int} (h : k_dn ds r = some w) : ds[r]? = some w ∧ (w.1 = 0 ∨ w.1 = 1 ∨ w.1 = 4) := by
  unfold k_dn at h
  split at h
  · rename_i d hd
    obtain ⟨h1, h2⟩ := pm_cs h
    cases h2
    refine ⟨hd, ?_⟩
    simp only [Bool.or_eq_true] at h1
    rcases h1 with h1 | h1 | h1
    · exact Or.inl (pm_beq h1)
    · exact Or.inr (Or.inl (pm_beq h1))
    · exact Or.inr (Or.inr (pm_beq h1))
  · cases h
theorem kOkQ_num {q : Nat × Int × Int} {r n : Nat} {v : Value} (hk : q.1 = 0 ∨ q.1 = 1 ∨ q.1 = 4) (h : kOkQ q r n v) : ∃ x : Int, kNum v x ∧ q.2.1 ≤ x ∧ x ≤ q.2.2 ∧ (q.1 = 4 → x < (n : Int)) := by
  obtain ⟨k, lo, hi⟩ := q
  rcases hk with hk | hk | hk
  · have hk : k = 0 := hk
    subst hk
    obtain ⟨x, h1, h2, h3⟩ := h
    exact ⟨x.toInt, Or.inl ⟨x, h1, rfl⟩, h2, h3, fun h => absurd h (by show ¬ (0 = 4); omega)⟩
  · have hk : k = 1 := hk
    subst hk
    obtain ⟨x, h1, h2, h3⟩ := h
    exact ⟨x.toInt, Or.inr ⟨x, h1, rfl⟩, h2, h3, fun h => absurd h (by show ¬ (1 = 4); omega)⟩
  · have hk : k = 4 := hk
    subst hk
    obtain ⟨x, h1, h2, h3, h4⟩ := h
    exact ⟨x.toInt, Or.inl ⟨x, h1, rfl⟩, h2, h3, fun _ => h4⟩
def k_leq : List (Nat × Int × Int) → List (Nat × Int × Int) → Bool
  | [], [] => true
  | x :: l, y :: m => Nat.beq x.1 y.1 && (decide (x.2.1 = y.2.1) && (decide (x.2.2 = y.2.2) && k_leq l m))
  | _, _ => false
theorem k_leq_ok : ∀ {l m : List (Nat × Int × Int)}, k_leq l m = true → l = m
  | [], [], _ => rfl
  | x :: l, y :: m, h => by
    unfold k_leq at h
    simp only [Bool.and_eq_true, decide_eq_true_eq] at h
    obtain ⟨x1, x2, x3⟩ := x
    obtain ⟨y1, y2, y3⟩ := y
    obtain ⟨h1, h2, h3, h4⟩ := h
    have h1 : x1 = y1 := pm_beq h1
    have h2 : x2 = y2 := h2
    have h3 : x3 = y3 := h3
    rw [h1, h2, h3, k_leq_ok h4]
  | [], _ :: _, h => by cases h
  | _ :: _, [], h => by cases h
def k_sgq : List kSg → List kSg → Bool
  | [], [] => true
  | g :: l, h :: m => (Nat.beq g.1 h.1 && (Nat.beq g.2.1 h.2.1 && (Nat.beq g.2.2.1 h.2.2.1 && k_leq g.2.2.2 h.2.2.2))) && k_sgq l m
  | _, _ => false
theorem k_sgq_ok : ∀ {l m : List kSg}, k_sgq l m = true → l = m
  | [], [], _ => rfl
  | g :: l, h' :: m, h => by
    unfold k_sgq at h
    simp only [Bool.and_eq_true] at h
    obtain ⟨g1, g2, g3, g4⟩ := g
    obtain ⟨h1, h2, h3, h4⟩ := h'
    obtain ⟨⟨e1, e2, e3, e4⟩, e5⟩ := h
    have e1 : g1 = h1 := pm_beq e1
    have e2 : g2 = h2 := pm_beq e2
    have e3 : g3 = h3 := pm_beq e3
    have e4 : g4 = h4 := k_leq_ok e4
    rw [e1, e2, e3, e4, k_sgq_ok e5]
  | [], _ :: _, h => by cases h
  | _ :: _, [], h => by cases h
def k_same (o : Option kDe) (d : kDe) : Bool := match o with
  | some e => Nat.beq e.1 d.1 && (Nat.beq e.2.1 d.2.1 && k_sgq e.2.2 d.2.2)
  | none => false
theorem k_same_ok {o : Option kDe} {d : kDe} (h : k_same o d = true) : o = some d := by
  unfold k_same at h
  split at h
  · rename_i e
    simp only [Bool.and_eq_true] at h
    obtain ⟨e1, e2, e3⟩ := e
    obtain ⟨d1, d2, d3⟩ := d
    obtain ⟨h1, h2, h3⟩ := h
    have h1 : e1 = d1 := pm_beq h1
    have h2 : e2 = d2 := pm_beq h2
    have h3 : e3 = d3 := k_sgq_ok h3
    rw [h1, h2, h3]
  · cases h
/-- the cell of our own that a word names -/
def k_co (D : kDD) (b : kB) (c : kE) : Option kDe := cond (k_cst c) (cond (decide (0 ≤ c.1)) (k_dg D (c.1.toNat)) none)
  (cond (decide (0 ≤ k_lo b c)) (match (k_dg D ((k_lo b c).toNat)) with
    | some d => cond ((List.range (k_hi b c - k_lo b c).toNat).all (fun k => k_same (k_dg D ((k_lo b c).toNat + 1 + k)) d)) (some d) none
    | none => none) none)
theorem k_ev_const {σ : Nat → Int} {c : kE} (h : k_cst c = true) : k_ev σ c = c.1 := by
  rw [k_cst_eq] at h
  have h : c.2 = [] := List.length_eq_zero_iff.mp (pm_beq h)
  unfold k_ev
  rw [h]
  simp [k_evl]
theorem k_co_ok {D : kDD} {σ : Nat → Int} {b : kB} {c : kE} {r : Nat} {d : kDe} (hb : kBd σ b) (hr : (r : Int) = k_ev σ c) (h : k_co D b c = some d) : (k_dg D (r)) = some d := by
  unfold k_co at h
  cases h1 : k_cst c with
  | true =>
    rw [h1, cond_true] at h
    obtain ⟨-, h⟩ := pm_cs h
    rw [k_ev_const h1] at hr
    rw [show r = c.1.toNat by omega]
    exact h
  | false =>
    rw [h1, cond_false] at h
    obtain ⟨h2, h⟩ := pm_cs h
    have h2 := of_decide_eq_true h2
    split at h
    · rename_i d' hd'
      obtain ⟨h3, h⟩ := pm_cs h
      cases h
      have hl := k_lo_le hb c
      have hh := k_hi_ge hb c
      rw [← hr] at hl hh
      by_cases he : (r : Int) = k_lo b c
      · rw [show r = (k_lo b c).toNat by omega]
        exact hd'
      · have := List.all_eq_true.mp h3 (r - (k_lo b c).toNat - 1) (List.mem_range.mpr (by omega))
        have := k_same_ok this
        rw [show (k_lo b c).toNat + 1 + (r - (k_lo b c).toNat - 1) = r by omega] at this
        exact this
    · cases h
def k_ix (S : kS) (s : kE) (n : Nat) : Bool := k_ge S.1 S.2.1 s && k_ge S.1 S.2.1 (k_sub (kc ((n : Int) - 1)) s)
theorem k_ix_ok {N : kN} {σ : Nat → Int} {S : kS} {M : pM} {s : kE} {n : Nat} (h : kRS N σ S M) (hi : k_ix S s n = true) : 0 ≤ k_ev σ s ∧ k_ev σ s < (n : Int) := by
  unfold k_ix at hi
  obtain ⟨h1, h2⟩ := Bool.and_eq_true_iff.mp hi
  have h1 := k_ge_ok h.2.1 h.2.2.1 h1
  have h2 := k_ge_ok h.2.1 h.2.2.1 h2
  rw [k_ev_sub, k_ev_c] at h2
  omega
/-- what is known to lie there -/
def k_wql (l m : List (Nat × Int)) : Bool := List.rec (motive := fun _ => List (Nat × Int) → Bool) (fun m => List.rec (motive := fun _ => Bool) true (fun _ _ _ => false) m) (fun q _ ih m => List.rec (motive := fun _ => Bool) false (fun r u _ => Bool.rec (motive := fun _ => Bool) false (Bool.rec (motive := fun _ => Bool) false (ih u) (zeq q.2 r.2)) (Nat.beq q.1 r.1)) m) l m
theorem k_wql_ok : ∀ {l m : List (Nat × Int)}, k_wql l m = true → l = m
  | [], [], _ => rfl
  | [], _ :: _, h => by cases h
  | _ :: _, [], h => by cases h
  | q :: t, r :: u, h => by
    have h : Bool.rec (motive := fun _ => Bool) false (Bool.rec (motive := fun _ => Bool) false (k_wql t u) (zeq q.2 r.2)) (Nat.beq q.1 r.1) = true := h
    cases h1 : Nat.beq q.1 r.1 with
    | false => rw [h1] at h; cases h
    | true =>
      rw [h1] at h
      have h : Bool.rec (motive := fun _ => Bool) false (k_wql t u) (zeq q.2 r.2) = true := h
      cases h2 : zeq q.2 r.2 with
      | false => rw [h2] at h; cases h
      | true =>
        rw [h2] at h
        have h : k_wql t u = true := h
        have e1 := Nat.eq_of_beq_eq_true h1
        have e2 := zeq_ok h2
        rw [k_wql_ok h]
        congr 1
        exact Prod.ext e1 e2
def k_wq (e f : kE) : Bool := Bool.rec (motive := fun _ => Bool) false (k_wql e.2 f.2) (zeq e.1 f.1)
theorem k_wq_ok {e f : kE} (h : k_wq e f = true) : e = f := by
  unfold k_wq at h
  cases h1 : zeq e.1 f.1 with
  | false => rw [h1] at h; cases h
  | true =>
    rw [h1] at h
    exact Prod.ext (zeq_ok h1) (k_wql_ok h)
def k_find (c s : kE) (C : List kH) : Option kE := List.rec (motive := fun _ => Option kE) none (fun q _ ih => Bool.rec (motive := fun _ => Option kE) ih (Bool.rec (motive := fun _ => Option kE) ih (some q.2) (k_wq q.1.2 s)) (k_wq q.1.1 c)) C
theorem k_find_cons (c s : kE) (q : kH) (t : List kH) : k_find c s (q :: t) = cond (k_wq q.1.1 c) (cond (k_wq q.1.2 s) (some q.2) (k_find c s t)) (k_find c s t) := by
  show Bool.rec (motive := fun _ => Option kE) (k_find c s t) (Bool.rec (motive := fun _ => Option kE) (k_find c s t) (some q.2) (k_wq q.1.2 s)) (k_wq q.1.1 c) = _
  cases k_wq q.1.1 c with
  | true => cases k_wq q.1.2 s <;> rfl
  | false => rfl
theorem k_find_in {c s v : kE} : ∀ {C : List kH}, k_find c s C = some v → ((c, s), v) ∈ C
  | [], h => by cases h
  | q :: t, h => by
    rw [k_find_cons] at h
    cases h1 : k_wq q.1.1 c with
    | false =>
      rw [h1, cond_false] at h
      exact List.mem_cons_of_mem _ (k_find_in h)
    | true =>
      rw [h1, cond_true] at h
      cases h2 : k_wq q.1.2 s with
      | false =>
        rw [h2, cond_false] at h
        exact List.mem_cons_of_mem _ (k_find_in h)
      | true =>
        rw [h2, cond_true] at h
        cases h
        rw [← k_wq_ok h1, ← k_wq_ok h2]
        exact List.mem_cons_self
def k_put (S : kS) (q : kH) : kS := (S.1, S.2.1, S.2.2.1, q :: S.2.2.2)
/-- the stretch that a place lies in -/
def k_sgf (S : kS) (s : kE) : List kSg → Option kSg
  | [] => none
  | g :: t => cond (Nat.blt 0 g.2.2.1 && k_fit S.1 S.2.1 (g.1 : Int) ((g.1 : Int) + (g.2.1 : Int) - 1) s) (some g) (k_sgf S s t)
theorem k_sgf_ok {N : kN} {σ : Nat → Int} {S : kS} {M : pM} {s : kE} {j : Nat} {g : kSg} (h : kRS N σ S M) (hj : (j : Int) = k_ev σ s) : ∀ {l : List kSg}, k_sgf S s l = some g → g ∈ l ∧ 0 < g.2.2.1 ∧ g.1 ≤ j ∧ j < g.1 + g.2.1
  | [], hg => by cases hg
  | r :: t, hg => by
    unfold k_sgf at hg
    cases hc : (Nat.blt 0 r.2.2.1 && k_fit S.1 S.2.1 (r.1 : Int) ((r.1 : Int) + (r.2.1 : Int) - 1) s) with
    | true =>
      rw [hc, cond_true] at hg
      cases hg
      obtain ⟨h1, h2⟩ := Bool.and_eq_true_iff.mp hc
      have h2 := k_fit_ok h.2.1 h.2.2.1 h2
      exact ⟨List.mem_cons_self, pm_blt h1, by omega, by omega⟩
    | false =>
      rw [hc, cond_false] at hg
      obtain ⟨h1, h2⟩ := k_sgf_ok h hj hg
      exact ⟨List.mem_cons_of_mem _ h1, h2⟩
/-- the quotient of a place whose residue is known -/
def k_qw (g : kSg) (r : Nat) (rel : kE) : Option kE := cond (Nat.blt r g.2.2.1 && k_eq (k_add (k_mul (g.2.2.1 : Int) (k_dv (g.2.2.1 : Int) (k_sub rel (kc (r : Int))))) (kc (r : Int))) rel) (some (k_dv (g.2.2.1 : Int) (k_sub rel (kc (r : Int))))) none
theorem k_qw_ok {σ : Nat → Int} {g : kSg} {r i : Nat} {rel q : kE} (hi : (i : Int) = k_ev σ rel) (hq : k_qw g r rel = some q) : ((i / g.2.2.1 : Nat) : Int) = k_ev σ q ∧ i % g.2.2.1 = r := by
  unfold k_qw at hq
  obtain ⟨h1, h2⟩ := pm_cs hq
  cases h2
  obtain ⟨h1, h2⟩ := Bool.and_eq_true_iff.mp h1
  have h1 : r < g.2.2.1 := pm_blt h1
  have h2 := k_eq_ok (σ := σ) h2
  rw [k_ev_add, k_ev_mul, k_ev_c, ← hi] at h2
  generalize k_ev σ (k_dv (g.2.2.1 : Int) (k_sub rel (kc (r : Int)))) = z at h2 ⊢
  generalize g.2.2.1 = p at h1 h2 ⊢
  have hz : 0 ≤ z := by
    refine Int.not_lt.mp fun hl => ?_
    have : (p : Int) * z ≤ (p : Int) * (-1) := Int.mul_le_mul_of_nonneg_left (by omega) (by omega)
    omega
  obtain ⟨n, rfl⟩ := Int.eq_ofNat_of_zero_le hz
  have h3 : i = r + p * n := by
    have : ((p * n : Nat) : Int) = (p : Int) * (n : Int) := Int.natCast_mul p n
    omega
  subst h3
  rw [Nat.add_mul_div_left _ _ (by omega), Nat.add_mul_mod_self_left, Nat.mod_eq_of_lt h1, Nat.div_eq_of_lt h1]
  exact ⟨by omega, rfl⟩
theorem k_sc1 {n : Nat} {g : kSg} {r : Nat} {rel q : kE} (h : kSc n rel) (hq : k_qw g r rel = some q) : kSc n q := by
  unfold k_qw at hq
  obtain ⟨-, h2⟩ := pm_cs hq
  cases h2
  exact k_dv_sc (kSc_sub h kSc_c)
def k_q4 (g : kSg) (rs : List Nat) (rel : kE) : Option kE := match rs with
  | [r] => (match g.2.2.2[r]? with
    | some q => cond (Nat.beq q.1 4) (k_qw g r rel) none
    | none => none)
  | _ => none
/-- a number read: a new unknown -/
def k_rdn (S : kS) (s : kE) (d : kDe) : Option (List (kE × kS)) := match k_sgf S s d.2.2 with
  | none => none
  | some g => match k_hull g.2.2.2 (k_rs S.1 g.2.2.1 (k_sub s (kc (g.1 : Int)))) with
    | none => none
    | some w => match k_q4 g (k_rs S.1 g.2.2.1 (k_sub s (kc (g.1 : Int)))) (k_sub s (kc (g.1 : Int))) with
      | none => some [k_new S w.1 w.2]
      | some q => match k_asm (k_new S w.1 w.2).2 (k_sub (k_sub q (kc 1)) (k_new S w.1 w.2).1) with
        | none => some []
        | some T => some [((k_new S w.1 w.2).1, T)]
def kGot (N : kN) (n : Nat) (σ : Nat → Int) (M : pM) (L : List (kE × kS)) (x : Int) : Prop := ∃ r ∈ L, ∃ τ, kAgr n σ τ ∧ n ≤ r.2.1.length ∧ kRS N τ r.2 M ∧ k_ev τ r.1 = x ∧ kSc r.2.1.length r.1
theorem k_rdn_ok {N : kN} {σ : Nat → Int} {S : kS} {M : pM} {s : kE} {d : kDe} {j : Nat} {q : pC} {L : List (kE × kS)} (h : kRS N σ S M) (hs : kSc S.1.length s) (hj : (j : Int) = k_ev σ s) (hk : kCell d q) (hjl : j < d.2.1) (hr : k_rdn S s d = some L) : ∃ (w : Value) (x : Int), q.2[j]? = some w ∧ kNum w x ∧ kGot N S.1.length σ M L x := by
  unfold k_rdn at hr
  split at hr
  · cases hr
  · rename_i g hg
    obtain ⟨g1, g2, g3, g4⟩ := k_sgf_ok h hj hg
    have hl : j < q.2.length := by rw [hk.2.1]; exact hjl
    have hv : q.2[j]? = some q.2[j] := List.getElem?_eq_getElem hl
    obtain ⟨z, z1, z2⟩ := (hk.2.2.2 j _ hv).2 g g1 g3 g4
    have hrel : ((j - g.1 : Nat) : Int) = k_ev σ (k_sub s (kc (g.1 : Int))) := by
      rw [k_ev_sub, k_ev_c, ← hj]
      omega
    have hres := k_rs_ok h.2.1 g2 hrel
    split at hr
    · cases hr
    · rename_i w hw
      obtain ⟨w', w1, w2, w3⟩ := k_hull_ok hw _ hres
      obtain ⟨w4, w5⟩ := k_dn_ok w1
      rw [w4] at z1
      cases z1
      obtain ⟨x, x1, x2, x3, x4⟩ := kOkQ_num w5 z2
      obtain ⟨τ, t1, t2, t3, t4, t5⟩ := k_new_ok h (x := x) (lo := w.1) (hi := w.2) (by omega) (by omega)
      refine ⟨_, x, hv, x1, ?_⟩
      split at hr
      · cases hr
        exact ⟨_, List.mem_singleton.mpr rfl, τ, t1, t2, t3, t4, t5⟩
      · rename_i qw hqw
        have hq4 : k_qw g ((j - g.1) % g.2.2.1) (k_sub s (kc (g.1 : Int))) = some qw ∧ z.1 = 4 := by
          unfold k_q4 at hqw
          split at hqw
          · rename_i r hrs
            rw [hrs] at hres
            have hr1 : (j - g.1) % g.2.2.1 = r := List.mem_singleton.mp hres
            rw [hr1] at w4
            rw [w4] at hqw
            simp only at hqw
            obtain ⟨e1, e2⟩ := pm_cs hqw
            rw [hr1]
            exact ⟨e2, pm_beq e1⟩
          · cases hqw
        have hqe := k_qw_ok hrel hq4.1
        have hx := x4 hq4.2
        have hsq : kSc (k_new S w.1 w.2).2.1.length qw := (k_sc1 (kSc_sub hs kSc_c) hq4.1).mono t2
        obtain ⟨T, e1, e2, e3⟩ := k_asm_ok t3 (e := k_sub (k_sub qw (kc 1)) (k_new S w.1 w.2).1) (kSc_sub (kSc_sub hsq kSc_c) t5) (by
          rw [k_ev_sub, k_ev_sub, k_ev_c, t4, k_ev_agree t1 (k_sc1 (kSc_sub hs kSc_c) hq4.1), ← hqe.1]
          omega)
        rw [e1] at hr
        cases hr
        exact ⟨_, List.mem_singleton.mpr rfl, τ, t1, by rw [e2]; exact t2, e3, t4, by rw [e2]; exact t5⟩
/-- what is known of a place; of some cells by facts, too -/
def kEqc : List Int := [445, 446]
def k_fqs (S : kS) (c s : kE) : List kH → Option kE
  | [] => none
  | q :: t => cond (k_wq q.1.1 c && k_eqv S.1 S.2.1 q.1.2 s) (some q.2) (k_fqs S c s t)
def k_fq (S : kS) (c s : kE) : Option kE := match k_find c s S.2.2.2 with
  | some v => some v
  | none => cond (k_cst c && kEqc.any (fun z => decide (z = c.1))) (k_fqs S c s S.2.2.2) none
theorem k_fqs_ok {σ : Nat → Int} {S : kS} {c s v : kE} (hb : kBd σ S.1) (hF : kFs σ S.2.1) : ∀ l : List kH, k_fqs S c s l = some v → ∃ q ∈ l, q.1.1 = c ∧ k_ev σ q.1.2 = k_ev σ s ∧ q.2 = v
  | [], h => by cases h
  | q :: t, h => by
    unfold k_fqs at h
    cases h1 : (k_wq q.1.1 c && k_eqv S.1 S.2.1 q.1.2 s) with
    | true =>
      rw [h1, cond_true] at h
      cases h
      obtain ⟨h2, h3⟩ := Bool.and_eq_true_iff.mp h1
      exact ⟨q, List.mem_cons_self, k_wq_ok h2, k_eqv_ok hb hF h3, rfl⟩
    | false =>
      rw [h1, cond_false] at h
      obtain ⟨r, hr, e⟩ := k_fqs_ok hb hF t h
      exact ⟨r, List.mem_cons_of_mem _ hr, e⟩
theorem k_fq_ok {N : kN} {σ : Nat → Int} {S : kS} {M : pM} {c s v : kE} (h : kRS N σ S M) (hv : k_fq S c s = some v) : kSc S.1.length v ∧ kHas N M (k_ev σ c) (k_ev σ s) (k_ev σ v) := by
  unfold k_fq at hv
  split at hv
  · rename_i y hy
    cases hv
    have hin := k_find_in hy
    exact ⟨(h.2.2.2.2.2.2.2 _ hin).2.2, h.2.2.2.2.1 _ hin⟩
  · obtain ⟨-, hv⟩ := pm_cs hv
    obtain ⟨q, hq, e1, e2, e3⟩ := k_fqs_ok h.2.1 h.2.2.1 _ hv
    subst e3
    have := h.2.2.2.2.1 q hq
    rw [e1, e2] at this
    exact ⟨(h.2.2.2.2.2.2.2 q hq).2.2, this⟩
/-- a number read of a row that holds days: by common year and date -/
def k_spc : List Int := [8, 445]
def k_rd36 (S : kS) (s : kE) (d : kDe) : Option (List (kE × kS)) := match k_sgf S s d.2.2 with
  | none => none
  | some g => match k_hull g.2.2.2 (k_rs S.1 g.2.2.1 (k_sub s (kc (g.1 : Int)))) with
    | none => none
    | some w => some [(k_add (k_mul 360 (k_new S (w.1 / 360) (w.2 / 360)).1) (k_new (k_new S (w.1 / 360) (w.2 / 360)).2 0 359).1, (k_new (k_new S (w.1 / 360) (w.2 / 360)).2 0 359).2)]
theorem k_rd36_ok {N : kN} {σ : Nat → Int} {S : kS} {M : pM} {s : kE} {d : kDe} {j : Nat} {q : pC} {L : List (kE × kS)} (h : kRS N σ S M) (hj : (j : Int) = k_ev σ s) (hk : kCell d q) (hjl : j < d.2.1) (hr : k_rd36 S s d = some L) : ∃ (w : Value) (x : Int), q.2[j]? = some w ∧ kNum w x ∧ kGot N S.1.length σ M L x := by
  unfold k_rd36 at hr
  split at hr
  · cases hr
  · rename_i g hg
    obtain ⟨g1, g2, g3, g4⟩ := k_sgf_ok h hj hg
    have hl : j < q.2.length := by rw [hk.2.1]; exact hjl
    have hv : q.2[j]? = some q.2[j] := List.getElem?_eq_getElem hl
    obtain ⟨z, z1, z2⟩ := (hk.2.2.2 j _ hv).2 g g1 g3 g4
    have hrel : ((j - g.1 : Nat) : Int) = k_ev σ (k_sub s (kc (g.1 : Int))) := by
      rw [k_ev_sub, k_ev_c, ← hj]
      omega
    have hres := k_rs_ok h.2.1 g2 hrel
    split at hr
    · cases hr
    · rename_i w hw
      cases hr
      obtain ⟨w', w1, w2, w3⟩ := k_hull_ok hw _ hres
      obtain ⟨w4, w5⟩ := k_dn_ok w1
      rw [w4] at z1
      cases z1
      obtain ⟨x, x1, x2, x3, x4⟩ := kOkQ_num w5 z2
      obtain ⟨τ, t1, t2, t3, t4, t5⟩ := k_new_ok h (x := x / 360) (lo := w.1 / 360) (hi := w.2 / 360) (Int.ediv_le_ediv (by omega) (by omega)) (Int.ediv_le_ediv (by omega) (by omega))
      obtain ⟨ρ, r1, r2, r3, r4, r5⟩ := k_new_ok t3 (x := x % 360) (lo := 0) (hi := 359) (by omega) (by omega)
      refine ⟨_, x, hv, x1, _, List.mem_singleton.mpr rfl, ρ, fun a ha => (r1 a (Nat.lt_of_lt_of_le ha t2)).trans (t1 a ha), Nat.le_trans t2 r2, r3, ?_, kSc_add (kSc_mul (t5.mono r2)) r5⟩
      show k_ev ρ (k_add (k_mul 360 _) _) = x
      rw [k_ev_add, k_ev_mul, r4, k_ev_agree r1 t5, t4]
      omega
def k_rdz (S : kS) (c s : kE) (d : kDe) : Option (List (kE × kS)) := cond (k_cst c && k_spc.any (fun z => decide (z = c.1))) (k_rd36 S s d) (k_rdn S s d)
theorem k_rdz_ok {N : kN} {σ : Nat → Int} {S : kS} {M : pM} {c s : kE} {d : kDe} {j : Nat} {q : pC} {L : List (kE × kS)} (h : kRS N σ S M) (hs : kSc S.1.length s) (hj : (j : Int) = k_ev σ s) (hk : kCell d q) (hjl : j < d.2.1) (hr : k_rdz S c s d = some L) : ∃ (w : Value) (x : Int), q.2[j]? = some w ∧ kNum w x ∧ kGot N S.1.length σ M L x := by
  unfold k_rdz at hr
  cases h1 : (k_cst c && k_spc.any (fun z => decide (z = c.1))) with
  | true =>
    rw [h1, cond_true] at hr
    exact k_rd36_ok h hj hk hjl hr
  | false =>
    rw [h1, cond_false] at hr
    exact k_rdn_ok h hs hj hk hjl hr
/-- a number read of our own cell: what is known, or a new unknown that is then known -/
def k_rdo (S : kS) (c s : kE) (d : kDe) : Option (List (kE × kS)) := match k_fq S c s with
  | some v => some [(k_nv S.1 v, S)]
  | none => match k_rdz S c s d with
    | none => none
    | some L => some (L.map (fun r => (r.1, k_put r.2 ((c, s), r.1))))
theorem k_hasR_in {N : kN} {M : pM} {a j : Nat} {q : pC} {c s v : Int} (h : kHas N M c s v) (ha : (a : Int) = c) (hj : (j : Int) = s) (hq : M[a]? = some q) : ∃ w : Value, q.2[j]? = some w ∧ kNum w v := by
  obtain ⟨a', j', q', w, e1, e2, e3, e4, e5⟩ := h.1 (by omega)
  have : a' = a := by omega
  subst this
  have : j' = j := by omega
  subst this
  rw [hq] at e3
  cases e3
  exact ⟨w, e4, e5⟩
theorem kRS_know {N : kN} {σ : Nat → Int} {S : kS} {M : pM} {c s v : kE} {a j : Nat} {q : pC} {w : Value} (h : kRS N σ S M) (hc : kSc S.1.length c) (hs : kSc S.1.length s) (hv : kSc S.1.length v) (ha : (a : Int) = k_ev σ c) (hj : (j : Int) = k_ev σ s) (hq : M[a]? = some q) (hw : q.2[j]? = some w) (hn : kNum w (k_ev σ v)) : kRS N σ (k_put S ((c, s), v)) M := by
  obtain ⟨g0, gb, gf, gn, gc, gs⟩ := h
  refine ⟨g0, gb, gf, gn, fun e he => ?_, gs.1, gs.2.1, fun e he => ?_⟩
  · rcases List.mem_cons.mp he with rfl | he
    · exact ⟨fun _ => ⟨a, j, q, w, ha, hj, hq, hw, hn⟩, fun hl => by
        have hl : k_ev σ c < 0 := hl
        omega⟩
    · exact gc e he
  · rcases List.mem_cons.mp he with rfl | he
    · exact ⟨hc, hs, hv⟩
    · exact gs.2.2 e he
theorem k_rdo_ok {N : kN} {σ : Nat → Int} {S : kS} {M : pM} {c s : kE} {d : kDe} {a j : Nat} {q : pC} {L : List (kE × kS)} (h : kRS N σ S M) (hc : kSc S.1.length c) (hs : kSc S.1.length s) (ha : (a : Int) = k_ev σ c) (hj : (j : Int) = k_ev σ s) (hq : M[a]? = some q) (hk : kCell d q) (hjl : j < d.2.1) (hr : k_rdo S c s d = some L) : ∃ (w : Value) (x : Int), q.2[j]? = some w ∧ kNum w x ∧ kGot N S.1.length σ M L x := by
  unfold k_rdo at hr
  split at hr
  · rename_i v hv
    cases hr
    obtain ⟨sv, hh⟩ := k_fq_ok h hv
    obtain ⟨w, e1, e2⟩ := k_hasR_in hh ha hj hq
    exact ⟨w, _, e1, e2, _, List.mem_singleton.mpr rfl, σ, fun _ _ => rfl, Nat.le_refl _, h, k_nv_ok h.2.1, k_nv_sc sv⟩
  · split at hr
    · cases hr
    · rename_i L' hL'
      cases hr
      obtain ⟨w, x, e1, e2, r, hr, τ, t1, t2, t3, t4, t5⟩ := k_rdz_ok h hs hj hk hjl hL'
      refine ⟨w, x, e1, e2, _, List.mem_map.mpr ⟨r, hr, rfl⟩, τ, t1, t2, ?_, t4, t5⟩
      exact kRS_know t3 (hc.mono t2) (hs.mono t2) t5 (by rw [k_ev_agree t1 hc]; exact ha) (by rw [k_ev_agree t1 hs]; exact hj) hq e1 (by rw [t4]; exact e2)
end
