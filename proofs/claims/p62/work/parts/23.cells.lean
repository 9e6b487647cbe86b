/-! which residues a place may have, what may lie there -/
def k_rg (lo hi : Int) : List Nat := (List.range (hi - lo + 1).toNat).map (fun k => lo.toNat + k)
def k_md (p : Nat) (s : kE) : kE := (s.1 % (p : Int), s.2.filter (fun q => !(decide (q.2 % (p : Int) = 0))))
def k_rs2 (p : Nat) (lo hi : Int) : List Nat := cond (decide (0 ≤ lo) && decide (hi < (p : Int))) (k_rg lo hi) (cond (decide ((p : Int) ≤ lo) && decide (hi < 2 * (p : Int))) (k_rg (lo - p) (hi - p)) (List.range p))
def k_rs (b : kB) (p : Nat) (s : kE) : List Nat := cond (Nat.beq p 1) [0] (k_rs2 p (k_lo b (k_md p s)) (k_hi b (k_md p s)))
theorem k_rg_in {lo hi : Int} {z : Int} {j : Nat} (h0 : 0 ≤ lo) (h1 : lo ≤ z) (h2 : z ≤ hi) (hj : (j : Int) = z) : j ∈ k_rg lo hi := by
  unfold k_rg
  refine List.mem_map.mpr ⟨j - lo.toNat, List.mem_range.mpr (by omega), by omega⟩
theorem k_mdl (σ : Nat → Int) (p : Nat) : ∀ l : List (Nat × Int), ∃ t : Int, k_evl σ l = k_evl σ (l.filter (fun q => !(decide (q.2 % (p : Int) = 0)))) + (p : Int) * t
  | [] => ⟨0, by simp [k_evl]⟩
  | q :: l => by
    obtain ⟨t, ht⟩ := k_mdl σ p l
    cases h : decide (q.2 % (p : Int) = 0) with
    | true =>
      have hd := of_decide_eq_true h
      refine ⟨q.2 / (p : Int) * σ q.1 + t, ?_⟩
      rw [List.filter_cons_of_neg (by simp [hd])]
      have e : q.2 * σ q.1 = (p : Int) * (q.2 / (p : Int) * σ q.1) := by
        rw [← Int.mul_assoc]
        congr 1
        have := Int.mul_ediv_add_emod q.2 (p : Int)
        omega
      simp only [k_evl]
      rw [ht, e, Int.mul_add]
      omega
    | false =>
      have hd := of_decide_eq_false h
      refine ⟨t, ?_⟩
      rw [List.filter_cons_of_pos (by simp [hd])]
      simp only [k_evl]
      rw [ht]
      omega
theorem k_md_ev (σ : Nat → Int) (p : Nat) (s : kE) : ∃ t : Int, k_ev σ s = k_ev σ (k_md p s) + (p : Int) * t := by
  obtain ⟨t, ht⟩ := k_mdl σ p s.2
  refine ⟨s.1 / (p : Int) + t, ?_⟩
  unfold k_ev k_md
  simp only
  rw [ht, Int.mul_add]
  have := Int.mul_ediv_add_emod s.1 (p : Int)
  omega
theorem k_mod_of {j p : Nat} {z t : Int} (hp : 0 < p) (h : (j : Int) = z + (p : Int) * t) (h0 : 0 ≤ z) (h1 : z < (p : Int)) : ((j % p : Nat) : Int) = z := by
  have e : ((j % p : Nat) : Int) = (j : Int) % (p : Int) := Int.natCast_emod j p
  rw [e, h, Int.add_mul_emod_self_left, Int.emod_eq_of_lt h0 h1]
theorem k_rs_ok {σ : Nat → Int} {b : kB} {p j : Nat} {s : kE} (hb : kBd σ b) (hp : 0 < p) (hj : (j : Int) = k_ev σ s) : j % p ∈ k_rs b p s := by
  unfold k_rs
  cases h1 : Nat.beq p 1 with
  | true =>
    rw [pm_beq h1, cond_true, Nat.mod_one]
    exact List.mem_singleton.mpr rfl
  | false =>
    rw [cond_false]
    obtain ⟨t, ht⟩ := k_md_ev σ p s
    have hl := k_lo_le hb (k_md p s)
    have hh := k_hi_ge hb (k_md p s)
    rw [ht] at hj
    unfold k_rs2
    cases h2 : (decide (0 ≤ k_lo b (k_md p s)) && decide (k_hi b (k_md p s) < (p : Int))) with
    | true =>
      simp only [Bool.and_eq_true, decide_eq_true_eq] at h2
      rw [cond_true]
      exact k_rg_in h2.1 hl hh (k_mod_of hp hj (by omega) (by omega))
    | false =>
      rw [cond_false]
      cases h3 : (decide ((p : Int) ≤ k_lo b (k_md p s)) && decide (k_hi b (k_md p s) < 2 * (p : Int))) with
      | true =>
        simp only [Bool.and_eq_true, decide_eq_true_eq] at h3
        rw [cond_true]
        have hj2 : (j : Int) = (k_ev σ (k_md p s) - p) + (p : Int) * (t + 1) := by rw [Int.mul_add, Int.mul_one]; omega
        exact k_rg_in (z := k_ev σ (k_md p s) - p) (by omega) (by omega) (by omega) (k_mod_of hp hj2 (by omega) (by omega))
      | false =>
        rw [cond_false]
        exact List.mem_range.mpr (Nat.mod_lt _ hp)
def k_d0 (ds : List (Nat × Int × Int)) (r : Nat) : Option (Int × Int) := match ds[r]? with
  | some d => cond (Nat.beq d.1 0) (some d.2) none
  | none => none
def k_hl (ds : List (Nat × Int × Int)) : Int × Int → List Nat → Option (Int × Int)
  | w, [] => some w
  | w, r :: t => match k_d0 ds r with
    | some d => k_hl ds (cond (decide (d.1 < w.1)) d.1 w.1, cond (decide (w.2 < d.2)) d.2 w.2) t
    | none => none
def k_hull (ds : List (Nat × Int × Int)) (rs : List Nat) : Option (Int × Int) := match rs with
  | [] => none
  | r :: t => match k_d0 ds r with
    | some d => k_hl ds d t
    | none => none
theorem k_cmin {a b : Int} : (cond (decide (a < b)) a b) ≤ a ∧ (cond (decide (a < b)) a b) ≤ b := by
  cases h : decide (a < b) with
  | true =>
    have := of_decide_eq_true h
    rw [cond_true]
    omega
  | false =>
    have := of_decide_eq_false h
    rw [cond_false]
    omega
theorem k_cmax {a b : Int} : a ≤ (cond (decide (b < a)) a b) ∧ b ≤ (cond (decide (b < a)) a b) := by
  cases h : decide (b < a) with
  | true =>
    have := of_decide_eq_true h
    rw [cond_true]
    omega
  | false =>
    have := of_decide_eq_false h
    rw [cond_false]
    omega
theorem k_hl_ok {ds : List (Nat × Int × Int)} : ∀ (t : List Nat) (w u : Int × Int), k_hl ds w t = some u → (u.1 ≤ w.1 ∧ w.2 ≤ u.2) ∧ ∀ r ∈ t, ∃ d, k_d0 ds r = some d ∧ u.1 ≤ d.1 ∧ d.2 ≤ u.2
  | [], w, u, h => by
    cases h
    exact ⟨⟨Int.le_refl _, Int.le_refl _⟩, fun r hr => by cases hr⟩
  | r :: t, w, u, h => by
    unfold k_hl at h
    split at h
    · rename_i d hd
      obtain ⟨⟨h1, h2⟩, h3⟩ := k_hl_ok t _ _ h
      have h1 : u.1 ≤ cond (decide (d.1 < w.1)) d.1 w.1 := h1
      have h2 : cond (decide (w.2 < d.2)) d.2 w.2 ≤ u.2 := h2
      have a := k_cmin (a := d.1) (b := w.1)
      have b := k_cmax (a := d.2) (b := w.2)
      refine ⟨⟨by omega, by omega⟩, fun r' hr' => ?_⟩
      rcases List.mem_cons.mp hr' with rfl | hr'
      · exact ⟨d, hd, by omega, by omega⟩
      · exact h3 r' hr'
    · cases h
theorem k_hull_ok {ds : List (Nat × Int × Int)} {rs : List Nat} {u : Int × Int} (h : k_hull ds rs = some u) : ∀ r ∈ rs, ∃ d, k_d0 ds r = some d ∧ u.1 ≤ d.1 ∧ d.2 ≤ u.2 := by
  unfold k_hull at h
  split at h
  · cases h
  · split at h
    · rename_i r t d hd
      obtain ⟨⟨h1, h2⟩, h3⟩ := k_hl_ok _ _ _ h
      intro r' hr'
      rcases List.mem_cons.mp hr' with rfl | hr'
      · exact ⟨d, hd, h1, h2⟩
      · exact h3 r' hr'
    · cases h
theorem k_d0_ok {ds : List (Nat × Int × Int)} {r : Nat} {w : Int × Int} (h : k_d0 ds r = some w) : ds[r]? = some (0, w.1, w.2) := by
  unfold k_d0 at h
  split at h
  · rename_i d hd
    obtain ⟨h1, h2⟩ := pm_cs h
    cases h2
    rw [hd]
    obtain ⟨k, lo, hi⟩ := d
    have h1 : k = 0 := pm_beq h1
    rw [h1]
  · cases h
def k_leq : List (Nat × Int × Int) → List (Nat × Int × Int) → Bool
  | [], [] => true
  | x :: l, y :: m => Nat.beq x.1 y.1 && (decide (x.2.1 = y.2.1) && (decide (x.2.2 = y.2.2) && k_leq l m))
  | _, _ => false
theorem k_leq_ok : ∀ {l m : List (Nat × Int × Int)}, k_leq l m = true → l = m
  | [], [], _ => rfl
  | x :: l, y :: m, h => by
    unfold k_leq at h
    simp only [Bool.and_eq_true, decide_eq_true_eq] at h
    obtain ⟨x1, x2, x3⟩ := x
    obtain ⟨y1, y2, y3⟩ := y
    obtain ⟨h1, h2, h3, h4⟩ := h
    have h1 : x1 = y1 := pm_beq h1
    have h2 : x2 = y2 := h2
    have h3 : x3 = y3 := h3
    rw [h1, h2, h3, k_leq_ok h4]
  | [], _ :: _, h => by cases h
  | _ :: _, [], h => by cases h
def k_same (o : Option kDe) (d : kDe) : Bool := match o with
  | some e => Nat.beq e.1 d.1 && (Nat.beq e.2.1 d.2.1 && (Nat.beq e.2.2.1 d.2.2.1 && k_leq e.2.2.2 d.2.2.2))
  | none => false
theorem k_same_ok {o : Option kDe} {d : kDe} (h : k_same o d = true) : o = some d := by
  unfold k_same at h
  split at h
  · rename_i e
    simp only [Bool.and_eq_true] at h
    obtain ⟨e1, e2, e3, e4⟩ := e
    obtain ⟨d1, d2, d3, d4⟩ := d
    obtain ⟨h1, h2, h3, h4⟩ := h
    have h1 : e1 = d1 := pm_beq h1
    have h2 : e2 = d2 := pm_beq h2
    have h3 : e3 = d3 := pm_beq h3
    have h4 : e4 = d4 := k_leq_ok h4
    rw [h1, h2, h3, h4]
  · cases h
/-- the cell of our own that a word names -/
def k_co (D : List kDe) (b : kB) (c : kE) : Option kDe := cond (Nat.beq c.2.length 0) (cond (decide (0 ≤ c.1)) D[c.1.toNat]? none)
  (cond (decide (0 ≤ k_lo b c)) (match D[(k_lo b c).toNat]? with
    | some d => cond ((List.range (k_hi b c - k_lo b c).toNat).all (fun k => k_same D[(k_lo b c).toNat + 1 + k]? d)) (some d) none
    | none => none) none)
theorem k_ev_const {σ : Nat → Int} {c : kE} (h : Nat.beq c.2.length 0 = true) : k_ev σ c = c.1 := by
  have h : c.2 = [] := List.length_eq_zero_iff.mp (pm_beq h)
  unfold k_ev
  rw [h]
  simp [k_evl]
theorem k_co_ok {D : List kDe} {σ : Nat → Int} {b : kB} {c : kE} {r : Nat} {d : kDe} (hb : kBd σ b) (hr : (r : Int) = k_ev σ c) (h : k_co D b c = some d) : D[r]? = some d := by
  unfold k_co at h
  cases h1 : Nat.beq c.2.length 0 with
  | true =>
    rw [h1, cond_true] at h
    obtain ⟨-, h⟩ := pm_cs h
    rw [k_ev_const h1] at hr
    rw [show r = c.1.toNat by omega]
    exact h
  | false =>
    rw [h1, cond_false] at h
    obtain ⟨h2, h⟩ := pm_cs h
    have h2 := of_decide_eq_true h2
    split at h
    · rename_i d' hd'
      obtain ⟨h3, h⟩ := pm_cs h
      cases h
      have hl := k_lo_le hb c
      have hh := k_hi_ge hb c
      rw [← hr] at hl hh
      by_cases he : (r : Int) = k_lo b c
      · rw [show r = (k_lo b c).toNat by omega]
        exact hd'
      · have := List.all_eq_true.mp h3 (r - (k_lo b c).toNat - 1) (List.mem_range.mpr (by omega))
        have := k_same_ok this
        rw [show (k_lo b c).toNat + 1 + (r - (k_lo b c).toNat - 1) = r by omega] at this
        exact this
    · cases h
def k_ix (S : kS) (s : kE) (n : Nat) : Bool := k_ge S.1 S.2.1 s && k_ge S.1 S.2.1 (k_sub (kc ((n : Int) - 1)) s)
theorem k_ix_ok {N : Nat} {σ : Nat → Int} {S : kS} {M : pM} {s : kE} {n : Nat} (h : kRS N σ S M) (hi : k_ix S s n = true) : 0 ≤ k_ev σ s ∧ k_ev σ s < (n : Int) := by
  unfold k_ix at hi
  obtain ⟨h1, h2⟩ := Bool.and_eq_true_iff.mp hi
  have h1 := k_ge_ok h.2.1 h.2.2.1 h1
  have h2 := k_ge_ok h.2.1 h.2.2.1 h2
  rw [k_ev_sub, k_ev_c] at h2
  omega
/-- what is known to lie there -/
def k_find (c s : kE) : List kH → Option kE
  | [] => none
  | q :: t => cond (decide (q.1 = (c, s))) (some q.2) (k_find c s t)
theorem k_find_in {c s v : kE} : ∀ {C : List kH}, k_find c s C = some v → ((c, s), v) ∈ C
  | [], h => by cases h
  | q :: t, h => by
    unfold k_find at h
    cases hd : decide (q.1 = (c, s)) with
    | true =>
      rw [hd, cond_true] at h
      cases h
      have hd := of_decide_eq_true hd
      rw [← hd]
      exact List.mem_cons_self
    | false =>
      rw [hd, cond_false] at h
      exact List.mem_cons_of_mem _ (k_find_in h)
def k_put (S : kS) (q : kH) : kS := (S.1, S.2.1, S.2.2.1, q :: S.2.2.2)
def k_rdo (S : kS) (c s : kE) (d : kDe) : Option (kE × kS) := match k_find c s S.2.2.2 with
  | some v => some (v, S)
  | none => match k_hull d.2.2.2 (k_rs S.1 d.2.2.1 s) with
    | none => none
    | some w => some ((k_new S w.1 w.2).1, k_put (k_new S w.1 w.2).2 ((c, s), (k_new S w.1 w.2).1))
theorem kOk_per {d : kDe} {j : Nat} {v : Value} (h : kOk d j v) : d.2.2.2[j % d.2.2.1]? ≠ none := by
  intro hn
  unfold kOk at h
  rw [hn] at h
  exact h
theorem kOk_int {d : kDe} {j : Nat} {v : Value} {lo hi : Int} (h : kOk d j v) (hd : d.2.2.2[j % d.2.2.1]? = some (0, lo, hi)) : ∃ x : Int32, v = .int x ∧ lo ≤ x.toInt ∧ x.toInt ≤ hi := by
  unfold kOk at h
  rw [hd] at h
  exact h
theorem k_has_in {M : pM} {a j : Nat} {q : pC} {c s v : Int} (h : kHas M c s v) (ha : (a : Int) = c) (hj : (j : Int) = s) (hq : M[a]? = some q) : ∃ x : Int32, q.2[j]? = some (.int x) ∧ x.toInt = v := by
  obtain ⟨a', j', x, q', e1, e2, e3, e4, e5⟩ := h
  have : a' = a := by omega
  subst this
  have : j' = j := by omega
  subst this
  rw [hq] at e3
  cases e3
  exact ⟨x, e4, e5⟩
theorem k_rdo_ok {D : List kDe} {N : Nat} {σ : Nat → Int} {S T : kS} {M : pM} {c s v : kE} {d : kDe} {a j : Nat} {q : pC} (h : kRS N σ S M) (hc : kSc S.1.length c) (hs : kSc S.1.length s) (ha : (a : Int) = k_ev σ c) (hj : (j : Int) = k_ev σ s) (hq : M[a]? = some q) (hk : kCell d q) (hjl : j < d.2.1) (hper : 0 < d.2.2.1)
    (hr : k_rdo S c s d = some (v, T)) : ∃ (x : Int32) (τ : Nat → Int), q.2[j]? = some (.int x) ∧ kAgr S.1.length σ τ ∧ S.1.length ≤ T.1.length ∧ kRS N τ T M ∧ k_ev τ v = x.toInt ∧ kSc T.1.length v := by
  unfold k_rdo at hr
  split at hr
  · rename_i v' hv
    cases hr
    have hin := k_find_in hv
    obtain ⟨x, e1, e2⟩ := k_has_in (h.2.2.2.2.1 _ hin) ha hj hq
    exact ⟨x, σ, e1, fun _ _ => rfl, Nat.le_refl _, h, e2.symm, (h.2.2.2.2.2.2.2 _ hin).2.2⟩
  · split at hr
    · cases hr
    · rename_i w hw
      cases hr
      have hl : j < q.2.length := by rw [hk.2.1]; exact hjl
      have hv : q.2[j]? = some q.2[j] := List.getElem?_eq_getElem hl
      have hok := hk.2.2 j _ hv
      obtain ⟨w', hw1, hw2, hw3⟩ := k_hull_ok hw _ (k_rs_ok h.2.1 hper hj)
      obtain ⟨x, hx, hx1, hx2⟩ := kOk_int hok (k_d0_ok hw1)
      obtain ⟨τ, t1, t2, t3, t4, t5⟩ := k_new_ok h (x := x.toInt) (lo := w.1) (hi := w.2) (by omega) (by omega)
      refine ⟨x, τ, by rw [hv, hx], t1, t2, ?_, t4, t5⟩
      obtain ⟨g0, gb, gf, gn, gc, gs⟩ := t3
      refine ⟨g0, gb, gf, gn, fun e he => ?_, gs.1, gs.2.1, fun e he => ?_⟩
      · rcases List.mem_cons.mp he with rfl | he
        · refine ⟨a, j, x, q, ?_, ?_, hq, by rw [hv, hx], t4.symm⟩
          · show (a : Int) = k_ev τ c
            rw [k_ev_agree t1 hc]
            exact ha
          · show (j : Int) = k_ev τ s
            rw [k_ev_agree t1 hs]
            exact hj
        · exact gc e he
      · rcases List.mem_cons.mp he with rfl | he
        · exact ⟨hc.mono t2, hs.mono t2, t5⟩
        · exact gs.2.2 e he
/-- a write of an int -/
def k_far (b : kB) (c s : kE) (q : kH) : Bool := (decide (k_hi b c < k_lo b q.1.1) || decide (k_hi b q.1.1 < k_lo b c)) || (decide (0 < k_lo b (k_sub s q.1.2)) || decide (k_hi b (k_sub s q.1.2) < 0))
def k_rect (S : kS) (mods : List kMd) (c s : kE) : Bool := mods.any (fun m => k_fit S.1 S.2.1 (m.1.1 : Int) (m.1.2 : Int) c && k_fit S.1 S.2.1 (m.2.1 : Int) (m.2.2 : Int) s)
def k_wro (mods : List kMd) (S : kS) (c s : kE) (d : kDe) (v : kE) : Option kS := cond (k_rect S mods c s && (k_rs S.1 d.2.2.1 s).all (fun r => match k_d0 d.2.2.2 r with
    | some w => k_fit S.1 S.2.1 w.1 w.2 v
    | none => false)) (some (S.1, S.2.1, S.2.2.1, ((c, s), v) :: S.2.2.2.filter (k_far S.1 c s))) none
theorem k_rect_ok {N : Nat} {σ : Nat → Int} {S : kS} {M : pM} {mods : List kMd} {c s : kE} {a j : Nat} (h : kRS N σ S M) (ha : (a : Int) = k_ev σ c) (hj : (j : Int) = k_ev σ s) (hr : k_rect S mods c s = true) : ∃ m ∈ mods, kInR m a j := by
  obtain ⟨m, hm, h1⟩ := List.any_eq_true.mp hr
  obtain ⟨h1, h2⟩ := Bool.and_eq_true_iff.mp h1
  have h1 := k_fit_ok h.2.1 h.2.2.1 h1
  have h2 := k_fit_ok h.2.1 h.2.2.1 h2
  refine ⟨m, hm, ?_⟩
  unfold kInR
  omega
theorem k_far_ok {σ : Nat → Int} {b : kB} {c s : kE} {q : kH} (hb : kBd σ b) (h : k_far b c s q = true) : ¬ (k_ev σ q.1.1 = k_ev σ c ∧ k_ev σ q.1.2 = k_ev σ s) := by
  rintro ⟨h1, h2⟩
  unfold k_far at h
  simp only [Bool.or_eq_true, decide_eq_true_eq] at h
  have a1 := k_lo_le hb c
  have a2 := k_hi_ge hb c
  have a3 := k_lo_le hb q.1.1
  have a4 := k_hi_ge hb q.1.1
  have a5 := k_lo_le hb (k_sub s q.1.2)
  have a6 := k_hi_ge hb (k_sub s q.1.2)
  rw [k_ev_sub] at a5 a6
  omega
theorem kMem_put {D : List kDe} {M : pM} {a j : Nat} {q : pC} {w : Value} (hM : kMem D M) (hq : M[a]? = some q) (hw : ∀ d, D[a]? = some d → kOk d j w) : kMem D (pm_put M a j q w) := by
  refine ⟨by unfold pm_put; rw [List.length_set]; exact hM.1, fun b d hd => ?_⟩
  have hal : a < M.length := (List.getElem?_eq_some_iff.mp hq).1
  by_cases hb : b = a
  · subst hb
    obtain ⟨q', e1, e2⟩ := hM.2 _ d hd
    rw [hq] at e1
    cases e1
    refine ⟨(q.1, q.2.set j w), by unfold pm_put; rw [List.getElem?_set_self hal], e2.1, by rw [List.length_set]; exact e2.2.1, fun i v hv => ?_⟩
    by_cases hi : i = j
    · subst hi
      have hl : i < q.2.length := by
        have := (List.getElem?_eq_some_iff.mp hv).1
        rwa [List.length_set] at this
      rw [List.getElem?_set_self hl] at hv
      cases hv
      exact hw d hd
    · rw [List.getElem?_set_ne (Ne.symm hi)] at hv
      exact e2.2.2 i v hv
  · obtain ⟨q', e1, e2⟩ := hM.2 b d hd
    exact ⟨q', by unfold pm_put; rw [List.getElem?_set_ne (Ne.symm hb)]; exact e1, e2⟩
theorem kSame_put {M : pM} {a j : Nat} {q : pC} {w : Value} {mods : List kMd} (hq : M[a]? = some q) (hm : ∃ m ∈ mods, kInR m a j) : kSame mods M (pm_put M a j q w) := by
  have hal : a < M.length := (List.getElem?_eq_some_iff.mp hq).1
  refine ⟨by unfold pm_put; rw [List.length_set], fun b c hc => ?_⟩
  by_cases hb : b = a
  · subst hb
    rw [hq] at hc
    cases hc
    refine ⟨(q.1, q.2.set j w), by unfold pm_put; rw [List.getElem?_set_self hal], rfl, List.length_set, fun i hi => ?_⟩
    have : i ≠ j := by
      rintro rfl
      obtain ⟨m, h1, h2⟩ := hm
      exact hi m h1 h2
    show (q.2.set j w)[i]? = _
    rw [List.getElem?_set_ne (Ne.symm this)]
  · exact ⟨c, by unfold pm_put; rw [List.getElem?_set_ne (Ne.symm hb)]; exact hc, rfl, rfl, fun _ _ => rfl⟩
theorem kHas_put {M : pM} {a j : Nat} {q : pC} {w : Value} {c s v : Int} (hq : M[a]? = some q) (h : kHas M c s v) (hne : ¬ (c = (a : Int) ∧ s = (j : Int))) : kHas (pm_put M a j q w) c s v := by
  have hal : a < M.length := (List.getElem?_eq_some_iff.mp hq).1
  obtain ⟨a', j', x, q', e1, e2, e3, e4, e5⟩ := h
  by_cases ha : a' = a
  · subst ha
    rw [hq] at e3
    cases e3
    have hj : j' ≠ j := fun e => hne ⟨e1.symm, by rw [← e2, e]⟩
    exact ⟨a', j', x, (q.1, q.2.set j w), e1, e2, by unfold pm_put; rw [List.getElem?_set_self hal], by show (q.2.set j w)[j']? = _; rw [List.getElem?_set_ne (Ne.symm hj)]; exact e4, e5⟩
  · exact ⟨a', j', x, q', e1, e2, by unfold pm_put; rw [List.getElem?_set_ne (Ne.symm ha)]; exact e3, e4, e5⟩
theorem k_wro_ok {D : List kDe} {N : Nat} {σ : Nat → Int} {S T : kS} {M : pM} {mods : List kMd} {c s v : kE} {d : kDe} {a j : Nat} {q : pC} {y : Int32} (h : kRS N σ S M) (hM : kMem D M) (hc : kSc S.1.length c) (hs : kSc S.1.length s) (hv : kSc S.1.length v) (ha : (a : Int) = k_ev σ c) (hj : (j : Int) = k_ev σ s) (hq : M[a]? = some q) (hd : D[a]? = some d) (hjl : j < q.2.length) (hper : 0 < d.2.2.1) (hy : y.toInt = k_ev σ v)
    (hr : k_wro mods S c s d v = some T) : T.1.length = S.1.length ∧ kRS N σ T (pm_put M a j q (.int y)) ∧ kMem D (pm_put M a j q (.int y)) ∧ kSame mods M (pm_put M a j q (.int y)) := by
  unfold k_wro at hr
  obtain ⟨h1, hr⟩ := pm_cs hr
  cases hr
  obtain ⟨h1, h2⟩ := Bool.and_eq_true_iff.mp h1
  have hal : a < M.length := (List.getElem?_eq_some_iff.mp hq).1
  have hres := List.all_eq_true.mp h2 _ (k_rs_ok h.2.1 hper hj)
  have hok : kOk d j (.int y) := by
    split at hres
    · rename_i w hw
      have hf := k_fit_ok h.2.1 h.2.2.1 hres
      unfold kOk
      rw [k_d0_ok hw]
      exact ⟨y, rfl, by rw [hy]; exact hf.1, by rw [hy]; exact hf.2⟩
    · cases hres
  obtain ⟨g0, gb, gf, gn, gc, gs⟩ := h
  refine ⟨rfl, ⟨g0, gb, gf, gn, fun e he => ?_, gs.1, gs.2.1, fun e he => ?_⟩, kMem_put hM hq (fun d' hd' => by rw [hd] at hd'; cases hd'; exact hok), kSame_put hq (k_rect_ok ⟨g0, gb, gf, gn, gc, gs⟩ ha hj h1)⟩
  · rcases List.mem_cons.mp he with rfl | he
    · exact ⟨a, j, y, (q.1, q.2.set j (.int y)), ha, hj, by unfold pm_put; rw [List.getElem?_set_self hal], by show (q.2.set j _)[j]? = _; rw [List.getElem?_set_self hjl], hy⟩
    · obtain ⟨he1, he2⟩ := List.mem_filter.mp he
      exact kHas_put hq (gc e he1) (fun hx => k_far_ok gb he2 ⟨by rw [hx.1, ha], by rw [hx.2, hj]⟩)
  · rcases List.mem_cons.mp he with rfl | he
    · exact ⟨hc, hs, hv⟩
    · exact gs.2.2 e (List.mem_filter.mp he).1
