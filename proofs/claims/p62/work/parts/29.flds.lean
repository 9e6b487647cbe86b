/-! fields, lengths, constants, switches -/
section KFD
variable {E : pM} {N : Nat} {mods : List kMd} {D X : List kDe} {σ : Nat → Int} {M : pM} {S : kS} {kl : kLs} {kt : List kV} {ls : pL} {st : List Value} {pc : Nat} {L : List kR}
/-- a store of a long -/
def k_asJ (D : List kDe) (mods : List kMd) (S : kS) (pc : Nat) (kl : kLs) (kt : List kV) : Option (List kR) := match kt with
  | (1, _) :: (0, j) :: (2, c) :: t => (match k_co D S.1 c with
    | some d => cond (Nat.beq d.1 1 && k_ix S j d.2.1 && Nat.blt 0 d.2.2.1 && k_k1 d (k_rs S.1 d.2.2.1 j) && k_rect S mods c j) (k_1 S (pc + 1) kl t) none
    | none => none)
  | _ => none
theorem kRS_putJ {a j : Nat} {q : pC} {y : Int64} (h : kRS N σ S M) (hq : M[a]? = some q) (hj : ∃ x : Int64, q.2[j]? = some (.long x)) : kRS N σ S (pm_put M a j q (.long y)) := by
  obtain ⟨g0, gb, gf, gn, gc, gs⟩ := h
  refine ⟨g0, gb, gf, gn, fun e he => kHas_put hq (gc e he) (fun hx => ?_), gs⟩
  obtain ⟨x, hx1, -⟩ := k_has_in (gc e he) hx.1.symm hx.2.symm hq
  obtain ⟨x', hx'⟩ := hj
  rw [hx1] at hx'
  cases hx'
theorem k_k1_d {d : kDe} {rs : List Nat} {j : Nat} (h : k_k1 d rs = true) (hj : j % d.2.2.1 ∈ rs) : ∃ lo hi, d.2.2.2[j % d.2.2.1]? = some (1, lo, hi) := by
  have h1 := List.all_eq_true.mp h _ hj
  split at h1
  · rename_i q hq
    obtain ⟨k, lo, hi⟩ := q
    have h1 : k = 1 := pm_beq h1
    subst h1
    exact ⟨lo, hi, hq⟩
  · cases h1
theorem k_asJ_ok (hD : D.length ≤ pmX) (h : kRS N σ S M) (hM : kMem D M) (hl : kRL E S.1.length σ kl ls) (ht : kRT E S.1.length σ kt st) (hL : k_asJ D mods S pc kl kt = some L) : kTo E N mods D S.1.length σ M L (pm_ast pm_fJ pc ls st M) := by
  unfold k_asJ at hL
  split at hL
  · rename_i ev ej ec t
    obtain ⟨y, r0, rfl, h0⟩ := ht.lng
    obtain ⟨j, r1, rfl, s1, e1, h3⟩ := h0.int
    obtain ⟨a, r, rfl, s2, e2, hlt, hr⟩ := h3.rf
    split at hL
    · rename_i d hd
      obtain ⟨h1, hL⟩ := pm_cs hL
      simp only [Bool.and_eq_true] at h1
      obtain ⟨⟨⟨⟨h1, h2⟩, h4⟩, h5⟩, h6⟩ := h1
      have h1 := pm_beq h1
      have h4 : 0 < d.2.2.1 := pm_blt h4
      obtain ⟨q, f1, f2, f3, f4, f5⟩ := k_own_ok (E := E) hD h hM e2 hd
      have hi := k_ix_ok h h2
      rw [← e1] at hi
      have hcl := k_clamp hi.1
      have hlen : j.toNatClampNeg < q.2.length := by rw [f2.2.1]; omega
      have hv : q.2[j.toNatClampNeg]? = some q.2[j.toNatClampNeg] := List.getElem?_eq_getElem hlen
      have hres := k_rs_ok h.2.1 h4 (j := j.toNatClampNeg) (s := ej) (by rw [hcl]; exact e1)
      obtain ⟨x, hx⟩ := k_k1_ok h5 hres (f2.2.2 _ _ hv)
      obtain ⟨lo, hi', hds⟩ := k_k1_d h5 hres
      cases hL
      refine ⟨(pc + 1, ls, r, pm_put M a j.toNatClampNeg q (.long y)), ?_, _, List.mem_singleton.mpr rfl, σ, fun _ _ => rfl, Nat.le_refl _, kRS_putJ h f1 ⟨x, by rw [hv, hx]⟩, rfl, hl, hr, kSame_put f1 (k_rect_ok h e2 (by rw [hcl]; exact e1) h6), kMem_put hM f1 (fun d' hd' => ?_)⟩
      · unfold pm_ast
        simp only [f1, k_in_of (n := q.2.length) hi.1 (by rw [f2.2.1]; exact hi.2), cond_true]
        rw [f2.1, h1]
        rfl
      · rw [f3] at hd'
        cases hd'
        unfold kOk
        rw [hds]
        exact ⟨y, rfl⟩
    · cases hL
  · cases hL
/-- a length -/
def k_alen (D X : List kDe) (S : kS) (pc : Nat) (kl : kLs) (kt : List kV) : Option (List kR) := match kt with
  | (2, c) :: t => (match (match k_co D S.1 c with
      | some d => some d
      | none => k_ex X c) with
    | some d => cond (Nat.blt d.1 6 && Nat.blt d.2.1 100001) (k_1 S (pc + 1) kl ((0, kc (d.2.1 : Int)) :: t)) none
    | none => cond (k_cst c && decide (c.1 = (pmX : Int)) && k_fit S.1 S.2.1 0 100000 (kv 0)) (k_1 S (pc + 1) kl ((0, kv 0) :: t)) none)
  | _ => none
theorem kI_ofNat {n : Nat} (h : n ≤ 100000) : (Int32.ofNat n).toInt = (n : Int) := Int32.toInt_ofNat_small (by omega)
theorem k_alen_ok (hD : D.length ≤ pmX) (hX : kExt X N E) (h : kRS N σ S M) (hM : kMem D M) (hl : kRL E S.1.length σ kl ls) (ht : kRT E S.1.length σ kt st) (hL : k_alen D X S pc kl kt = some L) : kTo E N mods D S.1.length σ M L (pm_alen E pc ls st M) := by
  unfold k_alen at hL
  split at hL
  · rename_i ec t
    obtain ⟨a, r, rfl, s2, e2, hlt, hr⟩ := ht.rf
    split at hL
    · rename_i d hd
      obtain ⟨h1, hL⟩ := pm_cs hL
      obtain ⟨h1, h2⟩ := Bool.and_eq_true_iff.mp h1
      have h2 := pm_blt h2
      have hcell : ∃ q, pm_cell E M a = some q ∧ kCell d q := by
        split at hd
        · rename_i d' hd'
          cases hd
          obtain ⟨q, f1, f2, f3, f4, f5⟩ := k_own_ok (E := E) hD h hM e2 hd'
          exact ⟨q, f5, f2⟩
        · obtain ⟨q, f1, f2, f3⟩ := k_ex_ok (M := M) hX e2 hd
          exact ⟨q, f1, f2⟩
      obtain ⟨q, f1, f2⟩ := hcell
      refine ⟨(pc + 1, ls, .int (Int32.ofNat q.2.length) :: r, M), ?_, kNx.cst h hM hl hr (by rw [f2.2.1]; exact kI_ofNat (by omega)) hL⟩
      unfold pm_alen
      simp only [f1, f2.1, h1, cond_true]
      rfl
    · obtain ⟨h1, hL⟩ := pm_cs hL
      simp only [Bool.and_eq_true, decide_eq_true_eq] at h1
      obtain ⟨⟨h1, h2⟩, h3⟩ := h1
      have h3 := k_fit_ok h.2.1 h.2.2.1 h3
      rw [k_ev_v, h.1.1] at h3
      rw [k_ev_const h1, h2] at e2
      obtain ⟨sl, x1, x2, x3⟩ := hX.2.1
      have ha : a = pmX + 0 := by omega
      refine ⟨(pc + 1, ls, .int (Int32.ofNat sl.length) :: r, M), ?_, kNx.one (kt := (0, kv 0) :: t) (st := .int (Int32.ofNat sl.length) :: r) h hM hl ⟨⟨kSc_v (by have := h.1.2; omega), _, rfl, ?_⟩, hr⟩ hL⟩
      · unfold pm_alen
        simp only [ha, pm_cell_ext, x1]
        rfl
      · show (Int32.ofNat sl.length).toInt = k_ev σ (kv 0)
        rw [k_ev_v, h.1.1, x2]
        exact kI_ofNat (by omega)
  · cases hL
/-- a field read -/
def k_fv (D X : List kDe) (S : kS) (c : kE) (k : Nat) (d : kDe) (own : Bool) : Option (kV × kS) := match d.2.2.2[k % d.2.2.1]? with
  | some (0, lo, hi) => cond own (match k_rdo S c (kc (k : Int)) d with
    | some r => some ((0, r.1), r.2)
    | none => none) (some ((0, (k_new S lo hi).1), (k_new S lo hi).2))
  | some (1, _, _) => some ((1, kc 0), S)
  | some (2, lo, _) => cond (decide (0 ≤ lo) && decide (lo < (pmX : Int) + (X.length : Int) + 1)) (some ((2, kc lo), S)) none
  | _ => none
def k_getf (D X : List kDe) (S : kS) (own idx pc : Nat) (kl : kLs) (kt : List kV) : Option (List kR) := match pm_tl pmFT own idx, kt with
  | some t, (2, c) :: r => (match k_co D S.1 c with
    | some d => cond (Nat.beq d.1 (16 + t.1) && Nat.blt t.2.1 d.2.1 && Nat.blt 0 d.2.2.1) (match k_fv D X S c t.2.1 d true with
      | some w => k_1 w.2 (pc + 3) kl (w.1 :: r)
      | none => none) none
    | none => (match k_ex X c with
      | some d => cond (Nat.beq d.1 (16 + t.1) && Nat.blt t.2.1 d.2.1 && Nat.blt 0 d.2.2.1) (match k_fv D X S c t.2.1 d false with
        | some w => k_1 w.2 (pc + 3) kl (w.1 :: r)
        | none => none) none
      | none => none))
  | _, _ => none
theorem k_fv_ok {c : kE} {k a : Nat} {d : kDe} {own : Bool} {q : pC} {w : kV × kS} (hX : kExt X N E) (h : kRS N σ S M) (hs : kSc S.1.length c) (ha : (a : Int) = k_ev σ c) (hk : kCell d q) (hkl : k < d.2.1) (hper : 0 < d.2.2.1) (hown : own = true → M[a]? = some q) (hw : k_fv D X S c k d own = some w) : ∃ (v : Value) (τ : Nat → Int), q.2[k]? = some v ∧ kAgr S.1.length σ τ ∧ S.1.length ≤ w.2.1.length ∧ kRS N τ w.2 M ∧ kRV E w.2.1.length τ w.1 v := by
  have hlen : k < q.2.length := by rw [hk.2.1]; exact hkl
  have hv : q.2[k]? = some q.2[k] := List.getElem?_eq_getElem hlen
  have hok := hk.2.2 _ _ hv
  unfold k_fv at hw
  unfold kOk at hok
  split at hw
  · rename_i lo hi hd
    rw [hd] at hok
    cases own with
    | true =>
      rw [cond_true] at hw
      split at hw
      · rename_i r hr
        cases hw
        obtain ⟨x, τ, g1, g2, g3, g4, g5, g6⟩ := k_rdo_ok (D := D) (j := k) h hs kSc_c ha (by rw [k_ev_c]) (hown rfl) hk hkl hper hr
        exact ⟨_, τ, g1, g2, g3, g4, g6, x, rfl, g5.symm⟩
      · cases hw
    | false =>
      rw [cond_false] at hw
      cases hw
      obtain ⟨x, hx, x1, x2⟩ := hok
      obtain ⟨τ, t1, t2, t3, t4, t5⟩ := k_new_ok h x1 x2
      exact ⟨_, τ, by rw [hv, hx], t1, t2, t3, t5, x, rfl, t4.symm⟩
  · rename_i lo hi hd
    rw [hd] at hok
    cases hw
    obtain ⟨x, hx⟩ := hok
    exact ⟨_, σ, by rw [hv, hx], fun _ _ => rfl, Nat.le_refl _, h, kSc_c, x, rfl⟩
  · rename_i lo hi hd
    rw [hd] at hok
    obtain ⟨h1, hw⟩ := pm_cs hw
    simp only [Bool.and_eq_true, decide_eq_true_eq] at h1
    cases hw
    have hok : q.2[k] = .ref lo.toNat := hok
    refine ⟨_, σ, by rw [hv, hok], fun _ _ => rfl, Nat.le_refl _, h, kSc_c, lo.toNat, rfl, ?_, ?_⟩
    · show ((lo.toNat : Nat) : Int) = k_ev σ (kc lo)
      rw [k_ev_c]
      omega
    · rw [hX.1]
      omega
  · cases hw
theorem k_getf_ok {own idx : Nat} (hD : D.length ≤ pmX) (hX : kExt X N E) (h : kRS N σ S M) (hM : kMem D M) (hl : kRL E S.1.length σ kl ls) (ht : kRT E S.1.length σ kt st) (hL : k_getf D X S own idx pc kl kt = some L) : kTo E N mods D S.1.length σ M L (pm_getf E own idx pc ls st M) := by
  unfold k_getf at hL
  split at hL
  · rename_i t c rk hti
    obtain ⟨a, r, rfl, s2, e2, hlt, hr⟩ := ht.rf
    have fin : ∀ (d : kDe) (q : pC) (o : Bool) (w : kV × kS), pm_cell E M a = some q → kCell d q → (o = true → M[a]? = some q) → (Nat.beq d.1 (16 + t.1) && Nat.blt t.2.1 d.2.1 && Nat.blt 0 d.2.2.1) = true → k_fv D X S c t.2.1 d o = some w → k_1 w.2 (pc + 3) kl (w.1 :: rk) = some L → kTo E N mods D S.1.length σ M L (pm_getf E own idx pc ls (.ref a :: r) M) := by
      intro d q o w f1 f2 f3 h1 hw hL
      simp only [Bool.and_eq_true] at h1
      obtain ⟨⟨h1, h2⟩, h3⟩ := h1
      obtain ⟨v, τ, g1, g2, g3, g4, g5⟩ := k_fv_ok (E := E) hX h s2 e2 f2 (pm_blt h2) (pm_blt h3) f3 hw
      cases hL
      refine ⟨(pc + 3, ls, v :: r, M), ?_, _, List.mem_singleton.mpr rfl, τ, g2, g3, g4, rfl, hl.agr g2 g3, ⟨g5, hr.agr g2 g3⟩, kSame.rf, hM⟩
      unfold pm_getf
      simp only [hti, f1, f2.1, h1, cond_true, g1]
      rfl
    split at hL
    · rename_i d hd
      obtain ⟨h1, hL⟩ := pm_cs hL
      obtain ⟨q, f1, f2, f3, f4, f5⟩ := k_own_ok (E := E) hD h hM e2 hd
      split at hL
      · rename_i w hw
        exact fin d q true w f5 f2 (fun _ => f1) h1 hw hL
      · cases hL
    · split at hL
      · rename_i d hd
        obtain ⟨h1, hL⟩ := pm_cs hL
        obtain ⟨q, f1, f2, f3⟩ := k_ex_ok (M := M) hX e2 hd
        split at hL
        · rename_i w hw
          exact fin d q false w f1 f2 (fun e => by cases e) h1 hw hL
        · cases hL
      · cases hL
  · cases hL
end KFD
