noncomputable section
/-! fields, lengths, constants, switches -/
section KFD
variable {E : pM} {N : kN} {mods : List kMd} {D : kDD} {X : List kDe} {σ : Nat → Int} {M : pM} {S : kS} {kl : kLs} {kt : List kV} {ls : pL} {st : List Value} {pc : Nat} {L : List kR}
/-- a length -/
def k_alen (D : kDD) (X : List kDe) (S : kS) (pc : Nat) (kl : kLs) (kt : List kV) : Option (List kR) := match kt with
  | (2, c) :: t => (match (match k_co D S.1 c with
      | some d => some d
      | none => k_ex X c) with
    | some d => cond (Nat.blt d.1 6 && Nat.blt d.2.1 100001) (k_1 S (pc + 1) kl ((0, kc (d.2.1 : Int)) :: t)) none
    | none => cond (k_cst c && decide (c.1 = (pmX : Int)) && k_fit S.1 S.2.1 0 100000 (kv 0)) (k_1 S (pc + 1) kl ((0, kv 0) :: t)) none)
  | _ => none
theorem kI_ofNat {n : Nat} (h : n ≤ 100000) : (Int32.ofNat n).toInt = (n : Int) := Int32.toInt_ofNat_small (by omega)
theorem k_alen_ok (hD : D.1 ≤ pmX) (hX : kExt X N E) (h : kRS N σ S M) (hM : kMem D M) (hl : kRL E S.1.length σ kl ls) (ht : kRT E S.1.length σ kt st) (hL : k_alen D X S pc kl kt = some L) : kTo E N mods D S.1.length σ M L (pm_alen E pc ls st M) := by
  unfold k_alen at hL
  split at hL
  · rename_i ec t
    obtain ⟨a, r, rfl, s2, e2, hlt, hr⟩ := ht.rf
    split at hL
    · rename_i d hd
      obtain ⟨h1, hL⟩ := pm_cs hL
      obtain ⟨h1, h2⟩ := Bool.and_eq_true_iff.mp h1
      have h2 := pm_blt h2
      have hcell : ∃ q, pm_cell E M a = some q ∧ kCell d q := by
        split at hd
        · rename_i d' hd'
          cases hd
          obtain ⟨q, f1, f2, f3, f4, f5⟩ := k_own_ok (E := E) hD h hM e2 hd'
          exact ⟨q, f5, f2⟩
        · obtain ⟨q, f1, f2, f3⟩ := k_ex_ok (M := M) hX e2 hd
          exact ⟨q, f1, f2⟩
      obtain ⟨q, f1, f2⟩ := hcell
      refine ⟨(pc + 1, ls, .int (Int32.ofNat q.2.length) :: r, M), ?_, kNx.cst h hM hl hr (by rw [f2.2.1]; exact kI_ofNat (by omega)) hL⟩
      unfold pm_alen
      simp only [f1, f2.1, h1, cond_true]
      rfl
    · obtain ⟨h1, hL⟩ := pm_cs hL
      simp only [Bool.and_eq_true, decide_eq_true_eq] at h1
      obtain ⟨⟨h1, h2⟩, h3⟩ := h1
      have h3 := k_fit_ok h.2.1 h.2.2.1 h3
      rw [k_ev_v, h.1.1] at h3
      rw [k_ev_const h1, h2] at e2
      obtain ⟨sl, x1, x2, x3⟩ := hX.2.1
      have ha : a = pmX + 0 := by omega
      refine ⟨(pc + 1, ls, .int (Int32.ofNat sl.length) :: r, M), ?_, kNx.one (kt := (0, kv 0) :: t) (st := .int (Int32.ofNat sl.length) :: r) h hM hl ⟨⟨kSc_v (by have := h.1.2; omega), _, rfl, ?_⟩, hr⟩ hL⟩
      · unfold pm_alen
        simp only [ha, pm_cell_ext, x1]
        rfl
      · show (Int32.ofNat sl.length).toInt = k_ev σ (kv 0)
        rw [k_ev_v, h.1.1, x2]
        exact kI_ofNat (by omega)
  · cases hL
/-- a field read -/
def k_fk (d : kDe) (k : Nat) : Option (Nat × Int × Int) := match d.2.2 with
  | [g] => cond (Nat.beq g.1 0 && (Nat.blt k g.2.1 && Nat.blt k g.2.2.1)) g.2.2.2[k]? none
  | _ => none
theorem k_fk_ok {d : kDe} {k : Nat} {q : Nat × Int × Int} {v : Value} (h : k_fk d k = some q) (hv : kOk d k v) : ∃ n, kOkQ q k n v := by
  unfold k_fk at h
  split at h
  · rename_i g hg
    obtain ⟨h1, h⟩ := pm_cs h
    simp only [Bool.and_eq_true] at h1
    obtain ⟨h1, h2, h3⟩ := h1
    have h1 := pm_beq h1
    have h2 := pm_blt h2
    have h3 := pm_blt h3
    obtain ⟨z, z1, z2⟩ := hv g (by rw [hg]; exact List.mem_singleton.mpr rfl) (by omega) (by omega)
    rw [h1, Nat.sub_zero, Nat.mod_eq_of_lt h3, h] at z1
    cases z1
    rw [h1, Nat.sub_zero] at z2
    exact ⟨_, z2⟩
  · cases h
def k_fv (X : List kDe) (S : kS) (c : kE) (k : Nat) (d : kDe) (own : Bool) : Option (List (kV × kS)) := match k_fk d k with
  | some (2, lo, _) => cond (decide (0 ≤ lo) && decide (lo < (pmX : Int) + (X.length : Int) + 1)) (some [((2, kc lo), S)]) none
  | some q => cond (Nat.beq q.1 0 || Nat.beq q.1 1) (match cond own (k_rdo S c (kc (k : Int)) d) (k_rdn S (kc (k : Int)) d) with
    | some L => some (L.map (fun r => ((q.1, r.1), r.2)))
    | none => none) none
  | none => none
def k_getf (D : kDD) (X : List kDe) (S : kS) (own idx pc : Nat) (kl : kLs) (kt : List kV) : Option (List kR) := match pm_tl pmFT own idx, kt with
  | some t, (2, c) :: r => (match k_co D S.1 c with
    | some d => cond (Nat.beq d.1 (16 + t.1) && Nat.blt t.2.1 d.2.1) (match k_fv X S c t.2.1 d true with
      | some L => some (L.map (fun w => (w.2, pc + 3, kl, w.1 :: r)))
      | none => none) none
    | none => (match k_ex X c with
      | some d => cond (Nat.beq d.1 (16 + t.1) && Nat.blt t.2.1 d.2.1) (match k_fv X S c t.2.1 d false with
        | some L => some (L.map (fun w => (w.2, pc + 3, kl, w.1 :: r)))
        | none => none) none
      | none => none))
  | _, _ => none
theorem k_fv_ok {c : kE} {k a : Nat} {d : kDe} {own : Bool} {q : pC} {G : List (kV × kS)} (hX : kExt X N E) (h : kRS N σ S M) (hs : kSc S.1.length c) (ha : (a : Int) = k_ev σ c) (hk : kCell d q) (hkl : k < d.2.1) (hown : own = true → M[a]? = some q) (hw : k_fv X S c k d own = some G) : ∃ (v : Value), q.2[k]? = some v ∧ ∃ w ∈ G, ∃ τ : Nat → Int, kAgr S.1.length σ τ ∧ S.1.length ≤ w.2.1.length ∧ kRS N τ w.2 M ∧ kRV E w.2.1.length τ w.1 v := by
  have hlen : k < q.2.length := by rw [hk.2.1]; exact hkl
  have hv : q.2[k]? = some q.2[k] := List.getElem?_eq_getElem hlen
  have hok := (hk.2.2.2 _ _ hv).2
  unfold k_fv at hw
  split at hw
  · rename_i lo hi hd
    obtain ⟨n, hq⟩ := k_fk_ok hd hok
    obtain ⟨h1, hw⟩ := pm_cs hw
    simp only [Bool.and_eq_true, decide_eq_true_eq] at h1
    cases hw
    have hok : q.2[k] = .ref lo.toNat := hq
    refine ⟨_, by rw [hv, hok], _, List.mem_singleton.mpr rfl, σ, fun _ _ => rfl, Nat.le_refl _, h, kSc_c, lo.toNat, rfl, ?_, ?_⟩
    · show ((lo.toNat : Nat) : Int) = k_ev σ (kc lo)
      rw [k_ev_c]
      omega
    · rw [hX.1]
      omega
  · rename_i z hne hd
    obtain ⟨n, hq⟩ := k_fk_ok hd hok
    obtain ⟨h1, hw⟩ := pm_cs hw
    split at hw
    · rename_i L' hL'
      cases hw
      have hgot : ∃ (w : Value) (x : Int), q.2[k]? = some w ∧ kNum w x ∧ kGot N S.1.length σ M L' x := by
        cases own with
        | true => exact k_rdo_ok (j := k) h hs kSc_c ha (by rw [k_ev_c]) (hown rfl) hk hkl hL'
        | false => exact k_rdn_ok (j := k) h kSc_c (by rw [k_ev_c]) hk hkl hL'
      obtain ⟨w, x, g1, g2, r, hr, τ, t1, t2, t3, t4, t5⟩ := hgot
      rw [hv] at g1
      cases g1
      have hkd : kKd z.1 q.2[k] := by
        obtain ⟨zk, lo, hi⟩ := z
        rcases Bool.or_eq_true_iff.mp h1 with h1 | h1
        · have h1 : zk = 0 := pm_beq h1
          subst h1
          obtain ⟨y, hy, -⟩ := hq
          exact Or.inl ⟨rfl, y, hy⟩
        · have h1 : zk = 1 := pm_beq h1
          subst h1
          obtain ⟨y, hy, -⟩ := hq
          exact Or.inr ⟨rfl, y, hy⟩
      exact ⟨_, hv, _, List.mem_map.mpr ⟨r, hr, rfl⟩, τ, t1, t2, t3, t5, kVal.num hkd (by rw [t4]; exact g2)⟩
    · cases hw
  · cases hw
theorem k_getf_ok {own idx : Nat} (hD : D.1 ≤ pmX) (hX : kExt X N E) (h : kRS N σ S M) (hM : kMem D M) (hl : kRL E S.1.length σ kl ls) (ht : kRT E S.1.length σ kt st) (hL : k_getf D X S own idx pc kl kt = some L) : kTo E N mods D S.1.length σ M L (pm_getf E own idx pc ls st M) := by
  unfold k_getf at hL
  split at hL
  · rename_i t c rk hti
    obtain ⟨a, r, rfl, s2, e2, hlt, hr⟩ := ht.rf
    have fin : ∀ (d : kDe) (q : pC) (o : Bool) (G : List (kV × kS)), pm_cell E M a = some q → kCell d q → (o = true → M[a]? = some q) → (Nat.beq d.1 (16 + t.1) && Nat.blt t.2.1 d.2.1) = true → k_fv X S c t.2.1 d o = some G → G.map (fun w => (w.2, pc + 3, kl, w.1 :: rk)) = L → kTo E N mods D S.1.length σ M L (pm_getf E own idx pc ls (.ref a :: r) M) := by
      intro d q o G f1 f2 f3 h1 hw hL
      simp only [Bool.and_eq_true] at h1
      obtain ⟨h1, h2⟩ := h1
      obtain ⟨v, g1, w, hwG, τ, g2, g3, g4, g5⟩ := k_fv_ok (E := E) hX h s2 e2 f2 (pm_blt h2) f3 hw
      subst hL
      refine ⟨(pc + 3, ls, v :: r, M), ?_, _, List.mem_map.mpr ⟨w, hwG, rfl⟩, τ, g2, g3, g4, rfl, hl.agr g2 g3, ⟨g5, hr.agr g2 g3⟩, kSame.rf, hM⟩
      unfold pm_getf
      simp only [hti, f1, f2.1, h1, cond_true, g1]
      rfl
    split at hL
    · rename_i d hd
      obtain ⟨h1, hL⟩ := pm_cs hL
      obtain ⟨q, f1, f2, f3, f4, f5⟩ := k_own_ok (E := E) hD h hM e2 hd
      split at hL
      · rename_i G hG
        exact fin d q true G f5 f2 (fun _ => f1) h1 hG (Option.some.inj hL)
      · cases hL
    · split at hL
      · rename_i d hd
        obtain ⟨h1, hL⟩ := pm_cs hL
        obtain ⟨q, f1, f2, f3⟩ := k_ex_ok (M := M) hX e2 hd
        split at hL
        · rename_i G hG
          exact fin d q false G f1 f2 (fun e => by cases e) h1 hG (Option.some.inj hL)
        · cases hL
      · cases hL
  · cases hL
end KFD
end
