/-! steps on cells -/
theorem k_clamp {j : Int32} (h : 0 ≤ j.toInt) : ((j.toNatClampNeg : Nat) : Int) = j.toInt := by
  show ((j.toInt.toNat : Nat) : Int) = j.toInt
  omega
theorem pm_cell_own {E M : pM} {r : Nat} (h : r < pmX) : pm_cell E M r = M[r]? := by
  unfold pm_cell
  have : Nat.ble pmX r = false := by
    cases hb : Nat.ble pmX r with
    | false => rfl
    | true => exact absurd (Nat.le_of_ble_eq_true hb) (by omega)
  rw [this, cond_false]
theorem pm_cell_ext {E M : pM} {k : Nat} : pm_cell E M (pmX + k) = E[k]? := by
  unfold pm_cell
  rw [Nat.ble_eq_true_of_le (Nat.le_add_right pmX k), cond_true, Nat.add_sub_cancel_left]
def k_k1 (d : kDe) (rs : List Nat) : Bool := rs.all (fun r => match d.2.2.2[r]? with
  | some q => Nat.beq q.1 1
  | none => false)
theorem k_k1_ok {d : kDe} {rs : List Nat} {j : Nat} {v : Value} (h : k_k1 d rs = true) (hj : j % d.2.2.1 ∈ rs) (hok : kOk d j v) : ∃ x : Int64, v = .long x := by
  have h1 := List.all_eq_true.mp h _ hj
  unfold kOk at hok
  split at h1
  · rename_i q hq
    obtain ⟨k, lo, hi⟩ := q
    have h1 : k = 1 := pm_beq h1
    subst h1
    rw [hq] at hok
    exact hok
  · cases h1
/-- what stands in a cell outside -/
def k_ex (X : List kDe) (c : kE) : Option kDe := cond (k_cst c && decide ((pmX : Int) + 1 ≤ c.1)) X[(c.1 - ((pmX : Int) + 1)).toNat]? none
section KME
variable {E : pM} {N : Nat} {mods : List kMd} {D X : List kDe} {σ : Nat → Int} {M : pM} {S : kS} {kl : kLs} {kt : List kV} {ls : pL} {st : List Value} {pc : Nat} {L : List kR}
theorem k_ex_ok {c : kE} {d : kDe} {r : Nat} (hX : kExt X N E) (hr : (r : Int) = k_ev σ c) (h : k_ex X c = some d) : ∃ q, pm_cell E M r = some q ∧ kCell d q ∧ pmX ≤ r := by
  unfold k_ex at h
  obtain ⟨h1, h⟩ := pm_cs h
  simp only [Bool.and_eq_true, decide_eq_true_eq] at h1
  rw [k_ev_const h1.1] at hr
  obtain ⟨q, e1, e2⟩ := hX.2.2 _ d h
  refine ⟨q, ?_, e2, by omega⟩
  have : r = pmX + ((c.1 - ((pmX : Int) + 1)).toNat + 1) := by omega
  rw [this, pm_cell_ext]
  exact e1
theorem k_own_ok {c : kE} {d : kDe} {r : Nat} (hD : D.length ≤ pmX) (h : kRS N σ S M) (hM : kMem D M) (hr : (r : Int) = k_ev σ c) (hc : k_co D S.1 c = some d) : ∃ q, M[r]? = some q ∧ kCell d q ∧ D[r]? = some d ∧ r < pmX ∧ pm_cell E M r = some q := by
  have hd := k_co_ok h.2.1 hr hc
  obtain ⟨q, e1, e2⟩ := hM.2 r d hd
  have hl : r < D.length := (List.getElem?_eq_some_iff.mp hd).1
  exact ⟨q, e1, e2, hd, by omega, by rw [pm_cell_own (by omega)]; exact e1⟩
def k_al (D X : List kDe) (ts : Nat → Bool) (S : kS) (pc : Nat) (kl : kLs) (kt : List kV) : Option (List kR) := match kt with
  | (0, j) :: (2, c) :: t => (match k_co D S.1 c with
    | some d => cond (ts d.1 && k_ix S j d.2.1 && Nat.blt 0 d.2.2.1) (match k_rdo S c j d with
      | some r => some [(r.2, pc + 1, kl, (0, r.1) :: t)]
      | none => none) none
    | none => (match k_ex X c with
      | some d => cond (ts d.1 && k_ix S j d.2.1 && Nat.blt 0 d.2.2.1) (match k_hull d.2.2.2 (k_rs S.1 d.2.2.1 j) with
        | some w => k_fr S w.1 w.2 (pc + 1) kl t
        | none => none) none
      | none => cond (k_cst c && decide (c.1 = (pmX : Int)) && ts 0 && k_ge S.1 S.2.1 j && k_ge S.1 S.2.1 (k_sub (k_sub (kv 0) (kc 1)) j)) (k_fr S kI0 kI1 (pc + 1) kl t) none))
  | _ => none
theorem k_in_of {j : Int32} {n : Nat} (h1 : 0 ≤ j.toInt) (h2 : j.toInt < (n : Int)) : pm_in j n = true := by
  unfold pm_in
  simp only [Bool.and_eq_true, decide_eq_true_eq]
  exact ⟨h1, h2⟩
theorem k_ald_go {ts : Nat → Bool} {ok : Value → Bool} {a : Nat} {j : Int32} {r : List Value} {q : pC} {v : Value} (hc : pm_cell E M a = some q) (ht : ts q.1 = true) (h1 : 0 ≤ j.toInt) (h2 : j.toInt < (q.2.length : Int)) (hv : q.2[j.toNatClampNeg]? = some v) (ho : ok v = true) : pm_ald ts ok E pc ls (.int j :: .ref a :: r) M = some (pc + 1, ls, v :: r, M) := by
  unfold pm_ald
  simp only [hc, ht, k_in_of h1 h2, Bool.and_true, cond_true, hv, ho]
  rfl
theorem k_al_ok {ts : Nat → Bool} (hD : D.length ≤ pmX) (hX : kExt X N E) (h : kRS N σ S M) (hM : kMem D M) (hl : kRL E S.1.length σ kl ls) (ht : kRT E S.1.length σ kt st) (hL : k_al D X ts S pc kl kt = some L) : kTo E N mods D S.1.length σ M L (pm_ald ts pm_isI E pc ls st M) := by
  unfold k_al at hL
  split at hL
  · rename_i ej ec t
    obtain ⟨j, r1, rfl, s1, e1, h3⟩ := ht.int
    obtain ⟨a, r, rfl, s2, e2, hlt, hr⟩ := h3.rf
    split at hL
    · rename_i d hd
      obtain ⟨h1, hL⟩ := pm_cs hL
      simp only [Bool.and_eq_true] at h1
      obtain ⟨⟨h1, h2⟩, h4⟩ := h1
      have h4 : 0 < d.2.2.1 := pm_blt h4
      obtain ⟨q, f1, f2, f3, f4, f5⟩ := k_own_ok (E := E) hD h hM e2 hd
      have hi := k_ix_ok h h2
      rw [← e1] at hi
      have hcl := k_clamp hi.1
      split at hL
      · rename_i w hw
        cases hL
        obtain ⟨x, τ, g1, g2, g3, g4, g5, g6⟩ := k_rdo_ok (D := D) (q := q) (a := a) (j := j.toNatClampNeg) h s2 s1 e2 (by rw [hcl]; exact e1) f1 f2 (by omega) h4 (by exact hw)
        exact ⟨_, k_ald_go f5 (by rw [f2.1]; exact h1) hi.1 (by rw [f2.2.1]; exact hi.2) g1 rfl, _, List.mem_singleton.mpr rfl, τ, g2, g3, g4, rfl, hl.agr g2 g3, ⟨⟨g6, x, rfl, g5.symm⟩, hr.agr g2 g3⟩, kSame.rf, hM⟩
      · cases hL
    · split at hL
      · rename_i d hd
        obtain ⟨h1, hL⟩ := pm_cs hL
        simp only [Bool.and_eq_true] at h1
        obtain ⟨⟨h1, h2⟩, h4⟩ := h1
        have h4 : 0 < d.2.2.1 := pm_blt h4
        obtain ⟨q, f1, f2, f3⟩ := k_ex_ok (M := M) hX e2 hd
        have hi := k_ix_ok h h2
        rw [← e1] at hi
        have hcl := k_clamp hi.1
        have hlen : j.toNatClampNeg < q.2.length := by rw [f2.2.1]; omega
        have hv : q.2[j.toNatClampNeg]? = some q.2[j.toNatClampNeg] := List.getElem?_eq_getElem hlen
        split at hL
        · rename_i w hw
          obtain ⟨w', g1, g2, g3⟩ := k_hull_ok hw _ (k_rs_ok h.2.1 h4 (j := j.toNatClampNeg) (by rw [hcl]; exact e1))
          obtain ⟨x, hx, x1, x2⟩ := kOk_int (f2.2.2 _ _ hv) (k_d0_ok g1)
          rw [hx] at hv
          exact ⟨_, k_ald_go f1 (by rw [f2.1]; exact h1) hi.1 (by rw [f2.2.1]; exact hi.2) hv rfl, kNx.fr h hM hl hr (by omega) (by omega) hL⟩
        · cases hL
      · obtain ⟨h1, hL⟩ := pm_cs hL
        simp only [Bool.and_eq_true, decide_eq_true_eq] at h1
        obtain ⟨⟨⟨⟨h1, h2⟩, h4⟩, h5⟩, h6⟩ := h1
        have h5 := k_ge_ok h.2.1 h.2.2.1 h5
        have h6 := k_ge_ok h.2.1 h.2.2.1 h6
        rw [k_ev_sub, k_ev_sub, k_ev_v, k_ev_c, h.1.1] at h6
        rw [← e1] at h5 h6
        rw [k_ev_const h1, h2] at e2
        obtain ⟨sl, x1, x2, x3⟩ := hX.2.1
        have ha : a = pmX + 0 := by omega
        have hcl := k_clamp h5
        have hlen : j.toNatClampNeg < sl.length := by omega
        have hv : sl[j.toNatClampNeg]? = some sl[j.toNatClampNeg] := List.getElem?_eq_getElem hlen
        obtain ⟨x, hx⟩ := x3 _ _ hv
        rw [hx] at hv
        refine ⟨_, k_ald_go (q := (0, sl)) (by rw [ha, pm_cell_ext]; exact x1) h4 h5 (by show j.toInt < (sl.length : Int); omega) hv rfl, kNx.fr h hM hl hr (kI_rng _).1 (kI_rng _).2 hL⟩
  · cases hL
/-- longs -/
def k_alJ (D X : List kDe) (S : kS) (pc : Nat) (kl : kLs) (kt : List kV) : Option (List kR) := match kt with
  | (0, j) :: (2, c) :: t => (match (match k_co D S.1 c with
      | some d => some d
      | none => k_ex X c) with
    | some d => cond (Nat.beq d.1 1 && k_ix S j d.2.1 && Nat.blt 0 d.2.2.1 && k_k1 d (k_rs S.1 d.2.2.1 j)) (k_1 S (pc + 1) kl ((1, kc 0) :: t)) none
    | none => none)
  | _ => none
theorem k_alJ_ok (hD : D.length ≤ pmX) (hX : kExt X N E) (h : kRS N σ S M) (hM : kMem D M) (hl : kRL E S.1.length σ kl ls) (ht : kRT E S.1.length σ kt st) (hL : k_alJ D X S pc kl kt = some L) : kTo E N mods D S.1.length σ M L (pm_ald (fun t => Nat.beq t 1) pm_isJ E pc ls st M) := by
  unfold k_alJ at hL
  split at hL
  · rename_i ej ec t
    obtain ⟨j, r1, rfl, s1, e1, h3⟩ := ht.int
    obtain ⟨a, r, rfl, s2, e2, hlt, hr⟩ := h3.rf
    split at hL
    · rename_i d hd
      obtain ⟨h1, hL⟩ := pm_cs hL
      simp only [Bool.and_eq_true] at h1
      obtain ⟨⟨⟨h1, h2⟩, h4⟩, h5⟩ := h1
      have h4 : 0 < d.2.2.1 := pm_blt h4
      have hcell : ∃ q, pm_cell E M a = some q ∧ kCell d q := by
        split at hd
        · rename_i d' hd'
          cases hd
          obtain ⟨q, f1, f2, f3, f4, f5⟩ := k_own_ok (E := E) hD h hM e2 hd'
          exact ⟨q, f5, f2⟩
        · obtain ⟨q, f1, f2, f3⟩ := k_ex_ok (M := M) hX e2 hd
          exact ⟨q, f1, f2⟩
      obtain ⟨q, f1, f2⟩ := hcell
      have hi := k_ix_ok h h2
      rw [← e1] at hi
      have hcl := k_clamp hi.1
      have hlen : j.toNatClampNeg < q.2.length := by rw [f2.2.1]; omega
      have hv : q.2[j.toNatClampNeg]? = some q.2[j.toNatClampNeg] := List.getElem?_eq_getElem hlen
      obtain ⟨x, hx⟩ := k_k1_ok h5 (k_rs_ok h.2.1 h4 (j := j.toNatClampNeg) (by rw [hcl]; exact e1)) (f2.2.2 _ _ hv)
      rw [hx] at hv
      exact ⟨_, k_ald_go f1 (by rw [f2.1]; exact h1) hi.1 (by rw [f2.2.1]; exact hi.2) hv rfl, kNx.lng h hM hl hr hL⟩
    · cases hL
  · cases hL
/-- rows -/
def k_alA (D X : List kDe) (S : kS) (pc : Nat) (kl : kLs) (kt : List kV) : Option (List kR) := match kt with
  | (0, j) :: (2, c) :: t => (match k_co D S.1 c with
    | some d => (match d.2.2.2 with
      | [(3, lo, _)] => cond ((Nat.beq d.1 4 || Nat.beq d.1 5) && k_ix S j d.2.1 && Nat.beq d.2.2.1 1 && decide (0 ≤ lo) && decide (lo + (d.2.1 : Int) ≤ (pmX : Int))) (k_1 S (pc + 1) kl ((2, k_add (kc lo) j) :: t)) none
      | _ => none)
    | none => none)
  | _ => none
theorem k_alA_ok (hD : D.length ≤ pmX) (h : kRS N σ S M) (hM : kMem D M) (hl : kRL E S.1.length σ kl ls) (ht : kRT E S.1.length σ kt st) (hL : k_alA D X S pc kl kt = some L) : kTo E N mods D S.1.length σ M L (pm_ald (fun t => Nat.beq t 4 || Nat.beq t 5) pm_isO E pc ls st M) := by
  unfold k_alA at hL
  split at hL
  · rename_i ej ec t
    obtain ⟨j, r1, rfl, s1, e1, h3⟩ := ht.int
    obtain ⟨a, r, rfl, s2, e2, hlt, hr⟩ := h3.rf
    split at hL
    · rename_i d hd
      split at hL
      · rename_i lo hi0 hds
        obtain ⟨h1, hL⟩ := pm_cs hL
        simp only [Bool.and_eq_true, decide_eq_true_eq] at h1
        obtain ⟨⟨⟨⟨h1, h2⟩, h4⟩, h5⟩, h6⟩ := h1
        obtain ⟨q, f1, f2, f3, f4, f5⟩ := k_own_ok (E := E) hD h hM e2 hd
        have hi := k_ix_ok h h2
        rw [← e1] at hi
        have hcl := k_clamp hi.1
        have hlen : j.toNatClampNeg < q.2.length := by rw [f2.2.1]; omega
        have hv : q.2[j.toNatClampNeg]? = some q.2[j.toNatClampNeg] := List.getElem?_eq_getElem hlen
        have hok := f2.2.2 _ _ hv
        unfold kOk at hok
        rw [pm_beq h4, Nat.mod_one, hds] at hok
        have hok : q.2[j.toNatClampNeg] = .ref (lo.toNat + j.toNatClampNeg) := hok
        rw [hok] at hv
        refine ⟨_, k_ald_go f5 (by rw [f2.1]; exact h1) hi.1 (by rw [f2.2.1]; exact hi.2) hv (Nat.ble_eq_true_of_le (by omega)), kNx.one (kt := (2, k_add (kc lo) ej) :: t) (st := .ref (lo.toNat + j.toNatClampNeg) :: r) h hM hl ⟨⟨kSc_add kSc_c s1, _, rfl, ?_, by omega⟩, hr⟩ hL⟩
        show ((lo.toNat + j.toNatClampNeg : Nat) : Int) = k_ev σ (k_add (kc lo) ej)
        rw [k_ev_add, k_ev_c, ← e1]
        omega
      · cases hL
    · cases hL
  · cases hL
/-- stores -/
def k_as (D : List kDe) (mods : List kMd) (f : Nat → Option (Int × Int)) (S : kS) (pc : Nat) (kl : kLs) (kt : List kV) : Option (List kR) := match kt with
  | (0, v) :: (0, j) :: (2, c) :: t => (match k_co D S.1 c with
    | some d => (match f d.1 with
      | some w => cond (k_fit S.1 S.2.1 w.1 w.2 v && k_ix S j d.2.1 && Nat.blt 0 d.2.2.1) (match k_wro mods S c j d v with
        | some T => some [(T, pc + 1, kl, t)]
        | none => none) none
      | none => none)
    | none => none)
  | _ => none
theorem k_as_ok {f : Nat → Option (Int × Int)} {pf : Nat → Value → Option Value} (hf : ∀ (t : Nat) (w : Int × Int) (x : Int32), f t = some w → w.1 ≤ x.toInt → x.toInt ≤ w.2 → pf t (.int x) = some (.int x)) (hD : D.length ≤ pmX) (h : kRS N σ S M) (hM : kMem D M) (hl : kRL E S.1.length σ kl ls) (ht : kRT E S.1.length σ kt st) (hL : k_as D mods f S pc kl kt = some L) : kTo E N mods D S.1.length σ M L (pm_ast pf pc ls st M) := by
  unfold k_as at hL
  split at hL
  · rename_i ev ej ec t
    obtain ⟨y, r0, rfl, s0, e0, h0⟩ := ht.int
    obtain ⟨j, r1, rfl, s1, e1, h3⟩ := h0.int
    obtain ⟨a, r, rfl, s2, e2, hlt, hr⟩ := h3.rf
    split at hL
    · rename_i d hd
      split at hL
      · rename_i w hw
        obtain ⟨h1, hL⟩ := pm_cs hL
        simp only [Bool.and_eq_true] at h1
        obtain ⟨⟨h1, h2⟩, h4⟩ := h1
        have h4 : 0 < d.2.2.1 := pm_blt h4
        have hfit := k_fit_ok h.2.1 h.2.2.1 h1
        obtain ⟨q, f1, f2, f3, f4, f5⟩ := k_own_ok (E := E) hD h hM e2 hd
        have hi := k_ix_ok h h2
        rw [← e1] at hi
        have hcl := k_clamp hi.1
        split at hL
        · rename_i T hT
          cases hL
          obtain ⟨g1, g2, g3, g4⟩ := k_wro_ok (y := y) (j := j.toNatClampNeg) h hM s2 s1 s0 e2 (by rw [hcl]; exact e1) f1 f3 (by rw [f2.2.1]; omega) h4 e0 hT
          have hp := hf d.1 w y hw (by omega) (by omega)
          refine ⟨(pc + 1, ls, r, pm_put M a j.toNatClampNeg q (.int y)), ?_, _, List.mem_singleton.mpr rfl, σ, fun _ _ => rfl, by rw [g1]; exact Nat.le_refl _, g2, rfl, by rw [g1]; exact hl, by rw [g1]; exact hr, g4, g3⟩
          unfold pm_ast
          simp only [f1, k_in_of (n := q.2.length) hi.1 (by rw [f2.2.1]; exact hi.2), cond_true]
          rw [f2.1, hp]
          rfl
        · cases hL
      · cases hL
    · cases hL
  · cases hL
end KME
