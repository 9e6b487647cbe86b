noncomputable section
/-! steps on cells -/
theorem k_clamp {j : Int32} (h : 0 ≤ j.toInt) : ((j.toNatClampNeg : Nat) : Int) = j.toInt := by
  show ((j.toInt.toNat : Nat) : Int) = j.toInt
  omega
theorem pm_cell_own {E M : pM} {r : Nat} (h : r < pmX) : pm_cell E M r = M[r]? := by
  unfold pm_cell
  have : Nat.ble pmX r = false := by
    cases hb : Nat.ble pmX r with
    | false => rfl
    | true => exact absurd (Nat.le_of_ble_eq_true hb) (by omega)
  rw [this, cond_false]
theorem pm_cell_ext {E M : pM} {k : Nat} : pm_cell E M (pmX + k) = E[k]? := by
  unfold pm_cell
  rw [Nat.ble_eq_true_of_le (Nat.le_add_right pmX k), cond_true, Nat.add_sub_cancel_left]
/-- what stands in a cell outside -/
def k_ex (X : List kDe) (c : kE) : Option kDe := cond (k_cst c && decide ((pmX : Int) + 1 ≤ c.1)) X[(c.1 - ((pmX : Int) + 1)).toNat]? none
section KME
variable {E : pM} {N : kN} {mods : List kMd} {D : kDD} {X : List kDe} {σ : Nat → Int} {M : pM} {S : kS} {kl : kLs} {kt : List kV} {ls : pL} {st : List Value} {pc : Nat} {L : List kR}
theorem k_ex_ok {c : kE} {d : kDe} {r : Nat} (hX : kExt X N E) (hr : (r : Int) = k_ev σ c) (h : k_ex X c = some d) : ∃ q, pm_cell E M r = some q ∧ kCell d q ∧ pmX ≤ r := by
  unfold k_ex at h
  obtain ⟨h1, h⟩ := pm_cs h
  simp only [Bool.and_eq_true, decide_eq_true_eq] at h1
  rw [k_ev_const h1.1] at hr
  obtain ⟨q, e1, e2⟩ := hX.2.2 _ d h
  refine ⟨q, ?_, e2, by omega⟩
  have : r = pmX + ((c.1 - ((pmX : Int) + 1)).toNat + 1) := by omega
  rw [this, pm_cell_ext]
  exact e1
theorem k_own_ok {c : kE} {d : kDe} {r : Nat} (hD : D.1 ≤ pmX) (h : kRS N σ S M) (hM : kMem D M) (hr : (r : Int) = k_ev σ c) (hc : k_co D S.1 c = some d) : ∃ q, M[r]? = some q ∧ kCell d q ∧ (k_dg D (r)) = some d ∧ r < pmX ∧ pm_cell E M r = some q := by
  have hd := k_co_ok h.2.1 hr hc
  obtain ⟨q, e1, e2⟩ := hM.2 r d hd
  have hl : r < D.1 := by
    obtain ⟨q, hq, -⟩ := hM.2 r d hd
    have := (List.getElem?_eq_some_iff.mp hq).1
    have := hM.1
    omega
  exact ⟨q, e1, e2, hd, by omega, by rw [pm_cell_own (by omega)]; exact e1⟩
/-- a number got, on the stack -/
def k_onto (kd pc : Nat) (kl : kLs) (kt : List kV) (L : List (kE × kS)) : List kR := L.map (fun r => (r.2, pc, kl, (kd, r.1) :: kt))
def kKd (kd : Nat) (w : Value) : Prop := (kd = 0 ∧ ∃ y : Int32, w = .int y) ∨ (kd = 1 ∧ ∃ y : Int64, w = .long y)
theorem kVal.num {kd : Nat} {σ : Nat → Int} {e : kE} {w : Value} (hk : kKd kd w) (hw : kNum w (k_ev σ e)) : kVal E σ (kd, e) w := by
  rcases hk with ⟨rfl, y, rfl⟩ | ⟨rfl, y, rfl⟩
  · rcases hw with ⟨z, e1, e2⟩ | ⟨z, e1, -⟩
    · cases e1
      exact ⟨y, rfl, e2⟩
    · cases e1
  · rcases hw with ⟨z, e1, -⟩ | ⟨z, e1, e2⟩
    · cases e1
    · cases e1
      exact ⟨y, rfl, e2⟩
theorem kNx.got {kd : Nat} {w : Value} {x : Int} {G : List (kE × kS)} (hM : kMem D M) (hl : kRL E S.1.length σ kl ls) (ht : kRT E S.1.length σ kt st) (hk : kKd kd w) (hw : kNum w x) (hg : kGot N S.1.length σ M G x) : kNx E N mods D S.1.length σ M (k_onto kd pc kl kt G) (pc, ls, w :: st, M) := by
  obtain ⟨r, hr, τ, t1, t2, t3, t4, t5⟩ := hg
  exact ⟨_, List.mem_map.mpr ⟨r, hr, rfl⟩, τ, t1, t2, t3, rfl, hl.agr t1 t2, ⟨⟨t5, kVal.num hk (by rw [t4]; exact hw)⟩, ht.agr t1 t2⟩, kSame.rf, hM⟩
theorem kTy.num {t : Nat} {v : Value} (ht : t = 0 ∨ t = 2 ∨ t = 3) (h : kTy t v) : ∃ x : Int32, v = .int x := by
  rcases ht with rfl | rfl | rfl <;> exact h
def k_rdv (S : kS) (c j : kE) (d : kDe) : Option (List (kE × kS)) := match k_vrd S c j d with
  | some L => some L
  | none => k_rdo S c j d
theorem k_rdv_ok {c j : kE} {d : kDe} {a i : Nat} {q : pC} {G : List (kE × kS)} (h : kRS N σ S M) (hc : kSc S.1.length c) (hs : kSc S.1.length j) (ha : (a : Int) = k_ev σ c) (hj : (i : Int) = k_ev σ j) (hq : M[a]? = some q) (hk : kCell d q) (hjl : i < d.2.1) (hr : k_rdv S c j d = some G) : ∃ (w : Value) (x : Int), q.2[i]? = some w ∧ kNum w x ∧ kGot N S.1.length σ M G x := by
  unfold k_rdv at hr
  split at hr
  · rename_i L' hL'
    cases hr
    exact k_vrd_ok h hc hs ha hj hq hk hjl hL'
  · exact k_rdo_ok h hc hs ha hj hq hk hjl hr
/-- what the script holds at a place: known, or known from now on -/
def k_scw (S : kS) (j : kE) : List (kE × kS) := match k_find (kc (-11)) j S.2.2.2 with
  | some v => [(k_nv S.1 v, S)]
  | none => [((k_new S kI0 kI1).1, k_put (k_new S kI0 kI1).2 ((kc (-11), j), (k_new S kI0 kI1).1))]
theorem k_scw_ok {j : kE} {i : Nat} {x : Int32} (h : kRS N σ S M) (hs : kSc S.1.length j) (hi : (i : Int) = k_ev σ j) (hx : N.2 i = x.toInt) : kGot N S.1.length σ M (k_scw S j) x.toInt := by
  unfold k_scw
  split
  · rename_i v hv
    have hin := k_find_in hv
    have g := h.2.2.2.2.1 _ hin
    have hv0 := (h.2.2.2.2.2.2.2 _ hin).2.2
    have g : kHas N M (k_ev σ (kc (-11))) (k_ev σ j) (k_ev σ v) := g
    rw [k_ev_c] at g
    have p : ∃ k : Nat, (k : Int) = k_ev σ j ∧ N.2 k = k_ev σ v := kPhi_to (i := 11) (p := 0) rfl (by omega) (g.2 (by omega))
    obtain ⟨k, k1, k2⟩ := p
    have e : k = i := by omega
    subst e
    exact ⟨_, List.mem_singleton.mpr rfl, σ, fun _ _ => rfl, Nat.le_refl _, h, by show k_ev σ (k_nv S.1 v) = _; rw [k_nv_ok h.2.1, ← k2, hx], k_nv_sc hv0⟩
  · obtain ⟨τ, t1, t2, t3, t4, t5⟩ := k_new_ok h (kI_rng x).1 (kI_rng x).2
    refine ⟨_, List.mem_singleton.mpr rfl, τ, t1, t2, kRS_put t3 ⟨kSc_c, hs.mono t2, t5⟩ ?_, t4, t5⟩
    show kHas N M (k_ev τ (kc (-11))) (k_ev τ j) (k_ev τ (k_new S kI0 kI1).1)
    rw [k_ev_c, k_ev_agree t1 hs, t4]
    exact kHas.neg (by omega) (kPhi_of (i := 11) (p := 0) rfl (by omega) ⟨i, hi, hx⟩)
def k_al (D : kDD) (X : List kDe) (ts : Nat → Bool) (S : kS) (pc : Nat) (kl : kLs) (kt : List kV) : Option (List kR) := match kt with
  | (0, j) :: (2, c) :: t => (match k_co D S.1 c with
    | some d => cond (ts d.1 && k_ix S j d.2.1) (match k_rdv S c j d with
      | some L => some (k_onto 0 (pc + 1) kl t L)
      | none => none) none
    | none => (match k_ex X c with
      | some d => cond (ts d.1 && k_ix S j d.2.1) (match k_rdn S j d with
        | some L => some (k_onto 0 (pc + 1) kl t L)
        | none => none) none
      | none => cond (k_cst c && decide (c.1 = (pmX : Int)) && ts 0 && k_ge S.1 S.2.1 j && k_ge S.1 S.2.1 (k_sub (k_sub (kv 0) (kc 1)) j)) (some (k_onto 0 (pc + 1) kl t (k_scw S j))) none))
  | _ => none
theorem k_in_of {j : Int32} {n : Nat} (h1 : 0 ≤ j.toInt) (h2 : j.toInt < (n : Int)) : pm_in j n = true := by
  unfold pm_in
  simp only [Bool.and_eq_true, decide_eq_true_eq]
  exact ⟨h1, h2⟩
theorem k_ald_go {ts : Nat → Bool} {ok : Value → Bool} {a : Nat} {j : Int32} {r : List Value} {q : pC} {v : Value} (hc : pm_cell E M a = some q) (ht : ts q.1 = true) (h1 : 0 ≤ j.toInt) (h2 : j.toInt < (q.2.length : Int)) (hv : q.2[j.toNatClampNeg]? = some v) (ho : ok v = true) : pm_ald ts ok E pc ls (.int j :: .ref a :: r) M = some (pc + 1, ls, v :: r, M) := by
  unfold pm_ald
  simp only [hc, ht, k_in_of h1 h2, Bool.and_true, cond_true, hv, ho]
  rfl
theorem k_al_ok {ts : Nat → Bool} (hts : ∀ t, ts t = true → t = 0 ∨ t = 2 ∨ t = 3) (hD : D.1 ≤ pmX) (hX : kExt X N E) (h : kRS N σ S M) (hM : kMem D M) (hl : kRL E S.1.length σ kl ls) (ht : kRT E S.1.length σ kt st) (hL : k_al D X ts S pc kl kt = some L) : kTo E N mods D S.1.length σ M L (pm_ald ts pm_isI E pc ls st M) := by
  unfold k_al at hL
  split at hL
  · rename_i ej ec t
    obtain ⟨j, r1, rfl, s1, e1, h3⟩ := ht.int
    obtain ⟨a, r, rfl, s2, e2, hlt, hr⟩ := h3.rf
    split at hL
    · rename_i d hd
      obtain ⟨h1, hL⟩ := pm_cs hL
      simp only [Bool.and_eq_true] at h1
      obtain ⟨h1, h2⟩ := h1
      obtain ⟨q, f1, f2, f3, f4, f5⟩ := k_own_ok (E := E) hD h hM e2 hd
      have hi := k_ix_ok h h2
      rw [← e1] at hi
      have hcl := k_clamp hi.1
      split at hL
      · rename_i G hG
        cases hL
        obtain ⟨w, x, g1, g2, g3⟩ := k_rdv_ok (q := q) (a := a) (i := j.toNatClampNeg) h s2 s1 e2 (by rw [hcl]; exact e1) f1 f2 (by omega) hG
        obtain ⟨y, rfl⟩ := kTy.num (hts _ h1) (f2.2.2.2 _ _ g1).1
        exact ⟨_, k_ald_go f5 (by rw [f2.1]; exact h1) hi.1 (by rw [f2.2.1]; exact hi.2) g1 rfl, kNx.got hM hl hr (Or.inl ⟨rfl, y, rfl⟩) g2 g3⟩
      · cases hL
    · split at hL
      · rename_i d hd
        obtain ⟨h1, hL⟩ := pm_cs hL
        simp only [Bool.and_eq_true] at h1
        obtain ⟨h1, h2⟩ := h1
        obtain ⟨q, f1, f2, f3⟩ := k_ex_ok (M := M) hX e2 hd
        have hi := k_ix_ok h h2
        rw [← e1] at hi
        have hcl := k_clamp hi.1
        split at hL
        · rename_i G hG
          cases hL
          obtain ⟨w, x, g1, g2, g3⟩ := k_rdn_ok (q := q) (j := j.toNatClampNeg) h s1 (by rw [hcl]; exact e1) f2 (by omega) hG
          obtain ⟨y, rfl⟩ := kTy.num (hts _ h1) (f2.2.2.2 _ _ g1).1
          exact ⟨_, k_ald_go f1 (by rw [f2.1]; exact h1) hi.1 (by rw [f2.2.1]; exact hi.2) g1 rfl, kNx.got hM hl hr (Or.inl ⟨rfl, y, rfl⟩) g2 g3⟩
        · cases hL
      · obtain ⟨h1, hL⟩ := pm_cs hL
        simp only [Bool.and_eq_true, decide_eq_true_eq] at h1
        obtain ⟨⟨⟨⟨h1, h2⟩, h4⟩, h5⟩, h6⟩ := h1
        have h5 := k_ge_ok h.2.1 h.2.2.1 h5
        have h6 := k_ge_ok h.2.1 h.2.2.1 h6
        rw [k_ev_sub, k_ev_sub, k_ev_v, k_ev_c, h.1.1] at h6
        rw [← e1] at h5 h6
        rw [k_ev_const h1, h2] at e2
        obtain ⟨sl, x1, x2, x3⟩ := hX.2.1
        have ha : a = pmX + 0 := by omega
        have hcl := k_clamp h5
        have hlen : j.toNatClampNeg < sl.length := by omega
        have hv : sl[j.toNatClampNeg]? = some sl[j.toNatClampNeg] := List.getElem?_eq_getElem hlen
        obtain ⟨x, hx, hx2⟩ := x3 _ _ hv
        rw [hx] at hv
        cases hL
        exact ⟨_, k_ald_go (q := (0, sl)) (by rw [ha, pm_cell_ext]; exact x1) h4 h5 (by show j.toInt < (sl.length : Int); omega) hv rfl, kNx.got hM hl hr (Or.inl ⟨rfl, x, rfl⟩) (Or.inl ⟨x, rfl, rfl⟩) (k_scw_ok h s1 (by omega) hx2)⟩
  · cases hL
/-- longs -/
def k_alJ (D : kDD) (X : List kDe) (S : kS) (pc : Nat) (kl : kLs) (kt : List kV) : Option (List kR) := match kt with
  | (0, j) :: (2, c) :: t => (match (match k_co D S.1 c with
      | some d => some d
      | none => k_ex X c) with
    | some d => cond (Nat.beq d.1 1 && k_ix S j d.2.1) (k_frJ S (pc + 1) kl t) none
    | none => none)
  | _ => none
theorem k_alJ_ok (hD : D.1 ≤ pmX) (hX : kExt X N E) (h : kRS N σ S M) (hM : kMem D M) (hl : kRL E S.1.length σ kl ls) (ht : kRT E S.1.length σ kt st) (hL : k_alJ D X S pc kl kt = some L) : kTo E N mods D S.1.length σ M L (pm_ald (fun t => Nat.beq t 1) pm_isJ E pc ls st M) := by
  unfold k_alJ at hL
  split at hL
  · rename_i ej ec t
    obtain ⟨j, r1, rfl, s1, e1, h3⟩ := ht.int
    obtain ⟨a, r, rfl, s2, e2, hlt, hr⟩ := h3.rf
    split at hL
    · rename_i d hd
      obtain ⟨h1, hL⟩ := pm_cs hL
      simp only [Bool.and_eq_true] at h1
      obtain ⟨h1, h2⟩ := h1
      have hcell : ∃ q, pm_cell E M a = some q ∧ kCell d q := by
        split at hd
        · rename_i d' hd'
          cases hd
          obtain ⟨q, f1, f2, f3, f4, f5⟩ := k_own_ok (E := E) hD h hM e2 hd'
          exact ⟨q, f5, f2⟩
        · obtain ⟨q, f1, f2, f3⟩ := k_ex_ok (M := M) hX e2 hd
          exact ⟨q, f1, f2⟩
      obtain ⟨q, f1, f2⟩ := hcell
      have hi := k_ix_ok h h2
      rw [← e1] at hi
      have hcl := k_clamp hi.1
      have hlen : j.toNatClampNeg < q.2.length := by rw [f2.2.1]; omega
      have hv : q.2[j.toNatClampNeg]? = some q.2[j.toNatClampNeg] := List.getElem?_eq_getElem hlen
      have hty := (f2.2.2.2 _ _ hv).1
      rw [pm_beq h1] at hty
      obtain ⟨x, hx⟩ := hty
      rw [hx] at hv
      exact ⟨_, k_ald_go f1 (by rw [f2.1]; exact h1) hi.1 (by rw [f2.2.1]; exact hi.2) hv rfl, kNx.frJ h hM hl hr hL⟩
    · cases hL
  · cases hL
/-- rows -/
def k_alA (D : kDD) (X : List kDe) (S : kS) (pc : Nat) (kl : kLs) (kt : List kV) : Option (List kR) := match kt with
  | (0, j) :: (2, c) :: t => (match k_co D S.1 c with
    | some d => (match d.2.2 with
      | [(0, n, 1, [(3, lo, _)])] => cond ((Nat.beq d.1 4 || Nat.beq d.1 5) && k_ix S j d.2.1 && Nat.ble d.2.1 n && decide (0 ≤ lo) && decide (lo + (d.2.1 : Int) ≤ (pmX : Int))) (k_1 S (pc + 1) kl ((2, k_add (kc lo) j) :: t)) none
      | _ => none)
    | none => none)
  | _ => none
theorem k_alA_ok (hD : D.1 ≤ pmX) (h : kRS N σ S M) (hM : kMem D M) (hl : kRL E S.1.length σ kl ls) (ht : kRT E S.1.length σ kt st) (hL : k_alA D X S pc kl kt = some L) : kTo E N mods D S.1.length σ M L (pm_ald (fun t => Nat.beq t 4 || Nat.beq t 5) pm_isO E pc ls st M) := by
  unfold k_alA at hL
  split at hL
  · rename_i ej ec t
    obtain ⟨j, r1, rfl, s1, e1, h3⟩ := ht.int
    obtain ⟨a, r, rfl, s2, e2, hlt, hr⟩ := h3.rf
    split at hL
    · rename_i d hd
      split at hL
      · rename_i n lo hi0 hds
        obtain ⟨h1, hL⟩ := pm_cs hL
        simp only [Bool.and_eq_true, decide_eq_true_eq] at h1
        obtain ⟨⟨⟨⟨h1, h2⟩, h4⟩, h5⟩, h6⟩ := h1
        have h4 := Nat.le_of_ble_eq_true h4
        obtain ⟨q, f1, f2, f3, f4, f5⟩ := k_own_ok (E := E) hD h hM e2 hd
        have hi := k_ix_ok h h2
        rw [← e1] at hi
        have hcl := k_clamp hi.1
        have hlen : j.toNatClampNeg < q.2.length := by rw [f2.2.1]; omega
        have hv : q.2[j.toNatClampNeg]? = some q.2[j.toNatClampNeg] := List.getElem?_eq_getElem hlen
        obtain ⟨z, z1, z2⟩ := (f2.2.2.2 _ _ hv).2 (0, n, 1, [(3, lo, hi0)]) (by rw [hds]; exact List.mem_singleton.mpr rfl) (Nat.zero_le _) (by show j.toNatClampNeg < 0 + n; omega)
        have z1 : [(3, lo, hi0)][(j.toNatClampNeg - 0) % 1]? = some z := z1
        rw [Nat.mod_one] at z1
        have z1 : some (3, lo, hi0) = some z := z1
        cases z1
        have hok : q.2[j.toNatClampNeg] = .ref (lo.toNat + (j.toNatClampNeg - 0)) := z2
        rw [Nat.sub_zero] at hok
        rw [hok] at hv
        refine ⟨_, k_ald_go f5 (by rw [f2.1]; exact h1) hi.1 (by rw [f2.2.1]; exact hi.2) hv (Nat.ble_eq_true_of_le (by omega)), kNx.one (kt := (2, k_add (kc lo) ej) :: t) (st := .ref (lo.toNat + j.toNatClampNeg) :: r) h hM hl ⟨⟨kSc_add kSc_c s1, _, rfl, ?_, by omega⟩, hr⟩ hL⟩
        show ((lo.toNat + j.toNatClampNeg : Nat) : Int) = k_ev σ (k_add (kc lo) ej)
        rw [k_ev_add, k_ev_c, ← e1]
        omega
      · cases hL
    · cases hL
  · cases hL
/-- stores -/
def k_as (D : kDD) (mods : List kMd) (f : Nat → Option (Int × Int)) (S : kS) (pc : Nat) (kl : kLs) (kt : List kV) : Option (List kR) := match kt with
  | (0, v) :: (0, j) :: (2, c) :: t => (match k_co D S.1 c with
    | some d => (match f d.1 with
      | some w => cond (k_fit S.1 S.2.1 w.1 w.2 v && k_ix S j d.2.1) (match k_wro mods S c j d v 0 with
        | some T => some [(T, pc + 1, kl, t)]
        | none => none) none
      | none => none)
    | none => none)
  | _ => none
theorem k_as_ok {f : Nat → Option (Int × Int)} {pf : Nat → Value → Option Value} (hf0 : ∀ (t : Nat) (w : Int × Int), f t = some w → t = 0 ∨ t = 2 ∨ t = 3) (hf : ∀ (t : Nat) (w : Int × Int) (x : Int32), f t = some w → w.1 ≤ x.toInt → x.toInt ≤ w.2 → pf t (.int x) = some (.int x)) (hD : D.1 ≤ pmX) (h : kRS N σ S M) (hM : kMem D M) (hl : kRL E S.1.length σ kl ls) (ht : kRT E S.1.length σ kt st) (hL : k_as D mods f S pc kl kt = some L) : kTo E N mods D S.1.length σ M L (pm_ast pf pc ls st M) := by
  unfold k_as at hL
  split at hL
  · rename_i ev ej ec t
    obtain ⟨y, r0, rfl, s0, e0, h0⟩ := ht.int
    obtain ⟨j, r1, rfl, s1, e1, h3⟩ := h0.int
    obtain ⟨a, r, rfl, s2, e2, hlt, hr⟩ := h3.rf
    split at hL
    · rename_i d hd
      split at hL
      · rename_i w hw
        obtain ⟨h1, hL⟩ := pm_cs hL
        simp only [Bool.and_eq_true] at h1
        obtain ⟨h1, h2⟩ := h1
        have hfit := k_fit_ok h.2.1 h.2.2.1 h1
        obtain ⟨q, f1, f2, f3, f4, f5⟩ := k_own_ok (E := E) hD h hM e2 hd
        have hi := k_ix_ok h h2
        rw [← e1] at hi
        have hcl := k_clamp hi.1
        have hty : kTy d.1 (.int y) := by
          rcases hf0 _ _ hw with h | h | h <;> rw [h] <;> exact ⟨y, rfl⟩
        split at hL
        · rename_i T hT
          cases hL
          obtain ⟨g1, g2, g3, g4⟩ := k_wro_ok (w := .int y) (j := j.toNatClampNeg) h hM s2 s1 s0 e2 (by rw [hcl]; exact e1) f1 f3 (by rw [f2.2.1]; omega) hty (Or.inl ⟨y, rfl, e0⟩) (Or.inl ⟨rfl, y, rfl⟩) hT
          have hp := hf d.1 w y hw (by omega) (by omega)
          refine ⟨(pc + 1, ls, r, pm_put M a j.toNatClampNeg q (.int y)), ?_, _, List.mem_singleton.mpr rfl, σ, fun _ _ => rfl, by rw [g1]; exact Nat.le_refl _, g2, rfl, by rw [g1]; exact hl, by rw [g1]; exact hr, g4, g3⟩
          unfold pm_ast
          simp only [f1, k_in_of (n := q.2.length) hi.1 (by rw [f2.2.1]; exact hi.2), cond_true]
          rw [f2.1, hp]
          rfl
        · cases hL
      · cases hL
    · cases hL
  · cases hL
/-- a store of a long -/
def k_asJ (D : kDD) (mods : List kMd) (S : kS) (pc : Nat) (kl : kLs) (kt : List kV) : Option (List kR) := match kt with
  | (1, v) :: (0, j) :: (2, c) :: t => (match k_co D S.1 c with
    | some d => cond (Nat.beq d.1 1 && k_ix S j d.2.1) (match k_wro mods S c j d v 1 with
      | some T => some [(T, pc + 1, kl, t)]
      | none => none) none
    | none => none)
  | _ => none
theorem k_asJ_ok (hD : D.1 ≤ pmX) (h : kRS N σ S M) (hM : kMem D M) (hl : kRL E S.1.length σ kl ls) (ht : kRT E S.1.length σ kt st) (hL : k_asJ D mods S pc kl kt = some L) : kTo E N mods D S.1.length σ M L (pm_ast pm_fJ pc ls st M) := by
  unfold k_asJ at hL
  split at hL
  · rename_i ev ej ec t
    obtain ⟨y, r0, rfl, s0, e0, h0⟩ := ht.lng
    obtain ⟨j, r1, rfl, s1, e1, h3⟩ := h0.int
    obtain ⟨a, r, rfl, s2, e2, hlt, hr⟩ := h3.rf
    split at hL
    · rename_i d hd
      obtain ⟨h1, hL⟩ := pm_cs hL
      simp only [Bool.and_eq_true] at h1
      obtain ⟨h1, h2⟩ := h1
      have h1 := pm_beq h1
      obtain ⟨q, f1, f2, f3, f4, f5⟩ := k_own_ok (E := E) hD h hM e2 hd
      have hi := k_ix_ok h h2
      rw [← e1] at hi
      have hcl := k_clamp hi.1
      split at hL
      · rename_i T hT
        cases hL
        obtain ⟨g1, g2, g3, g4⟩ := k_wro_ok (w := .long y) (j := j.toNatClampNeg) h hM s2 s1 s0 e2 (by rw [hcl]; exact e1) f1 f3 (by rw [f2.2.1]; omega) (by rw [h1]; exact ⟨y, rfl⟩) (Or.inr ⟨y, rfl, e0⟩) (Or.inr ⟨rfl, y, rfl⟩) hT
        refine ⟨(pc + 1, ls, r, pm_put M a j.toNatClampNeg q (.long y)), ?_, _, List.mem_singleton.mpr rfl, σ, fun _ _ => rfl, by rw [g1]; exact Nat.le_refl _, g2, rfl, by rw [g1]; exact hl, by rw [g1]; exact hr, g4, g3⟩
        unfold pm_ast
        simp only [f1, k_in_of (n := q.2.length) hi.1 (by rw [f2.2.1]; exact hi.2), cond_true]
        rw [f2.1, h1]
        rfl
      · cases hL
    · cases hL
  · cases hL
end KME
end
