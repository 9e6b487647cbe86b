/-! what the machine's heap holds of a pure memory -/
def pmRn (base : Nat) (xv : Nat → Value) : Value → Value
  | .ref k => if k < pmX then .ref (base + k) else xv (k - pmX)
  | v => v
def pm_gi : Value → Int32
  | .int x => x
  | _ => 0
def pm_gl : Value → Int64
  | .long x => x
  | _ => 0
def pm_gr (base : Nat) : Value → Option Nat
  | .ref k => some (base + k)
  | _ => none
def pmE (base : Nat) (xv : Nat → Value) (cT : Nat → ClassId) (c : pC) : va_E := match c.1 with
  | 0 => .inl (cT 0, c.2.length, .inl (fun j => pm_gi (c.2.getD j .null)))
  | 1 => .inl (cT 1, c.2.length, .inr (.inl (fun j => pm_gl (c.2.getD j .null))))
  | 2 => .inl (cT 2, c.2.length, .inl (fun j => pm_gi (c.2.getD j .null)))
  | 3 => .inl (cT 3, c.2.length, .inl (fun j => pm_gi (c.2.getD j .null)))
  | 4 => .inl (cT 4, c.2.length, .inr (.inr (.inr (.inr (fun j => pm_gr base (c.2.getD j .null))))))
  | 5 => .inl (cT 5, c.2.length, .inr (.inr (.inr (.inr (fun j => pm_gr base (c.2.getD j .null))))))
  | t => .inr (t - 16, c.2.map (pmRn base xv))
def pmPic (base : Nat) (xv : Nat → Value) (cT : Nat → ClassId) (M : pM) : va_W := M.mapIdx (fun k c => (base + k, pmE base xv cT c))
def pmA (base : Nat) : Nat → Prop := fun q => base ≤ q
def pmTys (cT : Nat → ClassId) : List (ClassId × FieldType) := [(cT 0, .int), (cT 1, .long), (cT 2, .byte), (cT 3, .boolean), (cT 4, .array .int), (cT 5, .array .long)]
def pmHP (D : va_G) (base : Nat) (xv : Nat → Value) (cT : Nat → ClassId) (M : pM) (H : Heap) : Prop := va_P D pmCl (pmPic base xv cT M) H
def pm_sz (M : pM) : Nat := (M.map (fun c => c.2.length)).sum
theorem pm_blt {a b : Nat} (h : Nat.blt a b = true) : a < b := Nat.le_of_ble_eq_true h
theorem pm_xix {k n : Nat} (h1 : ¬ k < pmX) (h2 : k < pmX + n) : k - pmX < n := by omega
theorem pm_lk_mem {α : Type} {l : List (Nat × α)} {i : Nat} {v : α} (h : pm_lk l i = some v) : (i, v) ∈ l := by
  induction l with
  | nil => simp [pm_lk] at h
  | cons q t ih =>
    obtain ⟨k, w⟩ := q
    unfold pm_lk at h
    cases hb : Nat.beq k i with
    | true =>
      rw [hb] at h
      have := Nat.eq_of_beq_eq_true hb
      subst this
      cases h
      exact List.mem_cons_self
    | false =>
      rw [hb] at h
      exact List.mem_cons_of_mem _ (ih h)
theorem pm_lk_loc {ls : pL} {i : Nat} {v : Value} {lsm : Array Slot} {nL : Nat} {base : Nat} {xv : Nat → Value} (hl : lv_has lsm nL (ls.map (fun q => (q.1, pmRn base xv q.2)))) (h : pm_lk ls i = some v) : lsm[i]? = some (.val (pmRn base xv v)) :=
  hl.2.2 (i, pmRn base xv v) (List.mem_map.mpr ⟨(i, v), pm_lk_mem h, rfl⟩)
theorem pmPic_get {base : Nat} {xv : Nat → Value} {cT : Nat → ClassId} {M : pM} {k : Nat} {c : pC} (h : M[k]? = some c) : (pmPic base xv cT M)[k]? = some (base + k, pmE base xv cT c) := by
  unfold pmPic
  rw [List.getElem?_mapIdx, h]
  rfl
theorem pmPic_set {base : Nat} {xv : Nat → Value} {cT : Nat → ClassId} {M : pM} {k : Nat} {c : pC} (hk : k < M.length) : pmPic base xv cT (M.set k c) = (pmPic base xv cT M).set k (base + k, pmE base xv cT c) := by
  unfold pmPic
  apply List.ext_getElem?
  intro i
  by_cases hi : i = k
  · subst hi
    rw [List.getElem?_mapIdx, List.getElem?_set_self hk, List.getElem?_set_self (by simpa using hk)]
    rfl
  · rw [List.getElem?_mapIdx, List.getElem?_set_ne (Ne.symm hi), List.getElem?_set_ne (Ne.symm hi), List.getElem?_mapIdx]
theorem pmPic_app {base : Nat} {xv : Nat → Value} {cT : Nat → ClassId} {M N : pM} : pmPic base xv cT (M ++ N) = pmPic base xv cT M ++ N.mapIdx (fun k c => (base + (k + M.length), pmE base xv cT c)) := by
  unfold pmPic
  rw [List.mapIdx_append]
theorem pmPic_D {base : Nat} {xv : Nat → Value} {cT : Nat → ClassId} {M : pM} : va_D (pmA base) (pmPic base xv cT M) := by
  have key : ∀ (k : Nat) (q : Nat × va_E), (pmPic base xv cT M)[k]? = some q → q.1 = base + k := by
    intro k q h
    unfold pmPic at h
    rw [List.getElem?_mapIdx] at h
    cases hm : M[k]? with
    | none => rw [hm] at h; cases h
    | some c => rw [hm] at h; cases h; rfl
  refine ⟨fun i j p q hi hj hpq => ?_, fun k q hk => ?_⟩
  · have h1 := key i p hi
    have h2 := key j q hj
    omega
  · show base ≤ q.1
    rw [key k q hk]
    exact Nat.le_add_right _ _
theorem pm_in_vp {j : Int32} {n : Nat} (h : pm_in j n = true) : vp_in j n := by
  unfold pm_in at h
  simp only [Bool.and_eq_true, decide_eq_true_eq] at h
  exact vp_in_iff.mpr h
theorem pm_in_lt {j : Int32} {n : Nat} (h : pm_in j n = true) : j.toNatClampNeg < n := Nat.not_le.mp fun q => pm_in_vp h (Or.inr q)
theorem pm_gi_rn {base : Nat} {xv : Nat → Value} {v : Value} (h : pm_isI v = true) : pmRn base xv v = .int (pm_gi v) := by
  cases v <;> first | rfl | (simp [pm_isI] at h)
theorem pm_gl_rn {base : Nat} {xv : Nat → Value} {v : Value} (h : pm_isJ v = true) : pmRn base xv v = .long (pm_gl v) := by
  cases v <;> first | rfl | (simp [pm_isJ] at h)
theorem pmRn_cat {base : Nat} {xv : Nat → Value} (hx : ∀ k, (xv k).category = 1) (v : Value) : (pmRn base xv v).category = v.category := by
  cases v with
  | ref k =>
    show (if k < pmX then Value.ref (base + k) else xv (k - pmX)).category = 1
    split
    · rfl
    · exact hx _
  | _ => rfl
theorem pm_map_s1 {base : Nat} {xv : Nat → Value} (hx : ∀ k, (xv k).category = 1) (ls : pL) (i : Nat) (v : Value) : (pm_s1 ls i v).map (fun q => (q.1, pmRn base xv q.2)) = (i, pmRn base xv v) :: (ls.map (fun q => (q.1, pmRn base xv q.2))).filter (fun q => !(q.1 == i) && !(q.1 + 1 == i && q.2.category == 2)) := by
  unfold pm_s1
  rw [List.map_cons, List.filter_map]
  congr 2
  apply List.filter_congr
  intro q _
  simp [pmRn_cat hx]
theorem pm_map_s2 {base : Nat} {xv : Nat → Value} (hx : ∀ k, (xv k).category = 1) (ls : pL) (i : Nat) (v : Value) : (pm_s2 ls i v).map (fun q => (q.1, pmRn base xv q.2)) = (i, pmRn base xv v) :: (ls.map (fun q => (q.1, pmRn base xv q.2))).filter (fun q => !(q.1 == i) && (!(q.1 == i + 1) && !(q.1 + 1 == i && q.2.category == 2))) := by
  unfold pm_s2
  rw [List.map_cons, List.filter_map]
  congr 2
  apply List.filter_congr
  intro q _
  simp [pmRn_cat hx]
theorem pm_cat_rn {base : Nat} {xv : Nat → Value} (hx : ∀ k, (xv k).category = 1) (st : List Value) : ((st.map (pmRn base xv)).map fun v => v.category).sum = pm_cat st := by
  unfold pm_cat
  rw [List.map_map]
  congr 1
  apply List.map_congr_left
  intro v _
  exact pmRn_cat hx v
theorem pm_sz_set {M : pM} {k : Nat} {c d : pC} (h : M[k]? = some c) (hl : d.2.length = c.2.length) : pm_sz (M.set k d) = pm_sz M := by
  unfold pm_sz
  congr 1
  apply List.ext_getElem?
  intro i
  rw [List.getElem?_map, List.getElem?_map]
  have hk : k < M.length := (List.getElem?_eq_some_iff.mp h).1
  by_cases hi : i = k
  · subst hi
    rw [List.getElem?_set_self hk, h]
    simp [hl]
  · rw [List.getElem?_set_ne (Ne.symm hi)]
theorem pm_sz_app (M N : pM) : pm_sz (M ++ N) = pm_sz M + pm_sz N := by
  unfold pm_sz
  rw [List.map_append, List.sum_append]
