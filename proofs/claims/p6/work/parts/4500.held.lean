/-! cells held against what they are said to be -/
def k_okVb (q : Nat × Int × Int) (r n : Nat) (v : Value) : Bool := match q.1, v with
  | 0, .int x => decide (q.2.1 ≤ x.toInt) && decide (x.toInt ≤ q.2.2)
  | 1, .long x => decide (q.2.1 ≤ x.toInt) && decide (x.toInt ≤ q.2.2)
  | 2, .ref k => Nat.beq k q.2.1.toNat
  | 3, .ref k => Nat.beq k (q.2.1.toNat + r)
  | 4, .int x => decide (q.2.1 ≤ x.toInt) && (decide (x.toInt ≤ q.2.2) && decide (x.toInt < (n : Int)))
  | _, _ => false
theorem k_okVb_ok {q : Nat × Int × Int} {r n : Nat} {v : Value} (h : k_okVb q r n v = true) : kOkQ q r n v := by
  obtain ⟨k, lo, hi⟩ := q
  unfold k_okVb at h
  split at h
  · rename_i x e
    have e : k = 0 := e
    subst e
    simp only [Bool.and_eq_true, decide_eq_true_eq] at h
    exact ⟨x, rfl, h.1, h.2⟩
  · rename_i x e
    have e : k = 1 := e
    subst e
    simp only [Bool.and_eq_true, decide_eq_true_eq] at h
    exact ⟨x, rfl, h.1, h.2⟩
  · rename_i x e
    have e : k = 2 := e
    subst e
    have := pm_beq h
    subst this
    exact rfl
  · rename_i x e
    have e : k = 3 := e
    subst e
    have := pm_beq h
    subst this
    exact rfl
  · rename_i x e
    have e : k = 4 := e
    subst e
    simp only [Bool.and_eq_true, decide_eq_true_eq] at h
    exact ⟨x, rfl, h.1, h.2.1, h.2.2⟩
  · cases h
def k_okGb (g : kSg) (j : Nat) (v : Value) : Bool := match g.2.2.2[(j - g.1) % g.2.2.1]? with
  | some q => k_okVb q (j - g.1) ((j - g.1) / g.2.2.1) v
  | none => false
def k_tyb (t : Nat) (v : Value) : Bool := match t, v with
  | 0, .int _ => true
  | 1, .long _ => true
  | 2, .int _ => true
  | 3, .int _ => true
  | _ + 4, _ => true
  | _, _ => false
theorem k_tyb_ok {t : Nat} {v : Value} (h : k_tyb t v = true) : kTy t v := by
  unfold k_tyb at h
  split at h
  · exact ⟨_, rfl⟩
  · exact ⟨_, rfl⟩
  · exact ⟨_, rfl⟩
  · exact ⟨_, rfl⟩
  · exact kTy_big (by omega)
  · cases h
def k_slb (d : kDe) : Nat → List Value → Bool
  | _, [] => true
  | j, v :: t => (k_tyb d.1 v && d.2.2.all (fun g => (Nat.blt j g.1 || Nat.ble (g.1 + g.2.1) j) || k_okGb g j v)) && k_slb d (j + 1) t
def k_cellb (d : kDe) (c : pC) : Bool := Nat.beq c.1 d.1 && (Nat.beq c.2.length d.2.1 && (k_djs d.2.2 && k_slb d 0 c.2))
theorem k_slb_ok {d : kDe} : ∀ {l : List Value} {i : Nat}, k_slb d i l = true → ∀ (j : Nat) (v : Value), l[j]? = some v → kTy d.1 v ∧ kOk d (i + j) v
  | [], _, _, j, v, hv => by cases hv
  | w :: t, i, h, j, v, hv => by
    unfold k_slb at h
    obtain ⟨h1, h2⟩ := Bool.and_eq_true_iff.mp h
    match j, hv with
    | 0, hv =>
      cases hv
      obtain ⟨h3, h4⟩ := Bool.and_eq_true_iff.mp h1
      refine ⟨k_tyb_ok h3, fun g hg a1 a2 => ?_⟩
      have h5 := List.all_eq_true.mp h4 g hg
      rw [Nat.add_zero] at a1 a2 ⊢
      rcases Bool.or_eq_true_iff.mp h5 with h5 | h5
      · rcases Bool.or_eq_true_iff.mp h5 with h5 | h5
        · have := pm_blt h5
          omega
        · have := Nat.le_of_ble_eq_true h5
          omega
      · unfold k_okGb at h5
        split at h5
        · rename_i q hq
          exact ⟨q, hq, k_okVb_ok h5⟩
        · cases h5
    | j + 1, hv =>
      have hv : t[j]? = some v := hv
      have := k_slb_ok h2 j v hv
      rw [show i + 1 + j = i + (j + 1) by omega] at this
      exact this
theorem k_cellb_ok {d : kDe} {c : pC} (h : k_cellb d c = true) : kCell d c := by
  unfold k_cellb at h
  simp only [Bool.and_eq_true] at h
  obtain ⟨h1, h2, h3, h4⟩ := h
  exact ⟨pm_beq h1, pm_beq h2, h3, fun j v hv => by
    have := k_slb_ok h4 j v hv
    rw [Nat.zero_add] at this
    exact this⟩
def k_memb (D : kDD) : Nat → pM → Bool
  | _, [] => true
  | a, c :: t => (match k_dg D a with
    | some d => k_cellb d c
    | none => true) && k_memb D (a + 1) t
def k_dgb45 (D : kDD) : Bool := (List.range D.2.length).all (fun i => match D.2[i]? with
  | some c => Nat.ble (16 * i + c.length) D.1
  | none => true)
theorem k_memb_ok {D : kDD} : ∀ {M : pM} {i : Nat}, k_memb D i M = true → ∀ (a : Nat) (c : pC) (d : kDe), M[a]? = some c → k_dg D (i + a) = some d → kCell d c
  | [], _, _, a, c, d, hc, _ => by cases hc
  | w :: t, i, h, a, c, d, hc, hd => by
    unfold k_memb at h
    obtain ⟨h1, h2⟩ := Bool.and_eq_true_iff.mp h
    match a, hc, hd with
    | 0, hc, hd =>
      cases hc
      rw [Nat.add_zero] at hd
      rw [hd] at h1
      exact k_cellb_ok h1
    | a + 1, hc, hd =>
      have hc : t[a]? = some c := hc
      exact k_memb_ok h2 a c d hc (by rw [show i + 1 + a = i + (a + 1) by omega]; exact hd)
theorem k_mem_of {D : kDD} {M : pM} (h1 : Nat.beq M.length D.1 = true) (h2 : k_dgb45 D = true) (h3 : k_memb D 0 M = true) : kMem D M := by
  have hl := pm_beq h1
  refine ⟨hl, fun a d hd => ?_⟩
  have ha : a < M.length := by
    unfold k_dg at hd
    split at hd
    · rename_i c hc
      have h4 := (List.getElem?_eq_some_iff.mp hc).1
      have h5 := (List.getElem?_eq_some_iff.mp hd).1
      have h6 := List.all_eq_true.mp h2 (a / 16) (List.mem_range.mpr h4)
      rw [hc] at h6
      have h6 := Nat.le_of_ble_eq_true h6
      omega
    · cases hd
  exact ⟨M[a], List.getElem?_eq_getElem ha, k_memb_ok h3 a _ d (List.getElem?_eq_getElem ha) (by rw [Nat.zero_add]; exact hd)⟩
