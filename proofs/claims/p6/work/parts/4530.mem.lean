/-! the cells behind the two constructors: a run of the pure machine, by the kernel -/
def pm_okR (o : Option (Option Value × pM)) : Bool := match o with
  | some z => z.1.isNone
  | none => false
def pm_geR (o : Option (Option Value × pM)) : pM := match o with
  | some z => z.2
  | none => []
theorem pm_rr {o : Option (Option Value × pM)} (h : pm_okR o = true) : o = some (none, pm_geR o) := by
  cases o with
  | none => cases h
  | some z =>
    obtain ⟨v, M⟩ := z
    cases v with
    | none => rfl
    | some v => cases h
def pm_lnb (M : pM) (n : Nat) : Bool := Nat.beq M.length n
theorem pm_len (M : pM) (n : Nat) (h : pm_lnb M n = true) : M.length = n := by
  unfold pm_lnb at h
  exact Nat.eq_of_beq_eq_true h
def pm_szb (M : pM) (n : Nat) : Bool := Nat.ble (pm_sz M) n
theorem pm_szl (M : pM) (n : Nat) (h : pm_szb M n = true) : pm_sz M ≤ n := by
  unfold pm_szb at h
  exact Nat.le_of_ble_eq_true h
def pm_fresh (t n : Nat) : pC := (16 + t, (List.range n).map (fun k => pm_def (pmTy t k)))
def kMa : pM := [pm_fresh 11 9]
def kMb : pM := pm_geR (pm_run [] 3000 12 143 [.ref 0] kMa)
def kMc : pM := kMb ++ [pm_fresh 12 55]
def kMw : pM := pm_geR (pm_run [] 3000 12 218 [.ref 443] kMc)
def kA1 : Bool := pm_okR (pm_run [] 3000 12 143 [.ref 0] kMa)
def kA2 : Bool := pm_okR (pm_run [] 3000 12 218 [.ref 443] kMc)
def kGe0 (a j : Nat) : Bool := match k_gi kMw a j with
  | some y => decide (0 ≤ y)
  | none => false
def kGl : List (Nat × Nat × Int) := [(444, 7, 0), (444, 5, 0), (477, 7, 0), (477, 5, 0), (0, 2, 0), (443, 52, 0), (1, 0, 0), (444, 0, 0), (182, 0, 0), (477, 0, 0), (7, 0, 0), (444, 1, 0), (188, 0, 0), (477, 1, 0), (80, 0, 0), (444, 2, 0), (261, 0, 0), (477, 2, 0), (84, 0, 0), (444, 3, 0), (265, 0, 0), (477, 3, 0), (89, 0, 0), (444, 4, 0), (270, 0, 0), (477, 4, 0), (1, 1, 0), (444, 6, 0), (182, 1, 0), (477, 6, 0), (11, 0, 0), (444, 9, 0), (192, 0, 0), (477, 9, 0)]
def kRlb (r : kRw) (i : Nat) : Bool := match k_gi kMw r.1.1.toNat (kSl r.1 i).toNat, k_gi kMw r.2.1.1.toNat (kSl r.2.1 i).toNat with
  | some x, some y => decide (0 ≤ r.1.1) && (decide (0 ≤ r.2.1.1) && (decide (0 ≤ kSl r.1 i) && (decide (0 ≤ kSl r.2.1 i) && decide (x = y))))
  | _, _ => false
def kRlc (p : Nat) : Bool := match kRel[p]? with
  | some r => (List.range r.2.2.toNat).all (kRlb r)
  | none => false
def kA3 : Bool := pm_lnb kMb 443
def kA4 : Bool := pm_lnb kMw 478
def kA5 : Bool := pm_szb kMb 100000
def kA6 : Bool := pm_szb kMw 100000
def kA7 : Bool := Nat.beq kMw.length kD.1
def kA8 : Bool := k_dgb45 kD
def kA9 : Bool := k_memb kD 0 kMw
def kA10 : Bool := (List.range 16).all (fun k => kGe0 450 (0 + (26 * k + 3)))
def kA11 : Bool := (List.range 16).all (fun k => kGe0 477 (300 + (26 * k + 3)))
def kA12 : Bool := kGl.all (fun q => decide (k_gi kMw q.1 q.2.1 = some q.2.2))
def kA13 : Bool := ([6, 10, 14, 18, 22, 26, 30] : List Nat).all kRlc
def kAllB : Bool := kA1 && (kA2 && (kA3 && (kA4 && (kA5 && (kA6 && (kA7 && (kA8 && (kA9 && (kA10 && (kA11 && (kA12 && kA13)))))))))))
theorem kAll0 : kAllB = true := by decide +kernel
theorem kAll : kA1 = true ∧ kA2 = true ∧ kA3 = true ∧ kA4 = true ∧ kA5 = true ∧ kA6 = true ∧ kA7 = true ∧ kA8 = true ∧ kA9 = true ∧ kA10 = true ∧ kA11 = true ∧ kA12 = true ∧ kA13 = true := by
  have h := kAll0
  unfold kAllB at h
  simp only [Bool.and_eq_true] at h
  exact h
theorem kRa0 : pm_okR (pm_run [] 3000 12 143 [.ref 0] kMa) = true := by
  have h := kAll.1
  unfold kA1 at h
  exact h
theorem kRb0 : pm_okR (pm_run [] 3000 12 218 [.ref 443] kMc) = true := by
  have h := kAll.2.1
  unfold kA2 at h
  exact h
theorem kRa : pm_run [] 3000 12 143 [.ref 0] kMa = some (none, kMb) := by
  unfold kMb
  exact pm_rr kRa0
theorem kRb : pm_run [] 3000 12 218 [.ref 443] kMc = some (none, kMw) := by
  unfold kMw
  exact pm_rr kRb0
theorem kMb1 : pm_lnb kMb 443 = true := by
  have h := kAll.2.2.1
  unfold kA3 at h
  exact h
theorem kMw4 : pm_lnb kMw 478 = true := by
  have h := kAll.2.2.2.1
  unfold kA4 at h
  exact h
theorem kMb2 : pm_szb kMb 100000 = true := by
  have h := kAll.2.2.2.2.1
  unfold kA5 at h
  exact h
theorem kMw5 : pm_szb kMw 100000 = true := by
  have h := kAll.2.2.2.2.2.1
  unfold kA6 at h
  exact h
theorem kMw1 : Nat.beq kMw.length kD.1 = true := by
  have h := kAll.2.2.2.2.2.2.1
  unfold kA7 at h
  exact h
theorem kMw2 : k_dgb45 kD = true := by
  have h := kAll.2.2.2.2.2.2.2.1
  unfold kA8 at h
  exact h
theorem kMw3 : k_memb kD 0 kMw = true := by
  have h := kAll.2.2.2.2.2.2.2.2.1
  unfold kA9 at h
  exact h
theorem kSx1 : (List.range 16).all (fun k => kGe0 450 (0 + (26 * k + 3))) = true := by
  have h := kAll.2.2.2.2.2.2.2.2.2.1
  unfold kA10 at h
  exact h
theorem kSx2 : (List.range 16).all (fun k => kGe0 477 (300 + (26 * k + 3))) = true := by
  have h := kAll.2.2.2.2.2.2.2.2.2.2.1
  unfold kA11 at h
  exact h
theorem kGl0 : kGl.all (fun q => decide (k_gi kMw q.1 q.2.1 = some q.2.2)) = true := by
  have h := kAll.2.2.2.2.2.2.2.2.2.2.2.1
  unfold kA12 at h
  exact h
theorem kRl1 : ([6, 10, 14, 18, 22, 26, 30] : List Nat).all kRlc = true := by
  have h := kAll.2.2.2.2.2.2.2.2.2.2.2.2
  unfold kA13 at h
  exact h
theorem kMw_mem : kMem kD kMw := k_mem_of kMw1 kMw2 kMw3
theorem kMb_len : kMb.length = 443 := pm_len kMb 443 kMb1
theorem kMw_len : kMw.length = 478 := pm_len kMw 478 kMw4
theorem kMw_sz : pm_sz kMw ≤ 100000 := pm_szl kMw 100000 kMw5
theorem kMb_sz : pm_sz kMb ≤ 100000 := pm_szl kMb 100000 kMb2
