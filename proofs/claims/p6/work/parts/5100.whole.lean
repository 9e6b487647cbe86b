/-! the law: its start, its loop, its end -/
def kLwI : List (Nat × Instr × Nat) := [(0, .new 7, 3), (3, .dup, 1), (4, .invokespecial 9, 3), (7, .astore_n 1, 1), (8, .new 10, 3), (11, .dup, 1), (12, .invokespecial 12, 3), (15, .astore_n 2, 1), (16, .iconst 0, 1), (17, .istore_n 3, 1)]
def kLwB : Bool := match pmPT[pmLaw]? with
  | some me => Nat.beq me.1 19 && (Nat.beq me.2.2.1 999999 && (Nat.beq me.2.2.2.1 4 && (decide (me.2.2.2.2.1 = some .boolean) && (Nat.beq me.2.2.2.2.2.1 0 && kLwI.all (fun q => decide (pm_lc me.2.2.2.2.2.2.2 q.1 = some q.2))))))
  | none => false
theorem kLw0 : kLwB = true := by decide +kernel
theorem kLw : ∃ me, pmPT[pmLaw]? = some me ∧ me.1 = 19 ∧ me.2.2.1 = 999999 ∧ me.2.2.2.1 = 4 ∧ me.2.2.2.2.1 = some .boolean ∧ me.2.2.2.2.2.1 = 0 ∧ ∀ q ∈ kLwI, pm_lc me.2.2.2.2.2.2.2 q.1 = some q.2 := by
  have h := kLw0
  unfold kLwB at h
  cases hq : pmPT[pmLaw]? with
  | none => rw [hq] at h; cases h
  | some me =>
    rw [hq] at h
    simp only [Bool.and_eq_true, decide_eq_true_eq] at h
    obtain ⟨h1, h2, h3, h4, h5, h6⟩ := h
    exact ⟨me, rfl, pm_beq h1, pm_beq h2, pm_beq h3, h4, pm_beq h5, fun q hq => of_decide_eq_true (List.all_eq_true.mp h6 q hq)⟩
theorem k_new_of {idx pc tg : Nat} {ls : pL} {st : List Value} {M : pM} {q : vw_C} (h : (match pm_tl pmCT 19 idx with
  | some t => Nat.beq t.1 tg
  | none => false) = true) (hq : pmCl[tg - 16]? = some q) (ht : Nat.ble 16 tg = true) (hM : M.length < pmX) : pm_new 19 idx pc ls st M = some (pc + 3, ls, .ref M.length :: st, M ++ [(tg, (List.range q.2.2).map (fun k => pm_def (pmTy (tg - 16) k)))]) := by
  unfold pm_new
  cases hc : pm_tl pmCT 19 idx with
  | none => rw [hc] at h; cases h
  | some t =>
    rw [hc] at h
    have h := pm_beq h
    have hb : Nat.blt M.length pmX = true := Nat.ble_eq_true_of_le hM
    simp only [h, hq, ht, hb, Bool.and_self, cond_true]
    rfl
theorem k_call_of {E : pM} {idx pc y own a : Nat} {r : List Value} {ls : pL} {M : pM} {c : pC} (h1 : (match pm_tl pmMT 19 idx with
  | some t => Nat.beq t.1 y
  | none => false) = true) (h9 : Nat.beq y 9000 = false) (h91 : Nat.beq y 9001 = false) (h2 : (match pmPT[y]? with
  | some me => Nat.beq me.1 own && (Nat.beq me.2.2.2.2.2.1 2 && Nat.beq me.2.2.2.2.2.2.1 0)
  | none => false) = true) (ha : Nat.ble pmX a = false) (hc : M[a]? = some c) (hc1 : c.1 = 16 + own) (hr : Nat.ble (pm_cat r) 8 = true) : pm_call E 2 19 idx pc ls (.ref a :: r) M = some (.inr (y, [.ref a], r)) := by
  unfold pm_call
  cases ht : pm_tl pmMT 19 idx with
  | none => rw [ht] at h1; cases h1
  | some t =>
    rw [ht] at h1
    have h1 := pm_beq h1
    simp only [h1, h9, h91, cond_false]
    have key : pm_args E 2 y (.ref a :: r) M = some (y, [.ref a], r) := by
      unfold pm_args
      cases hp : pmPT[y]? with
      | none => rw [hp] at h2; cases h2
      | some me =>
        rw [hp] at h2
        simp only [Bool.and_eq_true] at h2
        obtain ⟨k1, k2, k3⟩ := h2
        have k1 := pm_beq k1
        have k3' := pm_beq k3
        have hcell : pm_cell E M a = some c := by
          unfold pm_cell
          rw [ha, cond_false]
          exact hc
        have hb : Nat.beq (16 + own) (16 + own) = true := Nat.beq_refl _
        simp only [k2, k3', k1, List.take_zero, List.reverse_nil, List.length_nil, List.drop_zero, show Nat.beq 0 0 = true from rfl, Bool.and_self, cond_true, show Nat.beq 2 0 = false from rfl, cond_false, hcell, hc1, hb, hr]
    rw [key]
theorem kMc_len : kMc.length = 444 := by
  unfold kMc
  rw [List.length_append, kMb_len]
  rfl
theorem kMc_get : kMc[443]? = some (pm_fresh 12 55) := by
  unfold kMc
  rw [List.getElem?_append_right (by rw [kMb_len]; exact Nat.le_refl _), kMb_len]
  rfl
theorem kMc_sz : pm_sz kMc ≤ 200000 := by
  unfold kMc
  rw [pm_sz_app]
  have h1 := kMb_sz
  have h2 : pm_sz [pm_fresh 12 55] = 55 := by decide +kernel
  omega
theorem kMa_sz : pm_sz kMa ≤ 200000 := by
  have h2 : pm_sz kMa = 9 := by decide +kernel
  omega
theorem kNw1 {ls : pL} : pm_new 19 7 0 ls [] [] = some (3, ls, [.ref 0], kMa) := by
  have h := k_new_of (idx := 7) (pc := 0) (tg := 27) (ls := ls) (st := []) (M := []) (q := (RX11, TX11, 9)) (by decide +kernel) rfl rfl (by decide)
  exact h
theorem kStN {ls : pL} {st : List Value} {M : pM} {pc : Nat} : pm_stp [] 19 4 false (.new 10) 3 pc ls st M = pm_new 19 10 pc ls st M := rfl
theorem kNw2 {ls : pL} : pm_stp [] 19 4 false (.new 10) 3 8 ls [] kMb = some (11, ls, [.ref 443], kMc) := by
  rw [kStN]
  have h := k_new_of (idx := 10) (pc := 8) (tg := 28) (ls := ls) (st := []) (M := kMb) (q := (RX12, TX12, 55)) (by decide +kernel) rfl rfl (by rw [kMb_len]; decide)
  rw [kMb_len] at h
  exact h
theorem kCl1 {ls : pL} : pm_call [] 2 19 9 4 ls [.ref 0, .ref 0] kMa = some (.inr (143, [.ref 0], [.ref 0])) := k_call_of (own := 11) (c := pm_fresh 11 9) (by decide +kernel) rfl rfl (by decide +kernel) rfl rfl rfl rfl
theorem kCl2 {ls : pL} : pm_call [] 2 19 12 12 ls [.ref 443, .ref 443] kMc = some (.inr (218, [.ref 443], [.ref 443])) := k_call_of (own := 12) (c := pm_fresh 12 55) (by decide +kernel) rfl rfl (by decide +kernel) rfl kMc_get rfl rfl
/-! the loop's contract at its first turn -/
def kVls : List Int := [0, 0, 0, 0, 0, 0, 0, 0, 0, 0, 0, 0, 0, 0, 0, 0, 0, 0, 0, 0, 0]
def kSig (L : Nat) : Nat → Int := fun a => if a = 0 then (L : Int) else kVls.getD a 0
def kLs0 : pL := [(3, .int 0), (2, .ref 443), (1, .ref 0), (0, .ref 4000)]
theorem kHas_g {N : kN} {a j : Nat} {x : Int} (h : k_gi kMw a j = some x) : kHas N kMw (a : Int) (j : Int) x := by
  obtain ⟨c, w, h1, h2, h3⟩ := k_gi_some h
  exact ⟨fun _ => ⟨a, j, c, w, rfl, rfl, h1, h2, h3⟩, fun hc => absurd hc (by omega)⟩
theorem kSx0 {Ln l0 V v0 : Nat} (h : (List.range 16).all (fun k => kGe0 V (v0 + (26 * k + 3))) = true) : kSx kMw (Ln : Int) (l0 : Int) (V : Int) (v0 : Int) 0 0 := by
  refine ⟨fun l h1 h2 => by omega, fun k h1 h2 => ?_⟩
  have h3 := List.all_eq_true.mp h k.toNat (List.mem_range.mpr (by omega))
  unfold kGe0 at h3
  split at h3
  · rename_i y hy
    refine ⟨y, ⟨by omega, by omega, ?_⟩, of_decide_eq_true h3⟩
    rw [show ((V : Int)).toNat = V by omega, show ((v0 : Int) + (26 * k + 3)).toNat = v0 + (26 * k.toNat + 3) by omega]
    exact hy
  · cases h3
theorem kG {q : Nat × Nat × Int} (h : q ∈ kGl) : k_gi kMw q.1 q.2.1 = some q.2.2 := of_decide_eq_true (List.all_eq_true.mp kGl0 q h)
theorem kRl0 {p : Nat} {r : kRw} (hr : kRel[p]? = some r) (hc : kRlc p = true) : kRl kMw (p : Int) r.2.2 (fun _ => True) := by
  unfold kRlc at hc
  rw [hr] at hc
  have h : (List.range r.2.2.toNat).all (kRlb r) = true := hc
  refine ⟨r, by omega, by rw [show ((p : Int)).toNat = p by omega]; exact hr, Int.le_refl _, fun i h1 h2 _ => ?_⟩
  have h3 := List.all_eq_true.mp h i.toNat (List.mem_range.mpr (by omega))
  unfold kRlb at h3
  rw [show ((i.toNat : Nat) : Int) = i by omega] at h3
  split at h3
  · rename_i x y hx hy
    simp only [Bool.and_eq_true, decide_eq_true_eq] at h3
    obtain ⟨a1, a2, a3, a4, rfl⟩ := h3
    exact ⟨x, ⟨a1, a3, hx⟩, ⟨a2, a4, hy⟩⟩
  · cases h3
theorem kRl0z {p : Nat} {r : kRw} (hr : kRel[p]? = some r) (h0 : 0 ≤ r.2.2) : kRl kMw (p : Int) 0 (fun _ => True) := ⟨r, by omega, by rw [show ((p : Int)).toNat = p by omega]; exact hr, h0, fun i h1 h2 _ => by omega⟩
theorem kLaw_wf : k_wfS k220_m.1 = true := by decide +kernel
theorem kLaw_S {L : Nat} {f : Nat → Int} (hL : L ≤ 3584) : kRS (L, f) (kSig L) k220_m.1 kMw := by
  refine ⟨⟨rfl, Nat.le_add_left 1 _⟩, fun a => ?_, fun _ hf => (by cases hf), fun _ hf => (by cases hf), ?_, k_wfS_ok kLaw_wf⟩
  · match a with
    | 0 => exact ⟨show (0 : Int) ≤ (L : Int) by omega, show (L : Int) ≤ 3584 by omega⟩
    | 1 => exact ⟨show (0 : Int) ≤ 0 by decide, show (0 : Int) ≤ 3584 by decide⟩
    | 2 => exact ⟨show (0 : Int) ≤ 0 by decide, show (0 : Int) ≤ 24 by decide⟩
    | 3 => exact ⟨show (0 : Int) ≤ 0 by decide, show (0 : Int) ≤ 16 by decide⟩
    | 4 => exact ⟨show (0 : Int) ≤ 0 by decide, show (0 : Int) ≤ 24 by decide⟩
    | 5 => exact ⟨show (0 : Int) ≤ 0 by decide, show (0 : Int) ≤ 16 by decide⟩
    | 6 => exact ⟨show (0 : Int) ≤ 0 by decide, show (0 : Int) ≤ 1 by decide⟩
    | 7 => exact ⟨show (0 : Int) ≤ 0 by decide, show (0 : Int) ≤ 3599 by decide⟩
    | 8 => exact ⟨show (0 : Int) ≤ 0 by decide, show (0 : Int) ≤ 3599 by decide⟩
    | 9 => exact ⟨show (0 : Int) ≤ 0 by decide, show (0 : Int) ≤ 4 by decide⟩
    | 10 => exact ⟨show (0 : Int) ≤ 0 by decide, show (0 : Int) ≤ 4 by decide⟩
    | 11 => exact ⟨show (0 : Int) ≤ 0 by decide, show (0 : Int) ≤ 16 by decide⟩
    | 12 => exact ⟨show (0 : Int) ≤ 0 by decide, show (0 : Int) ≤ 16 by decide⟩
    | 13 => exact ⟨show (0 : Int) ≤ 0 by decide, show (0 : Int) ≤ 32 by decide⟩
    | 14 => exact ⟨show (0 : Int) ≤ 0 by decide, show (0 : Int) ≤ 32 by decide⟩
    | 15 => exact ⟨show (0 : Int) ≤ 0 by decide, show (0 : Int) ≤ 24 by decide⟩
    | 16 => exact ⟨show (0 : Int) ≤ 0 by decide, show (0 : Int) ≤ 24 by decide⟩
    | 17 => exact ⟨show (0 : Int) ≤ 0 by decide, show (0 : Int) ≤ 12 by decide⟩
    | 18 => exact ⟨show (0 : Int) ≤ 0 by decide, show (0 : Int) ≤ 12 by decide⟩
    | 19 => exact ⟨show (0 : Int) ≤ 0 by decide, show (0 : Int) ≤ 7 by decide⟩
    | 20 => exact ⟨show (0 : Int) ≤ 0 by decide, show (0 : Int) ≤ 7 by decide⟩
    | a + 21 => exact ⟨Int.le_refl _, Int.le_refl _⟩
  · have z : ∀ a : Nat, k_ev (kSig L) (0, [(a, 1)]) = kSig L a := fun a => k_ev_v (kSig L) a
    have e : ∀ k : Int, k_ev (kSig L) (k, []) = k := fun k => k_ev_c (kSig L) k
    refine List.forall_mem_cons.mpr ⟨?_, List.forall_mem_cons.mpr ⟨?_, List.forall_mem_cons.mpr ⟨?_, List.forall_mem_cons.mpr ⟨?_, List.forall_mem_cons.mpr ⟨?_, List.forall_mem_cons.mpr ⟨?_, List.forall_mem_cons.mpr ⟨?_, List.forall_mem_cons.mpr ⟨?_, List.forall_mem_cons.mpr ⟨?_, List.forall_mem_cons.mpr ⟨?_, List.forall_mem_cons.mpr ⟨?_, List.forall_mem_cons.mpr ⟨?_, List.forall_mem_cons.mpr ⟨?_, List.forall_mem_cons.mpr ⟨?_, List.forall_mem_cons.mpr ⟨?_, List.forall_mem_cons.mpr ⟨?_, List.forall_mem_cons.mpr ⟨?_, List.forall_mem_cons.mpr ⟨?_, List.forall_mem_cons.mpr ⟨?_, List.forall_mem_cons.mpr ⟨?_, List.forall_mem_cons.mpr ⟨?_, List.forall_mem_cons.mpr ⟨?_, List.forall_mem_cons.mpr ⟨?_, List.forall_mem_cons.mpr ⟨?_, List.forall_mem_cons.mpr ⟨?_, List.forall_mem_cons.mpr ⟨?_, List.forall_mem_cons.mpr ⟨?_, List.forall_mem_cons.mpr ⟨?_, List.forall_mem_cons.mpr ⟨?_, List.forall_mem_cons.mpr ⟨?_, List.forall_mem_cons.mpr ⟨?_, List.forall_mem_cons.mpr ⟨?_, List.forall_mem_cons.mpr ⟨?_, List.forall_mem_cons.mpr ⟨?_, List.forall_mem_cons.mpr ⟨?_, List.forall_mem_cons.mpr ⟨?_, List.forall_mem_cons.mpr ⟨?_, List.forall_mem_cons.mpr ⟨?_, List.forall_mem_cons.mpr ⟨?_, List.forall_mem_cons.mpr ⟨?_, List.forall_mem_cons.mpr ⟨?_, List.forall_mem_cons.mpr ⟨?_, List.forall_mem_cons.mpr ⟨?_, List.forall_mem_cons.mpr ⟨?_, List.forall_mem_cons.mpr ⟨?_, List.forall_mem_cons.mpr ⟨?_, List.forall_mem_cons.mpr ⟨?_, List.forall_mem_cons.mpr ⟨?_, List.forall_mem_cons.mpr ⟨?_, List.forall_mem_cons.mpr ⟨?_, fun _ h => absurd h List.not_mem_nil⟩⟩⟩⟩⟩⟩⟩⟩⟩⟩⟩⟩⟩⟩⟩⟩⟩⟩⟩⟩⟩⟩⟩⟩⟩⟩⟩⟩⟩⟩⟩⟩⟩⟩⟩⟩⟩⟩⟩⟩⟩⟩⟩⟩⟩⟩⟩⟩⟩⟩
    · show kHas _ kMw (k_ev (kSig L) (444, [])) (k_ev (kSig L) (7, [])) (k_ev (kSig L) (0, [(2, 1)]))
      rw [e, e, z 2]
      exact kHas_g (a := 444) (j := 7) (x := 0) (kG (q := (444, 7, 0)) (List.mem_of_getElem? (i := 0) rfl))
    · show kHas _ kMw (k_ev (kSig L) (444, [])) (k_ev (kSig L) (5, [])) (k_ev (kSig L) (0, [(3, 1)]))
      rw [e, e, z 3]
      exact kHas_g (a := 444) (j := 5) (x := 0) (kG (q := (444, 5, 0)) (List.mem_of_getElem? (i := 1) rfl))
    · show kHas _ kMw (k_ev (kSig L) ((-6), [])) (k_ev (kSig L) (0, [(2, 1)])) (k_ev (kSig L) (0, [(3, 1)]))
      rw [e, z 2, z 3]
      exact ⟨fun h => absurd h (by decide), fun _ => kPhi_of (i := 6) (p := 0) rfl (by decide) (kSx0 (Ln := 453) (l0 := 0) (V := 450) (v0 := 0) kSx1)⟩
    · show kHas _ kMw (k_ev (kSig L) (477, [])) (k_ev (kSig L) (7, [])) (k_ev (kSig L) (0, [(4, 1)]))
      rw [e, e, z 4]
      exact kHas_g (a := 477) (j := 7) (x := 0) (kG (q := (477, 7, 0)) (List.mem_of_getElem? (i := 2) rfl))
    · show kHas _ kMw (k_ev (kSig L) (477, [])) (k_ev (kSig L) (5, [])) (k_ev (kSig L) (0, [(5, 1)]))
      rw [e, e, z 5]
      exact kHas_g (a := 477) (j := 5) (x := 0) (kG (q := (477, 5, 0)) (List.mem_of_getElem? (i := 3) rfl))
    · show kHas _ kMw (k_ev (kSig L) ((-8), [])) (k_ev (kSig L) (0, [(4, 1)])) (k_ev (kSig L) (0, [(5, 1)]))
      rw [e, z 4, z 5]
      exact ⟨fun h => absurd h (by decide), fun _ => kPhi_of (i := 8) (p := 0) rfl (by decide) (kSx0 (Ln := 477) (l0 := 740) (V := 477) (v0 := 300) kSx2)⟩
    · show kHas _ kMw (k_ev (kSig L) (0, [])) (k_ev (kSig L) (2, [])) (k_ev (kSig L) (0, [(6, 1)]))
      rw [e, e, z 6]
      exact kHas_g (a := 0) (j := 2) (x := 0) (kG (q := (0, 2, 0)) (List.mem_of_getElem? (i := 4) rfl))
    · show kHas _ kMw (k_ev (kSig L) (443, [])) (k_ev (kSig L) (52, [])) (k_ev (kSig L) (0, [(6, 1)]))
      rw [e, e, z 6]
      exact kHas_g (a := 443) (j := 52) (x := 0) (kG (q := (443, 52, 0)) (List.mem_of_getElem? (i := 5) rfl))
    · show kHas _ kMw (k_ev (kSig L) (1, [])) (k_ev (kSig L) (0, [])) (k_ev (kSig L) (0, [(7, 1)]))
      rw [e, e, z 7]
      exact kHas_g (a := 1) (j := 0) (x := 0) (kG (q := (1, 0, 0)) (List.mem_of_getElem? (i := 6) rfl))
    · show kHas _ kMw (k_ev (kSig L) (444, [])) (k_ev (kSig L) (0, [])) (k_ev (kSig L) (0, [(7, 1)]))
      rw [e, e, z 7]
      exact kHas_g (a := 444) (j := 0) (x := 0) (kG (q := (444, 0, 0)) (List.mem_of_getElem? (i := 7) rfl))
    · show kHas _ kMw (k_ev (kSig L) (182, [])) (k_ev (kSig L) (0, [])) (k_ev (kSig L) (0, [(8, 1)]))
      rw [e, e, z 8]
      exact kHas_g (a := 182) (j := 0) (x := 0) (kG (q := (182, 0, 0)) (List.mem_of_getElem? (i := 8) rfl))
    · show kHas _ kMw (k_ev (kSig L) (477, [])) (k_ev (kSig L) (0, [])) (k_ev (kSig L) (0, [(8, 1)]))
      rw [e, e, z 8]
      exact kHas_g (a := 477) (j := 0) (x := 0) (kG (q := (477, 0, 0)) (List.mem_of_getElem? (i := 9) rfl))
    · show kHas _ kMw (k_ev (kSig L) (7, [])) (k_ev (kSig L) (0, [])) (k_ev (kSig L) (0, [(9, 1)]))
      rw [e, e, z 9]
      exact kHas_g (a := 7) (j := 0) (x := 0) (kG (q := (7, 0, 0)) (List.mem_of_getElem? (i := 10) rfl))
    · show kHas _ kMw (k_ev (kSig L) (444, [])) (k_ev (kSig L) (1, [])) (k_ev (kSig L) (0, [(9, 1)]))
      rw [e, e, z 9]
      exact kHas_g (a := 444) (j := 1) (x := 0) (kG (q := (444, 1, 0)) (List.mem_of_getElem? (i := 11) rfl))
    · show kHas _ kMw (k_ev (kSig L) (188, [])) (k_ev (kSig L) (0, [])) (k_ev (kSig L) (0, [(10, 1)]))
      rw [e, e, z 10]
      exact kHas_g (a := 188) (j := 0) (x := 0) (kG (q := (188, 0, 0)) (List.mem_of_getElem? (i := 12) rfl))
    · show kHas _ kMw (k_ev (kSig L) (477, [])) (k_ev (kSig L) (1, [])) (k_ev (kSig L) (0, [(10, 1)]))
      rw [e, e, z 10]
      exact kHas_g (a := 477) (j := 1) (x := 0) (kG (q := (477, 1, 0)) (List.mem_of_getElem? (i := 13) rfl))
    · show kHas _ kMw (k_ev (kSig L) (80, [])) (k_ev (kSig L) (0, [])) (k_ev (kSig L) (0, [(11, 1)]))
      rw [e, e, z 11]
      exact kHas_g (a := 80) (j := 0) (x := 0) (kG (q := (80, 0, 0)) (List.mem_of_getElem? (i := 14) rfl))
    · show kHas _ kMw (k_ev (kSig L) (444, [])) (k_ev (kSig L) (2, [])) (k_ev (kSig L) (0, [(11, 1)]))
      rw [e, e, z 11]
      exact kHas_g (a := 444) (j := 2) (x := 0) (kG (q := (444, 2, 0)) (List.mem_of_getElem? (i := 15) rfl))
    · show kHas _ kMw (k_ev (kSig L) (261, [])) (k_ev (kSig L) (0, [])) (k_ev (kSig L) (0, [(12, 1)]))
      rw [e, e, z 12]
      exact kHas_g (a := 261) (j := 0) (x := 0) (kG (q := (261, 0, 0)) (List.mem_of_getElem? (i := 16) rfl))
    · show kHas _ kMw (k_ev (kSig L) (477, [])) (k_ev (kSig L) (2, [])) (k_ev (kSig L) (0, [(12, 1)]))
      rw [e, e, z 12]
      exact kHas_g (a := 477) (j := 2) (x := 0) (kG (q := (477, 2, 0)) (List.mem_of_getElem? (i := 17) rfl))
    · show kHas _ kMw (k_ev (kSig L) (84, [])) (k_ev (kSig L) (0, [])) (k_ev (kSig L) (0, [(13, 1)]))
      rw [e, e, z 13]
      exact kHas_g (a := 84) (j := 0) (x := 0) (kG (q := (84, 0, 0)) (List.mem_of_getElem? (i := 18) rfl))
    · show kHas _ kMw (k_ev (kSig L) (444, [])) (k_ev (kSig L) (3, [])) (k_ev (kSig L) (0, [(13, 1)]))
      rw [e, e, z 13]
      exact kHas_g (a := 444) (j := 3) (x := 0) (kG (q := (444, 3, 0)) (List.mem_of_getElem? (i := 19) rfl))
    · show kHas _ kMw (k_ev (kSig L) (265, [])) (k_ev (kSig L) (0, [])) (k_ev (kSig L) (0, [(14, 1)]))
      rw [e, e, z 14]
      exact kHas_g (a := 265) (j := 0) (x := 0) (kG (q := (265, 0, 0)) (List.mem_of_getElem? (i := 20) rfl))
    · show kHas _ kMw (k_ev (kSig L) (477, [])) (k_ev (kSig L) (3, [])) (k_ev (kSig L) (0, [(14, 1)]))
      rw [e, e, z 14]
      exact kHas_g (a := 477) (j := 3) (x := 0) (kG (q := (477, 3, 0)) (List.mem_of_getElem? (i := 21) rfl))
    · show kHas _ kMw (k_ev (kSig L) (89, [])) (k_ev (kSig L) (0, [])) (k_ev (kSig L) (0, [(15, 1)]))
      rw [e, e, z 15]
      exact kHas_g (a := 89) (j := 0) (x := 0) (kG (q := (89, 0, 0)) (List.mem_of_getElem? (i := 22) rfl))
    · show kHas _ kMw (k_ev (kSig L) (444, [])) (k_ev (kSig L) (4, [])) (k_ev (kSig L) (0, [(15, 1)]))
      rw [e, e, z 15]
      exact kHas_g (a := 444) (j := 4) (x := 0) (kG (q := (444, 4, 0)) (List.mem_of_getElem? (i := 23) rfl))
    · show kHas _ kMw (k_ev (kSig L) (270, [])) (k_ev (kSig L) (0, [])) (k_ev (kSig L) (0, [(16, 1)]))
      rw [e, e, z 16]
      exact kHas_g (a := 270) (j := 0) (x := 0) (kG (q := (270, 0, 0)) (List.mem_of_getElem? (i := 24) rfl))
    · show kHas _ kMw (k_ev (kSig L) (477, [])) (k_ev (kSig L) (4, [])) (k_ev (kSig L) (0, [(16, 1)]))
      rw [e, e, z 16]
      exact kHas_g (a := 477) (j := 4) (x := 0) (kG (q := (477, 4, 0)) (List.mem_of_getElem? (i := 25) rfl))
    · show kHas _ kMw (k_ev (kSig L) (1, [])) (k_ev (kSig L) (1, [])) (k_ev (kSig L) (0, [(17, 1)]))
      rw [e, z 17]
      exact kHas_g (a := 1) (j := 1) (x := 0) (kG (q := (1, 1, 0)) (List.mem_of_getElem? (i := 26) rfl))
    · show kHas _ kMw (k_ev (kSig L) (444, [])) (k_ev (kSig L) (6, [])) (k_ev (kSig L) (0, [(17, 1)]))
      rw [e, e, z 17]
      exact kHas_g (a := 444) (j := 6) (x := 0) (kG (q := (444, 6, 0)) (List.mem_of_getElem? (i := 27) rfl))
    · show kHas _ kMw (k_ev (kSig L) (182, [])) (k_ev (kSig L) (1, [])) (k_ev (kSig L) (0, [(18, 1)]))
      rw [e, e, z 18]
      exact kHas_g (a := 182) (j := 1) (x := 0) (kG (q := (182, 1, 0)) (List.mem_of_getElem? (i := 28) rfl))
    · show kHas _ kMw (k_ev (kSig L) (477, [])) (k_ev (kSig L) (6, [])) (k_ev (kSig L) (0, [(18, 1)]))
      rw [e, e, z 18]
      exact kHas_g (a := 477) (j := 6) (x := 0) (kG (q := (477, 6, 0)) (List.mem_of_getElem? (i := 29) rfl))
    · show kHas _ kMw (k_ev (kSig L) (11, [])) (k_ev (kSig L) (0, [])) (k_ev (kSig L) (0, [(19, 1)]))
      rw [e, e, z 19]
      exact kHas_g (a := 11) (j := 0) (x := 0) (kG (q := (11, 0, 0)) (List.mem_of_getElem? (i := 30) rfl))
    · show kHas _ kMw (k_ev (kSig L) (444, [])) (k_ev (kSig L) (9, [])) (k_ev (kSig L) (0, [(19, 1)]))
      rw [e, e, z 19]
      exact kHas_g (a := 444) (j := 9) (x := 0) (kG (q := (444, 9, 0)) (List.mem_of_getElem? (i := 31) rfl))
    · show kHas _ kMw (k_ev (kSig L) (192, [])) (k_ev (kSig L) (0, [])) (k_ev (kSig L) (0, [(20, 1)]))
      rw [e, e, z 20]
      exact kHas_g (a := 192) (j := 0) (x := 0) (kG (q := (192, 0, 0)) (List.mem_of_getElem? (i := 32) rfl))
    · show kHas _ kMw (k_ev (kSig L) (477, [])) (k_ev (kSig L) (9, [])) (k_ev (kSig L) (0, [(20, 1)]))
      rw [e, e, z 20]
      exact kHas_g (a := 477) (j := 9) (x := 0) (kG (q := (477, 9, 0)) (List.mem_of_getElem? (i := 33) rfl))
    · show kHas _ kMw (k_ev (kSig L) ((-105), [])) (k_ev (kSig L) (4, [])) (k_ev (kSig L) (0, []))
      rw [e, e, e]
      exact ⟨fun h => absurd h (by decide), fun _ => kPhi_of (i := 9) (p := 6) rfl (by decide) (kRl0 (p := 6) rfl (List.all_eq_true.mp kRl1 6 (List.mem_of_getElem? (i := 0) rfl)))⟩
    · show kHas _ kMw (k_ev (kSig L) ((-121), [])) (k_ev (kSig L) (0, [(6, 4)])) (k_ev (kSig L) (0, []))
      rw [show k_ev (kSig L) (0, [(6, 4)]) = 0 by show (0 : Int) + (4 * kSig L 6 + 0) = 0; rw [show kSig L 6 = 0 from rfl]; rfl, e, e]
      exact ⟨fun h => absurd h (by decide), fun _ => kPhi_of (i := 9) (p := 7) rfl (by decide) (kRl0z (p := 7) rfl (by decide))⟩
    · show kHas _ kMw (k_ev (kSig L) ((-169), [])) (k_ev (kSig L) (10, [])) (k_ev (kSig L) (0, []))
      rw [e, e, e]
      exact ⟨fun h => absurd h (by decide), fun _ => kPhi_of (i := 9) (p := 10) rfl (by decide) (kRl0 (p := 10) rfl (List.all_eq_true.mp kRl1 10 (List.mem_of_getElem? (i := 1) rfl)))⟩
    · show kHas _ kMw (k_ev (kSig L) ((-185), [])) (k_ev (kSig L) (0, [(6, 10)])) (k_ev (kSig L) (0, []))
      rw [show k_ev (kSig L) (0, [(6, 10)]) = 0 by show (0 : Int) + (10 * kSig L 6 + 0) = 0; rw [show kSig L 6 = 0 from rfl]; rfl, e, e]
      exact ⟨fun h => absurd h (by decide), fun _ => kPhi_of (i := 9) (p := 11) rfl (by decide) (kRl0z (p := 11) rfl (by decide))⟩
    · show kHas _ kMw (k_ev (kSig L) ((-233), [])) (k_ev (kSig L) (16, [])) (k_ev (kSig L) (0, []))
      rw [e, e, e]
      exact ⟨fun h => absurd h (by decide), fun _ => kPhi_of (i := 9) (p := 14) rfl (by decide) (kRl0 (p := 14) rfl (List.all_eq_true.mp kRl1 14 (List.mem_of_getElem? (i := 2) rfl)))⟩
    · show kHas _ kMw (k_ev (kSig L) ((-249), [])) (k_ev (kSig L) (0, [(6, 16)])) (k_ev (kSig L) (0, []))
      rw [show k_ev (kSig L) (0, [(6, 16)]) = 0 by show (0 : Int) + (16 * kSig L 6 + 0) = 0; rw [show kSig L 6 = 0 from rfl]; rfl, e, e]
      exact ⟨fun h => absurd h (by decide), fun _ => kPhi_of (i := 9) (p := 15) rfl (by decide) (kRl0z (p := 15) rfl (by decide))⟩
    · show kHas _ kMw (k_ev (kSig L) ((-297), [])) (k_ev (kSig L) (16, [])) (k_ev (kSig L) (0, []))
      rw [e, e, e]
      exact ⟨fun h => absurd h (by decide), fun _ => kPhi_of (i := 9) (p := 18) rfl (by decide) (kRl0 (p := 18) rfl (List.all_eq_true.mp kRl1 18 (List.mem_of_getElem? (i := 3) rfl)))⟩
    · show kHas _ kMw (k_ev (kSig L) ((-313), [])) (k_ev (kSig L) (0, [(6, 16)])) (k_ev (kSig L) (0, []))
      rw [show k_ev (kSig L) (0, [(6, 16)]) = 0 by show (0 : Int) + (16 * kSig L 6 + 0) = 0; rw [show kSig L 6 = 0 from rfl]; rfl, e, e]
      exact ⟨fun h => absurd h (by decide), fun _ => kPhi_of (i := 9) (p := 19) rfl (by decide) (kRl0z (p := 19) rfl (by decide))⟩
    · show kHas _ kMw (k_ev (kSig L) ((-361), [])) (k_ev (kSig L) (16, [])) (k_ev (kSig L) (0, []))
      rw [e, e, e]
      exact ⟨fun h => absurd h (by decide), fun _ => kPhi_of (i := 9) (p := 22) rfl (by decide) (kRl0 (p := 22) rfl (List.all_eq_true.mp kRl1 22 (List.mem_of_getElem? (i := 4) rfl)))⟩
    · show kHas _ kMw (k_ev (kSig L) ((-377), [])) (k_ev (kSig L) (0, [(6, 16)])) (k_ev (kSig L) (0, []))
      rw [show k_ev (kSig L) (0, [(6, 16)]) = 0 by show (0 : Int) + (16 * kSig L 6 + 0) = 0; rw [show kSig L 6 = 0 from rfl]; rfl, e, e]
      exact ⟨fun h => absurd h (by decide), fun _ => kPhi_of (i := 9) (p := 23) rfl (by decide) (kRl0z (p := 23) rfl (by decide))⟩
    · show kHas _ kMw (k_ev (kSig L) ((-425), [])) (k_ev (kSig L) (4, [])) (k_ev (kSig L) (0, []))
      rw [e, e, e]
      exact ⟨fun h => absurd h (by decide), fun _ => kPhi_of (i := 9) (p := 26) rfl (by decide) (kRl0 (p := 26) rfl (List.all_eq_true.mp kRl1 26 (List.mem_of_getElem? (i := 5) rfl)))⟩
    · show kHas _ kMw (k_ev (kSig L) ((-441), [])) (k_ev (kSig L) (0, [(6, 4)])) (k_ev (kSig L) (0, []))
      rw [show k_ev (kSig L) (0, [(6, 4)]) = 0 by show (0 : Int) + (4 * kSig L 6 + 0) = 0; rw [show kSig L 6 = 0 from rfl]; rfl, e, e]
      exact ⟨fun h => absurd h (by decide), fun _ => kPhi_of (i := 9) (p := 27) rfl (by decide) (kRl0z (p := 27) rfl (by decide))⟩
    · show kHas _ kMw (k_ev (kSig L) ((-489), [])) (k_ev (kSig L) (4, [])) (k_ev (kSig L) (0, []))
      rw [e, e, e]
      exact ⟨fun h => absurd h (by decide), fun _ => kPhi_of (i := 9) (p := 30) rfl (by decide) (kRl0 (p := 30) rfl (List.all_eq_true.mp kRl1 30 (List.mem_of_getElem? (i := 6) rfl)))⟩
    · show kHas _ kMw (k_ev (kSig L) ((-505), [])) (k_ev (kSig L) (0, [(6, 4)])) (k_ev (kSig L) (0, []))
      rw [show k_ev (kSig L) (0, [(6, 4)]) = 0 by show (0 : Int) + (4 * kSig L 6 + 0) = 0; rw [show kSig L 6 = 0 from rfl]; rfl, e, e]
      exact ⟨fun h => absurd h (by decide), fun _ => kPhi_of (i := 9) (p := 31) rfl (by decide) (kRl0z (p := 31) rfl (by decide))⟩
theorem kLaw_F {L : Nat} {sl : List Value} {me : pmMe} (hme : pmPT[pmLaw]? = some me) : kRNs (kEo sl) k220_m.1.1.length (kSig L) k220_m.2.1 [(me, 18, kLs0, [])] := by
  have hlen : (kEo sl).length = kXs.length + 1 := rfl
  refine ⟨⟨hme, rfl, fun i q hq => ?_, trivial⟩, trivial⟩
  have hq : pm_lk [(0, ((2, (4000, [])) : kV)), (1, (2, (0, []))), (2, (2, (443, []))), (3, (0, (0, [(1, 1)])))] i = some q := hq
  have hm := pm_lk_mem hq
  simp only [List.mem_cons, List.not_mem_nil, or_false, Prod.mk.injEq] at hm
  rcases hm with ⟨rfl, rfl⟩ | ⟨rfl, rfl⟩ | ⟨rfl, rfl⟩ | ⟨rfl, rfl⟩
  · exact ⟨.ref 4000, rfl, kSc_c, 4000, rfl, (k_ev_c _ _).symm, by rw [hlen]; unfold pmX; omega⟩
  · exact ⟨.ref 0, rfl, kSc_c, 0, rfl, (k_ev_c _ _).symm, by rw [hlen]; unfold pmX; omega⟩
  · exact ⟨.ref 443, rfl, kSc_c, 443, rfl, (k_ev_c _ _).symm, by rw [hlen]; unfold pmX; omega⟩
  · exact ⟨.int 0, rfl, kSc_v (a := 1) (by decide), 0, rfl, (k_ev_v (kSig L) 1).symm⟩
theorem kD_X : kD.1 ≤ pmX := by decide
theorem kLaw_in : k220 ∈ kEnv.flatten := List.mem_flatten.mpr ⟨kEnv_48, List.mem_of_getElem? (i := 48) rfl, List.mem_of_getElem? (i := 6) rfl⟩
theorem pm_sz_same {mods : List kMd} {M M' : pM} (h : kSame mods M M') : pm_sz M' = pm_sz M := by
  unfold pm_sz
  have e : M'.map (fun c => c.2.length) = M.map (fun c => c.2.length) := by
    apply List.ext_getElem?
    intro i
    rw [List.getElem?_map, List.getElem?_map]
    cases hc : M[i]? with
    | none =>
      have : M'[i]? = none := by
        rw [List.getElem?_eq_none_iff] at hc ⊢
        rw [h.1]
        exact hc
      rw [this]
    | some c =>
      obtain ⟨c', e1, -, e3, -⟩ := h.2 i c hc
      rw [e1]
      simp [e3]
  rw [e]
theorem kStA {M : pM} {ls : pL} {r : List Value} {i : Fin 4} {pc a : Nat} (ha : a < pmX) : pm_stp [] 19 4 false (.astore_n i) 1 pc ls (.ref a :: r) M = some (pc + 1, pm_s1 ls i (.ref a), r, M) := by
  show cond (Nat.beq 1 1) (pm_sto1 (pm_isA []) 4 (pc + 1) ls i (.ref a :: r) M) none = _
  have h1 : pm_isA [] (.ref a) = true := by
    show Nat.blt a (pmX + 0) = true
    exact Nat.ble_eq_true_of_le ha
  have h2 : Nat.blt i 4 = true := Nat.ble_eq_true_of_le i.isLt
  rw [show Nat.beq 1 1 = true from rfl, cond_true]
  unfold pm_sto1
  simp only [h1, h2, Bool.and_self, cond_true]
  rfl
theorem kStI {M : pM} {ls : pL} {r : List Value} {i : Fin 4} {pc : Nat} {x : Int32} : pm_stp [] 19 4 false (.istore_n i) 1 pc ls (.int x :: r) M = some (pc + 1, pm_s1 ls i (.int x), r, M) := by
  show cond (Nat.beq 1 1) (pm_sto1 pm_isI 4 (pc + 1) ls i (.int x :: r) M) none = _
  have h2 : Nat.blt i 4 = true := Nat.ble_eq_true_of_le i.isLt
  rw [show Nat.beq 1 1 = true from rfl, cond_true]
  unfold pm_sto1
  simp only [h2, show pm_isI (.int x) = true from rfl, Bool.and_self, cond_true]
  rfl
theorem kStD {M : pM} {ls : pL} {r : List Value} {pc a : Nat} : pm_stp [] 19 4 false .dup 1 pc ls (.ref a :: r) M = some (pc + 1, ls, .ref a :: .ref a :: r, M) := rfl
theorem kStC {M : pM} {ls : pL} {st : List Value} {pc : Nat} : pm_stp [] 19 4 false (.iconst 0) 1 pc ls st M = some (pc + 1, ls, .int 0 :: st, M) := rfl
def kLs1 : pL := pm_s1 [(0, .ref 4000)] 1 (.ref 0)
def kLs2 : pL := pm_s1 kLs1 2 (.ref 443)
theorem kLs_eq : pm_s1 kLs2 3 (.int 0) = kLs0 := by decide
theorem kSt3 {M : pM} : pm_stp [] 19 4 false (.astore_n 1) 1 7 [(0, .ref 4000)] [.ref 0] M = some (8, kLs1, [], M) := kStA (i := 1) (by decide)
theorem kSt7 {M : pM} : pm_stp [] 19 4 false (.astore_n 2) 1 15 kLs1 [.ref 443] M = some (16, kLs2, [], M) := kStA (i := 2) (by decide)
theorem kSt9 {M : pM} : pm_stp [] 19 4 false (.istore_n 3) 1 17 kLs2 [.int 0] M = some (18, kLs0, [], M) := by
  rw [← kLs_eq]
  exact kStI (i := 3)
theorem kLaw_run {L : Nat} (hL : L ≤ 3584) {xs : Nat → Int32} {me : pmMe} (hme : pmPT[pmLaw]? = some me) : ∃ (f0 F0 : Nat) (M' : pM), (M'.length = 478 ∧ pm_sz M' ≤ 100000) ∧ pm_loop (kEo ((List.range L).map (fun j => Value.int (xs j)))) (pm_run (kEo ((List.range L).map (fun j => Value.int (xs j)))) F0 82) me f0 18 kLs0 [] kMw = some (some (.int 1), M') := by
  have hX : kExt kX (L, fun j => (xs j).toInt) (kEo ((List.range L).map (fun j => Value.int (xs j)))) := kExt_of
  have h := k_all kD_X hX kWf (fun ct hc => Or.inl (kEnv_ok ct hc)) 82 k220 kLaw_in (kSig L) kMw kMw [(me, 18, kLs0, [])] (kLaw_S hL) kMw_mem (kLaw_F hme) kSame.rf (by
    show k_ev (kSig L) (kc 82) ≤ _
    rw [k_ev_c]
    exact Int.le_refl _)
  obtain ⟨f0, F0, v, M', hp, hr⟩ := h
  have hp : kPost _ _ kD k220_p _ kMw v M' := hp
  obtain ⟨h1, h2, al, hal, τ, -, -, h5⟩ := hp
  have hal : al ∈ [((([(0, 3584)], [], [], []), 0, (1, [])) : kAl)] := hal
  rw [List.mem_singleton] at hal
  subst hal
  obtain ⟨w, rfl, x, rfl, hx⟩ := h5.2 (by decide)
  have hx : x.toInt = k_ev τ (kc 1) := hx
  rw [k_ev_c] at hx
  have hx : x = 1 := Int32.toInt_inj.mp (by rw [hx]; rfl)
  subst hx
  refine ⟨f0, F0, M', ⟨h2.1.trans kMw_len, ?_⟩, hr f0 F0 (Nat.le_refl _) (Nat.le_refl _)⟩
  have hs : pm_sz M' = pm_sz kMw := pm_sz_same h2
  rw [hs]
  exact kMw_sz
theorem kBy_law : pmBy 999999 = code := rfl
set_option maxHeartbeats 4000000 in
theorem whole_start {p : Program} {e : Env} {s : State} {m : MethodId} {below : List Frame} {meth : Method} {c : Code} (l : Launch) {b L : Nat} {xs : Nat → Int32} (hL : L ≤ 3584) (C0 : lw_At p s m meth c b L xs) : W p l e room_1 s m #[Value.ref b] below meth c s.heap [] 0 0 (lw_Z below #[Value.ref b] s) (entryFrame m ([Value.ref b] : List Value).toArray 4) := by
  obtain ⟨hx, hb, hr, hml, hown, hts, hX, hbl, hlocks, hgv⟩ := C0
  obtain ⟨xv, hE, hE0, hx0⟩ := kEX_of hL hts hX hbl hgv
  obtain ⟨D, cT, hK⟩ := kK_of hts
  obtain ⟨me, hme, hw⟩ := kLw
  obtain ⟨own, y, byi, nL, rt, kd, na, tb⟩ := me
  obtain ⟨e1, e2, e3, e4, e5, hi⟩ := hw
  have e1 : own = 19 := e1
  have e2 : byi = 999999 := e2
  have e3 : nL = 4 := e3
  have e4 : rt = some .boolean := e4
  have e5 : kd = 0 := e5
  subst e1
  subst e2
  subst e3
  subst e4
  subst e5
  have hi : ∀ q ∈ kLwI, pm_lc tb q.1 = some q.2 := hi
  obtain ⟨i0, hi⟩ := List.forall_mem_cons.mp hi
  obtain ⟨i1, hi⟩ := List.forall_mem_cons.mp hi
  obtain ⟨i2, hi⟩ := List.forall_mem_cons.mp hi
  obtain ⟨i3, hi⟩ := List.forall_mem_cons.mp hi
  obtain ⟨i4, hi⟩ := List.forall_mem_cons.mp hi
  obtain ⟨i5, hi⟩ := List.forall_mem_cons.mp hi
  obtain ⟨i6, hi⟩ := List.forall_mem_cons.mp hi
  obtain ⟨i7, hi⟩ := List.forall_mem_cons.mp hi
  obtain ⟨i8, hi⟩ := List.forall_mem_cons.mp hi
  obtain ⟨i9, -⟩ := List.forall_mem_cons.mp hi
  have CC : ∀ E : pM, pmEX s.heap.size xv E s → pmCx s.heap.size xv cT E D p room_1 s m #[Value.ref b] meth c (19, y, 999999, 4, some .boolean, 0, na, tb) 0 := fun E hE => ⟨hx, hb, hml, hown, fun w hw => hts w (List.mem_filter.mp hw).1, hK, hE, rfl, fun h => (by cases h), ⟨by decide, by decide⟩⟩
  have C1 := CC [] hE0
  have C2 := CC _ hE
  have step : ∀ {pc : Nat} {i : Instr} {n : Nat} {ls : pL} {st : List Value} {M : pM} {pc' : Nat} {ls' : pL} {st' : List Value} {M' : pM}, pm_lc tb pc = some (i, n) → pm_stp [] 19 4 false i n pc ls st M = some (pc', ls', st', M') → M'.length ≤ pmX → pm_sz M' ≤ 200000 → M.length ≤ pmX → pmWk p l e room_1 s m #[Value.ref b] below meth c (lw_Z below #[Value.ref b] s) s.heap.size xv cT D 0 0 4 (pc', ls', st', M') → pmWk p l e room_1 s m #[Value.ref b] below meth c (lw_Z below #[Value.ref b] s) s.heap.size xv cT D 0 0 4 (pc, ls, st, M) := fun h1 h2 h3 h4 h5 k => ws_step C1 rfl (pm_dec hme h1) h2 (Nat.zero_le _) (Nat.zero_le _) (Nat.le_trans (Nat.sub_le _ _) (Nat.le_trans h3 (by decide))) (Nat.le_trans (Nat.sub_le _ _) (Nat.le_trans h4 (by decide))) h5 k
  have lMa : kMa.length ≤ pmX := by decide
  have lMb : kMb.length ≤ pmX := by rw [kMb_len]; decide
  have lMc : kMc.length ≤ pmX := by rw [kMc_len]; decide
  have lMw : kMw.length ≤ pmX := by rw [kMw_len]; decide
  have zMb : pm_sz kMb ≤ 200000 := Nat.le_trans kMb_sz (by decide)
  have zMw : pm_sz kMw ≤ 200000 := Nat.le_trans kMw_sz (by decide)
  have hsim : ∀ (E : pM) (F d : Nat), pmEX s.heap.size xv E s → ∀ (y : Nat) (as : List Value) (M : pM) (v : Option Value) (M' : pM), pm_run E F d y as M = some (v, M') → y ≠ pmLaw → M'.length ≤ pmX → ∀ me', pmPT[y]? = some me' → pmMet l s.heap.size xv cT E D d me' as M v M' := fun E F d _ y as M v M' h1 h2 h3 me' h4 => pm_sim l d y as M v M' h1 h2 h3 me' h4
  have call : ∀ {pc idx yy : Nat} {ls : pL} {as r : List Value} {M M' : pM}, pm_lc tb pc = some (.invokespecial idx, 3) → pm_call [] 2 19 idx pc ls (as ++ r) M = some (.inr (yy, as, r)) → pm_run [] 3000 12 yy as M = some (none, M') → M'.length ≤ pmX → pm_sz M' ≤ 200000 → M.length ≤ M'.length → pm_sz M ≤ pm_sz M' → pmWk p l e room_1 s m #[Value.ref b] below meth c (lw_Z below #[Value.ref b] s) s.heap.size xv cT D 0 0 4 (pc + 3, ls, r, M') → pmWk p l e room_1 s m #[Value.ref b] below meth c (lw_Z below #[Value.ref b] s) s.heap.size xv cT D 0 0 4 (pc, ls, as ++ r, M) := fun h1 h2 h3 h4 h5 h6 h7 k => ws_call (d := 12) (v := none) C1 rfl 2 (pm_dec hme h1) h2 (fun hy me' h' => hsim [] 3000 12 hE0 _ _ _ _ _ h3 hy h4 me' h') (Nat.zero_le _) (Nat.zero_le _) h6 h7 (Nat.le_trans (Nat.sub_le _ _) (Nat.le_trans h4 (by decide))) (Nat.le_trans (Nat.sub_le _ _) (Nat.le_trans h5 (by decide))) (by decide) (by decide) k
  obtain ⟨f0, F0, M', ⟨hM1, hM2⟩, hrun⟩ := kLaw_run hL (xs := xs) hme
  have last : pmWk p l e room_1 s m #[Value.ref b] below meth c (lw_Z below #[Value.ref b] s) s.heap.size xv cT D 0 0 4 (18, kLs0, [], kMw) := by
    refine pm_walk (d := 82) (F := F0) (fun y as M v M' h1 h2 h3 me' h4 => hsim _ F0 82 hE y as M v M' h1 h2 h3 me' h4) C2 hme rfl (by decide) (by decide) (by rw [hM1]; decide) (by rw [hM1]; decide) (Nat.le_trans (Nat.sub_le _ _) (Nat.le_trans hM2 (by decide))) (fun pc ls st i hd hst => ?_) f0 18 kLs0 [] kMw hrun (Nat.zero_le _) (Nat.zero_le _)
    have hst : pm_end _ (some .boolean) i st = some (some (.int 1)) := hst
    cases i with
    | ireturn =>
      obtain ⟨rt, x, h1, h2, h3, h4⟩ := pm_retv hst
      cases h3
      subst h2
      intro H locs lsm hP hS hl
      refine va_forget (fun q hq => hS.2.2 q hq) ?_
      refine W.widen (k := 600000) (n := 7302250) (Nat.le_trans (Nat.sub_le _ _) (by show M'.length ≤ _; rw [hM1]; decide)) (Nat.le_trans (Nat.sub_le _ _) (Nat.le_trans hM2 (by decide))) ?_
      exact lw_ret hx hb hr hlocks (by rw [← kBy_law]; exact hd)
    | lreturn => cases hst
    | areturn => cases hst
    | return_ => cases hst
    | _ => cases hst
  have key : pmWk p l e room_1 s m #[Value.ref b] below meth c (lw_Z below #[Value.ref b] s) s.heap.size xv cT D 0 0 4 (0, [(0, .ref 4000)], [], []) := by
    refine step i0 kNw1 lMa kMa_sz (Nat.zero_le _) ?_
    refine step i1 kStD lMa kMa_sz lMa ?_
    refine call (as := [.ref 0]) (r := [.ref 0]) (M' := kMb) i2 kCl1 kRa lMb zMb (by rw [kMb_len]; decide) (pg_run _ _ _ _ _ _ kRa).2 ?_
    refine step i3 kSt3 lMb zMb lMb ?_
    refine step i4 kNw2 lMc kMc_sz lMb ?_
    refine step i5 kStD lMc kMc_sz lMc ?_
    refine call (as := [.ref 443]) (r := [.ref 443]) (M' := kMw) i6 kCl2 kRb lMw zMw (by rw [kMc_len, kMw_len]; decide) (pg_run _ _ _ _ _ _ kRb).2 ?_
    refine step i7 kSt7 lMw zMw lMw ?_
    refine step i8 kStC lMw zMw lMw ?_
    exact step i9 kSt9 lMw zMw lMw last
  rw [lg_entry_eq]
  have hl := lv_entry [Value.ref b] (n := 4) (by rw [pm_sl_len]; exact (show 1 + 0 ≤ 4 by decide))
  generalize (lg_sl [Value.ref b] ++ List.replicate (4 - (lg_sl [Value.ref b]).length) Slot.unset).toArray = lsm at hl ⊢
  refine key s.heap [] lsm ?_ va_S.rf ?_
  · exact fun k q hk => by simp [pmPic] at hk
  · have : ([(0, Value.ref 4000)] : pL).map (fun q => (q.1, pmRn s.heap.size xv q.2)) = lv_args 0 [Value.ref b] := by
      show [(0, xv 0)] = _
      rw [hx0]
      rfl
    show lv_has lsm 4 (List.map (fun q => (q.1, pmRn s.heap.size xv q.2)) [(0, Value.ref 4000)])
    rw [this]
    exact hl
