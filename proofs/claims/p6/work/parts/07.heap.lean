section PMH
variable {p : Program} {l : Launch} {e : Env} {R : Room} {s : State} {m : MethodId} {args : Array Value} {below : List Frame} {meth : Method} {c : Code} {Q : State → Prop}
variable {base : Nat} {xv : Nat → Value} {cT : Nat → ClassId} {E : pM} {D : va_G} {me : pmMe} {L0 S0 : Nat} {nL : Nat}
variable {pc : Nat} {ls : pL} {st : List Value} {M : pM} {z : Nat × pL × List Value × pM}
theorem W_st {H : Heap} {locs : List Loc} {cells slots pc : Nat} {lsm : Array Slot} {st1 st2 : List Value} (h : st1 = st2) (k : W p l e R s m args below meth c H locs cells slots Q (F0 m pc lsm st2)) : W p l e R s m args below meth c H locs cells slots Q (F0 m pc lsm st1) := by
  subst h
  exact k
theorem pm_own {a : Nat} {c : pC} (h : pm_cell E M a = some c) : (a < pmX ∧ M[a]? = some c) ∨ (pmX ≤ a ∧ E[a - pmX]? = some c) := by
  unfold pm_cell at h
  cases hb : Nat.ble pmX a with
  | true =>
    rw [hb] at h
    exact Or.inr ⟨Nat.le_of_ble_eq_true hb, h⟩
  | false =>
    rw [hb] at h
    refine Or.inl ⟨?_, h⟩
    have : ¬ pmX ≤ a := fun q => by rw [Nat.ble_eq_true_of_le q] at hb; cases hb
    omega
theorem pm_rn_own {a : Nat} (h : a < pmX) : pmRn base xv (.ref a) = .ref (base + a) := if_pos h
theorem pm_rn_ext {a b : Nat} (h : pmX ≤ a) (hx : xv (a - pmX) = .ref b) : pmRn base xv (.ref a) = .ref b := by
  show (if a < pmX then _ else _) = _
  rw [if_neg (by omega)]
  exact hx
theorem pm_getD {sl : List Value} {k : Nat} {v : Value} (h : sl[k]? = some v) : sl.getD k .null = v := by
  rw [List.getD_eq_getElem?_getD, h]
  rfl
theorem pm_beq {a b : Nat} (h : Nat.beq a b = true) : a = b := Nat.eq_of_beq_eq_true h
theorem ws_iald (C : pmCx base xv cT E D p R s m args meth c me L0) (hd : decode (pmBy me.2.2.1) pc = .ok (.iaload, 1)) (hs : pm_ald (fun t => Nat.beq t 0) pm_isI E pc ls st M = some z)
    (k : pmWk p l e R s m args below meth c Q base xv cT D L0 S0 nL z) : pmWk p l e R s m args below meth c Q base xv cT D L0 S0 nL (pc, ls, st, M) := by
  obtain ⟨hx, hb, hml, hown, hts, hK, hE, -⟩ := C
  unfold pm_ald at hs
  split at hs
  · rename_i j a r
    split at hs
    · rename_i c' hc
      obtain ⟨h1, hs⟩ := pm_cs hs
      simp only [Bool.and_eq_true] at h1
      obtain ⟨ht, hin⟩ := h1
      split at hs
      · rename_i v hv
        obtain ⟨hok, hs⟩ := pm_cs hs
        cases hs
        obtain ⟨tg, sl⟩ := c'
        have ht : tg = 0 := pm_beq ht
        subst ht
        intro H locs lsm hP hS hl
        rw [List.map_cons, List.map_cons]
        rcases pm_own hc with ⟨h1, h2⟩ | ⟨h1, h2⟩
        · rw [pm_rn_own h1]
          refine va_iald hx hb hK hP a 0 (pmPic_get h2) rfl (pm_in_vp hin) hd (W_st ?_ (k H locs lsm hP hS hl))
          show Value.int (pm_gi (sl.getD j.toNatClampNeg .null)) :: _ = pmRn base xv v :: _
          rw [pm_getD hv, pm_gi_rn hok]
        · obtain ⟨b, hb1, hb2⟩ := hE.1 _ _ h2
          rw [pm_rn_ext h1 hb1]
          exact va_ti hx hb hb2 hS (pm_in_vp hin) (by show pmRn base xv (sl.getD j.toNatClampNeg .null) = pmRn base xv v; rw [pm_getD hv]) hd (k H locs lsm hP hS hl)
      · cases hs
    · cases hs
  · cases hs
theorem ws_lald (C : pmCx base xv cT E D p R s m args meth c me L0) (hd : decode (pmBy me.2.2.1) pc = .ok (.laload, 1)) (hs : pm_ald (fun t => Nat.beq t 1) pm_isJ E pc ls st M = some z)
    (k : pmWk p l e R s m args below meth c Q base xv cT D L0 S0 nL z) : pmWk p l e R s m args below meth c Q base xv cT D L0 S0 nL (pc, ls, st, M) := by
  obtain ⟨hx, hb, hml, hown, hts, hK, hE, -⟩ := C
  unfold pm_ald at hs
  split at hs
  · rename_i j a r
    split at hs
    · rename_i c' hc
      obtain ⟨h1, hs⟩ := pm_cs hs
      simp only [Bool.and_eq_true] at h1
      obtain ⟨ht, hin⟩ := h1
      split at hs
      · rename_i v hv
        obtain ⟨hok, hs⟩ := pm_cs hs
        cases hs
        obtain ⟨tg, sl⟩ := c'
        have ht : tg = 1 := pm_beq ht
        subst ht
        intro H locs lsm hP hS hl
        rw [List.map_cons, List.map_cons]
        rcases pm_own hc with ⟨h1, h2⟩ | ⟨h1, h2⟩
        · rw [pm_rn_own h1]
          refine va_lald hx hb hK hP a 1 (pmPic_get h2) rfl (pm_in_vp hin) hd (W_st ?_ (k H locs lsm hP hS hl))
          show Value.long (pm_gl (sl.getD j.toNatClampNeg .null)) :: _ = pmRn base xv v :: _
          rw [pm_getD hv, pm_gl_rn hok]
        · obtain ⟨b, hb1, hb2⟩ := hE.1 _ _ h2
          rw [pm_rn_ext h1 hb1]
          exact va_tl hx hb hb2 hS (pm_in_vp hin) (by show pmRn base xv (sl.getD j.toNatClampNeg .null) = pmRn base xv v; rw [pm_getD hv]) hd (k H locs lsm hP hS hl)
      · cases hs
    · cases hs
  · cases hs
theorem ws_bald (C : pmCx base xv cT E D p R s m args meth c me L0) (hd : decode (pmBy me.2.2.1) pc = .ok (.baload, 1)) (hs : pm_ald (fun t => Nat.beq t 2 || Nat.beq t 3) pm_isI E pc ls st M = some z)
    (k : pmWk p l e R s m args below meth c Q base xv cT D L0 S0 nL z) : pmWk p l e R s m args below meth c Q base xv cT D L0 S0 nL (pc, ls, st, M) := by
  obtain ⟨hx, hb, hml, hown, hts, hK, hE, -⟩ := C
  unfold pm_ald at hs
  split at hs
  · rename_i j a r
    split at hs
    · rename_i c' hc
      obtain ⟨h1, hs⟩ := pm_cs hs
      simp only [Bool.and_eq_true, Bool.or_eq_true] at h1
      obtain ⟨ht, hin⟩ := h1
      split at hs
      · rename_i v hv
        obtain ⟨hok, hs⟩ := pm_cs hs
        cases hs
        obtain ⟨tg, sl⟩ := c'
        intro H locs lsm hP hS hl
        rw [List.map_cons, List.map_cons]
        rcases pm_own hc with ⟨h1, h2⟩ | ⟨h1, h2⟩
        · rw [pm_rn_own h1]
          rcases ht with ht | ht
          · have ht : tg = 2 := pm_beq ht
            subst ht
            refine va_bald hx hb hK hP a 2 (pmPic_get h2) rfl (pm_in_vp hin) hd (W_st ?_ (k H locs lsm hP hS hl))
            show Value.int (pm_gi (sl.getD j.toNatClampNeg .null)) :: _ = pmRn base xv v :: _
            rw [pm_getD hv, pm_gi_rn hok]
          · have ht : tg = 3 := pm_beq ht
            subst ht
            refine va_zald hx hb hK hP a 3 (pmPic_get h2) rfl (pm_in_vp hin) hd (W_st ?_ (k H locs lsm hP hS hl))
            show Value.int (pm_gi (sl.getD j.toNatClampNeg .null)) :: _ = pmRn base xv v :: _
            rw [pm_getD hv, pm_gi_rn hok]
        · obtain ⟨b, hb1, hb2⟩ := hE.1 _ _ h2
          rw [pm_rn_ext h1 hb1]
          rcases ht with ht | ht
          · have ht : tg = 2 := pm_beq ht
            subst ht
            exact va_tb hx hb hb2 hS (pm_in_vp hin) (by show pmRn base xv (sl.getD j.toNatClampNeg .null) = pmRn base xv v; rw [pm_getD hv]) hd (k H locs lsm hP hS hl)
          · have ht : tg = 3 := pm_beq ht
            subst ht
            exact hb2.elim
      · cases hs
    · cases hs
  · cases hs
theorem ws_aald (C : pmCx base xv cT E D p R s m args meth c me L0) (hd : decode (pmBy me.2.2.1) pc = .ok (.aaload, 1)) (hs : pm_ald (fun t => Nat.beq t 4 || Nat.beq t 5) pm_isO E pc ls st M = some z)
    (k : pmWk p l e R s m args below meth c Q base xv cT D L0 S0 nL z) : pmWk p l e R s m args below meth c Q base xv cT D L0 S0 nL (pc, ls, st, M) := by
  obtain ⟨hx, hb, hml, hown, hts, hK, hE, -⟩ := C
  unfold pm_ald at hs
  split at hs
  · rename_i j a r
    split at hs
    · rename_i c' hc
      obtain ⟨h1, hs⟩ := pm_cs hs
      simp only [Bool.and_eq_true, Bool.or_eq_true] at h1
      obtain ⟨ht, hin⟩ := h1
      split at hs
      · rename_i v hv
        obtain ⟨hok, hs⟩ := pm_cs hs
        cases hs
        obtain ⟨tg, sl⟩ := c'
        intro H locs lsm hP hS hl
        rw [List.map_cons, List.map_cons]
        have hvr : va_rf (pm_gr base (sl.getD j.toNatClampNeg .null)) = pmRn base xv v := by
          rw [pm_getD hv]
          cases v with
          | ref q =>
            have hq : q < pmX := pm_blt hok
            rw [pm_rn_own hq]
            rfl
          | _ => simp [pm_isO] at hok
        have hlt : j.toNatClampNeg < sl.length := pm_in_lt hin
        rcases pm_own hc with ⟨h1, h2⟩ | ⟨h1, h2⟩
        · rw [pm_rn_own h1]
          rcases ht with ht | ht
          · have ht : tg = 4 := pm_beq ht
            subst ht
            refine W.aald (v := pmRn base xv v) (ty := .array .int) hx hb (hP a _ (pmPic_get h2)) ((hK.2 4 _ rfl).1 sl.length (fun j => va_rf (pm_gr base (sl.getD j .null)))) rfl (fun q => by cases q) (by show ¬ (j < 0 ∨ (arrV _ _ _).slots.size ≤ _); rw [arrV_size]; exact pm_in_vp hin) (by show (arrV _ _ _).slots[_]? = _; rw [arrV_read _ _ hlt, hvr]) rfl rfl hd (k H locs lsm hP hS hl)
          · have ht : tg = 5 := pm_beq ht
            subst ht
            refine W.aald (v := pmRn base xv v) (ty := .array .long) hx hb (hP a _ (pmPic_get h2)) ((hK.2 5 _ rfl).1 sl.length (fun j => va_rf (pm_gr base (sl.getD j .null)))) rfl (fun q => by cases q) (by show ¬ (j < 0 ∨ (arrV _ _ _).slots.size ≤ _); rw [arrV_size]; exact pm_in_vp hin) (by show (arrV _ _ _).slots[_]? = _; rw [arrV_read _ _ hlt, hvr]) rfl rfl hd (k H locs lsm hP hS hl)
        · obtain ⟨b, hb1, hb2⟩ := hE.1 _ _ h2
          rcases ht with ht | ht
          · have ht : tg = 4 := pm_beq ht
            subst ht
            exact hb2.elim
          · have ht : tg = 5 := pm_beq ht
            subst ht
            exact hb2.elim
      · cases hs
    · cases hs
  · cases hs
theorem pm_lt {a : Nat} {c : pC} (h : M[a]? = some c) : a < M.length := (List.getElem?_eq_some_iff.mp h).1
theorem pm_rn_len {a : Nat} (h : a < pmX) : pmRn base xv (.ref a) = .ref (base + a) := pm_rn_own h
theorem pm_upd_gi {sl : List Value} {j : Nat} {v : Value} (hj : j < sl.length) : (fun i => pm_gi ((sl.set j v).getD i .null)) = upd (fun i => pm_gi (sl.getD i .null)) j (pm_gi v) := by
  funext i
  by_cases hi : i = j
  · subst hi
    simp [upd, List.getD_eq_getElem?_getD, hj]
  · simp [upd, List.getD_eq_getElem?_getD, hi, List.getElem?_set_ne (Ne.symm hi)]
theorem pm_upd_gl {sl : List Value} {j : Nat} {v : Value} (hj : j < sl.length) : (fun i => pm_gl ((sl.set j v).getD i .null)) = vp_updL (fun i => pm_gl (sl.getD i .null)) j (pm_gl v) := by
  funext i
  by_cases hi : i = j
  · subst hi
    simp [vp_updL, List.getD_eq_getElem?_getD, hj]
  · simp [vp_updL, List.getD_eq_getElem?_getD, hi, List.getElem?_set_ne (Ne.symm hi)]
/-- how large the heap is, out of what the walk has made so far -/
theorem W_size {H : Heap} {locs : List Loc} {slots : Nat} {g : JFrame} (hb : s.heap.size = base + L0) (hL : L0 ≤ M.length) (hP : pmHP D base xv cT M H) (hS : va_S (pmA base) s.heap H locs) (k : H.size = base + M.length → W p l e R s m args below meth c H locs (M.length - L0) slots Q g) : W p l e R s m args below meth c H locs (M.length - L0) slots Q g := by
  intro T hT X
  refine k ?_ T hT X
  have h1 := X.heapSize
  rw [hT, hb] at h1
  have h2 : base + M.length ≤ H.size := by
    cases hM : M.length with
    | zero =>
      have h3 := hS.1
      rw [hb] at h3
      omega
    | succ n =>
      have hn : n < M.length := by omega
      have := (hP n _ (pmPic_get (List.getElem?_eq_getElem hn))).lt
      have h4 : base + n < H.size := this
      omega
  omega
theorem pm_fI_s {t : Nat} {v w : Value} (h : pm_fI t v = some w) : t = 0 ∧ ∃ x : Int32, v = .int x ∧ w = .int x := by
  unfold pm_fI at h
  split at h
  · cases h
    exact ⟨rfl, _, rfl, rfl⟩
  · cases h
theorem pm_fJ_s {t : Nat} {v w : Value} (h : pm_fJ t v = some w) : t = 1 ∧ ∃ x : Int64, v = .long x ∧ w = .long x := by
  unfold pm_fJ at h
  split at h
  · cases h
    exact ⟨rfl, _, rfl, rfl⟩
  · cases h
theorem pm_fB_s {t : Nat} {v w : Value} (h : pm_fB t v = some w) : ∃ x : Int32, v = .int x ∧ ((t = 2 ∧ w = .int (vp_nar .byte x)) ∨ (t = 3 ∧ w = .int (vp_nar .boolean x))) := by
  unfold pm_fB at h
  split at h
  · cases h
    exact ⟨_, rfl, Or.inl ⟨rfl, rfl⟩⟩
  · cases h
    exact ⟨_, rfl, Or.inr ⟨rfl, rfl⟩⟩
  · cases h
theorem ws_iast (C : pmCx base xv cT E D p R s m args meth c me L0) (hd : decode (pmBy me.2.2.1) pc = .ok (.iastore, 1)) (hs : pm_ast pm_fI pc ls st M = some z)
    (k : pmWk p l e R s m args below meth c Q base xv cT D L0 S0 nL z) (hX : M.length ≤ pmX) : pmWk p l e R s m args below meth c Q base xv cT D L0 S0 nL (pc, ls, st, M) := by
  obtain ⟨hx, hb, hml, hown, hts, hK, hE, -⟩ := C
  unfold pm_ast at hs
  split at hs
  · rename_i v j a r
    split at hs
    · rename_i c' hc
      obtain ⟨hin, hs⟩ := pm_cs hs
      obtain ⟨tg, sl⟩ := c'
      have hlt := pm_in_lt hin
      split at hs
      · rename_i w hw
        cases hs
        obtain ⟨ht, x, rfl, rfl⟩ := pm_fI_s hw
        have ht : tg = 0 := ht
        subst ht
        intro H locs lsm hP hS hl
        rw [List.map_cons, List.map_cons, List.map_cons, pm_rn_own (Nat.lt_of_lt_of_le (pm_lt hc) hX)]
        refine va_iast hx hb hK hP pmPic_D hS a 0 (pmPic_get hc) rfl (pm_in_vp hin) hd (fun H1 locs1 hP1 hD1 hS1 => ?_)
        have hk := k H1 locs1 lsm (by
          show va_P D pmCl (pmPic base xv cT (M.set a (0, sl.set j.toNatClampNeg (.int x)))) H1
          rw [pmPic_set (pm_lt hc)]
          have e : pmE base xv cT (0, sl.set j.toNatClampNeg (.int x)) = .inl (cT 0, sl.length, .inl (upd (fun i => pm_gi (sl.getD i .null)) j.toNatClampNeg x)) := by
            show Sum.inl (cT 0, (sl.set _ _).length, Sum.inl (fun i => pm_gi ((sl.set j.toNatClampNeg (.int x)).getD i .null))) = _
            rw [pm_upd_gi hlt, List.length_set]
            rfl
          rw [e]
          exact hP1) hS1 hl
        refine W.cs ?_ ?_ hk
        · show _ = (pm_put M a _ _ _).length - L0
          unfold pm_put
          rw [List.length_set]
        · show _ = pm_sz (pm_put M a _ _ _) - S0
          unfold pm_put
          rw [pm_sz_set hc (by simp)]
      · cases hs
    · cases hs
  · cases hs
theorem ws_last (C : pmCx base xv cT E D p R s m args meth c me L0) (hd : decode (pmBy me.2.2.1) pc = .ok (.lastore, 1)) (hs : pm_ast pm_fJ pc ls st M = some z)
    (k : pmWk p l e R s m args below meth c Q base xv cT D L0 S0 nL z) (hX : M.length ≤ pmX) : pmWk p l e R s m args below meth c Q base xv cT D L0 S0 nL (pc, ls, st, M) := by
  obtain ⟨hx, hb, hml, hown, hts, hK, hE, -⟩ := C
  unfold pm_ast at hs
  split at hs
  · rename_i v j a r
    split at hs
    · rename_i c' hc
      obtain ⟨hin, hs⟩ := pm_cs hs
      obtain ⟨tg, sl⟩ := c'
      have hlt := pm_in_lt hin
      split at hs
      · rename_i w hw
        cases hs
        obtain ⟨ht, x, rfl, rfl⟩ := pm_fJ_s hw
        have ht : tg = 1 := ht
        subst ht
        intro H locs lsm hP hS hl
        rw [List.map_cons, List.map_cons, List.map_cons, pm_rn_own (Nat.lt_of_lt_of_le (pm_lt hc) hX)]
        refine va_last hx hb hK hP pmPic_D hS a 1 (pmPic_get hc) rfl (pm_in_vp hin) hd (fun H1 locs1 hP1 hD1 hS1 => ?_)
        have hk := k H1 locs1 lsm (by
          show va_P D pmCl (pmPic base xv cT (M.set a (1, sl.set j.toNatClampNeg (.long x)))) H1
          rw [pmPic_set (pm_lt hc)]
          have e : pmE base xv cT (1, sl.set j.toNatClampNeg (.long x)) = .inl (cT 1, sl.length, .inr (.inl (vp_updL (fun i => pm_gl (sl.getD i .null)) j.toNatClampNeg x))) := by
            show Sum.inl (cT 1, (sl.set _ _).length, Sum.inr (Sum.inl (fun i => pm_gl ((sl.set j.toNatClampNeg (.long x)).getD i .null)))) = _
            rw [pm_upd_gl hlt, List.length_set]
            rfl
          rw [e]
          exact hP1) hS1 hl
        refine W.cs ?_ ?_ hk
        · show _ = (pm_put M a _ _ _).length - L0
          unfold pm_put
          rw [List.length_set]
        · show _ = pm_sz (pm_put M a _ _ _) - S0
          unfold pm_put
          rw [pm_sz_set hc (by simp)]
      · cases hs
    · cases hs
  · cases hs
theorem ws_bast (C : pmCx base xv cT E D p R s m args meth c me L0) (hd : decode (pmBy me.2.2.1) pc = .ok (.bastore, 1)) (hs : pm_ast pm_fB pc ls st M = some z)
    (k : pmWk p l e R s m args below meth c Q base xv cT D L0 S0 nL z) (hX : M.length ≤ pmX) : pmWk p l e R s m args below meth c Q base xv cT D L0 S0 nL (pc, ls, st, M) := by
  obtain ⟨hx, hb, hml, hown, hts, hK, hE, -⟩ := C
  unfold pm_ast at hs
  split at hs
  · rename_i v j a r
    split at hs
    · rename_i c' hc
      obtain ⟨hin, hs⟩ := pm_cs hs
      obtain ⟨tg, sl⟩ := c'
      have hlt := pm_in_lt hin
      split at hs
      · rename_i w hw
        cases hs
        obtain ⟨x, rfl, ⟨ht, rfl⟩ | ⟨ht, rfl⟩⟩ := pm_fB_s hw
        · have ht : tg = 2 := ht
          subst ht
          intro H locs lsm hP hS hl
          rw [List.map_cons, List.map_cons, List.map_cons, pm_rn_own (Nat.lt_of_lt_of_le (pm_lt hc) hX)]
          refine va_bast hx hb hK hP pmPic_D hS a 2 (pmPic_get hc) rfl (pm_in_vp hin) hd (fun H1 locs1 hP1 hD1 hS1 => ?_)
          have hk := k H1 locs1 lsm (by
            show va_P D pmCl (pmPic base xv cT (M.set a (2, sl.set j.toNatClampNeg (.int (vp_nar .byte x))))) H1
            rw [pmPic_set (pm_lt hc)]
            have e : pmE base xv cT (2, sl.set j.toNatClampNeg (.int (vp_nar .byte x))) = .inl (cT 2, sl.length, .inl (upd (fun i => pm_gi (sl.getD i .null)) j.toNatClampNeg (vp_nar .byte x))) := by
              show Sum.inl (cT 2, (sl.set _ _).length, Sum.inl (fun i => pm_gi ((sl.set j.toNatClampNeg (.int (vp_nar .byte x))).getD i .null))) = _
              rw [pm_upd_gi hlt, List.length_set]
              rfl
            rw [e]
            exact hP1) hS1 hl
          refine W.cs ?_ ?_ hk
          · show _ = (pm_put M a _ _ _).length - L0
            unfold pm_put
            rw [List.length_set]
          · show _ = pm_sz (pm_put M a _ _ _) - S0
            unfold pm_put
            rw [pm_sz_set hc (by simp)]
        · have ht : tg = 3 := ht
          subst ht
          intro H locs lsm hP hS hl
          rw [List.map_cons, List.map_cons, List.map_cons, pm_rn_own (Nat.lt_of_lt_of_le (pm_lt hc) hX)]
          refine va_zast hx hb hK hP pmPic_D hS a 3 (pmPic_get hc) rfl (pm_in_vp hin) hd (fun H1 locs1 hP1 hD1 hS1 => ?_)
          have hk := k H1 locs1 lsm (by
            show va_P D pmCl (pmPic base xv cT (M.set a (3, sl.set j.toNatClampNeg (.int (vp_nar .boolean x))))) H1
            rw [pmPic_set (pm_lt hc)]
            have e : pmE base xv cT (3, sl.set j.toNatClampNeg (.int (vp_nar .boolean x))) = .inl (cT 3, sl.length, .inl (upd (fun i => pm_gi (sl.getD i .null)) j.toNatClampNeg (vp_nar .boolean x))) := by
              show Sum.inl (cT 3, (sl.set _ _).length, Sum.inl (fun i => pm_gi ((sl.set j.toNatClampNeg (.int (vp_nar .boolean x))).getD i .null))) = _
              rw [pm_upd_gi hlt, List.length_set]
              rfl
            rw [e]
            exact hP1) hS1 hl
          refine W.cs ?_ ?_ hk
          · show _ = (pm_put M a _ _ _).length - L0
            unfold pm_put
            rw [List.length_set]
          · show _ = pm_sz (pm_put M a _ _ _) - S0
            unfold pm_put
            rw [pm_sz_set hc (by simp)]
      · cases hs
    · cases hs
  · cases hs
theorem ws_alen (C : pmCx base xv cT E D p R s m args meth c me L0) (hd : decode (pmBy me.2.2.1) pc = .ok (.arraylength, 1))
    (hs : pm_alen E pc ls st M = some z)
    (k : pmWk p l e R s m args below meth c Q base xv cT D L0 S0 nL z) : pmWk p l e R s m args below meth c Q base xv cT D L0 S0 nL (pc, ls, st, M) := by
  obtain ⟨hx, hb, hml, hown, hts, hK, hE, -⟩ := C
  unfold pm_alen at hs
  split at hs
  · rename_i a r
    split at hs
    · rename_i c' hc
      obtain ⟨ht, hs⟩ := pm_cs hs
      cases hs
      obtain ⟨tg, sl⟩ := c'
      have ht : tg < 6 := pm_blt ht
      intro H locs lsm hP hS hl
      rw [List.map_cons]
      rcases pm_own hc with ⟨h1, h2⟩ | ⟨h1, h2⟩
      · rw [pm_rn_own h1]
        have key : ∀ (x : ClassId × vp_A) (t0 : Nat) (ty : FieldType), pmE base xv cT (tg, sl) = .inl x → x.2.1 = sl.length → (pmTys cT)[t0]? = some (x.1, ty) → W p l e R s m args below meth c H locs (M.length - L0) (pm_sz M - S0) Q (F0 m pc lsm (.ref (base + a) :: r.map (pmRn base xv))) := by
          intro x t0 ty he hn ht0
          refine va_alen hx hb hK hP a t0 (cA := x.1) (x := x.2) (ty := ty) ?_ ht0 (v := Int32.ofNat sl.length) (by rw [hn]) hd (k H locs lsm hP hS hl)
          rw [pmPic_get h2, he]
        match tg, ht, h2, key with
        | 0, _, _, key => exact key _ 0 _ rfl rfl rfl
        | 1, _, _, key => exact key _ 1 _ rfl rfl rfl
        | 2, _, _, key => exact key _ 2 _ rfl rfl rfl
        | 3, _, _, key => exact key _ 3 _ rfl rfl rfl
        | 4, _, _, key => exact key _ 4 _ rfl rfl rfl
        | 5, _, _, key => exact key _ 5 _ rfl rfl rfl
        | tg + 6, ht, _, _ => exact absurd ht (by omega)
      · obtain ⟨b, hb1, hb2⟩ := hE.1 _ _ h2
        rw [pm_rn_ext h1 hb1]
        match tg, ht, hb2 with
        | 0, _, hb2 => exact va_tlen hx hb hb2 hS rfl hd (k H locs lsm hP hS hl)
        | 1, _, hb2 => exact va_tlen hx hb hb2 hS rfl hd (k H locs lsm hP hS hl)
        | 2, _, hb2 => exact va_tlen hx hb hb2 hS rfl hd (k H locs lsm hP hS hl)
        | 3, _, hb2 => exact hb2.elim
        | 4, _, hb2 => exact hb2.elim
        | 5, _, hb2 => exact hb2.elim
        | tg + 6, ht, _ => exact absurd ht (by omega)
    · cases hs
  · cases hs
end PMH
