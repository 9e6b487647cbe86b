theorem pmAP_ok : (lw_tbl[pmAP.getD 0 0]? = some (.arrayClass .int) ∧ lw_tbl[pmAP.getD 1 0]? = some (.arrayClass .long)) ∧ (lw_tbl[pmAP.getD 2 0]? = some (.arrayClass .byte) ∧ lw_tbl[pmAP.getD 3 0]? = some (.arrayClass .boolean)) := by decide +kernel
theorem pmSP_ok : ((lw_tbl[pmSP.getD 0 0]? = some (.instanceMethod Lib.objectInit) ∧ lw_tbl[pmSP.getD 1 0]? = some (.code Lib.objectInit ⟨#[0xb1]⟩ 1 none)) ∧ (lw_tbl[pmSP.getD 2 0]? = some (.native arraycopyName) ∧ lw_tbl[pmSP.getD 3 0]? = some (.static arraycopyName))) ∧ lw_tbl[pmSP.getD 4 0]? = some (.initialized "java/lang/System") := by decide +kernel
theorem pmSP_good : goodWord (.instanceMethod Lib.objectInit) = true ∧ goodWord (.code Lib.objectInit ⟨#[0xb1]⟩ 1 none) = true ∧ goodWord (.native arraycopyName) = true ∧ goodWord (.static arraycopyName) = true ∧ goodWord (.initialized "java/lang/System") = true := by decide +kernel
theorem vr_outer (c : ClassId) (N h0 : Nat) : ∀ i : Nat, Jvm.Free.Multi.outerC c N h0 i = arrV c N (fun j => va_rf (if j < i then some (h0 + 1 + j) else none))
  | 0 => by
    show ({ cls := c, slots := Array.replicate N .null, vm := .none } : Cell) = _
    rw [arrV_new]
    refine congrArg (arrV c N) (funext fun j => ?_)
    simp [va_rf]
  | i + 1 => by
    show (Jvm.Free.Multi.outerC c N h0 i).setSlot i (.ref (h0 + 1 + i)) = _
    rw [vr_outer c N h0 i, arrV_store]
    refine congrArg (arrV c N) (funext fun j => ?_)
    by_cases e : j = i
    · subst e
      simp [updV, va_rf]
    · by_cases h : j < i
      · simp [updV, e, h, Nat.lt_succ_of_lt h]
      · simp [updV, e, h, show ¬ j < i + 1 by omega]
section PMA
variable {p : Program} {l : Launch} {e : Env} {R : Room} {s : State} {m : MethodId} {args : Array Value} {below : List Frame} {meth : Method} {c : Code} {Q : State → Prop}
variable {base : Nat} {xv : Nat → Value} {cT : Nat → ClassId} {E : pM} {D : va_G} {me : pmMe} {L0 S0 : Nat} {nL : Nat}
variable {pc : Nat} {ls : pL} {st : List Value} {M : pM} {z : Nat × pL × List Value × pM}
theorem pm_nn {n : Int32} (h : 0 ≤ n.toInt) : ¬ n < 0 := by
  rw [Int32.lt_iff_toInt_lt, Int32.toInt_zero]
  omega
theorem pm_clamp {n : Int32} {b : Nat} (h : n.toInt ≤ (b : Int)) : n.toNatClampNeg ≤ b := by
  show n.toInt.toNat ≤ b
  omega
theorem pm_rep {α : Type} {N j : Nat} {v : Value} (f : Value → α) (h : f v = f .null) : f ((List.replicate N v).getD j .null) = f .null := by
  rw [List.getD_eq_getElem?_getD, List.getElem?_replicate]
  split
  · exact h
  · rfl
theorem ws_newa (C : pmCx base xv cT E D p R s m args meth c me L0) {at0 : ArrayType} (hd : decode (pmBy me.2.2.1) pc = .ok (.newarray at0, 2)) (hs : pm_newa at0 pc ls st M = some z)
    (hL : L0 ≤ M.length) (hS0 : S0 ≤ pm_sz M) (hc1 : z.2.2.2.length - L0 ≤ R.cells) (hc2 : pm_sz z.2.2.2 - S0 ≤ R.slots)
    (k : pmWk p l e R s m args below meth c Q base xv cT D L0 S0 nL z) : pmWk p l e R s m args below meth c Q base xv cT D L0 S0 nL (pc, ls, st, M) := by
  obtain ⟨hx, hb, hml, hown, hts, hK, hE, hsz, -⟩ := C
  unfold pm_newa at hs
  split at hs
  · rename_i q n r hq
    obtain ⟨h1, hs⟩ := pm_cs hs
    simp only [Bool.and_eq_true, decide_eq_true_eq] at h1
    obtain ⟨⟨h1, h2⟩, h3⟩ := h1
    have hpx : M.length < pmX := pm_blt h3
    cases hs
    have hN : n.toNatClampNeg ≤ 100000 := pm_clamp h2
    have e1 := pm_len1 (L0 := L0) (M := M) (a := (q.1, List.replicate n.toNatClampNeg q.2)) hL
    have e2 := pm_sz1 (S0 := S0) (M := M) (a := (q.1, List.replicate n.toNatClampNeg q.2)) hS0
    rw [show (q.1, List.replicate n.toNatClampNeg q.2).2.length = n.toNatClampNeg by simp] at e2
    have hc1 : (M ++ [(q.1, List.replicate n.toNatClampNeg q.2)]).length - L0 ≤ R.cells := hc1
    have hc2 : pm_sz (M ++ [(q.1, List.replicate n.toNatClampNeg q.2)]) - S0 ≤ R.slots := hc2
    intro H locs lsm hP hS hl
    rw [List.map_cons]
    refine W_size (M := M) hsz hL hP hS (fun hsize => ?_)
    have fin : ∀ (H1 : Heap), H1.size = base + M.length + 1 → (∀ x, x < base + M.length → H1[x]? = H[x]?) → va_at D pmCl (base + M.length, pmE base xv cT (q.1, List.replicate n.toNatClampNeg q.2)) H1 → W p l e R s m args below meth c H1 locs (M.length - L0 + 1) (pm_sz M - S0 + n.toNatClampNeg) Q (F0 m (pc + 2) lsm (.ref (base + M.length) :: r.map (pmRn base xv))) := by
      intro H1 z1 o1 hat
      rw [← hsize] at o1 z1
      have hk := k H1 locs lsm (pm_hp_push hP hsize o1 hat) (pm_S_push hS (by omega) o1) hl
      refine W.cs e1.symm e2.symm (W_st ?_ hk)
      rw [List.map_cons, pm_rn_own hpx]
    have hA := pmAP_ok
    cases at0 <;> first | (cases hq; done) | skip
    all_goals cases hq
    · refine va_newaK hx hb (atype := .boolean) (hts _ (pm_wg hA.2.2 rfl)) rfl hd rfl (pm_nn h1) rfl (by show n.toNatClampNeg * 1 ≤ _; omega) (by show M.length - L0 + 1 ≤ R.cells; omega) (by show pm_sz M - S0 + n.toNatClampNeg ≤ R.slots; omega) hsize (fun H1 cA f1 z1 o1 hAr hNm => fin H1 z1 o1 ?_)
      have hc := Option.some.inj (hNm.symm.trans (hK.2 3 _ rfl).2)
      subst hc
      show H1[base + M.length]? = some (vp_cell (cT 3) ((List.replicate n.toNatClampNeg (Value.int 0)).length, (.inl (fun j => pm_gi ((List.replicate n.toNatClampNeg (Value.int 0)).getD j .null)))))
      rw [vp_cell_i, f1, List.length_replicate]
      refine congrArg (fun f => some (arrV (cT 3) n.toNatClampNeg f)) (funext fun j => ?_)
      exact (congrArg Value.int (pm_rep (v := .int 0) pm_gi rfl)).symm
    · refine va_newaK hx hb (atype := .byte) (hts _ (pm_wg hA.2.1 rfl)) rfl hd rfl (pm_nn h1) rfl (by show n.toNatClampNeg * 1 ≤ _; omega) (by show M.length - L0 + 1 ≤ R.cells; omega) (by show pm_sz M - S0 + n.toNatClampNeg ≤ R.slots; omega) hsize (fun H1 cA f1 z1 o1 hAr hNm => fin H1 z1 o1 ?_)
      have hc := Option.some.inj (hNm.symm.trans (hK.2 2 _ rfl).2)
      subst hc
      show H1[base + M.length]? = some (vp_cell (cT 2) ((List.replicate n.toNatClampNeg (Value.int 0)).length, (.inl (fun j => pm_gi ((List.replicate n.toNatClampNeg (Value.int 0)).getD j .null)))))
      rw [vp_cell_i, f1, List.length_replicate]
      refine congrArg (fun f => some (arrV (cT 2) n.toNatClampNeg f)) (funext fun j => ?_)
      exact (congrArg Value.int (pm_rep (v := .int 0) pm_gi rfl)).symm
    · refine va_newaK hx hb (atype := .int) (hts _ (pm_wg hA.1.1 rfl)) rfl hd rfl (pm_nn h1) rfl (by show n.toNatClampNeg * 4 ≤ _; omega) (by show M.length - L0 + 1 ≤ R.cells; omega) (by show pm_sz M - S0 + n.toNatClampNeg ≤ R.slots; omega) hsize (fun H1 cA f1 z1 o1 hAr hNm => fin H1 z1 o1 ?_)
      have hc := Option.some.inj (hNm.symm.trans (hK.2 0 _ rfl).2)
      subst hc
      show H1[base + M.length]? = some (vp_cell (cT 0) ((List.replicate n.toNatClampNeg (Value.int 0)).length, (.inl (fun j => pm_gi ((List.replicate n.toNatClampNeg (Value.int 0)).getD j .null)))))
      rw [vp_cell_i, f1, List.length_replicate]
      refine congrArg (fun f => some (arrV (cT 0) n.toNatClampNeg f)) (funext fun j => ?_)
      exact (congrArg Value.int (pm_rep (v := .int 0) pm_gi rfl)).symm
    · refine va_newaK hx hb (atype := .long) (hts _ (pm_wg hA.1.2 rfl)) rfl hd rfl (pm_nn h1) rfl (by show n.toNatClampNeg * 8 ≤ _; omega) (by show M.length - L0 + 1 ≤ R.cells; omega) (by show pm_sz M - S0 + n.toNatClampNeg ≤ R.slots; omega) hsize (fun H1 cA f1 z1 o1 hAr hNm => fin H1 z1 o1 ?_)
      have hc := Option.some.inj (hNm.symm.trans (hK.2 1 _ rfl).2)
      subst hc
      show H1[base + M.length]? = some (vp_cell (cT 1) ((List.replicate n.toNatClampNeg (Value.long 0)).length, (.inr (.inl (fun j => pm_gl ((List.replicate n.toNatClampNeg (Value.long 0)).getD j .null))))))
      rw [vp_cell_l, f1, List.length_replicate]
      refine congrArg (fun f => some (arrV (cT 1) n.toNatClampNeg f)) (funext fun j => ?_)
      exact (congrArg Value.long (pm_rep (v := .long 0) pm_gl rfl)).symm
  · cases hs
/-- rows of rows -/
theorem W_mna {H : Heap} {locs : List Loc} {cells slots : Nat} {lsm : Array Slot} {rest : List Value} {cc : ByteArray} (hexec : p.tables.exec = Jvm.exec) (hb : c.code = cc) {own : String} {index : Nat} {ty : FieldType} {cA cy : ClassId} (hown : s.vm.findClass own = some m.cls) (hclink : (Cond.classLink own index ("[" ++ (FieldType.array ty).toString)).before args s = true) (hover : (Cond.arrayOver (.array ty)).before args s = true) (harr : (Cond.arrayClass ty).before args s = true)
    (hcA : s.vm.findClass ("[" ++ (FieldType.array ty).toString) = some cA) (hcy : s.vm.findClass (FieldType.array ty).toString = some cy) {n k : Int32} (hn : ¬ n < 0) (hk : ¬ k < 0)
    (hb1 : n.toNatClampNeg * 4 ≤ 536870912) (hb2 : k.toNatClampNeg * componentBytes ty ≤ 536870912) (hb3 : k.toNatClampNeg ≤ 536870912) (hdf : fits ty (defaultValue ty) = true) (hdd : (defaultValue ty).isDefault = true) (hcells : cells + (1 + n.toNatClampNeg) ≤ R.cells) (hslots : slots + (n.toNatClampNeg + n.toNatClampNeg * k.toNatClampNeg) ≤ R.slots) (hdg : decode cc pc = .ok (.multianewarray index 2, 4))
    (kk : ∀ (H1 : Heap), H1.size = H.size + 1 + n.toNatClampNeg → (∀ x, x < H.size → H1[x]? = H[x]?) → H1[H.size]? = some (arrV cA n.toNatClampNeg (fun i => va_rf (if i < n.toNatClampNeg then some (H.size + 1 + i) else none))) → (∀ j, j < n.toNatClampNeg → H1[H.size + 1 + j]? = some (arrV cy k.toNatClampNeg (fun _ => defaultValue ty))) →
      W p l e R s m args below meth c H1 locs (cells + 1 + n.toNatClampNeg) (slots + n.toNatClampNeg + n.toNatClampNeg * k.toNatClampNeg) Q (F0 m (pc + 4) lsm (.ref H.size :: rest))) : W p l e R s m args below meth c H locs cells slots Q (F0 m pc lsm (.int k :: .int n :: rest)) := by
  intro T hT Xs
  obtain ⟨vm₁, cA', comp, -, fA, fC, hO, -, X', step⟩ := Xs.multianewarray2F hexec hown hclink hover harr (g := F0 m pc lsm (.int k :: .int n :: rest)) rfl (by rw [hb]; exact hdg) rfl hn hk hb1 hb2 hb3 hdf hdd hcells hslots
  have ec : some cy = some comp := hcy.symm.trans fC
  cases ec
  have ec : some cA = some cA' := hcA.symm.trans fA
  cases ec
  generalize hF : Jvm.Free.Multi.fill (T.setVm vm₁) cA cy n.toNatClampNeg k.toNatClampNeg (defaultValue ty) n.toNatClampNeg = F at X' step
  have hTh : (T.setVm vm₁).heap = H := hT
  obtain ⟨f1, f2, -, -⟩ := Jvm.Free.Multi.fill_facts (T.setVm vm₁) cA cy n.toNatClampNeg k.toNatClampNeg (defaultValue ty) n.toNatClampNeg
  rw [hF, hTh] at f1 f2
  have hold : ∀ x : Nat, x < H.size → F.heap[x]? = H[x]? := fun x hx => by
    have := Jvm.Free.Multi.fill_old (T.setVm vm₁) cA cy n.toNatClampNeg k.toNatClampNeg (defaultValue ty) (a := x) (by rw [hTh]; exact hx) n.toNatClampNeg
    rw [hF, hTh] at this
    exact this
  have hrow : ∀ j : Nat, j < n.toNatClampNeg → F.heap[H.size + 1 + j]? = some (arrV cy k.toNatClampNeg (fun _ => defaultValue ty)) := fun j hj => by
    have := Jvm.Free.Multi.fill_inner (T.setVm vm₁) cA cy n.toNatClampNeg k.toNatClampNeg (defaultValue ty) n.toNatClampNeg j hj
    rw [hF, hTh] at this
    rw [this, ← arrV_new]
    rfl
  have hout : Jvm.Free.Multi.outerC cA n.toNatClampNeg H.size n.toNatClampNeg = arrV cA n.toNatClampNeg (fun i => va_rf (if i < n.toNatClampNeg then some (H.size + 1 + i) else none)) := vr_outer cA n.toNatClampNeg H.size n.toNatClampNeg
  rw [hout] at f2
  obtain ⟨t, a1, b1⟩ := kk F.heap (by omega) hold f2 hrow F rfl X'
  refine ⟨t, step t ?_, b1⟩
  have e : T.heap.size = H.size := by rw [hT]
  rw [e]
  exact a1
theorem pm_hp_app {H H1 : Heap} {N : pM} (hP : pmHP D base xv cT M H) (ho : ∀ q, q < H.size → H1[q]? = H[q]?) (ha : ∀ (k : Nat) (c : pC), N[k]? = some c → va_at D pmCl (base + (k + M.length), pmE base xv cT c) H1) : pmHP D base xv cT (M ++ N) H1 := by
  unfold pmHP
  rw [pmPic_app]
  refine va_P.app (fun k q hk => (hP k q hk).kept (ho q.1 (hP k q hk).lt)) (fun k q hk => ?_)
  rw [List.getElem?_mapIdx] at hk
  cases hn : N[k]? with
  | none => rw [hn] at hk; cases hk
  | some c =>
    rw [hn] at hk
    cases hk
    exact ha k c hn
theorem pm_sz_cons (a : pC) (X : pM) : pm_sz (a :: X) = a.2.length + pm_sz X := by simp [pm_sz]
theorem pm_sz_rep (n k : Nat) (t : Nat) (v : Value) : pm_sz (List.replicate n (t, List.replicate k v)) = n * k := by
  induction n with
  | zero => simp [pm_sz]
  | succ n ih =>
    rw [List.replicate_succ, pm_sz_cons, ih, Nat.succ_mul]
    show (List.replicate k v).length + n * k = n * k + k
    rw [List.length_replicate, Nat.add_comm]
theorem ws_mna (C : pmCx base xv cT E D p R s m args meth c me L0) {idx : Nat} (hd : decode (pmBy me.2.2.1) pc = .ok (.multianewarray idx 2, 4)) (hs : pm_mna me.1 idx pc ls st M = some z)
    (hL : L0 ≤ M.length) (hS0 : S0 ≤ pm_sz M) (hc1 : z.2.2.2.length - L0 ≤ R.cells) (hc2 : pm_sz z.2.2.2 - S0 ≤ R.slots)
    (kk : pmWk p l e R s m args below meth c Q base xv cT D L0 S0 nL z) : pmWk p l e R s m args below meth c Q base xv cT D L0 S0 nL (pc, ls, st, M) := by
  obtain ⟨hx, hb, hml, hown, hts, hK, hE, hsz, -⟩ := C
  unfold pm_mna at hs
  split at hs
  · rename_i t k n r ht
    obtain ⟨h1, hs⟩ := pm_cs hs
    simp only [Bool.and_eq_true, Bool.or_eq_true, decide_eq_true_eq] at h1
    obtain ⟨⟨⟨⟨⟨h45, h1⟩, h2⟩, h3⟩, h4⟩, h5⟩ := h1
    have hpx : M.length + 2000 < pmX := pm_blt h5
    have hN : n.toNatClampNeg ≤ 1000 := pm_clamp h2
    have hKb : k.toNatClampNeg ≤ 1000 := pm_clamp h4
    have hNK : n.toNatClampNeg * k.toNatClampNeg ≤ 1000 * 1000 := Nat.mul_le_mul hN hKb
    have hok := pm_all rfl pmCT_ok ht
    obtain ⟨tg, ps⟩ := t
    have hA := pmAP_ok
    obtain ⟨-, -, -, -, -, ho1, ho2⟩ := hE
    intro H locs lsm hP hS hl
    refine W_size (M := M) hsz hL hP hS (fun hsize => ?_)
    have e1 : ∀ (v : Value), (M ++ ((tg, (List.range n.toNatClampNeg).map (fun i => Value.ref (M.length + 1 + i))) :: List.replicate n.toNatClampNeg (tg - 4, List.replicate k.toNatClampNeg v))).length - L0 = M.length - L0 + 1 + n.toNatClampNeg := by
      intro v
      rw [List.length_append, List.length_cons, List.length_replicate]
      omega
    have e2 : ∀ (v : Value), pm_sz (M ++ ((tg, (List.range n.toNatClampNeg).map (fun i => Value.ref (M.length + 1 + i))) :: List.replicate n.toNatClampNeg (tg - 4, List.replicate k.toNatClampNeg v))) - S0 = pm_sz M - S0 + n.toNatClampNeg + n.toNatClampNeg * k.toNatClampNeg := by
      intro v
      rw [pm_sz_app, pm_sz_cons, pm_sz_rep]
      simp only [List.length_map, List.length_range]
      omega
    have hout : ∀ (H1 : Heap) (cA : ClassId), H1[H.size]? = some (arrV cA n.toNatClampNeg (fun i => va_rf (if i < n.toNatClampNeg then some (H.size + 1 + i) else none))) → H1[base + M.length]? = some (vp_cell cA (((List.range n.toNatClampNeg).map (fun i => Value.ref (M.length + 1 + i))).length, .inr (.inr (.inr (.inr (fun j => pm_gr base (((List.range n.toNatClampNeg).map (fun i => Value.ref (M.length + 1 + i))).getD j .null))))))) := by
      intro H1 cA f
      rw [hsize] at f
      rw [vp_cell_q, List.length_map, List.length_range, f]
      refine congrArg (fun f => some (arrV cA n.toNatClampNeg f)) (funext fun j => congrArg va_rf ?_)
      rw [List.getD_eq_getElem?_getD, List.getElem?_map]
      by_cases hj : j < n.toNatClampNeg
      · rw [List.getElem?_range hj, if_pos hj]
        simp only [Option.map_some, Option.getD_some, pm_gr]
        exact congrArg some (by omega)
      · rw [List.getElem?_eq_none (by rw [List.length_range]; omega), if_neg hj]
        rfl
    rw [List.map_cons, List.map_cons]
    rcases h45 with h45 | h45
    · have h45 : tg = 4 := pm_beq h45
      subst h45
      cases hs
      simp only [Bool.and_eq_true, decide_eq_true_eq] at hok
      have q1 := e1 (.int 0)
      have q2 := e2 (.int 0)
      refine W_mna (ty := .int) (cA := cT 4) (cy := cT 0) hx hb hown (hts _ (pm_wg hok.1 hok.2)) ho1 (hts _ (pm_wg hA.1.1 rfl)) (hK.2 4 _ rfl).2 (hK.2 0 _ rfl).2 (pm_nn h1) (pm_nn h3) (by omega) (by show k.toNatClampNeg * 4 ≤ _; omega) (by omega) rfl rfl (by have h9 := Nat.le_trans (Nat.le_of_eq q1.symm) hc1; show M.length - L0 + (1 + n.toNatClampNeg) ≤ R.cells; omega) (by have h9 := Nat.le_trans (Nat.le_of_eq q2.symm) hc2; show pm_sz M - S0 + (n.toNatClampNeg + n.toNatClampNeg * k.toNatClampNeg) ≤ R.slots; omega) hd (fun H1 z1 o1 f1 f2 => ?_)
      have hk := kk H1 locs lsm (pm_hp_app hP o1 (fun j c0 hj => by
        cases j with
        | zero =>
          cases hj
          show H1[base + (0 + M.length)]? = _
          rw [Nat.zero_add]
          exact hout H1 (cT 4) f1
        | succ j =>
          have hj : (List.replicate n.toNatClampNeg (4 - 4, List.replicate k.toNatClampNeg (Value.int 0)))[j]? = some c0 := hj
          rw [List.getElem?_replicate] at hj
          split at hj
          · rename_i hjn
            cases hj
            show H1[base + (j + 1 + M.length)]? = some (vp_cell (cT 0) ((List.replicate k.toNatClampNeg (Value.int 0)).length, (.inl (fun j => pm_gi ((List.replicate k.toNatClampNeg (Value.int 0)).getD j .null)))))
            have := f2 j hjn
            rw [hsize] at this
            rw [show base + (j + 1 + M.length) = base + M.length + 1 + j by omega, vp_cell_i, this, List.length_replicate]
            refine congrArg (fun f => some (arrV (cT 0) k.toNatClampNeg f)) (funext fun i => ?_)
            exact (congrArg Value.int (pm_rep (v := .int 0) pm_gi rfl)).symm
          · cases hj)) (pm_S_push hS (by omega) o1) hl
      refine W.cs q1.symm q2.symm (W_st ?_ hk)
      rw [List.map_cons, pm_rn_own (by omega), hsize]
    · have h45 : tg = 5 := pm_beq h45
      subst h45
      cases hs
      simp only [Bool.and_eq_true, decide_eq_true_eq] at hok
      have q1 := e1 (.long 0)
      have q2 := e2 (.long 0)
      refine W_mna (ty := .long) (cA := cT 5) (cy := cT 1) hx hb hown (hts _ (pm_wg hok.1 hok.2)) ho2 (hts _ (pm_wg hA.1.2 rfl)) (hK.2 5 _ rfl).2 (hK.2 1 _ rfl).2 (pm_nn h1) (pm_nn h3) (by omega) (by show k.toNatClampNeg * 8 ≤ _; omega) (by omega) rfl rfl (by have h9 := Nat.le_trans (Nat.le_of_eq q1.symm) hc1; show M.length - L0 + (1 + n.toNatClampNeg) ≤ R.cells; omega) (by have h9 := Nat.le_trans (Nat.le_of_eq q2.symm) hc2; show pm_sz M - S0 + (n.toNatClampNeg + n.toNatClampNeg * k.toNatClampNeg) ≤ R.slots; omega) hd (fun H1 z1 o1 f1 f2 => ?_)
      have hk := kk H1 locs lsm (pm_hp_app hP o1 (fun j c0 hj => by
        cases j with
        | zero =>
          cases hj
          show H1[base + (0 + M.length)]? = _
          rw [Nat.zero_add]
          exact hout H1 (cT 5) f1
        | succ j =>
          have hj : (List.replicate n.toNatClampNeg (5 - 4, List.replicate k.toNatClampNeg (Value.long 0)))[j]? = some c0 := hj
          rw [List.getElem?_replicate] at hj
          split at hj
          · rename_i hjn
            cases hj
            show H1[base + (j + 1 + M.length)]? = some (vp_cell (cT 1) ((List.replicate k.toNatClampNeg (Value.long 0)).length, (.inr (.inl (fun j => pm_gl ((List.replicate k.toNatClampNeg (Value.long 0)).getD j .null))))))
            have := f2 j hjn
            rw [hsize] at this
            rw [show base + (j + 1 + M.length) = base + M.length + 1 + j by omega, vp_cell_l, this, List.length_replicate]
            refine congrArg (fun f => some (arrV (cT 1) k.toNatClampNeg f)) (funext fun i => ?_)
            exact (congrArg Value.long (pm_rep (v := .long 0) pm_gl rfl)).symm
          · cases hj)) (pm_S_push hS (by omega) o1) hl
      refine W.cs q1.symm q2.symm (W_st ?_ hk)
      rw [List.map_cons, pm_rn_own (by omega), hsize]
  · cases hs
theorem pm_cpy_gi {f g : List Value} {sp dp n : Nat} (h5 : dp + n ≤ g.length) : (fun j => pm_gi ((pm_cpyL f g sp dp n).getD j .null)) = va_cpy (fun j => pm_gi (f.getD j .null)) (fun j => pm_gi (g.getD j .null)) sp dp n := by
  funext j
  unfold pm_cpyL va_cpy
  rw [List.getD_eq_getElem?_getD, List.getElem?_map]
  by_cases hj : j < g.length
  · rw [List.getElem?_range hj]
    by_cases h : dp ≤ j ∧ j < dp + n
    · rw [if_pos h]
      have : (Nat.ble dp j && Nat.blt j (dp + n)) = true := by
        rw [Bool.and_eq_true]
        exact ⟨Nat.ble_eq_true_of_le h.1, Nat.ble_eq_true_of_le h.2⟩
      simp [this]
    · rw [if_neg h]
      have : (Nat.ble dp j && Nat.blt j (dp + n)) = false := by
        cases hb : (Nat.ble dp j && Nat.blt j (dp + n)) with
        | false => rfl
        | true =>
          rw [Bool.and_eq_true] at hb
          exact absurd ⟨Nat.le_of_ble_eq_true hb.1, pm_blt hb.2⟩ h
      simp [this]
  · rw [List.getElem?_eq_none (by rw [List.length_range]; omega), if_neg (by omega)]
    show _ = pm_gi (g.getD j .null)
    rw [List.getD_eq_getElem?_getD, List.getElem?_eq_none (by omega)]
    rfl
theorem pm_cpy_gl {f g : List Value} {sp dp n : Nat} (h5 : dp + n ≤ g.length) : (fun j => pm_gl ((pm_cpyL f g sp dp n).getD j .null)) = va_cpy (fun j => pm_gl (f.getD j .null)) (fun j => pm_gl (g.getD j .null)) sp dp n := by
  funext j
  unfold pm_cpyL va_cpy
  rw [List.getD_eq_getElem?_getD, List.getElem?_map]
  by_cases hj : j < g.length
  · rw [List.getElem?_range hj]
    by_cases h : dp ≤ j ∧ j < dp + n
    · rw [if_pos h]
      have : (Nat.ble dp j && Nat.blt j (dp + n)) = true := by
        rw [Bool.and_eq_true]
        exact ⟨Nat.ble_eq_true_of_le h.1, Nat.ble_eq_true_of_le h.2⟩
      simp [this]
    · rw [if_neg h]
      have : (Nat.ble dp j && Nat.blt j (dp + n)) = false := by
        cases hb : (Nat.ble dp j && Nat.blt j (dp + n)) with
        | false => rfl
        | true =>
          rw [Bool.and_eq_true] at hb
          exact absurd ⟨Nat.le_of_ble_eq_true hb.1, pm_blt hb.2⟩ h
      simp [this]
  · rw [List.getElem?_eq_none (by rw [List.length_range]; omega), if_neg (by omega)]
    show _ = pm_gl (g.getD j .null)
    rw [List.getD_eq_getElem?_getD, List.getElem?_eq_none (by omega)]
    rfl
theorem pm_cpyL_len (f g : List Value) (sp dp n : Nat) : (pm_cpyL f g sp dp n).length = g.length := by simp [pm_cpyL]
theorem ws_copy (C : pmCx base xv cT E D p R s m args meth c me L0) {idx : Nat} (hd : decode (pmBy me.2.2.1) pc = .ok (.invokestatic idx, 3)) {t : Nat × Nat × Nat} (ht : pm_tl pmMT me.1 idx = some t) (h9 : t.1 = 9001) (hnL : nL = me.2.2.2.1) (hs : pm_copy pc ls st M = some z) (hX : M.length ≤ pmX)
    (kk : pmWk p l e R s m args below meth c Q base xv cT D L0 S0 nL z) : pmWk p l e R s m args below meth c Q base xv cT D L0 S0 nL (pc, ls, st, M) := by
  obtain ⟨hx, hb, hml, hown, hts, hK, hE, hsz, -, hR1, hR2⟩ := C
  have hok := pm_all rfl pmMT_ok ht
  unfold pmMT1 at hok
  simp only [h9, show Nat.beq 9001 9000 = false from rfl, show Nat.beq 9001 9001 = true from rfl, cond_false, cond_true, Bool.and_eq_true, decide_eq_true_eq] at hok
  obtain ⟨⟨-, w3, w4⟩, w5⟩ := pmSP_ok
  obtain ⟨-, -, g3, g4, g5⟩ := pmSP_good
  unfold pm_copy at hs
  split at hs
  · rename_i n dp a sp b r
    split at hs
    · rename_i c0 d0 hc0 hd0
      obtain ⟨h1, hs⟩ := pm_cs hs
      simp only [Bool.and_eq_true, Bool.or_eq_true, decide_eq_true_eq] at h1
      obtain ⟨⟨⟨⟨⟨⟨⟨⟨hteq, htag⟩, h1⟩, h2⟩, h3⟩, h4⟩, h5⟩, h6⟩, h7⟩ := h1
      have h4 := Nat.le_of_ble_eq_true h4
      have h5 := Nat.le_of_ble_eq_true h5
      have h6 := Nat.le_of_ble_eq_true h6
      obtain ⟨tg, f⟩ := c0
      obtain ⟨tg', g⟩ := d0
      have hteq : tg = tg' := pm_beq hteq
      subst hteq
      cases hs
      intro H locs lsm hP hS hl
      rw [List.map_cons, List.map_cons, List.map_cons, List.map_cons, List.map_cons, pm_rn_own (Nat.lt_of_lt_of_le (pm_lt hc0) hX), pm_rn_own (Nat.lt_of_lt_of_le (pm_lt hd0) hX)]
      have hls : c.maxLocals = lsm.size := by rw [hml, hl.1, hnL]
      have hcat : ((r.map (pmRn base xv)).map fun v => v.category).sum + (nativeFrameWords "java/lang/System" "arraycopy" 5 + 11) ≤ R.locals := by
        rw [pm_cat_rn hE.2.1]
        have : nativeFrameWords "java/lang/System" "arraycopy" 5 ≤ 60 := by decide +kernel
        omega
      have lens : ∀ (W2 : List Value), W2.length = g.length → (M.set a (tg, W2)).length - L0 = M.length - L0 ∧ pm_sz (M.set a (tg, W2)) - S0 = pm_sz M - S0 := fun W2 hw => ⟨by rw [List.length_set], by rw [pm_sz_set hd0 hw]⟩
      have hl2 := lens _ (pm_cpyL_len f g sp.toNatClampNeg dp.toNatClampNeg n.toNatClampNeg)
      rcases htag with (htag | htag) | htag
      · have htag : tg = 0 := pm_beq htag
        subst htag
        refine va_copyi hx hb hls hown (hts _ (pm_wg hok.1 hok.2)) (hts _ (pm_wg w3 g3)) (hts _ (pm_wg w4 g4)) (hts _ (pm_wg w5 g5)) hK hP pmPic_D hS b a 0 0 (pmPic_get hc0) (pmPic_get hd0) rfl rfl rfl (pm_nn h1) (pm_nn h2) (pm_nn h3) h4 h5 (fun i _ => rfl) hR1 hcat hd (fun H1 locs1 hP1 hD1 hS1 => ?_)
        refine W.cs hl2.1.symm hl2.2.symm (kk H1 locs1 lsm ?_ hS1 hl)
        show va_P D pmCl (pmPic base xv cT (M.set a (0, _))) H1
        rw [pmPic_set (pm_lt hd0)]
        have e : pmE base xv cT (0, pm_cpyL f g sp.toNatClampNeg dp.toNatClampNeg n.toNatClampNeg) = .inl (cT 0, g.length, .inl (va_cpy (fun j => pm_gi (f.getD j .null)) (fun j => pm_gi (g.getD j .null)) sp.toNatClampNeg dp.toNatClampNeg n.toNatClampNeg)) := by
          show Sum.inl (cT 0, (pm_cpyL _ _ _ _ _).length, Sum.inl (fun j => pm_gi ((pm_cpyL f g sp.toNatClampNeg dp.toNatClampNeg n.toNatClampNeg).getD j .null))) = _
          rw [pm_cpy_gi h5, pm_cpyL_len]
        rw [e]
        exact hP1
      · have htag : tg = 1 := pm_beq htag
        subst htag
        refine va_copyl hx hb hls hown (hts _ (pm_wg hok.1 hok.2)) (hts _ (pm_wg w3 g3)) (hts _ (pm_wg w4 g4)) (hts _ (pm_wg w5 g5)) hK hP pmPic_D hS b a 1 1 (pmPic_get hc0) (pmPic_get hd0) rfl rfl rfl (pm_nn h1) (pm_nn h2) (pm_nn h3) h4 h5 (fun i _ => rfl) hR1 hcat hd (fun H1 locs1 hP1 hD1 hS1 => ?_)
        refine W.cs hl2.1.symm hl2.2.symm (kk H1 locs1 lsm ?_ hS1 hl)
        show va_P D pmCl (pmPic base xv cT (M.set a (1, _))) H1
        rw [pmPic_set (pm_lt hd0)]
        have e : pmE base xv cT (1, pm_cpyL f g sp.toNatClampNeg dp.toNatClampNeg n.toNatClampNeg) = .inl (cT 1, g.length, .inr (.inl (va_cpy (fun j => pm_gl (f.getD j .null)) (fun j => pm_gl (g.getD j .null)) sp.toNatClampNeg dp.toNatClampNeg n.toNatClampNeg))) := by
          show Sum.inl (cT 1, (pm_cpyL _ _ _ _ _).length, Sum.inr (Sum.inl (fun j => pm_gl ((pm_cpyL f g sp.toNatClampNeg dp.toNatClampNeg n.toNatClampNeg).getD j .null)))) = _
          rw [pm_cpy_gl h5, pm_cpyL_len]
        rw [e]
        exact hP1
      · have htag : tg = 3 := pm_beq htag
        subst htag
        have h7 : ∀ v ∈ f, v = .int 0 ∨ v = .int 1 := by
          intro v hv
          rcases h7 with h7 | h7
          · cases h7
          · have := List.all_eq_true.mp h7 v hv
            simpa using this
        refine va_copyi hx hb hls hown (hts _ (pm_wg hok.1 hok.2)) (hts _ (pm_wg w3 g3)) (hts _ (pm_wg w4 g4)) (hts _ (pm_wg w5 g5)) hK hP pmPic_D hS b a 3 3 (pmPic_get hc0) (pmPic_get hd0) rfl rfl rfl (pm_nn h1) (pm_nn h2) (pm_nn h3) h4 h5 (fun i hi => ?_) hR1 hcat hd (fun H1 locs1 hP1 hD1 hS1 => ?_)
        · have h4 : sp.toNatClampNeg + n.toNatClampNeg ≤ f.length := h4
          have hlt : sp.toNatClampNeg + i < f.length := by omega
          have hgt : f.getD (sp.toNatClampNeg + i) .null = f[sp.toNatClampNeg + i] := pm_getD (List.getElem?_eq_getElem hlt)
          show fits .boolean (.int (pm_gi (f.getD (sp.toNatClampNeg + i) .null))) = true
          rw [hgt]
          rcases h7 _ (List.getElem_mem hlt) with h | h
          · rw [h]
            decide
          · rw [h]
            decide
        · refine W.cs hl2.1.symm hl2.2.symm (kk H1 locs1 lsm ?_ hS1 hl)
          show va_P D pmCl (pmPic base xv cT (M.set a (3, _))) H1
          rw [pmPic_set (pm_lt hd0)]
          have e : pmE base xv cT (3, pm_cpyL f g sp.toNatClampNeg dp.toNatClampNeg n.toNatClampNeg) = .inl (cT 3, g.length, .inl (va_cpy (fun j => pm_gi (f.getD j .null)) (fun j => pm_gi (g.getD j .null)) sp.toNatClampNeg dp.toNatClampNeg n.toNatClampNeg)) := by
            show Sum.inl (cT 3, (pm_cpyL _ _ _ _ _).length, Sum.inl (fun j => pm_gi ((pm_cpyL f g sp.toNatClampNeg dp.toNatClampNeg n.toNatClampNeg).getD j .null))) = _
            rw [pm_cpy_gi h5, pm_cpyL_len]
          rw [e]
          exact hP1
    · cases hs
  · cases hs
end PMA
