section PMK
variable {p : Program} {l : Launch} {e : Env} {R : Room} {s : State} {m : MethodId} {args : Array Value} {below : List Frame} {meth : Method} {c : Code} {Q : State → Prop}
variable {base : Nat} {xv : Nat → Value} {cT : Nat → ClassId} {E : pM} {D : va_G} {me : pmMe} {L0 S0 : Nat} {nL : Nat}
variable {pc : Nat} {ls : pL} {st : List Value} {M : pM} {z : Nat × pL × List Value × pM}
theorem W_if0 {H : Heap} {locs : List Loc} {cells slots : Nat} {lsm : Array Slot} {rest : List Value} {cc : ByteArray} {cd : ClassFile.Cond} {off : Int} {tgt : Nat} {x : Int32} (hx : p.tables.exec = Jvm.exec) (hb : c.code = cc) (hd : decode cc pc = .ok (.ifCond cd off, 3)) (ht : (pc : Int) + off = (tgt : Int))
    (k : W p l e R s m args below meth c H locs cells slots Q (F0 m (cond (pm_c0 cd x) tgt (pc + 3)) lsm rest)) : W p l e R s m args below meth c H locs cells slots Q (F0 m pc lsm (.int x :: rest)) := by
  cases cd
  · refine lv_if_eq hx hb hd ht (fun h => ?_) (fun h => ?_) <;> simpa [pm_c0, h] using k
  · refine lv_if_ne hx hb hd ht (fun h => ?_) (fun h => ?_) <;> simpa [pm_c0, h] using k
  · refine lv_if_lt hx hb hd ht (fun h => ?_) (fun h => ?_) <;> simpa only [pm_c0, h, decide_true, decide_false, cond_true, cond_false] using k
  · refine lv_if_ge hx hb hd ht (fun h => ?_) (fun h => ?_) <;> simpa only [pm_c0, h, decide_true, decide_false, cond_true, cond_false] using k
  · refine lv_if_gt hx hb hd ht (fun h => ?_) (fun h => ?_) <;> simpa only [pm_c0, h, decide_true, decide_false, cond_true, cond_false] using k
  · refine lv_if_le hx hb hd ht (fun h => ?_) (fun h => ?_) <;> simpa only [pm_c0, h, decide_true, decide_false, cond_true, cond_false] using k
theorem W_if2 {H : Heap} {locs : List Loc} {cells slots : Nat} {lsm : Array Slot} {rest : List Value} {cc : ByteArray} {cd : ClassFile.Cond} {off : Int} {tgt : Nat} {x y : Int32} (hx : p.tables.exec = Jvm.exec) (hb : c.code = cc) (hd : decode cc pc = .ok (.if_icmp cd off, 3)) (ht : (pc : Int) + off = (tgt : Int))
    (k : W p l e R s m args below meth c H locs cells slots Q (F0 m (cond (pm_c2 cd x y) tgt (pc + 3)) lsm rest)) : W p l e R s m args below meth c H locs cells slots Q (F0 m pc lsm (.int y :: .int x :: rest)) := by
  cases cd
  · refine lv_icmp_eq hx hb hd ht (fun h => ?_) (fun h => ?_) <;> simpa only [pm_c2, h, decide_true, decide_false, cond_true, cond_false] using k
  · refine lv_icmp_ne hx hb hd ht (fun h => ?_) (fun h => ?_) <;> simpa only [pm_c2, h, decide_true, decide_false, Bool.not_true, Bool.not_false, cond_true, cond_false] using k
  · refine lv_icmp_lt hx hb hd ht (fun h => ?_) (fun h => ?_) <;> simpa only [pm_c2, h, decide_true, decide_false, cond_true, cond_false] using k
  · refine lv_icmp_ge hx hb hd ht (fun h => ?_) (fun h => ?_) <;> simpa only [pm_c2, h, decide_true, decide_false, cond_true, cond_false] using k
  · refine lv_icmp_gt hx hb hd ht (fun h => ?_) (fun h => ?_) <;> simpa only [pm_c2, h, decide_true, decide_false, cond_true, cond_false] using k
  · refine lv_icmp_le hx hb hd ht (fun h => ?_) (fun h => ?_) <;> simpa only [pm_c2, h, decide_true, decide_false, cond_true, cond_false] using k
/-- the two calls that are no calls of ours: Object's own beginning, and the copy of a stretch -/
def pm_ins (k : Nat) (idx : Nat) : Instr := match k with
  | 0 => .invokestatic idx
  | 1 => .invokevirtual idx
  | _ => .invokespecial idx
theorem ws_calln (C : pmCx base xv cT E D p R s m args meth c me L0) (hnL : nL = me.2.2.2.1) (kd : Nat) {idx : Nat} (hd : decode (pmBy me.2.2.1) pc = .ok (pm_ins kd idx, 3)) (hs : pm_call E kd me.1 idx pc ls st M = some (.inl z))
    (k : pmWk p l e R s m args below meth c Q base xv cT D L0 S0 nL z) (hX : M.length ≤ pmX) : pmWk p l e R s m args below meth c Q base xv cT D L0 S0 nL (pc, ls, st, M) := by
  unfold pm_call at hs
  split at hs
  · cases hs
  · rename_i t ht
    cases h9 : Nat.beq t.1 9000 with
    | true =>
      rw [h9] at hs
      simp only [cond_true] at hs
      split at hs
      · rename_i a r
        have h0 := pm_cs hs
        clear hs
        obtain ⟨h1, hs⟩ := h0
        simp only [Bool.and_eq_true] at h1
        obtain ⟨⟨h1, h2⟩, h3⟩ := h1
        have h3 := Nat.le_of_ble_eq_true h3
        have h2 : a < M.length := pm_blt h2
        obtain rfl := (pm_beq h1 : kd = 2)
        have hs : z = (pc + 3, ls, r, M) := (Sum.inl.inj (Option.some.inj hs)).symm
        subst hs
        obtain ⟨hx, hb, hml, hown, hts, hK, hE, hsz, -, hR1, hR2⟩ := C
        have hok := pm_all rfl pmMT_ok ht
        unfold pmMT1 at hok
        simp only [h9, cond_true, Bool.and_eq_true, decide_eq_true_eq] at hok
        obtain ⟨⟨⟨w1, w2⟩, -⟩, -⟩ := pmSP_ok
        obtain ⟨g1, g2, -⟩ := pmSP_good
        intro H locs lsm hP hS hl
        rw [List.map_cons, pm_rn_own (Nat.lt_of_lt_of_le h2 hX)]
        refine W.objInit hx hb hown (hts _ (pm_wg hok.1 hok.2)) (hts _ (pm_wg w1 g1)) (hts _ (pm_wg w2 g2)) rfl (by rw [hml]; show lsm.size = _; rw [hl.1, hnL]) rfl hd hR1 ?_ (k H locs lsm hP hS hl)
        rw [pm_cat_rn hE.2.1]
        show 2 * 0 + _ + 12 ≤ _
        omega
      · cases hs
    | false =>
      rw [h9] at hs
      simp only [cond_false] at hs
      cases h91 : Nat.beq t.1 9001 with
      | true =>
        rw [h91] at hs
        simp only [cond_true] at hs
        obtain ⟨h1, hs⟩ := pm_cs hs
        obtain rfl := (pm_beq h1 : kd = 0)
        split at hs
        · rename_i w hw
          cases hs
          exact ws_copy C hd ht (pm_beq h91) hnL hw hX k
        · cases hs
      | false =>
        rw [h91] at hs
        simp only [cond_false] at hs
        split at hs <;> cases hs
set_option maxHeartbeats 4000000 in
theorem ws_step (C : pmCx base xv cT E D p R s m args meth c me L0) (hnL : nL = me.2.2.2.1) {i : Instr} {n : Nat} (hd : decode (pmBy me.2.2.1) pc = .ok (i, n)) (hs : pm_stp E me.1 nL (Nat.beq me.2.2.2.2.2.1 2) i n pc ls st M = some z)
    (hL : L0 ≤ M.length) (hS0 : S0 ≤ pm_sz M) (hc1 : z.2.2.2.length - L0 ≤ R.cells) (hc2 : pm_sz z.2.2.2 - S0 ≤ R.slots) (hX : M.length ≤ pmX)
    (k : pmWk p l e R s m args below meth c Q base xv cT D L0 S0 nL z) : pmWk p l e R s m args below meth c Q base xv cT D L0 S0 nL (pc, ls, st, M) := by
  obtain ⟨hx, hb, -, -, -, -, hE, -⟩ := id C
  cases i with
  | iconst q =>
    have h0 := pm_cs hs
    clear hs
    obtain ⟨hn, hs⟩ := h0
    obtain rfl := (pm_beq hn : n = 1)
    cases hs
    exact fun H locs lsm a b c => lv_iconst hx hb hd rfl (k H locs lsm a b c)
  | bipush q =>
    have h0 := pm_cs hs
    clear hs
    obtain ⟨hn, hs⟩ := h0
    obtain rfl := (pm_beq hn : n = 2)
    cases hs
    exact fun H locs lsm a b c => lv_bipush hx hb hd rfl (k H locs lsm a b c)
  | sipush q =>
    have h0 := pm_cs hs
    clear hs
    obtain ⟨hn, hs⟩ := h0
    obtain rfl := (pm_beq hn : n = 3)
    cases hs
    exact fun H locs lsm a b c => lv_sipush hx hb hd rfl (k H locs lsm a b c)
  | lconst q =>
    have h0 := pm_cs hs
    clear hs
    obtain ⟨hn, hs⟩ := h0
    obtain rfl := (pm_beq hn : n = 1)
    cases hs
    exact fun H locs lsm a b c => lv_lconst hx hb hd rfl (k H locs lsm a b c)
  | ldc q =>
    have h0 := pm_cs hs
    clear hs
    obtain ⟨hn, hs⟩ := h0
    obtain rfl := (pm_beq hn : n = 2)
    exact ws_ldc C hd hs k
  | ldc_w q =>
    have h0 := pm_cs hs
    clear hs
    obtain ⟨hn, hs⟩ := h0
    obtain rfl := (pm_beq hn : n = 3)
    exact ws_ldcw C hd hs k
  | ldc2_w q =>
    have h0 := pm_cs hs
    clear hs
    obtain ⟨hn, hs⟩ := h0
    obtain rfl := (pm_beq hn : n = 3)
    exact ws_ldc2 C hd hs k
  | iload q =>
    have h0 := pm_cs hs
    clear hs
    obtain ⟨hn, hs⟩ := h0
    obtain rfl := (pm_beq hn : n = 2)
    exact ws_ld hs (fun h1 h2 h3 => by rw [pm_gi_rn h1] at h2 h3; exact lv_iload hx hb hd h2 h3) k
  | iload_n q =>
    have h0 := pm_cs hs
    clear hs
    obtain ⟨hn, hs⟩ := h0
    obtain rfl := (pm_beq hn : n = 1)
    exact ws_ld hs (fun h1 h2 h3 => by rw [pm_gi_rn h1] at h2 h3; exact lv_iload_n hx hb hd rfl h2 h3) k
  | lload q =>
    have h0 := pm_cs hs
    clear hs
    obtain ⟨hn, hs⟩ := h0
    obtain rfl := (pm_beq hn : n = 2)
    exact ws_ld hs (fun h1 h2 h3 => by rw [pm_gl_rn h1] at h2 h3; exact lv_lload hx hb hd h2 h3) k
  | lload_n q =>
    have h0 := pm_cs hs
    clear hs
    obtain ⟨hn, hs⟩ := h0
    obtain rfl := (pm_beq hn : n = 1)
    exact ws_ld hs (fun h1 h2 h3 => by rw [pm_gl_rn h1] at h2 h3; exact lv_lload_n hx hb hd rfl h2 h3) k
  | aload q =>
    have h0 := pm_cs hs
    clear hs
    obtain ⟨hn, hs⟩ := h0
    obtain rfl := (pm_beq hn : n = 2)
    exact ws_ld hs (fun h1 h2 h3 => by obtain ⟨b, hb1⟩ := pm_isA_rn hE h1; rw [hb1] at h2 h3; exact lv_aload hx hb hd h2 h3) k
  | aload_n q =>
    have h0 := pm_cs hs
    clear hs
    obtain ⟨hn, hs⟩ := h0
    obtain rfl := (pm_beq hn : n = 1)
    exact ws_ld hs (fun h1 h2 h3 => by obtain ⟨b, hb1⟩ := pm_isA_rn hE h1; rw [hb1] at h2 h3; exact lv_aload_n hx hb hd rfl h2 h3) k
  | istore q =>
    have h0 := pm_cs hs
    clear hs
    obtain ⟨hn, hs⟩ := h0
    obtain rfl := (pm_beq hn : n = 2)
    exact ws_st1 hE.2.1 hs (fun h1 h2 h3 h4 => by rw [pm_gi_rn h1] at h4 ⊢; exact lv_istore hx hb hd h3 h2 rfl h4) k
  | istore_n q =>
    have h0 := pm_cs hs
    clear hs
    obtain ⟨hn, hs⟩ := h0
    obtain rfl := (pm_beq hn : n = 1)
    exact ws_st1 hE.2.1 hs (fun h1 h2 h3 h4 => by rw [pm_gi_rn h1] at h4 ⊢; exact lv_istore_n hx hb hd rfl h3 h2 rfl h4) k
  | lstore q =>
    have h0 := pm_cs hs
    clear hs
    obtain ⟨hn, hs⟩ := h0
    obtain rfl := (pm_beq hn : n = 2)
    exact ws_st2 hE.2.1 hs (fun h2 h3 h4 => lv_lstore hx hb hd h3 h2 rfl h4) k
  | lstore_n q =>
    have h0 := pm_cs hs
    clear hs
    obtain ⟨hn, hs⟩ := h0
    obtain rfl := (pm_beq hn : n = 1)
    exact ws_st2 hE.2.1 hs (fun h2 h3 h4 => lv_lstore_n hx hb hd rfl h3 h2 rfl h4) k
  | astore q =>
    have h0 := pm_cs hs
    clear hs
    obtain ⟨hn, hs⟩ := h0
    obtain rfl := (pm_beq hn : n = 2)
    exact ws_st1 hE.2.1 hs (fun h1 h2 h3 h4 => by obtain ⟨b, hb1⟩ := pm_isA_rn hE h1; rw [hb1] at h4 ⊢; exact lv_astore hx hb hd h3 h2 rfl h4) k
  | astore_n q =>
    have h0 := pm_cs hs
    clear hs
    obtain ⟨hn, hs⟩ := h0
    obtain rfl := (pm_beq hn : n = 1)
    exact ws_st1 hE.2.1 hs (fun h1 h2 h3 h4 => by obtain ⟨b, hb1⟩ := pm_isA_rn hE h1; rw [hb1] at h4 ⊢; exact lv_astore_n hx hb hd rfl h3 h2 rfl h4) k
  | iinc j q =>
    have h0 := pm_cs hs
    clear hs
    obtain ⟨hn, hs⟩ := h0
    simp only [Bool.and_eq_true] at hn
    obtain rfl := (pm_beq hn.1 : n = 3)
    have hj : j < nL := pm_blt hn.2
    unfold pm_iinc at hs
    split at hs
    · rename_i x hx1
      cases hs
      refine fun H locs lsm a b c => ?_
      obtain ⟨w, hw⟩ := List.getElem?_of_mem (List.mem_map.mpr ⟨(j, Value.int x), pm_lk_mem hx1, rfl⟩ : (j, pmRn base xv (.int x)) ∈ ls.map (fun q => (q.1, pmRn base xv q.2)))
      refine lv_iinc hx hb hd c hw rfl hj rfl (fun ls' h => k H locs ls' a b ?_)
      show lv_has ls' nL ((pm_s1 ls j (.int (x + Int32.ofInt q))).map _)
      rw [pm_map_s1 hE.2.1]
      exact h
    · cases hs
  | pop =>
    have h0 := pm_cs hs
    clear hs
    obtain ⟨hn, hs⟩ := h0
    obtain rfl := (pm_beq hn : n = 1)
    unfold pm_pop at hs
    split at hs
    · rename_i v r
      obtain ⟨h1, hs⟩ := pm_cs hs
      cases hs
      exact fun H locs lsm a b c => lv_pop hx hb hd (by rw [pmRn_cat hE.2.1]; exact pm_beq h1) (k H locs lsm a b c)
    · cases hs
  | dup =>
    have h0 := pm_cs hs
    clear hs
    obtain ⟨hn, hs⟩ := h0
    obtain rfl := (pm_beq hn : n = 1)
    unfold pm_dup at hs
    split at hs
    · rename_i v r
      obtain ⟨h1, hs⟩ := pm_cs hs
      cases hs
      exact fun H locs lsm a b c => lv_dup hx hb hd (by rw [pmRn_cat hE.2.1]; exact pm_beq h1) (k H locs lsm a b c)
    · cases hs
  | dup_x1 =>
    have h0 := pm_cs hs
    clear hs
    obtain ⟨hn, hs⟩ := h0
    obtain rfl := (pm_beq hn : n = 1)
    unfold pm_dupx at hs
    split at hs
    · rename_i v w r
      obtain ⟨h1, hs⟩ := pm_cs hs
      simp only [Bool.and_eq_true] at h1
      cases hs
      exact fun H locs lsm a b c => lv_dup_x1 hx hb hd (by rw [pmRn_cat hE.2.1]; exact pm_beq h1.1) (by rw [pmRn_cat hE.2.1]; exact pm_beq h1.2) (k H locs lsm a b c)
    · cases hs
  | dup2 =>
    have h0 := pm_cs hs
    clear hs
    obtain ⟨hn, hs⟩ := h0
    obtain rfl := (pm_beq hn : n = 1)
    unfold pm_dup2 at hs
    split at hs
    · rename_i v r
      cases h2 : Nat.beq v.category 2 with
      | true =>
        rw [h2] at hs
        cases hs
        exact fun H locs lsm a b c => lv_dup2_2 hx hb hd (by rw [pmRn_cat hE.2.1]; exact pm_beq h2) (k H locs lsm a b c)
      | false =>
        rw [h2] at hs
        simp only [cond_false] at hs
        split at hs
        · rename_i w r
          obtain ⟨h1, hs⟩ := pm_cs hs
          simp only [Bool.and_eq_true] at h1
          cases hs
          exact fun H locs lsm a b c => lv_dup2_11 hx hb hd (by rw [pmRn_cat hE.2.1]; exact pm_beq h1.1) (by rw [pmRn_cat hE.2.1]; exact pm_beq h1.2) (k H locs lsm a b c)
        · cases hs
    · cases hs
  | iadd =>
    have h0 := pm_cs hs
    clear hs
    obtain ⟨hn, hs⟩ := h0
    obtain rfl := (pm_beq hn : n = 1)
    exact ws_i2 hs (fun k => lv_iadd hx hb hd k) k
  | isub =>
    have h0 := pm_cs hs
    clear hs
    obtain ⟨hn, hs⟩ := h0
    obtain rfl := (pm_beq hn : n = 1)
    exact ws_i2 hs (fun k => lv_isub hx hb hd k) k
  | imul =>
    have h0 := pm_cs hs
    clear hs
    obtain ⟨hn, hs⟩ := h0
    obtain rfl := (pm_beq hn : n = 1)
    exact ws_i2 hs (fun k => lv_imul hx hb hd k) k
  | iand =>
    have h0 := pm_cs hs
    clear hs
    obtain ⟨hn, hs⟩ := h0
    obtain rfl := (pm_beq hn : n = 1)
    exact ws_i2 hs (fun k => lv_iand hx hb hd k) k
  | ior =>
    have h0 := pm_cs hs
    clear hs
    obtain ⟨hn, hs⟩ := h0
    obtain rfl := (pm_beq hn : n = 1)
    exact ws_i2 hs (fun k => lv_ior hx hb hd k) k
  | ixor =>
    have h0 := pm_cs hs
    clear hs
    obtain ⟨hn, hs⟩ := h0
    obtain rfl := (pm_beq hn : n = 1)
    exact ws_i2 hs (fun k => lv_ixor hx hb hd k) k
  | ishl =>
    have h0 := pm_cs hs
    clear hs
    obtain ⟨hn, hs⟩ := h0
    obtain rfl := (pm_beq hn : n = 1)
    exact ws_i2 hs (fun k => lv_ishl hx hb hd k) k
  | ishr =>
    have h0 := pm_cs hs
    clear hs
    obtain ⟨hn, hs⟩ := h0
    obtain rfl := (pm_beq hn : n = 1)
    exact ws_i2 hs (fun k => lv_ishr hx hb hd k) k
  | iushr =>
    have h0 := pm_cs hs
    clear hs
    obtain ⟨hn, hs⟩ := h0
    obtain rfl := (pm_beq hn : n = 1)
    exact ws_i2 hs (fun k => lv_iushr hx hb hd rfl k) k
  | idiv =>
    have h0 := pm_cs hs
    clear hs
    obtain ⟨hn, hs⟩ := h0
    obtain rfl := (pm_beq hn : n = 1)
    unfold pm_idiv at hs
    split at hs
    · rename_i y x r
      cases hy : decide (y = 0) with
      | true =>
        rw [hy] at hs
        cases hs
      | false =>
        rw [hy] at hs
        cases hs
        exact fun H locs lsm a b c => lv_idiv hx hb hd (of_decide_eq_false hy) (k H locs lsm a b c)
    · cases hs
  | irem =>
    have h0 := pm_cs hs
    clear hs
    obtain ⟨hn, hs⟩ := h0
    obtain rfl := (pm_beq hn : n = 1)
    unfold pm_irem at hs
    split at hs
    · rename_i y x r
      cases hy : decide (y = 0) with
      | true =>
        rw [hy] at hs
        cases hs
      | false =>
        rw [hy] at hs
        cases hs
        exact fun H locs lsm a b c => lv_irem hx hb hd (of_decide_eq_false hy) (k H locs lsm a b c)
    · cases hs
  | ineg =>
    have h0 := pm_cs hs
    clear hs
    obtain ⟨hn, hs⟩ := h0
    obtain rfl := (pm_beq hn : n = 1)
    exact ws_i1 hs (fun k => lv_ineg hx hb hd k) k
  | i2b =>
    have h0 := pm_cs hs
    clear hs
    obtain ⟨hn, hs⟩ := h0
    obtain rfl := (pm_beq hn : n = 1)
    exact ws_i1 hs (fun k => lv_i2b hx hb hd rfl k) k
  | i2s =>
    have h0 := pm_cs hs
    clear hs
    obtain ⟨hn, hs⟩ := h0
    obtain rfl := (pm_beq hn : n = 1)
    exact ws_i1 hs (fun k => lv_i2s hx hb hd rfl k) k
  | i2c =>
    have h0 := pm_cs hs
    clear hs
    obtain ⟨hn, hs⟩ := h0
    obtain rfl := (pm_beq hn : n = 1)
    exact ws_i1 hs (fun k => lv_i2c hx hb hd rfl k) k
  | ladd =>
    have h0 := pm_cs hs
    clear hs
    obtain ⟨hn, hs⟩ := h0
    obtain rfl := (pm_beq hn : n = 1)
    exact ws_l2 hs (fun k => lv_ladd hx hb hd k) k
  | lsub =>
    have h0 := pm_cs hs
    clear hs
    obtain ⟨hn, hs⟩ := h0
    obtain rfl := (pm_beq hn : n = 1)
    exact ws_l2 hs (fun k => lv_lsub hx hb hd k) k
  | lmul =>
    have h0 := pm_cs hs
    clear hs
    obtain ⟨hn, hs⟩ := h0
    obtain rfl := (pm_beq hn : n = 1)
    exact ws_l2 hs (fun k => lv_lmul hx hb hd k) k
  | land =>
    have h0 := pm_cs hs
    clear hs
    obtain ⟨hn, hs⟩ := h0
    obtain rfl := (pm_beq hn : n = 1)
    exact ws_l2 hs (fun k => lv_land hx hb hd k) k
  | lor =>
    have h0 := pm_cs hs
    clear hs
    obtain ⟨hn, hs⟩ := h0
    obtain rfl := (pm_beq hn : n = 1)
    exact ws_l2 hs (fun k => lv_lor hx hb hd k) k
  | lxor =>
    have h0 := pm_cs hs
    clear hs
    obtain ⟨hn, hs⟩ := h0
    obtain rfl := (pm_beq hn : n = 1)
    exact ws_l2 hs (fun k => lv_lxor hx hb hd k) k
  | lshl =>
    have h0 := pm_cs hs
    clear hs
    obtain ⟨hn, hs⟩ := h0
    obtain rfl := (pm_beq hn : n = 1)
    exact ws_li hs (fun k => lv_lshl hx hb hd rfl k) k
  | lushr =>
    have h0 := pm_cs hs
    clear hs
    obtain ⟨hn, hs⟩ := h0
    obtain rfl := (pm_beq hn : n = 1)
    exact ws_li hs (fun k => lv_lushr hx hb hd rfl k) k
  | lneg =>
    have h0 := pm_cs hs
    clear hs
    obtain ⟨hn, hs⟩ := h0
    obtain rfl := (pm_beq hn : n = 1)
    unfold pm_lneg at hs
    split at hs
    · cases hs
      exact fun H locs lsm a b c => lv_lneg hx hb hd (k H locs lsm a b c)
    · cases hs
  | lcmp =>
    have h0 := pm_cs hs
    clear hs
    obtain ⟨hn, hs⟩ := h0
    obtain rfl := (pm_beq hn : n = 1)
    unfold pm_lcmp at hs
    split at hs
    · cases hs
      exact fun H locs lsm a b c => W.lcmp hx hb hd (k H locs lsm a b c)
    · cases hs
  | i2l =>
    have h0 := pm_cs hs
    clear hs
    obtain ⟨hn, hs⟩ := h0
    obtain rfl := (pm_beq hn : n = 1)
    unfold pm_i2l at hs
    split at hs
    · cases hs
      exact fun H locs lsm a b c => lv_i2l hx hb hd rfl (k H locs lsm a b c)
    · cases hs
  | l2i =>
    have h0 := pm_cs hs
    clear hs
    obtain ⟨hn, hs⟩ := h0
    obtain rfl := (pm_beq hn : n = 1)
    unfold pm_l2i at hs
    split at hs
    · cases hs
      exact fun H locs lsm a b c => lv_l2i hx hb hd rfl (k H locs lsm a b c)
    · cases hs
  | goto off =>
    have h0 := pm_cs hs
    clear hs
    obtain ⟨hn, hs⟩ := h0
    obtain rfl := (pm_beq hn : n = 3)
    obtain ⟨tgt, ht, rfl⟩ := ws_j hs
    exact fun H locs lsm a b c => lv_goto hx hb hd ht (k H locs lsm a b c)
  | ifCond cd off =>
    have h0 := pm_cs hs
    clear hs
    obtain ⟨hn, hs⟩ := h0
    simp only [Bool.and_eq_true, decide_eq_true_eq] at hn
    obtain rfl := (pm_beq hn.1 : n = 3)
    unfold pm_if0 at hs
    split at hs
    · rename_i x r
      have hz : z = (cond (pm_c0 cd x) ((pc : Int) + off).toNat (pc + 3), ls, r, M) := by
        cases hcd : pm_c0 cd x <;> rw [hcd] at hs <;> cases hs <;> rfl
      subst hz
      exact fun H locs lsm a b c => W_if0 hx hb hd (Int.toNat_of_nonneg hn.2).symm (k H locs lsm a b c)
    · cases hs
  | if_icmp cd off =>
    have h0 := pm_cs hs
    clear hs
    obtain ⟨hn, hs⟩ := h0
    simp only [Bool.and_eq_true, decide_eq_true_eq] at hn
    obtain rfl := (pm_beq hn.1 : n = 3)
    unfold pm_if2 at hs
    split at hs
    · rename_i y x r
      have hz : z = (cond (pm_c2 cd x y) ((pc : Int) + off).toNat (pc + 3), ls, r, M) := by
        cases hcd : pm_c2 cd x y <;> rw [hcd] at hs <;> cases hs <;> rfl
      subst hz
      exact fun H locs lsm a b c => W_if2 hx hb hd (Int.toNat_of_nonneg hn.2).symm (k H locs lsm a b c)
    · cases hs
  | tableswitch dd lo hi offs =>
    replace hs : pm_sw pc dd lo hi offs ls st M = some z := hs
    unfold pm_sw at hs
    split at hs
    · rename_i x r
      cases hc : (decide (x.toInt < lo) || decide (hi < x.toInt)) with
      | true =>
        rw [hc] at hs
        obtain ⟨tgt, ht, rfl⟩ := ws_j hs
        simp only [Bool.or_eq_true, decide_eq_true_eq] at hc
        exact fun H locs lsm a b c => lv_tableOut hx hb hd hc ht (k H locs lsm a b c)
      | false =>
        rw [hc] at hs
        simp only [Bool.or_eq_false_iff, decide_eq_false_iff_not] at hc
        simp only [cond_false] at hs
        split at hs
        · rename_i off ho
          obtain ⟨tgt, ht, rfl⟩ := ws_j hs
          exact fun H locs lsm a b c => lv_tableIn hx hb hd hc.1 hc.2 ho ht (k H locs lsm a b c)
        · cases hs
    · cases hs
  | iaload =>
    have h0 := pm_cs hs
    clear hs
    obtain ⟨hn, hs⟩ := h0
    obtain rfl := (pm_beq hn : n = 1)
    exact ws_iald C hd hs k
  | laload =>
    have h0 := pm_cs hs
    clear hs
    obtain ⟨hn, hs⟩ := h0
    obtain rfl := (pm_beq hn : n = 1)
    exact ws_lald C hd hs k
  | baload =>
    have h0 := pm_cs hs
    clear hs
    obtain ⟨hn, hs⟩ := h0
    obtain rfl := (pm_beq hn : n = 1)
    exact ws_bald C hd hs k
  | aaload =>
    have h0 := pm_cs hs
    clear hs
    obtain ⟨hn, hs⟩ := h0
    obtain rfl := (pm_beq hn : n = 1)
    exact ws_aald C hd hs k
  | iastore =>
    have h0 := pm_cs hs
    clear hs
    obtain ⟨hn, hs⟩ := h0
    obtain rfl := (pm_beq hn : n = 1)
    exact ws_iast C hd hs k hX
  | lastore =>
    have h0 := pm_cs hs
    clear hs
    obtain ⟨hn, hs⟩ := h0
    obtain rfl := (pm_beq hn : n = 1)
    exact ws_last C hd hs k hX
  | bastore =>
    have h0 := pm_cs hs
    clear hs
    obtain ⟨hn, hs⟩ := h0
    obtain rfl := (pm_beq hn : n = 1)
    exact ws_bast C hd hs k hX
  | arraylength =>
    have h0 := pm_cs hs
    clear hs
    obtain ⟨hn, hs⟩ := h0
    obtain rfl := (pm_beq hn : n = 1)
    exact ws_alen C hd hs k
  | newarray t =>
    have h0 := pm_cs hs
    clear hs
    obtain ⟨hn, hs⟩ := h0
    obtain rfl := (pm_beq hn : n = 2)
    exact ws_newa C hd hs hL hS0 hc1 hc2 k
  | multianewarray j q =>
    have h0 := pm_cs hs
    clear hs
    obtain ⟨hn, hs⟩ := h0
    simp only [Bool.and_eq_true] at hn
    obtain rfl := (pm_beq hn.1 : n = 4)
    obtain rfl := (pm_beq hn.2 : q = 2)
    exact ws_mna C hd hs hL hS0 hc1 hc2 k
  | getfield j =>
    have h0 := pm_cs hs
    clear hs
    obtain ⟨hn, hs⟩ := h0
    obtain rfl := (pm_beq hn : n = 3)
    exact ws_getf C hd hs k
  | putfield j =>
    have h0 := pm_cs hs
    clear hs
    obtain ⟨hn, hs⟩ := h0
    obtain rfl := (pm_beq hn : n = 3)
    exact ws_putf C hd hs k hX
  | getstatic j =>
    have h0 := pm_cs hs
    clear hs
    obtain ⟨hn, hs⟩ := h0
    obtain rfl := (pm_beq hn : n = 3)
    exact ws_stat C hd hs k
  | new j =>
    have h0 := pm_cs hs
    clear hs
    obtain ⟨hn, hs⟩ := h0
    obtain rfl := (pm_beq hn : n = 3)
    exact ws_new C hd hs hL hS0 hc1 hc2 k
  | _ => cases hs
end PMK
