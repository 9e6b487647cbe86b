/-! memory only grows; then: what a pure run says, the machine does -/
def pmGr (M N : pM) : Prop := M.length ≤ N.length ∧ pm_sz M ≤ pm_sz N
theorem pmGr.rf {M : pM} : pmGr M M := ⟨Nat.le_refl _, Nat.le_refl _⟩
theorem pmGr.trans {M N P : pM} (h : pmGr M N) (k : pmGr N P) : pmGr M P := ⟨Nat.le_trans h.1 k.1, Nat.le_trans h.2 k.2⟩
theorem pmGr.app {M N : pM} : pmGr M (M ++ N) := ⟨by rw [List.length_append]; omega, by rw [pm_sz_app]; omega⟩
theorem pmGr.set {M : pM} {a : Nat} {c d : pC} (h : M[a]? = some c) (hl : d.2.length = c.2.length) : pmGr M (M.set a d) := ⟨by rw [List.length_set]; exact Nat.le_refl _, by rw [pm_sz_set h hl]; exact Nat.le_refl _⟩
section PGR
variable {E M : pM} {pc : Nat} {ls : pL} {st : List Value} {z : Nat × pL × List Value × pM}
theorem pg_j {off : Int} (h : pmJ pc off ls st M = some z) : pmGr M z.2.2.2 := by
  obtain ⟨t, -, rfl⟩ := ws_j h
  exact pmGr.rf
theorem pg_i2 {f : Int32 → Int32 → Int32} (h : pm_i2 f pc ls st M = some z) : pmGr M z.2.2.2 := by
  unfold pm_i2 at h
  split at h <;> cases h
  exact pmGr.rf
theorem pg_l2 {f : Int64 → Int64 → Int64} (h : pm_l2 f pc ls st M = some z) : pmGr M z.2.2.2 := by
  unfold pm_l2 at h
  split at h <;> cases h
  exact pmGr.rf
theorem pg_li {f : Int64 → Int32 → Int64} (h : pm_li f pc ls st M = some z) : pmGr M z.2.2.2 := by
  unfold pm_li at h
  split at h <;> cases h
  exact pmGr.rf
theorem pg_i1 {f : Int32 → Int32} (h : pm_i1 f pc ls st M = some z) : pmGr M z.2.2.2 := by
  unfold pm_i1 at h
  split at h <;> cases h
  exact pmGr.rf
theorem pg_ld {ok : Value → Bool} {i : Nat} (h : pm_ld ok pc ls i st M = some z) : pmGr M z.2.2.2 := by
  unfold pm_ld at h
  split at h
  · obtain ⟨-, h⟩ := pm_cs h
    cases h
    exact pmGr.rf
  · cases h
theorem pg_st1 {ok : Value → Bool} {nL i : Nat} (h : pm_sto1 ok nL pc ls i st M = some z) : pmGr M z.2.2.2 := by
  unfold pm_sto1 at h
  split at h
  · obtain ⟨-, h⟩ := pm_cs h
    cases h
    exact pmGr.rf
  · cases h
theorem pg_st2 {nL i : Nat} (h : pm_sto2 nL pc ls i st M = some z) : pmGr M z.2.2.2 := by
  unfold pm_sto2 at h
  split at h
  · obtain ⟨-, h⟩ := pm_cs h
    cases h
    exact pmGr.rf
  · cases h
theorem pg_ald {ts : Nat → Bool} {ok : Value → Bool} (h : pm_ald ts ok E pc ls st M = some z) : pmGr M z.2.2.2 := by
  unfold pm_ald at h
  split at h
  · split at h
    · obtain ⟨-, h⟩ := pm_cs h
      split at h
      · obtain ⟨-, h⟩ := pm_cs h
        cases h
        exact pmGr.rf
      · cases h
    · cases h
  · cases h
theorem pg_ast {f : Nat → Value → Option Value} (h : pm_ast f pc ls st M = some z) : pmGr M z.2.2.2 := by
  unfold pm_ast at h
  split at h
  · split at h
    · rename_i c hc
      obtain ⟨-, h⟩ := pm_cs h
      split at h
      · cases h
        exact pmGr.set hc (by simp)
      · cases h
    · cases h
  · cases h
theorem pg_getf {own idx : Nat} (h : pm_getf E own idx pc ls st M = some z) : pmGr M z.2.2.2 := by
  unfold pm_getf at h
  split at h
  · split at h
    · obtain ⟨-, h⟩ := pm_cs h
      split at h
      · cases h
        exact pmGr.rf
      · cases h
    · cases h
  · cases h
theorem pg_putf {ct : Bool} {own idx : Nat} (h : pm_putf E ct own idx pc ls st M = some z) : pmGr M z.2.2.2 := by
  unfold pm_putf at h
  split at h
  · split at h
    · rename_i c hc
      obtain ⟨-, h⟩ := pm_cs h
      cases h
      exact pmGr.set hc (by simp)
    · cases h
  · cases h
theorem pg_new {own idx : Nat} (h : pm_new own idx pc ls st M = some z) : pmGr M z.2.2.2 := by
  unfold pm_new at h
  split at h
  · split at h
    · obtain ⟨-, h⟩ := pm_cs h
      cases h
      exact pmGr.app
    · cases h
  · cases h
theorem pg_newa {t : ArrayType} (h : pm_newa t pc ls st M = some z) : pmGr M z.2.2.2 := by
  unfold pm_newa at h
  split at h
  · obtain ⟨-, h⟩ := pm_cs h
    cases h
    exact pmGr.app
  · cases h
theorem pg_mna {own idx : Nat} (h : pm_mna own idx pc ls st M = some z) : pmGr M z.2.2.2 := by
  unfold pm_mna at h
  split at h
  · obtain ⟨-, h⟩ := pm_cs h
    cases h
    exact pmGr.app
  · cases h
theorem pg_copy (h : pm_copy pc ls st M = some z) : pmGr M z.2.2.2 := by
  unfold pm_copy at h
  split at h
  · split at h
    · rename_i c d hc hd
      obtain ⟨-, h⟩ := pm_cs h
      cases h
      exact pmGr.set hd (pm_cpyL_len _ _ _ _ _)
    · cases h
  · cases h
theorem pg_call {k own idx : Nat} (h : pm_call E k own idx pc ls st M = some (.inl z)) : pmGr M z.2.2.2 := by
  unfold pm_call at h
  split at h
  · cases h
  · rename_i t ht
    cases h9 : Nat.beq t.1 9000 with
    | true =>
      rw [h9] at h
      simp only [cond_true] at h
      split at h
      · obtain ⟨-, h⟩ := pm_cs h
        cases h
        exact pmGr.rf
      · cases h
    | false =>
      rw [h9] at h
      simp only [cond_false] at h
      cases h91 : Nat.beq t.1 9001 with
      | true =>
        rw [h91] at h
        simp only [cond_true] at h
        obtain ⟨-, h⟩ := pm_cs h
        split at h
        · rename_i w hw
          cases h
          exact pg_copy hw
        · cases h
      | false =>
        rw [h91] at h
        simp only [cond_false] at h
        split at h <;> cases h
set_option maxHeartbeats 4000000 in
theorem pg_step {own nL : Nat} {ct : Bool} {i : Instr} {n : Nat} (hs : pm_stp E own nL ct i n pc ls st M = some z) : pmGr M z.2.2.2 := by
  cases i with
  | iconst q =>
    replace hs := (pm_cs hs).2
    cases hs
    exact pmGr.rf
  | bipush q =>
    replace hs := (pm_cs hs).2
    cases hs
    exact pmGr.rf
  | sipush q =>
    replace hs := (pm_cs hs).2
    cases hs
    exact pmGr.rf
  | lconst q =>
    replace hs := (pm_cs hs).2
    cases hs
    exact pmGr.rf
  | ldc q =>
    replace hs := (pm_cs hs).2
    unfold pm_ldc at hs
    split at hs
    · obtain ⟨-, hs⟩ := pm_cs hs
      cases hs
      exact pmGr.rf
    · cases hs
  | ldc_w q =>
    replace hs := (pm_cs hs).2
    unfold pm_ldcw at hs
    split at hs
    · obtain ⟨-, hs⟩ := pm_cs hs
      cases hs
      exact pmGr.rf
    · cases hs
  | ldc2_w q =>
    replace hs := (pm_cs hs).2
    unfold pm_ldc2 at hs
    split at hs
    · obtain ⟨-, hs⟩ := pm_cs hs
      cases hs
      exact pmGr.rf
    · cases hs
  | iload q =>
    replace hs := (pm_cs hs).2
    exact pg_ld hs
  | iload_n q =>
    replace hs := (pm_cs hs).2
    exact pg_ld hs
  | lload q =>
    replace hs := (pm_cs hs).2
    exact pg_ld hs
  | lload_n q =>
    replace hs := (pm_cs hs).2
    exact pg_ld hs
  | aload q =>
    replace hs := (pm_cs hs).2
    exact pg_ld hs
  | aload_n q =>
    replace hs := (pm_cs hs).2
    exact pg_ld hs
  | istore q =>
    replace hs := (pm_cs hs).2
    exact pg_st1 hs
  | istore_n q =>
    replace hs := (pm_cs hs).2
    exact pg_st1 hs
  | astore q =>
    replace hs := (pm_cs hs).2
    exact pg_st1 hs
  | astore_n q =>
    replace hs := (pm_cs hs).2
    exact pg_st1 hs
  | lstore q =>
    replace hs := (pm_cs hs).2
    exact pg_st2 hs
  | lstore_n q =>
    replace hs := (pm_cs hs).2
    exact pg_st2 hs
  | iinc j q =>
    replace hs := (pm_cs hs).2
    unfold pm_iinc at hs
    split at hs
    · cases hs
      exact pmGr.rf
    · cases hs
  | pop =>
    replace hs := (pm_cs hs).2
    unfold pm_pop at hs
    split at hs
    · obtain ⟨-, hs⟩ := pm_cs hs
      cases hs
      exact pmGr.rf
    · cases hs
  | dup =>
    replace hs := (pm_cs hs).2
    unfold pm_dup at hs
    split at hs
    · obtain ⟨-, hs⟩ := pm_cs hs
      cases hs
      exact pmGr.rf
    · cases hs
  | dup_x1 =>
    replace hs := (pm_cs hs).2
    unfold pm_dupx at hs
    split at hs
    · obtain ⟨-, hs⟩ := pm_cs hs
      cases hs
      exact pmGr.rf
    · cases hs
  | dup2 =>
    replace hs := (pm_cs hs).2
    unfold pm_dup2 at hs
    split at hs
    · rename_i v r
      cases h2 : Nat.beq v.category 2 with
      | true =>
        rw [h2] at hs
        cases hs
        exact pmGr.rf
      | false =>
        rw [h2] at hs
        simp only [cond_false] at hs
        split at hs
        · obtain ⟨-, hs⟩ := pm_cs hs
          cases hs
          exact pmGr.rf
        · cases hs
    · cases hs
  | iadd =>
    replace hs := (pm_cs hs).2
    exact pg_i2 hs
  | isub =>
    replace hs := (pm_cs hs).2
    exact pg_i2 hs
  | imul =>
    replace hs := (pm_cs hs).2
    exact pg_i2 hs
  | iand =>
    replace hs := (pm_cs hs).2
    exact pg_i2 hs
  | ior =>
    replace hs := (pm_cs hs).2
    exact pg_i2 hs
  | ixor =>
    replace hs := (pm_cs hs).2
    exact pg_i2 hs
  | ishl =>
    replace hs := (pm_cs hs).2
    exact pg_i2 hs
  | ishr =>
    replace hs := (pm_cs hs).2
    exact pg_i2 hs
  | iushr =>
    replace hs := (pm_cs hs).2
    exact pg_i2 hs
  | idiv =>
    replace hs := (pm_cs hs).2
    unfold pm_idiv at hs
    split at hs
    · rename_i y x r
      cases hy : decide (y = 0) with
      | true =>
        rw [hy] at hs
        cases hs
      | false =>
        rw [hy] at hs
        cases hs
        exact pmGr.rf
    · cases hs
  | irem =>
    replace hs := (pm_cs hs).2
    unfold pm_irem at hs
    split at hs
    · rename_i y x r
      cases hy : decide (y = 0) with
      | true =>
        rw [hy] at hs
        cases hs
      | false =>
        rw [hy] at hs
        cases hs
        exact pmGr.rf
    · cases hs
  | ineg =>
    replace hs := (pm_cs hs).2
    exact pg_i1 hs
  | i2b =>
    replace hs := (pm_cs hs).2
    exact pg_i1 hs
  | i2s =>
    replace hs := (pm_cs hs).2
    exact pg_i1 hs
  | i2c =>
    replace hs := (pm_cs hs).2
    exact pg_i1 hs
  | ladd =>
    replace hs := (pm_cs hs).2
    exact pg_l2 hs
  | lsub =>
    replace hs := (pm_cs hs).2
    exact pg_l2 hs
  | lmul =>
    replace hs := (pm_cs hs).2
    exact pg_l2 hs
  | land =>
    replace hs := (pm_cs hs).2
    exact pg_l2 hs
  | lor =>
    replace hs := (pm_cs hs).2
    exact pg_l2 hs
  | lxor =>
    replace hs := (pm_cs hs).2
    exact pg_l2 hs
  | lshl =>
    replace hs := (pm_cs hs).2
    exact pg_li hs
  | lushr =>
    replace hs := (pm_cs hs).2
    exact pg_li hs
  | lneg =>
    replace hs := (pm_cs hs).2
    unfold pm_lneg at hs
    split at hs
    · cases hs
      exact pmGr.rf
    · cases hs
  | lcmp =>
    replace hs := (pm_cs hs).2
    unfold pm_lcmp at hs
    split at hs
    · cases hs
      exact pmGr.rf
    · cases hs
  | i2l =>
    replace hs := (pm_cs hs).2
    unfold pm_i2l at hs
    split at hs
    · cases hs
      exact pmGr.rf
    · cases hs
  | l2i =>
    replace hs := (pm_cs hs).2
    unfold pm_l2i at hs
    split at hs
    · cases hs
      exact pmGr.rf
    · cases hs
  | goto off =>
    replace hs := (pm_cs hs).2
    exact pg_j hs
  | ifCond cd off =>
    replace hs := (pm_cs hs).2
    unfold pm_if0 at hs
    split at hs
    · rename_i x r
      cases hcd : pm_c0 cd x <;> rw [hcd] at hs <;> cases hs <;> exact pmGr.rf
    · cases hs
  | if_icmp cd off =>
    replace hs := (pm_cs hs).2
    unfold pm_if2 at hs
    split at hs
    · rename_i y x r
      cases hcd : pm_c2 cd x y <;> rw [hcd] at hs <;> cases hs <;> exact pmGr.rf
    · cases hs
  | tableswitch dd lo hi offs =>
    replace hs : pm_sw pc dd lo hi offs ls st M = some z := hs
    unfold pm_sw at hs
    split at hs
    · rename_i x r
      cases hc : (decide (x.toInt < lo) || decide (hi < x.toInt)) with
      | true =>
        rw [hc] at hs
        exact pg_j hs
      | false =>
        rw [hc] at hs
        simp only [cond_false] at hs
        split at hs
        · exact pg_j hs
        · cases hs
    · cases hs
  | iaload =>
    replace hs := (pm_cs hs).2
    exact pg_ald hs
  | laload =>
    replace hs := (pm_cs hs).2
    exact pg_ald hs
  | baload =>
    replace hs := (pm_cs hs).2
    exact pg_ald hs
  | aaload =>
    replace hs := (pm_cs hs).2
    exact pg_ald hs
  | iastore =>
    replace hs := (pm_cs hs).2
    exact pg_ast hs
  | lastore =>
    replace hs := (pm_cs hs).2
    exact pg_ast hs
  | bastore =>
    replace hs := (pm_cs hs).2
    exact pg_ast hs
  | arraylength =>
    replace hs := (pm_cs hs).2
    unfold pm_alen at hs
    split at hs
    · split at hs
      · obtain ⟨-, hs⟩ := pm_cs hs
        cases hs
        exact pmGr.rf
      · cases hs
    · cases hs
  | newarray t =>
    replace hs := (pm_cs hs).2
    exact pg_newa hs
  | multianewarray j q =>
    replace hs := (pm_cs hs).2
    exact pg_mna hs
  | getfield j =>
    replace hs := (pm_cs hs).2
    exact pg_getf hs
  | putfield j =>
    replace hs := (pm_cs hs).2
    exact pg_putf hs
  | getstatic j =>
    replace hs := (pm_cs hs).2
    unfold pm_gets at hs
    split at hs
    · cases hs
      exact pmGr.rf
    · cases hs
  | new j =>
    replace hs := (pm_cs hs).2
    exact pg_new hs
  | _ => cases hs
end PGR
theorem pg_loop {E : pM} {cl : Nat → List Value → pM → Option (Option Value × pM)} (hcl : ∀ y as M v M', cl y as M = some (v, M') → pmGr M M') {me : pmMe} : ∀ (f pc : Nat) (ls : pL) (st : List Value) (M : pM) (v : Option Value) (M' : pM), pm_loop E cl me f pc ls st M = some (v, M') → pmGr M M' := by
  intro f
  induction f with
  | zero => intro pc ls st M v M' h; cases h
  | succ f ih =>
    intro pc ls st M v M' h
    unfold pm_loop at h
    split at h
    · cases h
    · rename_i q hq
      split at h
      · rename_i j hj
        obtain ⟨-, h⟩ := pm_cs h
        split at h
        · cases h
        · rename_i z hz
          exact (pg_call hz).trans (ih _ _ _ _ _ _ h)
        · rename_i z hz
          split at h
          · cases h
          · rename_i w hw
            exact (hcl _ _ _ w.1 w.2 hw).trans (ih _ _ _ _ _ _ h)
      · cases hr : pm_isr q.1 with
        | true =>
          rw [hr] at h
          simp only [cond_true] at h
          obtain ⟨-, h⟩ := pm_cs h
          split at h
          · cases h
          · cases h
            exact pmGr.rf
        | false =>
          rw [hr] at h
          simp only [cond_false] at h
          split at h
          · cases h
          · rename_i z hz
            exact (pg_step hz).trans (ih _ _ _ _ _ _ h)
theorem pg_run {E : pM} {F : Nat} : ∀ (d y : Nat) (as : List Value) (M : pM) (v : Option Value) (M' : pM), pm_run E F d y as M = some (v, M') → pmGr M M' := by
  intro d
  induction d with
  | zero => intro y as M v M' h; cases h
  | succ d ih =>
    intro y as M v M' h
    unfold pm_run at h
    split at h
    · cases h
    · obtain ⟨-, h⟩ := pm_cs h
      exact pg_loop ih _ _ _ _ _ _ _ h
theorem pm_args_map {base : Nat} {xv : Nat → Value} (hx : ∀ k, (xv k).category = 1) : ∀ (as : List Value) (i : Nat), lv_args i (as.map (pmRn base xv)) = (lv_args i as).map (fun q => (q.1, pmRn base xv q.2))
  | [], _ => rfl
  | v :: vs, i => by
    show (i, pmRn base xv v) :: lv_args (if (pmRn base xv v).category = 2 then i + 2 else i + 1) (vs.map _) = (i, pmRn base xv v) :: (lv_args _ vs).map _
    rw [pmRn_cat hx, pm_args_map hx vs]
theorem pm_dec {y : Nat} {me : pmMe} (h : pmPT[y]? = some me) {pc : Nat} {q : Instr × Nat} (hq : pm_lc me.2.2.2.2.2.2.2 pc = some q) : decode (pmBy me.2.2.1) pc = .ok q := by
  have hy : y < pmLaw + 1 := by
    have h1 : y < pmPT.length := (List.getElem?_eq_some_iff.mp h).1
    have hlen : pmPT.length = pmLaw + 1 := by decide +kernel
    omega
  have h1 := pmD_ok y hy
  unfold pmDok2 at h1
  rw [h] at h1
  unfold pmDok1 at h1
  simp only [List.all_eq_true, decide_eq_true_eq] at h1
  unfold pm_lc at hq
  split at hq
  · rename_i c hc
    exact h1 c (List.mem_of_getElem? hc) (pc, q) (pm_lk_mem hq)
  · cases hq
theorem pm_inv_ins {i : Instr} {j : Nat × Nat} (h : pm_inv i = some j) : i = pm_ins j.1 j.2 := by
  cases i <;> first | (cases h; done) | (cases h; rfl)
section PMZ
variable {p : Program} {l : Launch} {e : Env} {R : Room} {s : State} {m : MethodId} {args : Array Value} {below : List Frame} {meth : Method} {c : Code} {Q : State → Prop}
variable {base : Nat} {xv : Nat → Value} {cT : Nat → ClassId} {E : pM} {D : va_G} {me : pmMe} {L0 S0 : Nat} {nL : Nat}
set_option maxHeartbeats 4000000 in
/-- the walk of a body -/
theorem pm_walk {d F : Nat} (IH : ∀ (y : Nat) (as : List Value) (M : pM) (v : Option Value) (M' : pM), pm_run E F d y as M = some (v, M') → y ≠ pmLaw → M'.length ≤ pmX → ∀ me', pmPT[y]? = some me' → pmMet l base xv cT E D d me' as M v M')
    (C : pmCx base xv cT E D p R s m args meth c me L0) {y0 : Nat} (hme : pmPT[y0]? = some me) (hnL : nL = me.2.2.2.1) (hr1 : d + 1 ≤ R.frames) (hr2 : 100 * d + 100 ≤ R.locals) {v : Option Value} {M' : pM} (hX : M'.length ≤ pmX) (hc1 : M'.length - L0 ≤ R.cells) (hc2 : pm_sz M' - S0 ≤ R.slots)
    (hret : ∀ (pc : Nat) (ls : pL) (st : List Value) (i : Instr), decode (pmBy me.2.2.1) pc = .ok (i, 1) → pm_end E me.2.2.2.2.1 i st = some v → pmWk p l e R s m args below meth c Q base xv cT D L0 S0 nL (pc, ls, st, M')) :
    ∀ (f pc : Nat) (ls : pL) (st : List Value) (M : pM), pm_loop E (pm_run E F d) me f pc ls st M = some (v, M') → L0 ≤ M.length → S0 ≤ pm_sz M → pmWk p l e R s m args below meth c Q base xv cT D L0 S0 nL (pc, ls, st, M) := by
  intro f
  induction f with
  | zero => intro pc ls st M h; cases h
  | succ f ih =>
    intro pc ls st M h hL hS0
    have hg := pg_loop (pg_run (E := E) (F := F) d) _ _ _ _ _ _ _ h
    have hMX : M.length ≤ pmX := Nat.le_trans hg.1 hX
    unfold pm_loop at h
    split at h
    · cases h
    · rename_i q hq
      have hd := pm_dec hme hq
      split at h
      · rename_i j hj
        obtain ⟨h3, h⟩ := pm_cs h
        have hq2 : decode (pmBy me.2.2.1) pc = .ok (pm_ins j.1 j.2, 3) := by
          rw [hd]
          obtain ⟨i, n⟩ := q
          obtain rfl := (pm_beq h3 : n = 3)
          rw [show i = pm_ins j.1 j.2 from pm_inv_ins hj]
        split at h
        · cases h
        · rename_i z hz
          have hgz := pg_call hz
          exact ws_calln C hnL j.1 hq2 hz (ih _ _ _ _ h (Nat.le_trans hL hgz.1) (Nat.le_trans hS0 hgz.2)) hMX
        · rename_i z hz
          split at h
          · cases h
          · rename_i w hw
            have hgw := pg_run (E := E) (F := F) d _ _ _ w.1 w.2 hw
            have hgl := pg_loop (pg_run (E := E) (F := F) d) _ _ _ _ _ _ _ h
            have hk := ih _ _ _ _ h (Nat.le_trans hL hgw.1) (Nat.le_trans hS0 hgw.2)
            exact ws_call C hnL j.1 hq2 hz (fun hy me' h' => IH _ _ _ w.1 w.2 hw hy (Nat.le_trans hgl.1 hX) me' h') hL hS0 hgw.1 hgw.2 (by have := hgl.1; omega) (by have := hgl.2; omega) hr1 hr2 hk
      · cases hr : pm_isr q.1 with
        | true =>
          rw [hr] at h
          simp only [cond_true] at h
          obtain ⟨h3, h⟩ := pm_cs h
          split at h
          · cases h
          · rename_i v' hv
            cases h
            refine hret pc ls st q.1 ?_ hv
            rw [hd]
            obtain ⟨i, n⟩ := q
            obtain rfl := (pm_beq h3 : n = 1)
            rfl
        | false =>
          rw [hr] at h
          simp only [cond_false] at h
          rw [← hnL] at h
          split at h
          · cases h
          · rename_i z hz
            have hgz := pg_step hz
            have hgl := pg_loop (pg_run (E := E) (F := F) d) _ _ _ _ _ _ _ h
            exact ws_step C hnL hd hz hL hS0 (by have := hgl.1; omega) (by have := hgl.2; omega) hMX (ih _ _ _ _ h (Nat.le_trans hL hgz.1) (Nat.le_trans hS0 hgz.2))
theorem pm_retv {ty : Option FieldType} {st : List Value} {v : Option Value} (h : pm_ret ty st = some v) : ∃ (rt : FieldType) (x : Int32), ty = some rt ∧ st = [.int x] ∧ v = some (.int x) ∧ narrow rt (.int x) = .int x := by
  unfold pm_ret at h
  split at h
  · cases h
    exact ⟨_, _, rfl, rfl, rfl, rfl⟩
  · rename_i x
    obtain ⟨h1, h⟩ := pm_cs h
    cases h
    refine ⟨_, _, rfl, rfl, rfl, ?_⟩
    simp only [Bool.or_eq_true, beq_iff_eq] at h1
    rcases h1 with rfl | rfl <;> rfl
  · rename_i x
    obtain ⟨h1, h⟩ := pm_cs h
    cases h
    refine ⟨_, _, rfl, rfl, rfl, ?_⟩
    have h1 : vp_nar .byte x = x := by simpa using h1
    rw [vp_nar_byte] at h1
    rw [narrow_byte, h1]
  · rename_i x
    obtain ⟨h1, h⟩ := pm_cs h
    cases h
    refine ⟨_, _, rfl, rfl, rfl, ?_⟩
    have h1 : vp_nar .char x = x := by simpa using h1
    exact congrArg Value.int h1
  · cases h
theorem pm_return {H : Heap} {locs : List Loc} {cells slots : Nat} {lsm : Array Slot} {pc : Nat} {i : Instr} {st : List Value} {v : Option Value} {Qc : Array Value → State → Outcome → State → Prop} {free : Addr → Prop} (hx : p.tables.exec = Jvm.exec) (hb : c.code = (pmBy me.2.2.1)) (hr : meth.sig.returnType = me.2.2.2.2.1) (hlocks : meth.locks = false) (hE : pmEX base xv E s) (hd : decode (pmBy me.2.2.1) pc = .ok (i, 1)) (hst : pm_end E me.2.2.2.2.1 i st = some v)
    (hq : ∀ t : State, t.heap = H → s.WarmedH t.vm → Qc args s (.returned (v.map (pmRn base xv))) t) (hf : ∀ q ∈ locs, free q.base) : W p l e R s m args below meth c H locs cells slots (MQ below Qc args s cells slots free) (F0 m pc lsm (st.map (pmRn base xv))) := by
  cases i with
  | ireturn =>
    obtain ⟨rt, x, h1, rfl, rfl, h4⟩ := pm_retv hst
    rw [h1] at hr
    exact W.zret hx hb hr h4 hq hf hd hlocks
  | lreturn =>
    replace hst : pm_lret me.2.2.2.2.1 st = some v := hst
    unfold pm_lret at hst
    split at hst
    · rename_i x h1
      cases hst
      rw [h1] at hr
      exact W.lret hx hb hr hq hf hd hlocks
    · cases hst
  | areturn =>
    replace hst : pm_aret E me.2.2.2.2.1 st = some v := hst
    unfold pm_aret at hst
    split at hst
    · rename_i t k h1
      obtain ⟨h2, hst⟩ := pm_cs hst
      cases hst
      rw [h1] at hr
      obtain ⟨a, ha⟩ := pm_isA_rn (v := .ref k) hE h2
      exact W.aret hx hb hr (Or.inr ⟨t, rfl⟩) (Or.inr ⟨a, ha⟩) hq hf hd hlocks
    · cases hst
  | return_ =>
    replace hst : pm_vret me.2.2.2.2.1 st = some v := hst
    unfold pm_vret at hst
    split at hst
    · rename_i h1
      cases hst
      rw [h1] at hr
      exact W.vret hx hb hr hq hf hd hlocks
    · cases hst
  | _ => cases hst
theorem pm_sl_len : ∀ (vs : List Value), (lg_sl vs).length = (vs.map fun v => v.category).sum
  | [] => rfl
  | v :: vs => by
    have := pm_sl_len vs
    rw [List.map_cons, List.sum_cons, ← this]
    rcases lv_cat v with h | h
    · simp [lg_sl, h]
      try omega
    · simp [lg_sl, h]
      try omega
theorem pm_ofWF {l : Launch} {y : MethodName} {ws ws' : List Jvm.Cond} {rm : Room} {Pc : Array Value → State → Prop} {Qc : Array Value → State → Outcome → State → Prop} {mc ms : Nat} {free : Addr → Prop} {cc : ByteArray} {maxL : Nat} {ret : Option FieldType} (hy : plainFor y = true) (hw : ws = Cond.code y cc maxL ret :: ws')
    (body : ∀ p e s m args below meth c s₁, BodyLoose p l y (headSpec ws rm) cc maxL ret e s m args below meth c s₁ → c.maxLocals = maxL → Pc args s →
      W p l e (headSpec ws rm).room s m args below meth c s.heap [] 0 0 (MQ below Qc args s mc ms free) (entryFrame m args maxL)) : Met l y ws rm Pc Qc mc ms free := by
  refine MetFree.of_bodySF (code := cc) (maxLocals := maxL) (ret := ret) hy ?_ ?_
  · intro args s m h hn
    obtain ⟨meth, c, h1, h2, h3, h4, h5, h6, -, -⟩ := Cond.code_spec hn (atoms_spec (ws := ws) h _ (by rw [hw]; exact List.mem_cons_self))
    exact ⟨meth, c, h1, h2, h3, h4, h5, h6⟩
  · intro p e s m args below meth c s₁ B hml hP _
    have hh0 : s₁.heap = s.heap := by rw [B.state]; rfl
    obtain ⟨t, a1, o, b1, b2, b3⟩ := body p e s m args below meth c s₁ B hml hP s₁ hh0 (Stand.of_body B)
    exact ⟨t, o, a1, b1, b2, ⟨b3.1, b3.2⟩⟩
set_option maxHeartbeats 4000000 in
/-- A CALL OF THE PURE MACHINE IS A CALL OF THE MACHINE -/
theorem pm_sim (l : Launch) {F : Nat} : ∀ (d y : Nat) (as : List Value) (M : pM) (v : Option Value) (M' : pM), pm_run E F d y as M = some (v, M') → y ≠ pmLaw → M'.length ≤ pmX → ∀ me, pmPT[y]? = some me → pmMet l base xv cT E D d me as M v M' := by
  intro d
  induction d with
  | zero => intro y as M v M' h; cases h
  | succ d ih =>
    intro y as M v M' h hy hX me hme
    have hg := pg_run (E := E) (F := F) (d + 1) _ _ _ _ _ h
    unfold pm_run at h
    rw [hme] at h
    obtain ⟨hcat, h⟩ := pm_cs h
    have hcat := Nat.le_of_ble_eq_true hcat
    obtain ⟨q, hq, hpk⟩ := pm_ok hme (List.getElem?_eq_some_iff.mp hme).1 hy
    unfold pmPok1 at hpk
    simp only [Bool.and_eq_true, decide_eq_true_eq] at hpk
    obtain ⟨⟨⟨⟨⟨⟨⟨⟨⟨p0, p3⟩, p4⟩, p5⟩, p7⟩, p8⟩, p9⟩, p10⟩, p11⟩, p12⟩ := hpk
    unfold pmMet
    refine pm_ofWF (cc := (pmBy me.2.2.1)) (maxL := me.2.2.2.1) (ret := me.2.2.2.2.1) p10 rfl ?_
    intro p e s m args below meth c s₁ B hml hv
    obtain ⟨rfl, hsz, hP, hK, hE⟩ := hv
    have hts := atoms_spec (ws := .code me.2.1 (pmBy me.2.2.1) me.2.2.2.1 me.2.2.2.2.1 :: pmWG) B.pre
    have hown : s.vm.findClass (pmOw me.1) = some m.cls := by rw [← p11]; exact findClass_of_methodNamed B.named
    have hlocks := B.notSynchronized
    have hr := B.returns
    have hname := (name_of_methodNamed B.named B.method).1
    have C : pmCx base xv cT E D p { frames := d + 1, cells := M'.length - M.length, slots := pm_sz M' - pm_sz M, locals := 100 * (d + 1) } s m (as.map (pmRn base xv)).toArray meth c me M.length := by
      refine ⟨B.exec, B.bytes, hml, hown, fun w hw => hts w (List.mem_cons_of_mem _ hw), hK, hE, hsz, fun hk => ?_, ⟨by show 1 ≤ d + 1; omega, by show 100 ≤ 100 * (d + 1); omega⟩⟩
      rw [hname]
      have hk := pm_beq hk
      rw [hk] at p5
      simp only [Bool.and_eq_true, decide_eq_true_eq] at p5
      exact p5.1.2
    have hsl : (lg_sl (as.map (pmRn base xv))).length ≤ me.2.2.2.1 := by
      rw [pm_sl_len, pm_cat_rn hE.2.1]
      exact hcat
    have hl := lv_entry (as.map (pmRn base xv)) (n := me.2.2.2.1) hsl
    rw [pm_args_map hE.2.1] at hl
    rw [lg_entry_eq]
    generalize (lg_sl (as.map (pmRn base xv)) ++ List.replicate (me.2.2.2.1 - (lg_sl (as.map (pmRn base xv))).length) Slot.unset).toArray = lsm at hl ⊢
    have hw := pm_walk (l := l) (e := e) (below := below) (Q := MQ below (pmQ base xv cT D v M') (as.map (pmRn base xv)).toArray s (M'.length - M.length) (pm_sz M' - pm_sz M) (pmA base)) (S0 := pm_sz M) (nL := me.2.2.2.1)
      ih C hme rfl (Nat.le_refl _) (by show 100 * d + 100 ≤ 100 * (d + 1); omega) hX (Nat.le_refl _) (Nat.le_refl _) (fun pc ls st i hd hst => ?_) F 0 _ [] M h (Nat.le_refl _) (Nat.le_refl _)
    · have := hw s.heap [] lsm hP va_S.rf hl
      refine W.cs ?_ ?_ this
      · show 0 = M.length - M.length
        omega
      · show 0 = pm_sz M - pm_sz M
        omega
    · intro H locs lsm hP hS hl
      have hq : ∀ t : State, t.heap = H → s.WarmedH t.vm → pmQ base xv cT D v M' (as.map (pmRn base xv)).toArray s (.returned (v.map (pmRn base xv))) t := fun t ht _ => ⟨rfl, by rw [ht]; exact hP, hS.F ht⟩
      have hf : ∀ q ∈ locs, pmA base q.base := hS.2.2
      exact pm_return B.exec B.bytes hr hlocks hE hd hst hq hf
end PMZ
