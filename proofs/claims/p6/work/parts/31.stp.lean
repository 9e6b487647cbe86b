noncomputable section
/-! one step, symbolic beside pure -/
def k_cn1 (S : kS) (x : Int32) (k : Int) (pc : Nat) (kl : kLs) (kt : List kV) : Option (List kR) := cond (decide (x.toInt = k)) (k_1 S pc kl ((0, kc k) :: kt)) none
def k_rI (t : Nat) : Option (Int × Int) := match t with
  | 0 => some (kI0, kI1)
  | _ => none
def k_rB (t : Nat) : Option (Int × Int) := match t with
  | 2 => some (-128, 127)
  | 3 => some (0, 1)
  | _ => none
def k_stp (D : kDD) (X : List kDe) (mods : List kMd) (S : kS) (own nL : Nat) (ct : Bool) (i : Instr) (n pc : Nat) (kl : kLs) (kt : List kV) : Option (List kR) :=
  match i with
  | .iconst k => cond (Nat.beq n 1) (k_cn1 S (Int32.ofInt k) k (pc + 1) kl kt) none
  | .bipush k => cond (Nat.beq n 2) (k_cn1 S (Int8.ofInt k).toInt32 k (pc + 2) kl kt) none
  | .sipush k => cond (Nat.beq n 3) (k_cn1 S (Int16.ofInt k).toInt32 k (pc + 3) kl kt) none
  | .lconst k => cond (Nat.beq n 1 && decide ((Int64.ofNat (k : Nat)).toInt = ((k : Nat) : Int))) (k_1 S (pc + 1) kl ((1, kc ((k : Nat) : Int)) :: kt)) none
  | .ldc j => cond (Nat.beq n 2) (k_ldc X S own j 0 (pc + 2) kl kt) none
  | .ldc_w j => cond (Nat.beq n 3) (k_ldk S own j 0 (pc + 3) kl kt) none
  | .ldc2_w j => cond (Nat.beq n 3) (k_ldk S own j 1 (pc + 3) kl kt) none
  | .iload j => cond (Nat.beq n 2) (k_ld 0 S (pc + 2) kl j kt) none
  | .iload_n j => cond (Nat.beq n 1) (k_ld 0 S (pc + 1) kl j kt) none
  | .lload j => cond (Nat.beq n 2) (k_ld 1 S (pc + 2) kl j kt) none
  | .lload_n j => cond (Nat.beq n 1) (k_ld 1 S (pc + 1) kl j kt) none
  | .aload j => cond (Nat.beq n 2) (k_ld 2 S (pc + 2) kl j kt) none
  | .aload_n j => cond (Nat.beq n 1) (k_ld 2 S (pc + 1) kl j kt) none
  | .istore j => cond (Nat.beq n 2) (k_st1 0 S nL (pc + 2) kl j kt) none
  | .istore_n j => cond (Nat.beq n 1) (k_st1 0 S nL (pc + 1) kl j kt) none
  | .lstore j => cond (Nat.beq n 2) (k_st2 S nL (pc + 2) kl j kt) none
  | .lstore_n j => cond (Nat.beq n 1) (k_st2 S nL (pc + 1) kl j kt) none
  | .astore j => cond (Nat.beq n 2) (k_st1 2 S nL (pc + 2) kl j kt) none
  | .astore_n j => cond (Nat.beq n 1) (k_st1 2 S nL (pc + 1) kl j kt) none
  | .iinc j k => cond (Nat.beq n 3 && Nat.blt j nL) (k_iinc S j k pc kl kt) none
  | .pop => cond (Nat.beq n 1) (k_pop S pc kl kt) none
  | .dup => cond (Nat.beq n 1) (k_dup S pc kl kt) none
  | .dup_x1 => cond (Nat.beq n 1) (k_dupx S pc kl kt) none
  | .dup2 => cond (Nat.beq n 1) (k_dup2 S pc kl kt) none
  | .iadd => cond (Nat.beq n 1) (k_iadd S pc kl kt) none
  | .isub => cond (Nat.beq n 1) (k_isub S pc kl kt) none
  | .imul => cond (Nat.beq n 1) (k_imul S pc kl kt) none
  | .idiv => cond (Nat.beq n 1) (k_idiv S pc kl kt) none
  | .irem => cond (Nat.beq n 1) (k_irem S pc kl kt) none
  | .ineg => cond (Nat.beq n 1) (k_ineg S pc kl kt) none
  | .iand => cond (Nat.beq n 1) (k_iand S pc kl kt) none
  | .ior => cond (Nat.beq n 1) (k_ior S pc kl kt) none
  | .ixor => cond (Nat.beq n 1) (k_ixor S pc kl kt) none
  | .ishl => cond (Nat.beq n 1) (k_ishl S pc kl kt) none
  | .ishr => cond (Nat.beq n 1) (k_ishr S pc kl kt) none
  | .iushr => cond (Nat.beq n 1) (k_any2 S pc kl kt) none
  | .ladd => cond (Nat.beq n 1) (k_ladd S pc kl kt) none
  | .lsub => cond (Nat.beq n 1) (k_lsub S pc kl kt) none
  | .lmul => cond (Nat.beq n 1) (k_lmul S pc kl kt) none
  | .land => cond (Nat.beq n 1) (k_lan S pc kl kt) none
  | .lor => cond (Nat.beq n 1) (k_lor S pc kl kt) none
  | .lxor => cond (Nat.beq n 1) (k_ll S pc kl kt) none
  | .lshl => cond (Nat.beq n 1) (k_lsh S pc kl kt) none
  | .lushr => cond (Nat.beq n 1) (k_li S pc kl kt) none
  | .lneg => cond (Nat.beq n 1) (k_lneg S pc kl kt) none
  | .lcmp => cond (Nat.beq n 1) (k_lcmp S pc kl kt) none
  | .i2l => cond (Nat.beq n 1) (k_i2l S pc kl kt) none
  | .l2i => cond (Nat.beq n 1) (k_l2i S pc kl kt) none
  | .i2b => cond (Nat.beq n 1) (k_nar (-128) 127 S pc kl kt) none
  | .i2s => cond (Nat.beq n 1) (k_nar (-32768) 32767 S pc kl kt) none
  | .i2c => cond (Nat.beq n 1) (k_nar 0 65535 S pc kl kt) none
  | .goto off => cond (Nat.beq n 3) (cond (decide (0 ≤ (pc : Int) + off)) (k_1 S ((pc : Int) + off).toNat kl kt) none) none
  | .ifCond c off => cond (Nat.beq n 3 && decide (0 ≤ (pc : Int) + off)) (k_if0 S c off pc kl kt) none
  | .if_icmp c off => cond (Nat.beq n 3 && decide (0 ≤ (pc : Int) + off)) (k_if2 S c off pc kl kt) none
  | .tableswitch d lo hi offs => k_sw S pc d lo hi offs kl kt
  | .iaload => cond (Nat.beq n 1) (k_al D X (fun t => Nat.beq t 0) S pc kl kt) none
  | .laload => cond (Nat.beq n 1) (k_alJ D X S pc kl kt) none
  | .baload => cond (Nat.beq n 1) (k_al D X (fun t => Nat.beq t 2 || Nat.beq t 3) S pc kl kt) none
  | .aaload => cond (Nat.beq n 1) (k_alA D X S pc kl kt) none
  | .iastore => cond (Nat.beq n 1) (k_as D mods k_rI S pc kl kt) none
  | .lastore => cond (Nat.beq n 1) (k_asJ D mods S pc kl kt) none
  | .bastore => cond (Nat.beq n 1) (k_as D mods k_rB S pc kl kt) none
  | .arraylength => cond (Nat.beq n 1) (k_alen D X S pc kl kt) none
  | .getfield j => cond (Nat.beq n 3) (k_getf D X S own j pc kl kt) none
  | .putfield j => cond (Nat.beq n 3) (k_putf D mods S ct own j pc kl kt) none
  | .getstatic j => cond (Nat.beq n 3) (k_gets X S own j pc kl kt) none
  | _ => none
theorem kI_i2b (x : Int32) : -128 ≤ (x.toInt8.toInt32).toInt ∧ (x.toInt8.toInt32).toInt ≤ 127 ∧ (-128 ≤ x.toInt → x.toInt ≤ 127 → (x.toInt8.toInt32).toInt = x.toInt) := by
  rw [Int8.toInt_toInt32]
  have h1 := Int8.le_toInt x.toInt8
  have h2 := Int8.toInt_lt x.toInt8
  refine ⟨by omega, by omega, fun a b => ?_⟩
  rw [Int32.toInt_toInt8, Int.bmod_def]
  omega
theorem kI_i2s (x : Int32) : -32768 ≤ (x.toInt16.toInt32).toInt ∧ (x.toInt16.toInt32).toInt ≤ 32767 ∧ (-32768 ≤ x.toInt → x.toInt ≤ 32767 → (x.toInt16.toInt32).toInt = x.toInt) := by
  rw [Int16.toInt_toInt32]
  have h1 := Int16.le_toInt x.toInt16
  have h2 := Int16.toInt_lt x.toInt16
  refine ⟨by omega, by omega, fun a b => ?_⟩
  rw [Int32.toInt_toInt16, Int.bmod_def]
  omega
theorem kI_i2c (x : Int32) : 0 ≤ ((x.toUInt32 % 65536).toInt32).toInt ∧ ((x.toUInt32 % 65536).toInt32).toInt ≤ 65535 ∧ (0 ≤ x.toInt → x.toInt ≤ 65535 → ((x.toUInt32 % 65536).toInt32).toInt = x.toInt) := by
  have e : ((x.toUInt32 % 65536).toInt32).toBitVec.toNat = x.toBitVec.toNat % 65536 := rfl
  have hl := Nat.mod_lt x.toBitVec.toNat (show 0 < 65536 by omega)
  rw [kI_ofn (x := (x.toUInt32 % 65536).toInt32) (by omega), e]
  refine ⟨by omega, by omega, fun a b => ?_⟩
  have := kI_nat a
  omega
theorem k_rI_ok (t : Nat) (w : Int × Int) (x : Int32) (h : k_rI t = some w) (_ : w.1 ≤ x.toInt) (_ : x.toInt ≤ w.2) : pm_fI t (.int x) = some (.int x) := by
  unfold k_rI at h
  split at h
  · rfl
  · cases h
theorem k_rB_ok (t : Nat) (w : Int × Int) (x : Int32) (h : k_rB t = some w) (h1 : w.1 ≤ x.toInt) (h2 : x.toInt ≤ w.2) : pm_fB t (.int x) = some (.int x) := by
  unfold k_rB at h
  split at h
  · cases h
    show some (Value.int (vp_nar .byte x)) = _
    rw [vp_nar_byte]
    exact congrArg (fun z => some (Value.int z)) (Int32.toInt_inj.mp ((kI_i2b x).2.2 h1 h2))
  · cases h
    rcases kI_01 (x := x) h1 h2 with rfl | rfl <;> rfl
  · cases h
theorem k_rI_t (t : Nat) (w : Int × Int) (h : k_rI t = some w) : t = 0 ∨ t = 2 ∨ t = 3 := by
  unfold k_rI at h
  split at h
  · exact Or.inl rfl
  · cases h
theorem k_rB_t (t : Nat) (w : Int × Int) (h : k_rB t = some w) : t = 0 ∨ t = 2 ∨ t = 3 := by
  unfold k_rB at h
  split at h
  · exact Or.inr (Or.inl rfl)
  · exact Or.inr (Or.inr rfl)
  · cases h
section KSP
variable {E : pM} {N : kN} {mods : List kMd} {D : kDD} {X : List kDe} {σ : Nat → Int} {M : pM} {S : kS} {kl : kLs} {kt : List kV} {ls : pL} {st : List Value} {pc : Nat} {L : List kR}
theorem kTo_cd {b : Bool} {x : Option (List kR)} {o : Option pS} {n : Nat} (hL : cond b x none = some L) (f : x = some L → kTo E N mods D n σ M L o) : kTo E N mods D n σ M L (cond b o none) := by
  cases b
  · cases hL
  · exact f hL
theorem k_cn1_ok {x : Int32} {k : Int} (h : kRS N σ S M) (hM : kMem D M) (hl : kRL E S.1.length σ kl ls) (ht : kRT E S.1.length σ kt st) (hL : k_cn1 S x k pc kl kt = some L) : kTo E N mods D S.1.length σ M L (pmN pc ls (.int x :: st) M) := by
  obtain ⟨h1, hL⟩ := pm_cs hL
  exact ⟨_, rfl, kNx.cst h hM hl ht (of_decide_eq_true h1) hL⟩
set_option maxHeartbeats 4000000 in
theorem k_stp_ok {own nL n : Nat} {ct : Bool} {i : Instr} (hD : D.1 ≤ pmX) (hX : kExt X N E) (h : kRS N σ S M) (hM : kMem D M) (hl : kRL E S.1.length σ kl ls) (ht : kRT E S.1.length σ kt st) (hL : k_stp D X mods S own nL ct i n pc kl kt = some L) : kTo E N mods D S.1.length σ M L (pm_stp E own nL ct i n pc ls st M) := by
  cases i with
  | iconst k => exact kTo_cd hL (fun hL => k_cn1_ok h hM hl ht hL)
  | bipush k => exact kTo_cd hL (fun hL => k_cn1_ok h hM hl ht hL)
  | sipush k => exact kTo_cd hL (fun hL => k_cn1_ok h hM hl ht hL)
  | lconst k =>
    obtain ⟨h1, hL⟩ := pm_cs hL
    obtain ⟨h1, h2⟩ := Bool.and_eq_true_iff.mp h1
    refine ⟨(pc + 1, ls, .long (Int64.ofNat (k : Nat)) :: st, M), ?_, kNx.lng h hM hl ht kSc_c (by rw [k_ev_c]; exact of_decide_eq_true h2) hL⟩
    show cond (Nat.beq n 1) _ none = _
    rw [h1, cond_true]
    rfl
  | ldc j => exact kTo_cd hL (fun hL => k_ldc_ok hX h hM hl ht hL)
  | ldc_w j => exact kTo_cd hL (fun hL => k_ldkw_ok h hM hl ht hL)
  | ldc2_w j => exact kTo_cd hL (fun hL => k_ldk2_ok h hM hl ht hL)
  | iload j => exact kTo_cd hL (fun hL => k_ld_ok (fun _ _ _ h1 h2 => h1.isI h2) h hM hl ht hL)
  | iload_n j => exact kTo_cd hL (fun hL => k_ld_ok (fun _ _ _ h1 h2 => h1.isI h2) h hM hl ht hL)
  | lload j => exact kTo_cd hL (fun hL => k_ld_ok (fun _ _ _ h1 h2 => h1.isJ h2) h hM hl ht hL)
  | lload_n j => exact kTo_cd hL (fun hL => k_ld_ok (fun _ _ _ h1 h2 => h1.isJ h2) h hM hl ht hL)
  | aload j => exact kTo_cd hL (fun hL => k_ld_ok (fun _ _ _ h1 h2 => h1.isA h2) h hM hl ht hL)
  | aload_n j => exact kTo_cd hL (fun hL => k_ld_ok (fun _ _ _ h1 h2 => h1.isA h2) h hM hl ht hL)
  | istore j => exact kTo_cd hL (fun hL => k_st1_ok (fun _ _ _ h1 h2 => h1.isI h2) h hM hl ht hL)
  | istore_n j => exact kTo_cd hL (fun hL => k_st1_ok (fun _ _ _ h1 h2 => h1.isI h2) h hM hl ht hL)
  | lstore j => exact kTo_cd hL (fun hL => k_st2_ok h hM hl ht hL)
  | lstore_n j => exact kTo_cd hL (fun hL => k_st2_ok h hM hl ht hL)
  | astore j => exact kTo_cd hL (fun hL => k_st1_ok (fun _ _ _ h1 h2 => h1.isA h2) h hM hl ht hL)
  | astore_n j => exact kTo_cd hL (fun hL => k_st1_ok (fun _ _ _ h1 h2 => h1.isA h2) h hM hl ht hL)
  | iinc j k => exact kTo_cd hL (fun hL => k_iinc_ok h hM hl ht hL)
  | pop => exact kTo_cd hL (fun hL => k_pop_ok h hM hl ht hL)
  | dup => exact kTo_cd hL (fun hL => k_dup_ok h hM hl ht hL)
  | dup_x1 => exact kTo_cd hL (fun hL => k_dupx_ok h hM hl ht hL)
  | dup2 => exact kTo_cd hL (fun hL => k_dup2_ok h hM hl ht hL)
  | iadd => exact kTo_cd hL (fun hL => k_iadd_ok h hM hl ht hL)
  | isub => exact kTo_cd hL (fun hL => k_isub_ok h hM hl ht hL)
  | imul => exact kTo_cd hL (fun hL => k_imul_ok h hM hl ht hL)
  | idiv => exact kTo_cd hL (fun hL => k_idiv_ok h hM hl ht hL)
  | irem => exact kTo_cd hL (fun hL => k_irem_ok h hM hl ht hL)
  | ineg => exact kTo_cd hL (fun hL => k_ineg_ok h hM hl ht hL)
  | iand => exact kTo_cd hL (fun hL => k_iand_ok h hM hl ht hL)
  | ior => exact kTo_cd hL (fun hL => k_ior_ok h hM hl ht hL)
  | ixor => exact kTo_cd hL (fun hL => k_ixor_ok h hM hl ht hL)
  | ishl => exact kTo_cd hL (fun hL => k_ishl_ok h hM hl ht hL)
  | ishr => exact kTo_cd hL (fun hL => k_ishr_ok h hM hl ht hL)
  | iushr => exact kTo_cd hL (fun hL => k_any2_ok h hM hl ht hL)
  | ladd => exact kTo_cd hL (fun hL => k_ladd_ok h hM hl ht hL)
  | lsub => exact kTo_cd hL (fun hL => k_lsub_ok h hM hl ht hL)
  | lmul => exact kTo_cd hL (fun hL => k_lmul_ok h hM hl ht hL)
  | land => exact kTo_cd hL (fun hL => k_lan_ok h hM hl ht hL)
  | lor => exact kTo_cd hL (fun hL => k_lor_ok h hM hl ht hL)
  | lxor => exact kTo_cd hL (fun hL => k_ll_ok h hM hl ht hL)
  | lshl => exact kTo_cd hL (fun hL => k_lsh_ok h hM hl ht hL)
  | lushr => exact kTo_cd hL (fun hL => k_li_ok h hM hl ht hL)
  | lneg => exact kTo_cd hL (fun hL => k_lneg_ok h hM hl ht hL)
  | lcmp => exact kTo_cd hL (fun hL => k_lcmp_ok h hM hl ht hL)
  | i2l => exact kTo_cd hL (fun hL => k_i2l_ok h hM hl ht hL)
  | l2i => exact kTo_cd hL (fun hL => k_l2i_ok h hM hl ht hL)
  | i2b => exact kTo_cd hL (fun hL => k_nar_ok kI_i2b h hM hl ht hL)
  | i2s => exact kTo_cd hL (fun hL => k_nar_ok kI_i2s h hM hl ht hL)
  | i2c => exact kTo_cd hL (fun hL => k_nar_ok kI_i2c h hM hl ht hL)
  | goto off => exact kTo_cd hL (fun hL => kTo_cd hL (fun hL => ⟨_, rfl, kNx.one h hM hl ht hL⟩))
  | ifCond c off => exact kTo_cd hL (fun hL => k_if0_ok h hM hl ht hL)
  | if_icmp c off => exact kTo_cd hL (fun hL => k_if2_ok h hM hl ht hL)
  | tableswitch d lo hi offs => exact k_sw_ok h hM hl ht hL
  | iaload => exact kTo_cd hL (fun hL => k_al_ok (fun t h => Or.inl (pm_beq h)) hD hX h hM hl ht hL)
  | laload => exact kTo_cd hL (fun hL => k_alJ_ok hD hX h hM hl ht hL)
  | baload => exact kTo_cd hL (fun hL => k_al_ok (fun t h => Or.inr ((Bool.or_eq_true_iff.mp h).imp (fun h => pm_beq h) (fun h => pm_beq h))) hD hX h hM hl ht hL)
  | aaload => exact kTo_cd hL (fun hL => k_alA_ok hD h hM hl ht hL)
  | iastore => exact kTo_cd hL (fun hL => k_as_ok k_rI_t k_rI_ok hD h hM hl ht hL)
  | lastore => exact kTo_cd hL (fun hL => k_asJ_ok hD h hM hl ht hL)
  | bastore => exact kTo_cd hL (fun hL => k_as_ok k_rB_t k_rB_ok hD h hM hl ht hL)
  | arraylength => exact kTo_cd hL (fun hL => k_alen_ok hD hX h hM hl ht hL)
  | getfield j => exact kTo_cd hL (fun hL => k_getf_ok hD hX h hM hl ht hL)
  | putfield j => exact kTo_cd hL (fun hL => k_putf_ok hD h hM hl ht hL)
  | getstatic j => exact kTo_cd hL (fun hL => k_gets_ok hX h hM hl ht hL)
  | _ => cases hL
end KSP
end
