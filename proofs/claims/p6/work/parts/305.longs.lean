noncomputable section
/-! functions of longs, remembered; branches split in two -/
section KMM
variable {E : pM} {N : kN} {mods : List kMd} {D : kDD} {σ : Nat → Int} {M : pM} {S : kS} {kl : kLs} {kt : List kV} {ls : pL} {st : List Value} {pc : Nat} {L : List kR}
def k_mem (S : kS) (c k : kE) (lo hi : Int) : kE × kS := match k_look S c k with
  | some v => (v, S)
  | none => ((k_new S lo hi).1, k_put (k_new S lo hi).2 ((c, k), (k_new S lo hi).1))
theorem k_mem_ok (h : kRS N σ S M) {c k : kE} {lo hi x : Int} (hc : kSc S.1.length c) (hk : kSc S.1.length k) (h1 : lo ≤ x) (h2 : x ≤ hi) (he : ∀ v, kHas N M (k_ev σ c) (k_ev σ k) v ↔ x = v) : ∃ τ, kAgr S.1.length σ τ ∧ S.1.length ≤ (k_mem S c k lo hi).2.1.length ∧ kRS N τ (k_mem S c k lo hi).2 M ∧ k_ev τ (k_mem S c k lo hi).1 = x ∧ kSc (k_mem S c k lo hi).2.1.length (k_mem S c k lo hi).1 := by
  unfold k_mem
  split
  · rename_i v hv
    obtain ⟨a1, a2⟩ := k_look_ok h hv
    exact ⟨σ, fun _ _ => rfl, Nat.le_refl _, h, ((he _).mp a2).symm, a1⟩
  · obtain ⟨τ, t1, t2, t3, t4, t5⟩ := k_new_ok h h1 h2
    refine ⟨τ, t1, t2, kRS_put t3 ⟨hc.mono t2, hk.mono t2, t5⟩ ?_, t4, t5⟩
    show kHas N M (k_ev τ c) (k_ev τ k) (k_ev τ (k_new S lo hi).1)
    rw [k_ev_agree t1 hc, k_ev_agree t1 hk, t4]
    exact (he x).mpr rfl
theorem k_h4 {c Q s v : Int} (hc : c = -(15 + 16 * (4 + 8 * Q))) (hn : c < 0) : kHas N M c s v ↔ kLf Q s = v := by
  have e : kPtx M (4 + 8 * Q) s v ↔ kLf Q s = v := by
    rw [kPtx_4 (by omega), show (4 + 8 * Q) / 8 = Q by omega]
  rw [← e]
  constructor
  · intro hh
    exact kPhi_to (i := 15) hc (by omega) (hh.2 hn)
  · intro hh
    exact ⟨fun h0 => by omega, fun _ => kPhi_of (i := 15) hc (by omega) hh⟩
theorem kLf_0 (s : Int) : kLf 0 s = (Int64.ofInt s <<< ((32 : Int32).toInt64 &&& 63)).toInt := by
  unfold kLf
  rw [show decide ((0 : Int) % 8 = 0) = true from rfl, cond_true]
theorem kLf_1 (s : Int) : kLf 1 s = (Int64.ofInt s &&& Int64.ofInt 4294967295).toInt := by
  unfold kLf
  rw [show decide ((1 : Int) % 8 = 0) = false from rfl, show decide ((1 : Int) % 8 = 1) = true from rfl, cond_false, cond_true]
def k_mej (S : kS) (c k : kE) (pc : Nat) (kl : kLs) (t : List kV) : Option (List kR) := some [((k_mem S c k kJ0 kJ1).2, pc, kl, (1, (k_mem S c k kJ0 kJ1).1) :: t)]
theorem k_mej_ok (h : kRS N σ S M) (hM : kMem D M) (hl : kRL E S.1.length σ kl ls) (ht : kRT E S.1.length σ kt st) {c k : kE} {x : Int64} (hc : kSc S.1.length c) (hk : kSc S.1.length k) (he : ∀ v, kHas N M (k_ev σ c) (k_ev σ k) v ↔ x.toInt = v) (hL : k_mej S c k pc kl kt = some L) : kNx E N mods D S.1.length σ M L (pc, ls, .long x :: st, M) := by
  cases hL
  obtain ⟨τ, t1, t2, t3, t4, t5⟩ := k_mem_ok h hc hk (kJ_rng x).1 (kJ_rng x).2 he
  exact ⟨_, List.mem_singleton.mpr rfl, τ, t1, t2, t3, rfl, hl.agr t1 t2, ⟨⟨t5, x, rfl, t4.symm⟩, ht.agr t1 t2⟩, kSame.rf, hM⟩
def k_lsh (S : kS) (pc : Nat) (kl : kLs) (kt : List kV) : Option (List kR) := match kt with
  | (0, y) :: (1, x) :: t => cond (k_wq y (kc 32)) (k_mej S (kc (-79)) x (pc + 1) kl t) (k_frJ S (pc + 1) kl t)
  | _ => none
theorem k_lsh_ok (h : kRS N σ S M) (hM : kMem D M) (hl : kRL E S.1.length σ kl ls) (ht : kRT E S.1.length σ kt st) (hL : k_lsh S pc kl kt = some L) : kTo E N mods D S.1.length σ M L (pm_li (fun x y => x <<< (y.toInt64 &&& 63)) pc ls st M) := by
  unfold k_lsh at hL
  split at hL
  · rename_i ey ex t
    obtain ⟨y, r, rfl, -, e2, ht1⟩ := ht.int
    obtain ⟨x, r, rfl, s1, e1, ht2⟩ := ht1.lng
    refine ⟨_, rfl, ?_⟩
    cases c1 : k_wq ey (kc 32) with
    | false =>
      rw [c1, cond_false] at hL
      exact kNx.frJ h hM hl ht2 hL
    | true =>
      rw [c1, cond_true] at hL
      rw [k_wq_ok c1, k_ev_c] at e2
      have hy : y = 32 := Int32.toInt_inj.mp (by rw [e2]; rfl)
      subst hy
      refine k_mej_ok h hM hl ht2 kSc_c s1 (fun v => ?_) hL
      rw [k_ev_c, ← e1, k_h4 (Q := 0) (by omega) (by omega), kLf_0, Int64.ofInt_toInt]
  · cases hL
def k_lan (S : kS) (pc : Nat) (kl : kLs) (kt : List kV) : Option (List kR) := match kt with
  | (1, y) :: (1, x) :: t => cond (k_wq y (kc 4294967295)) (k_mej S (kc (-207)) x (pc + 1) kl t) (k_frJ S (pc + 1) kl t)
  | _ => none
theorem k_lan_ok (h : kRS N σ S M) (hM : kMem D M) (hl : kRL E S.1.length σ kl ls) (ht : kRT E S.1.length σ kt st) (hL : k_lan S pc kl kt = some L) : kTo E N mods D S.1.length σ M L (pm_l2 (fun x y => x &&& y) pc ls st M) := by
  unfold k_lan at hL
  split at hL
  · rename_i ey ex t
    obtain ⟨y, r, rfl, -, e2, ht1⟩ := ht.lng
    obtain ⟨x, r, rfl, s1, e1, ht2⟩ := ht1.lng
    refine ⟨_, rfl, ?_⟩
    cases c1 : k_wq ey (kc 4294967295) with
    | false =>
      rw [c1, cond_false] at hL
      exact kNx.frJ h hM hl ht2 hL
    | true =>
      rw [c1, cond_true] at hL
      rw [k_wq_ok c1, k_ev_c] at e2
      have hy : y = Int64.ofInt 4294967295 := by rw [← e2, Int64.ofInt_toInt]
      subst hy
      refine k_mej_ok h hM hl ht2 kSc_c s1 (fun v => ?_) hL
      rw [k_ev_c, ← e1, k_h4 (Q := 1) (by omega) (by omega), kLf_1, Int64.ofInt_toInt]
  · cases hL
def k_lorw (x : kE) : kE := k_sub (kc (-335)) (k_mul 1024 (k_add x (kc 9223372036854775808)))
def k_lor (S : kS) (pc : Nat) (kl : kLs) (kt : List kV) : Option (List kR) := match kt with
  | (1, y) :: (1, x) :: t => k_mej S (k_lorw x) y (pc + 1) kl t
  | _ => none
theorem k_lor_ok (h : kRS N σ S M) (hM : kMem D M) (hl : kRL E S.1.length σ kl ls) (ht : kRT E S.1.length σ kt st) (hL : k_lor S pc kl kt = some L) : kTo E N mods D S.1.length σ M L (pm_l2 (fun x y => x ||| y) pc ls st M) := by
  unfold k_lor at hL
  split at hL
  · rename_i ey ex t
    obtain ⟨y, r, rfl, s2, e2, ht1⟩ := ht.lng
    obtain ⟨x, r, rfl, s1, e1, ht2⟩ := ht1.lng
    refine ⟨_, rfl, k_mej_ok h hM hl ht2 (kSc_sub kSc_c (kSc_mul (kSc_add s1 kSc_c))) s2 (fun v => ?_) hL⟩
    have e : k_ev σ (k_lorw ex) = -(15 + 16 * (4 + 8 * (2 + 8 * (k_ev σ ex + 9223372036854775808)))) := by
      unfold k_lorw
      rw [k_ev_sub, k_ev_c, k_ev_mul, k_ev_add, k_ev_c]
      omega
    have hx := (kJ_rng x).1
    rw [e1] at hx
    unfold kJ0 at hx
    rw [show k_sub (kc (-335)) (k_mul 1024 (k_add ex (kc 9223372036854775808))) = k_lorw ex from rfl, k_h4 (Q := 2 + 8 * (k_ev σ ex + 9223372036854775808)) e (by omega)]
    unfold kLf
    rw [show decide ((2 + 8 * (k_ev σ ex + 9223372036854775808)) % 8 = 0) = false from decide_eq_false (by omega), show decide ((2 + 8 * (k_ev σ ex + 9223372036854775808)) % 8 = 1) = false from decide_eq_false (by omega), show decide ((2 + 8 * (k_ev σ ex + 9223372036854775808)) % 8 = 2) = true from decide_eq_true (by omega), cond_false, cond_false, cond_true, show (2 + 8 * (k_ev σ ex + 9223372036854775808)) / 8 - 9223372036854775808 = k_ev σ ex by omega, ← e1, ← e2, Int64.ofInt_toInt, Int64.ofInt_toInt]
  · cases hL
/-! bytes of a long -/
theorem kL_nat (x : Int64) : x.toBitVec.toNat < 18446744073709551616 ∧ ((x.toInt = (x.toBitVec.toNat : Int) ∧ 2 * x.toBitVec.toNat < 18446744073709551616) ∨ (x.toInt = (x.toBitVec.toNat : Int) - 18446744073709551616 ∧ 18446744073709551616 ≤ 2 * x.toBitVec.toNat)) := by
  have e : x.toInt = x.toBitVec.toInt := rfl
  have h1 := x.toBitVec.isLt
  rw [e, BitVec.toInt_eq_toNat_cond]
  refine ⟨h1, ?_⟩
  split
  · rename_i h2
    exact Or.inl ⟨rfl, h2⟩
  · rename_i h2
    exact Or.inr ⟨by omega, by omega⟩
def kLsr (x : Int64) (y : Int32) : Int64 := (x.toUInt64 >>> (y.toInt64.toUInt64 &&& Int64.toUInt64 63)).toInt64
theorem kL_sh {x : Int64} {y : Int32} {k : Nat} (hk : k ≤ 7) (hy : y.toInt = 8 * (k : Int)) : (kLsr x y).toBitVec.toNat = x.toBitVec.toNat / 256 ^ k := by
  have e : (kLsr x y).toBitVec.toNat = (x.toUInt64 >>> (y.toInt64.toUInt64 &&& Int64.toUInt64 63)).toNat := rfl
  rw [e, UInt64.toNat_shiftRight, Nat.shiftRight_eq_div_pow]
  have ex : x.toUInt64.toNat = x.toBitVec.toNat := rfl
  rw [ex]
  match k, hk, hy with
  | 0, _, hy =>
    have : y = Int32.ofInt 0 := Int32.toInt_inj.mp (by rw [hy]; rfl)
    subst this
    rfl
  | 1, _, hy =>
    have : y = Int32.ofInt 8 := Int32.toInt_inj.mp (by rw [hy]; rfl)
    subst this
    rfl
  | 2, _, hy =>
    have : y = Int32.ofInt 16 := Int32.toInt_inj.mp (by rw [hy]; rfl)
    subst this
    rfl
  | 3, _, hy =>
    have : y = Int32.ofInt 24 := Int32.toInt_inj.mp (by rw [hy]; rfl)
    subst this
    rfl
  | 4, _, hy =>
    have : y = Int32.ofInt 32 := Int32.toInt_inj.mp (by rw [hy]; rfl)
    subst this
    rfl
  | 5, _, hy =>
    have : y = Int32.ofInt 40 := Int32.toInt_inj.mp (by rw [hy]; rfl)
    subst this
    rfl
  | 6, _, hy =>
    have : y = Int32.ofInt 48 := Int32.toInt_inj.mp (by rw [hy]; rfl)
    subst this
    rfl
  | 7, _, hy =>
    have : y = Int32.ofInt 56 := Int32.toInt_inj.mp (by rw [hy]; rfl)
    subst this
    rfl
theorem kL_by {x : Int64} {k : Nat} : ((x.toBitVec.toNat / 256 ^ k % 256 : Nat) : Int) = kByt k x.toInt := by
  unfold kByt
  have h := kL_nat x
  have e : x.toInt % 18446744073709551616 = (x.toBitVec.toNat : Int) := by omega
  rw [e, Int.natCast_emod, Int.natCast_ediv, Int.natCast_pow]
  rfl
theorem kL_b1 {x : Int64} {y : Int32} {k : Nat} (hk : k ≤ 7) (hy : y.toInt = 8 * (k : Int)) : ((kLsr x y).toInt32.toInt8.toInt32).toInt = kSgb (kByt k x.toInt) := by
  have h := kL_sh (x := x) hk hy
  have hb := kL_by (x := x) (k := k)
  rw [← h] at hb
  rw [Int8.toInt_toInt32, Int32.toInt_toInt8, Int64.toInt_toInt32, Int.bmod_def, Int.bmod_def, ← hb]
  have hz := kL_nat (kLsr x y)
  generalize (kLsr x y).toBitVec.toNat = u at hz hb ⊢
  generalize (kLsr x y).toInt = v at hz ⊢
  unfold kSgb
  omega
theorem kL_b2 {x z : Int64} {y : Int32} {k : Nat} (hk : k ≤ 7) (hy : y.toInt = 8 * (k : Int)) (hz : z.toInt = 255) : ((kLsr x y &&& z).toInt32).toInt = kByt k x.toInt := by
  have h := kL_sh (x := x) hk hy
  have hb := kL_by (x := x) (k := k)
  rw [← h] at hb
  have zn := kL_nat z
  have z255 : z.toBitVec.toNat = 2 ^ 8 - 1 := by omega
  have e : (kLsr x y &&& z).toBitVec.toNat = (kLsr x y).toBitVec.toNat % 256 := by
    rw [Int64.toBitVec_and, BitVec.toNat_and, z255, Nat.and_two_pow_sub_one_eq_mod]
  have an := kL_nat (kLsr x y &&& z)
  rw [Int64.toInt_toInt32, Int.bmod_def, ← hb]
  omega
/-- a shift by bytes, and the byte taken -/
def k_flw (me : pmMe) (pc : Nat) : Nat := match pm_lc me.2.2.2.2.2.2.2 (pc + 1) with
  | some (.l2i, 1) => (match pm_lc me.2.2.2.2.2.2.2 (pc + 2) with
    | some (.i2b, 1) => 1
    | _ => 0)
  | some (.ldc2_w j, 3) => (match pm_tl pmKT me.1 j with
    | some (.long z, _) => (match pm_lc me.2.2.2.2.2.2.2 (pc + 4) with
      | some (.land, 1) => (match pm_lc me.2.2.2.2.2.2.2 (pc + 5) with
        | some (.l2i, 1) => cond (decide (z.toInt = 255)) 2 0
        | _ => 0)
      | _ => 0)
    | _ => 0)
  | _ => 0
def k_flf (S : kS) (w : kE) (pc : Nat) (kl : kLs) (t : List kV) : List kR := (match k_asm S (k_sub (kc 127) w) with
    | some U => [(U, pc, kl, (0, w) :: t)]
    | none => []) ++ (match k_asm S (k_sub w (kc 128)) with
    | some U => [(U, pc, kl, (0, k_sub w (kc 256)) :: t)]
    | none => [])
def k_flg (S : kS) (me : pmMe) (pc : Nat) (kl : kLs) (k x : kE) (t : List kV) : Option (List kR) := match k_flw me pc with
  | 1 => some (k_flf (k_mem S (k_opc k) x 0 255).2 (k_mem S (k_opc k) x 0 255).1 (pc + 3) kl t)
  | 2 => some [((k_mem S (k_opc k) x 0 255).2, pc + 6, kl, (0, (k_mem S (k_opc k) x 0 255).1) :: t)]
  | _ => none
def k_luf (S : kS) (me : pmMe) (q : Instr × Nat) (pc : Nat) (kl : kLs) (kt : List kV) : Option (List kR) := match q with
  | (.lushr, 1) => (match kt with
    | (0, y) :: (1, x) :: t => cond (k_eq (k_mul 8 (k_dv 8 y)) y && k_fiS S 0 7 (k_dv 8 y)) (k_flg S me pc kl (k_dv 8 y) x t) none
    | _ => none)
  | _ => none
theorem k_flf_ok (h : kRS N σ S M) (hM : kMem D M) (hl : kRL E S.1.length σ kl ls) (ht : kRT E S.1.length σ kt st) {w : kE} {v : Int32} (hw : kSc S.1.length w) (hv : v.toInt = kSgb (k_ev σ w)) : kNx E N mods D S.1.length σ M (k_flf S w pc kl kt) (pc, ls, .int v :: st, M) := by
  unfold kSgb at hv
  by_cases h1 : k_ev σ w ≤ 127
  · rw [if_pos h1] at hv
    obtain ⟨T, a1, a2, a3⟩ := k_asm_ok h (e := k_sub (kc 127) w) (kSc_sub kSc_c hw) (by rw [k_ev_sub, k_ev_c]; omega)
    refine ⟨(T, pc, kl, (0, w) :: kt), ?_, σ, fun _ _ => rfl, by rw [a2]; exact Nat.le_refl _, a3, rfl, by rw [a2]; exact hl, by rw [a2]; exact ⟨⟨hw, v, rfl, hv⟩, ht⟩, kSame.rf, hM⟩
    unfold k_flf
    rw [a1]
    exact List.mem_append_left _ (List.mem_singleton.mpr rfl)
  · rw [if_neg h1] at hv
    obtain ⟨T, a1, a2, a3⟩ := k_asm_ok h (e := k_sub w (kc 128)) (kSc_sub hw kSc_c) (by rw [k_ev_sub, k_ev_c]; omega)
    refine ⟨(T, pc, kl, (0, k_sub w (kc 256)) :: kt), ?_, σ, fun _ _ => rfl, by rw [a2]; exact Nat.le_refl _, a3, rfl, by rw [a2]; exact hl, by rw [a2]; exact ⟨⟨kSc_sub hw kSc_c, v, rfl, by rw [k_ev_sub, k_ev_c]; exact hv⟩, ht⟩, kSame.rf, hM⟩
    unfold k_flf
    rw [a1]
    exact List.mem_append_right _ (List.mem_singleton.mpr rfl)
theorem k_opc_sc {n : Nat} {j : kE} (h : kSc n j) : kSc n (k_opc j) := kSc_sub kSc_c (kSc_mul h)
theorem k_opc_h {j x : kE} (hj : 0 ≤ k_ev σ j) (v : Int) : kHas N M (k_ev σ (k_opc j)) (k_ev σ x) v ↔ kByt (k_ev σ j).toNat (k_ev σ x) = v := by
  have e : k_ev σ (k_opc j) = -(15 + 16 * (4 + 8 * (3 + 8 * k_ev σ j))) := by
    unfold k_opc
    rw [k_ev_sub, k_ev_c, k_ev_mul]
    omega
  rw [k_h4 (Q := 3 + 8 * k_ev σ j) e (by omega)]
  unfold kLf
  rw [show decide ((3 + 8 * k_ev σ j) % 8 = 0) = false from decide_eq_false (by omega), show decide ((3 + 8 * k_ev σ j) % 8 = 1) = false from decide_eq_false (by omega), show decide ((3 + 8 * k_ev σ j) % 8 = 2) = false from decide_eq_false (by omega), cond_false, cond_false, cond_false, show (3 + 8 * k_ev σ j) / 8 = k_ev σ j by omega]
/-- places where 'unlike' is split in two -/
def k_spp (y pc : Nat) : Bool := Nat.beq y 85 && (Nat.beq pc 5 || (Nat.beq pc 21 || Nat.beq pc 52))
def k_cns (S : kS) (c : ClassFile.Cond) (d : kE) (tgt : Nat) (kl : kLs) (kt : List kV) : List kR := match c with
  | .ne => k_sel S .lt d tgt kl kt ++ k_sel S .gt d tgt kl kt
  | c => k_sel S c d tgt kl kt
def k_brs (S : kS) (c : ClassFile.Cond) (d : kE) (tgt nx : Nat) (kl : kLs) (kt : List kV) : List kR := k_cns S c d tgt kl kt ++ k_cns S (k_ng c) d nx kl kt
theorem k_cns_ok {c : ClassFile.Cond} {d : kE} {tgt : Nat} {Ls : List kR} (h : kRS N σ S M) (hM : kMem D M) (hl : kRL E S.1.length σ kl ls) (ht : kRT E S.1.length σ kt st) (hs : kSc S.1.length d) (hc : k_cT c (k_ev σ d)) (hin : ∀ r ∈ k_cns S c d tgt kl kt, r ∈ Ls) : kNx E N mods D S.1.length σ M Ls (tgt, ls, st, M) := by
  cases c with
  | ne =>
    have hc : k_ev σ d ≠ 0 := hc
    by_cases hlt : k_ev σ d < 0
    · exact k_sel_ok (c := .lt) h hM hl ht hs hlt (fun r hr => hin r (List.mem_append_left _ hr))
    · exact k_sel_ok (c := .gt) h hM hl ht hs (by show 0 < k_ev σ d; omega) (fun r hr => hin r (List.mem_append_right _ hr))
  | eq => exact k_sel_ok (c := .eq) h hM hl ht hs hc hin
  | lt => exact k_sel_ok (c := .lt) h hM hl ht hs hc hin
  | ge => exact k_sel_ok (c := .ge) h hM hl ht hs hc hin
  | gt => exact k_sel_ok (c := .gt) h hM hl ht hs hc hin
  | le => exact k_sel_ok (c := .le) h hM hl ht hs hc hin
theorem k_brs_ok {c : ClassFile.Cond} {d : kE} {tgt nx : Nat} {b : Bool} (h : kRS N σ S M) (hM : kMem D M) (hl : kRL E S.1.length σ kl ls) (ht : kRT E S.1.length σ kt st) (hs : kSc S.1.length d) (hb : b = true ↔ k_cT c (k_ev σ d)) : kNx E N mods D S.1.length σ M (k_brs S c d tgt nx kl kt) (cond b tgt nx, ls, st, M) := by
  cases b with
  | true => exact k_cns_ok h hM hl ht hs (hb.mp rfl) (fun r hr => List.mem_append_left _ hr)
  | false => exact k_cns_ok (c := k_ng c) h hM hl ht hs (k_ng_T (fun q => by have := hb.mpr q; cases this)) (fun r hr => List.mem_append_right _ hr)
def k_spl2 (S : kS) (q : Instr × Nat) (pc : Nat) (kl : kLs) (kt : List kV) : Option (List kR) := match q with
  | (.ifCond c off, n) => cond (Nat.beq n 3 && decide (0 ≤ (pc : Int) + off)) (k_un (fun x t => some (k_brs S c x ((pc : Int) + off).toNat (pc + 3) kl t)) kt) none
  | (.if_icmp c off, n) => cond (Nat.beq n 3 && decide (0 ≤ (pc : Int) + off)) (k_bi (fun x y t => some (k_brs S c (k_sub x y) ((pc : Int) + off).toNat (pc + 3) kl t)) kt) none
  | _ => none
end KMM
end
