noncomputable section
/-! longs of sets, bits: steps remembered -/
theorem kI_and1 (a : Int32) : (a &&& 1).toInt = a.toInt % 2 := by
  have e : (a &&& 1).toBitVec.toNat = a.toBitVec.toNat % 2 := by
    rw [Int32.toBitVec_and, BitVec.toNat_and]
    exact Nat.and_one_is_mod _
  have h1 := a.toBitVec.isLt
  have h2 : a.toInt = a.toBitVec.toInt := rfl
  have h3 : a.toInt % 2 = ((a.toBitVec.toNat % 2 : Nat) : Int) := by
    rw [h2, BitVec.toInt_eq_toNat_cond]
    split <;> omega
  rw [kI_ofn (x := a &&& 1) (by omega), e, h3]
theorem kI_b1 {x y : Int32} {u : Nat} (hu : u < 32) (hy : y.toInt = (u : Int)) : ((x >>> (y &&& 31)) &&& 1).toInt = kBt u x.toInt := by
  have key : ∀ v : Fin 32, ((Int32.ofInt ((v.val : Nat) : Int) &&& 31).toBitVec.smod 32).toNat = v.val := by decide +kernel
  have ey : y = Int32.ofInt (u : Int) := Int32.toInt_inj.mp (by rw [hy]; exact (Int32.toInt_ofInt_of_le (by omega) (by omega)).symm)
  rw [kI_and1, kI_shr, ey, key ⟨u, hu⟩]
  unfold kBt
  rw [Int.natCast_pow]
  rfl
theorem kI_bt (x : Int32) {u : Nat} (hu : u < 32) : kBt u x.toInt = cond (x.toBitVec.getLsbD u) 1 0 := by
  have h1 := x.toBitVec.isLt
  have h2 : x.toInt = x.toBitVec.toInt := rfl
  have hn : kBt u x.toInt = kBt u ((x.toBitVec.toNat : Nat) : Int) := by
    rw [h2, BitVec.toInt_eq_toNat_cond]
    split
    · rfl
    · unfold kBt
      have e : ((2 ^ 32 : Nat) : Int) = 2 ^ (31 - u) * 2 * 2 ^ u := by
        rw [← Int.pow_succ, ← Int.pow_add, show 31 - u + 1 + u = 32 by omega]
        rfl
      have hp : (2 : Int) ^ u ≠ 0 := by
        have := Int.pow_pos (n := 2) (m := u) (by omega)
        omega
      rw [e, Int.sub_mul_ediv_right _ _ hp]
      omega
  rw [hn, kBt_nat]
  rfl
def kLs1 (x : Int64) (y : Int32) : Int64 := kLsr x y &&& 1
theorem kL_shn {x : Int64} {y : Int32} {u : Nat} (hu : u < 64) (hy : y.toInt = (u : Int)) : (kLsr x y).toBitVec.toNat = x.toBitVec.toNat / 2 ^ u := by
  have key : ∀ v : Fin 64, ((Int32.ofInt ((v.val : Nat) : Int)).toInt64.toUInt64 &&& Int64.toUInt64 63).toNat % 64 = v.val := by decide +kernel
  have ey : y = Int32.ofInt (u : Int) := Int32.toInt_inj.mp (by rw [hy]; exact (Int32.toInt_ofInt_of_le (by omega) (by omega)).symm)
  have e : (kLsr x y).toBitVec.toNat = (x.toUInt64 >>> (y.toInt64.toUInt64 &&& Int64.toUInt64 63)).toNat := rfl
  rw [e, UInt64.toNat_shiftRight, ey, key ⟨u, hu⟩, Nat.shiftRight_eq_div_pow]
  rfl
theorem kL_and1 (a : Int64) : (a &&& 1).toInt = ((a.toBitVec.toNat % 2 : Nat) : Int) := by
  have e : (a &&& 1).toBitVec.toNat = a.toBitVec.toNat % 2 := by
    rw [Int64.toBitVec_and, BitVec.toNat_and]
    exact Nat.and_one_is_mod _
  have h := kL_nat (a &&& 1)
  rw [e] at h
  omega
theorem kL_bit {x : Int64} {y : Int32} {u : Nat} {j : Nat} {X : Int} (hX : 0 ≤ X) (hu : u < 64) (hy : y.toInt = (u : Int)) (hx : x.toInt = kWd j X) : (kLsr x y &&& 1).toInt = kBt (64 * j + u) X := by
  have eb : x.toBitVec = kWv j X := BitVec.toInt_inj.mp (by unfold kWd at hx; exact hx)
  rw [kL_and1, kL_shn hu hy, eb, kBt_of hX, show X.toNat.testBit (64 * j + u) = (kWv j X).getLsbD u by rw [kWv_bit, decide_eq_true hu, Bool.true_and]]
  have t : (kWv j X).getLsbD u = (kWv j X).toNat.testBit u := rfl
  rw [t, Nat.testBit_eq_decide_div_mod_eq]
  have h : (kWv j X).toNat / 2 ^ u % 2 = 0 ∨ (kWv j X).toNat / 2 ^ u % 2 = 1 := by
    generalize (kWv j X).toNat / 2 ^ u = z
    omega
  rcases h with h | h
  · rw [h]
    rfl
  · rw [h]
    rfl
theorem kWd_rg (j : Nat) (X : Int) : kJ0 ≤ kWd j X ∧ kWd j X ≤ kJ1 := kJ_rng (Int64.ofBitVec (kWv j X))
section KOP
variable {E : pM} {N : kN} {mods : List kMd} {D : kDD} {X : List kDe} {σ : Nat → Int} {M : pM} {S : kS} {kl : kLs} {kt : List kV} {ls : pL} {st : List Value} {pc : Nat} {L : List kR}
/-- which longs of which sets a word is -/
def k_wds (S : kS) (x : kE) : List (kE × kE) := S.2.2.2.filterMap (fun q => cond (k_qm 974 q.1.1 && (k_q16 0 q.1.1 && k_wq q.2 x)) (match k_fnn S q with
  | some z => cond (Nat.beq z.1 7 && (k_geS S z.2 && k_bgR S q.1.2)) (some (z.2, q.1.2)) none
  | none => none) none)
theorem k_wds_ok (h : kRS N σ S M) {x : kE} {p : kE × kE} (hp : p ∈ k_wds S x) : (kSc S.1.length p.1 ∧ kSc S.1.length p.2) ∧ 0 ≤ k_ev σ p.1 ∧ (0 ≤ k_ev σ p.2 ∧ k_ev σ p.2 < kBg) ∧ kWd (k_ev σ p.1).toNat (k_ev σ p.2) = k_ev σ x := by
  unfold k_wds at hp
  obtain ⟨q, hq, hp⟩ := List.mem_filterMap.mp hp
  obtain ⟨g, hp⟩ := pm_cs hp
  simp only [Bool.and_eq_true] at g
  have ex := k_wq_ok g.2.2
  split at hp
  · rename_i z hz
    obtain ⟨g2, hp⟩ := pm_cs hp
    cases hp
    simp only [Bool.and_eq_true] at g2
    obtain ⟨z1, z2⟩ := k_fnn_ok h hq hz
    rw [pm_beq g2.1, ex] at z2
    exact ⟨⟨z1, (h.2.2.2.2.2.2.2 q hq).2.1⟩, k_ge_ok h.2.1 h.2.2.1 g2.2.1, k_bgR_ok h g2.2.2, z2⟩
  · cases hp
def k_lpr (S : kS) (x y : kE) : Option (kE × kE × kE) := (k_wds S x).findSome? (fun p => (k_wds S y).findSome? (fun r => cond (k_eqS S r.1 p.1) (some (p.1, p.2, r.2)) none))
theorem k_lpr_ok (h : kRS N σ S M) {x y : kE} {p : kE × kE × kE} (hp : k_lpr S x y = some p) : (kSc S.1.length p.1 ∧ kSc S.1.length p.2.1 ∧ kSc S.1.length p.2.2) ∧ 0 ≤ k_ev σ p.1 ∧ ((0 ≤ k_ev σ p.2.1 ∧ k_ev σ p.2.1 < kBg) ∧ 0 ≤ k_ev σ p.2.2 ∧ k_ev σ p.2.2 < kBg) ∧ kWd (k_ev σ p.1).toNat (k_ev σ p.2.1) = k_ev σ x ∧ kWd (k_ev σ p.1).toNat (k_ev σ p.2.2) = k_ev σ y := by
  unfold k_lpr at hp
  obtain ⟨u, hu, hp⟩ := List.exists_of_findSome?_eq_some hp
  obtain ⟨r, hr, hp⟩ := List.exists_of_findSome?_eq_some hp
  obtain ⟨g, hp⟩ := pm_cs hp
  cases hp
  obtain ⟨⟨u1, u2⟩, u3, u4, u5⟩ := k_wds_ok h hu
  obtain ⟨⟨r1, r2⟩, r3, r4, r5⟩ := k_wds_ok h hr
  rw [k_eqv_ok h.2.1 h.2.2.1 g] at r5
  exact ⟨⟨u1, u2, r2⟩, u3, ⟨u4, r4⟩, u5, r5⟩
/-- a long of a set that is made of two -/
def k_l2r (S : kS) (o : Int) (p : kE × kE × kE) : kE × kS := k_mem (k_mem S (k_fop o p.2.1) p.2.2 0 (kPw 4096 - 1)).2 (k_ff7 0 p.1) (k_mem S (k_fop o p.2.1) p.2.2 0 (kPw 4096 - 1)).1 kJ0 kJ1
theorem k_l2r_ok (h : kRS N σ S M) {o : Int} (ho : o = 4 ∨ o = 5) {p : kE × kE × kE} (sp : kSc S.1.length p.1 ∧ kSc S.1.length p.2.1 ∧ kSc S.1.length p.2.2) (j0 : 0 ≤ k_ev σ p.1) (rg : (0 ≤ k_ev σ p.2.1 ∧ k_ev σ p.2.1 < kBg) ∧ 0 ≤ k_ev σ p.2.2 ∧ k_ev σ p.2.2 < kBg) : ∃ τ, kAgr S.1.length σ τ ∧ S.1.length ≤ (k_l2r S o p).2.1.length ∧ kRS N τ (k_l2r S o p).2 M ∧ k_ev τ (k_l2r S o p).1 = kWd (k_ev σ p.1).toNat (kLf2 o (k_ev σ p.2.1) (k_ev σ p.2.2)) ∧ kSc (k_l2r S o p).2.1.length (k_l2r S o p).1 := by
  obtain ⟨s1, s2, s3⟩ := sp
  have hb := kPw_bg
  have r : 0 ≤ kLf2 o (k_ev σ p.2.1) (k_ev σ p.2.2) ∧ kLf2 o (k_ev σ p.2.1) (k_ev σ p.2.2) < kBg := by
    rcases ho with rfl | rfl
    · exact kAnd_rg rg.1.1 rg.1.2
    · exact kOr_rg rg.1.1 rg.1.2 rg.2.1 rg.2.2
  obtain ⟨τ, t1, t2, t3, t4, t5⟩ := k_mef_ok (o := o) (x := p.2.1) (k := p.2.2) (lo := 0) (hi := kPw 4096 - 1) h s2 s3 (by omega) (by omega) rg.1.1 r.1 (by rw [hb]; omega)
  have ej : k_ev τ p.1 = k_ev σ p.1 := k_ev_agree t1 s1
  obtain ⟨b1, b2⟩ := kWd_rg (k_ev σ p.1).toNat (kLf2 o (k_ev σ p.2.1) (k_ev σ p.2.2))
  obtain ⟨υ, u1, u2, u3, u4, u5⟩ := k_me7_ok (z := 0) (u := p.1) (k := (k_mem S (k_fop o p.2.1) p.2.2 0 (kPw 4096 - 1)).1) (lo := kJ0) (hi := kJ1) t3 (s1.mono t2) t5 (by omega) (by omega) (by rw [ej]; exact j0) (by rw [ej, t4]; exact b1) (by rw [ej, t4]; exact b2)
  rw [ej, t4] at u4
  exact ⟨υ, fun b hb' => (u1 b (Nat.lt_of_lt_of_le hb' t2)).trans (t1 b hb'), Nat.le_trans t2 u2, u3, u4, u5⟩
def k_psj (r : kE × kS) (pc : Nat) (kl : kLs) (t : List kV) : List kR := [(r.2, pc, kl, (1, r.1) :: t)]
theorem kNx.psj (hM : kMem D M) (hl : kRL E S.1.length σ kl ls) (ht : kRT E S.1.length σ kt st) {r : kE × kS} {x : Int64} {τ : Nat → Int} (t1 : kAgr S.1.length σ τ) (t2 : S.1.length ≤ r.2.1.length) (t3 : kRS N τ r.2 M) (t4 : k_ev τ r.1 = x.toInt) (t5 : kSc r.2.1.length r.1) : kNx E N mods D S.1.length σ M (k_psj r pc kl kt) (pc, ls, .long x :: st, M) := ⟨_, List.mem_singleton.mpr rfl, τ, t1, t2, t3, rfl, hl.agr t1 t2, ⟨⟨t5, x, rfl, t4.symm⟩, ht.agr t1 t2⟩, kSame.rf, hM⟩
def k_psi (r : kE × kS) (pc : Nat) (kl : kLs) (t : List kV) : List kR := [(r.2, pc, kl, (0, r.1) :: t)]
theorem kNx.psi (hM : kMem D M) (hl : kRL E S.1.length σ kl ls) (ht : kRT E S.1.length σ kt st) {r : kE × kS} {x : Int32} {τ : Nat → Int} (t1 : kAgr S.1.length σ τ) (t2 : S.1.length ≤ r.2.1.length) (t3 : kRS N τ r.2 M) (t4 : k_ev τ r.1 = x.toInt) (t5 : kSc r.2.1.length r.1) : kNx E N mods D S.1.length σ M (k_psi r pc kl kt) (pc, ls, .int x :: st, M) := ⟨_, List.mem_singleton.mpr rfl, τ, t1, t2, t3, rfl, hl.agr t1 t2, ⟨⟨t5, x, rfl, t4.symm⟩, ht.agr t1 t2⟩, kSame.rf, hM⟩
theorem kJ_toW {x : Int64} {j : Nat} {A : Int} (h : kWd j A = x.toInt) : x = Int64.ofBitVec (kWv j A) := by
  have : x.toInt = (Int64.ofBitVec (kWv j A)).toInt := h.symm
  exact Int64.toInt_inj.mp this
/-- functions of two longs, of one kind: 8, 9 -/
def k_lfx (S : kS) (z : Int) (x y : kE) : kE × kS := k_mem S (k_ff7 z (k_add x (kc 9223372036854775808))) y kJ0 kJ1
theorem k_lfx_ok (h : kRS N σ S M) {z : Int} (hz : z = 8 ∨ z = 9) {ex ey : kE} {x y w : Int64} (s1 : kSc S.1.length ex) (s2 : kSc S.1.length ey) (e1 : x.toInt = k_ev σ ex) (e2 : y.toInt = k_ev σ ey) (hw : kLf4 z (k_ev σ ex + 9223372036854775808) (k_ev σ ey) = w.toInt) : ∃ τ, kAgr S.1.length σ τ ∧ S.1.length ≤ (k_lfx S z ex ey).2.1.length ∧ kRS N τ (k_lfx S z ex ey).2 M ∧ k_ev τ (k_lfx S z ex ey).1 = w.toInt ∧ kSc (k_lfx S z ex ey).2.1.length (k_lfx S z ex ey).1 := by
  have b := kJ_rng w
  have bx := (kJ_rng x).1
  unfold kJ0 at bx
  have ea : k_ev σ (k_add ex (kc 9223372036854775808)) = k_ev σ ex + 9223372036854775808 := by rw [k_ev_add, k_ev_c]
  have g := k_me7_ok (z := z) (u := k_add ex (kc 9223372036854775808)) (k := ey) (lo := kJ0) (hi := kJ1) h (kSc_add s1 kSc_c) s2 (by omega) (by omega) (by rw [ea]; omega) (by rw [ea, hw]; exact b.1) (by rw [ea, hw]; exact b.2)
  rw [ea, hw] at g
  exact g
def k_lanT (S : kS) (pc : Nat) (kl : kLs) (kt : List kV) : Option (List kR) := match kt with
  | (1, y) :: (1, x) :: t => (match k_lpr S x y with
    | some p => some (k_psj (k_l2r S 4 p) (pc + 1) kl t)
    | none => some (k_psj (k_lfx S 8 x y) (pc + 1) kl t))
  | _ => none
theorem k_lanT_ok (h : kRS N σ S M) (hM : kMem D M) (hl : kRL E S.1.length σ kl ls) (ht : kRT E S.1.length σ kt st) (hL : k_lanT S pc kl kt = some L) : kTo E N mods D S.1.length σ M L (pm_l2 (fun x y => x &&& y) pc ls st M) := by
  unfold k_lanT at hL
  split at hL
  · rename_i ey ex t
    obtain ⟨y, r, rfl, s2, e2, ht1⟩ := ht.lng
    obtain ⟨x, r, rfl, s1, e1, ht2⟩ := ht1.lng
    refine ⟨_, rfl, ?_⟩
    split at hL
    · rename_i p hp
      cases hL
      obtain ⟨sp, j0, rg, ex', ey'⟩ := k_lpr_ok h hp
      obtain ⟨τ, t1, t2, t3, t4, t5⟩ := k_l2r_ok h (o := 4) (Or.inl rfl) sp j0 rg
      refine kNx.psj hM hl ht2 t1 t2 t3 (t4.trans ?_) t5
      rw [kLf2_4, kJ_toW (ex'.trans e1.symm), kJ_toW (ey'.trans e2.symm)]
      unfold kWd
      rw [kWv_and]
      rfl
    · cases hL
      obtain ⟨τ, t1, t2, t3, t4, t5⟩ := k_lfx_ok (w := x &&& y) h (z := 8) (Or.inl rfl) s1 s2 e1 e2 (by
        show (Int64.ofInt (k_ev σ ex + 9223372036854775808 - 9223372036854775808) &&& Int64.ofInt (k_ev σ ey)).toInt = _
        rw [show k_ev σ ex + 9223372036854775808 - 9223372036854775808 = k_ev σ ex by omega, ← e1, ← e2, Int64.ofInt_toInt, Int64.ofInt_toInt])
      exact kNx.psj hM hl ht2 t1 t2 t3 t4 t5
  · cases hL
def k_lorT (S : kS) (pc : Nat) (kl : kLs) (kt : List kV) : Option (List kR) := match kt with
  | (1, y) :: (1, x) :: t => (match k_lpr S x y with
    | some p => some (k_psj (k_l2r S 5 p) (pc + 1) kl t)
    | none => k_lor S pc kl ((1, y) :: (1, x) :: t))
  | _ => none
theorem k_lorT_ok (h : kRS N σ S M) (hM : kMem D M) (hl : kRL E S.1.length σ kl ls) (ht : kRT E S.1.length σ kt st) (hL : k_lorT S pc kl kt = some L) : kTo E N mods D S.1.length σ M L (pm_l2 (fun x y => x ||| y) pc ls st M) := by
  unfold k_lorT at hL
  split at hL
  · rename_i ey ex t
    split at hL
    · rename_i p hp
      obtain ⟨y, r, rfl, s2, e2, ht1⟩ := ht.lng
      obtain ⟨x, r, rfl, s1, e1, ht2⟩ := ht1.lng
      refine ⟨_, rfl, ?_⟩
      cases hL
      obtain ⟨sp, j0, rg, ex', ey'⟩ := k_lpr_ok h hp
      obtain ⟨τ, t1, t2, t3, t4, t5⟩ := k_l2r_ok h (o := 5) (Or.inr rfl) sp j0 rg
      refine kNx.psj hM hl ht2 t1 t2 t3 (t4.trans ?_) t5
      rw [kLf2_5, kJ_toW (ex'.trans e1.symm), kJ_toW (ey'.trans e2.symm)]
      unfold kWd
      rw [kWv_or]
      rfl
    · exact k_lor_ok h hM hl ht hL
  · cases hL
def k_lxoT (S : kS) (pc : Nat) (kl : kLs) (kt : List kV) : Option (List kR) := match kt with
  | (1, y) :: (1, x) :: t => (match cond (k_wq y (kc (-1))) (k_wds S x) [] with
    | p :: _ => cond (k_geS S (k_sub (kc 63) p.1)) (some (k_psj (k_mem S (k_ff7 0 p.1) (k_sub (kc (kPw 4096 - 1)) p.2) kJ0 kJ1) (pc + 1) kl t)) none
    | [] => some (k_psj (k_lfx S 9 x y) (pc + 1) kl t))
  | _ => none
theorem k_lxoT_ok (h : kRS N σ S M) (hM : kMem D M) (hl : kRL E S.1.length σ kl ls) (ht : kRT E S.1.length σ kt st) (hL : k_lxoT S pc kl kt = some L) : kTo E N mods D S.1.length σ M L (pm_l2 (fun x y => x ^^^ y) pc ls st M) := by
  unfold k_lxoT at hL
  split at hL
  · rename_i ey ex t
    obtain ⟨y, r, rfl, s2, e2, ht1⟩ := ht.lng
    obtain ⟨x, r, rfl, s1, e1, ht2⟩ := ht1.lng
    refine ⟨_, rfl, ?_⟩
    split at hL
    · rename_i p rest hp
      obtain ⟨g, hL⟩ := pm_cs hL
      cases hL
      have g := k_ge_ok h.2.1 h.2.2.1 g
      rw [k_ev_sub, k_ev_c] at g
      cases c1 : k_wq ey (kc (-1)) with
      | false =>
        rw [c1, cond_false] at hp
        cases hp
      | true =>
        rw [c1, cond_true] at hp
        obtain ⟨⟨p1, p2⟩, p3, p4, p5⟩ := k_wds_ok h (by rw [hp]; exact List.mem_cons_self)
        rw [k_wq_ok c1, k_ev_c] at e2
        have ey1 : y = Int64.ofBitVec (BitVec.allOnes 64) := Int64.toInt_inj.mp (by rw [e2]; decide)
        have hb := kPw_bg
        have eN : k_ev σ (k_sub (kc (kPw 4096 - 1)) p.2) = kBg - 1 - k_ev σ p.2 := by rw [k_ev_sub, k_ev_c, hb]
        obtain ⟨b1, b2⟩ := kWd_rg (k_ev σ p.1).toNat (kBg - 1 - k_ev σ p.2)
        obtain ⟨τ, t1, t2, t3, t4, t5⟩ := k_me7_ok (z := 0) (u := p.1) (k := k_sub (kc (kPw 4096 - 1)) p.2) (lo := kJ0) (hi := kJ1) h p1 (kSc_sub kSc_c p2) (by omega) (by omega) p3 (by rw [eN]; exact b1) (by rw [eN]; exact b2)
        rw [eN] at t4
        refine kNx.psj hM hl ht2 t1 t2 t3 (t4.trans ?_) t5
        show kWd (k_ev σ p.1).toNat (kBg - 1 - k_ev σ p.2) = _
        rw [kJ_toW (p5.trans e1.symm), ey1]
        unfold kWd
        rw [kWv_not (by omega) p4.1 p4.2]
        show _ = (kWv (k_ev σ p.1).toNat (k_ev σ p.2) ^^^ BitVec.allOnes 64).toInt
        rw [BitVec.xor_allOnes]
    · cases hL
      obtain ⟨τ, t1, t2, t3, t4, t5⟩ := k_lfx_ok (w := x ^^^ y) h (z := 9) (Or.inr rfl) s1 s2 e1 e2 (by
        show (Int64.ofInt (k_ev σ ex + 9223372036854775808 - 9223372036854775808) ^^^ Int64.ofInt (k_ev σ ey)).toInt = _
        rw [show k_ev σ ex + 9223372036854775808 - 9223372036854775808 = k_ev σ ex by omega, ← e1, ← e2, Int64.ofInt_toInt, Int64.ofInt_toInt])
      exact kNx.psj hM hl ht2 t1 t2 t3 t4 t5
  · cases hL
def k_lngT (S : kS) (pc : Nat) (kl : kLs) (kt : List kV) : Option (List kR) := match kt with
  | (1, x) :: t => k_lnJ S (k_mul (-1) x) (pc + 1) kl t
  | _ => none
theorem k_lngT_ok (h : kRS N σ S M) (hM : kMem D M) (hl : kRL E S.1.length σ kl ls) (ht : kRT E S.1.length σ kt st) (hL : k_lngT S pc kl kt = some L) : kTo E N mods D S.1.length σ M L (pm_lneg pc ls st M) := by
  unfold k_lngT at hL
  split at hL
  · obtain ⟨x, r, rfl, s1, e1, ht1⟩ := ht.lng
    refine ⟨_, rfl, kNx.lnJ h hM hl ht1 (kSc_mul s1) (fun h1 h2 => ?_) hL⟩
    rw [k_ev_mul, ← e1] at h1 h2 ⊢
    rw [Int64.toInt_neg, show -1 * x.toInt = -x.toInt by omega]
    exact kJ_bmod (by omega) (by omega)
  · cases hL
/-- a long read: of a row whose set is known -/
def k_lkP (S : kS) (c : kE) : Option kE := k_lkf S (k_tc (-1919) c) (kc 64)
def k_in1 (S : kS) (c : kE) (lo hi : Int) : Bool := decide (lo ≤ k_lo S.1 c) && decide (k_hi S.1 c ≤ hi)
def k_rwq (S : kS) (r : kE) (b : Bool) (q : kH) : Bool := match k_ttq S 11 q with
  | some _ => k_geS S (k_sub (k_sub (cond b q.2 q.1.2) (kc 1)) r)
  | none => false
def k_rwp (S : kS) (c r : kE) : kS := k_put (k_put (k_new S 0 (kPw 4096 - 1)).2 ((k_tc (-2047) r, kc 4096), (k_new S 0 (kPw 4096 - 1)).1)) ((k_tc (-1919) c, kc 64), (k_new S 0 (kPw 4096 - 1)).1)
def k_rwo (S : kS) (c : kE) (z : Int) (b : Bool) : Option kS := cond (lany (k_rwq S (k_sub c (kc z)) b) S.2.2.2 && k_geS S (k_sub (kc (z + 15)) c)) (some (k_rwp S c (k_sub c (kc z)))) none
/-- a class's row of which the set is wanted: made, on both sides -/
def k_rwk (S : kS) (c : kE) : kS := match k_lkP S c with
  | some _ => S
  | none => (match cond (k_in1 S c 63 78) (k_rwo S c 63 false) (cond (k_in1 S c 244 259) (k_rwo S c 244 true) none) with
    | some T => T
    | none => S)
theorem k_rwo_ok (h : kRS N σ S M) {c : kE} {z : Int} {b : Bool} {T : kS} (hc : kSc S.1.length c) (hz : z = cond b 244 63) (hcz : z ≤ k_ev σ c) (hT : k_rwo S c z b = some T) : ∃ τ, kAgr S.1.length σ τ ∧ S.1.length ≤ T.1.length ∧ kRS N τ T M := by
  unfold k_rwo at hT
  obtain ⟨g, hT⟩ := pm_cs hT
  obtain rfl : k_rwp S c (k_sub c (kc z)) = T := Option.some.inj hT
  clear hT
  obtain ⟨g1, g2⟩ := Bool.and_eq_true_iff.mp g
  have g2 := k_ge_ok h.2.1 h.2.2.1 g2
  rw [k_ev_sub, k_ev_c] at g2
  have zp : 0 ≤ z := by
    cases b with
    | true =>
      rw [cond_true] at hz
      omega
    | false =>
      rw [cond_false] at hz
      omega
  rw [lany_eq] at g1
  obtain ⟨q, hq, g1⟩ := List.any_eq_true.mp g1
  unfold k_rwq at g1
  split at g1
  · rename_i y hy
    obtain ⟨-, T1, T2⟩ := k_ttq_ok h hq hy
    have g1 := k_ge_ok h.2.1 h.2.2.1 g1
    rw [k_ev_sub, k_ev_sub, k_ev_sub, k_ev_c, k_ev_c] at g1
    have hi : ((k_ev σ c - z).toNat : Int) = k_ev σ c - z := by omega
    have row : kRwS M (cond b 244 63) (k_ev σ c - z).toNat := by
      cases b with
      | true => exact (T2 _ (by omega)).2 (by rw [hi]; rw [cond_true] at g1; omega)
      | false => exact (T2 _ (by omega)).1 (by rw [hi]; rw [cond_false] at g1; omega)
    obtain ⟨W, w0, w1, w2, w3⟩ := row
    have w5 : W ≤ kPw 4096 - 1 := by rw [kPw_bg]; omega
    unfold k_rwp
    generalize kPw 4096 - 1 = B at w5 ⊢
    obtain ⟨τ, t1, t2, t3, t4, t5⟩ := k_new_ok h (lo := 0) (hi := B) (x := W) w0 w5
    have hc' := hc.mono t2
    have ec : k_ev τ c = k_ev σ c := k_ev_agree t1 hc
    refine ⟨τ, t1, t2, kRS_put (kRS_put t3 ⟨k_tc_sc (kSc_sub hc' kSc_c), kSc_c, t5⟩ ?_) ⟨k_tc_sc hc', kSc_c, t5⟩ ?_⟩
    · show kHas N M (k_ev τ (k_tc (-2047) (k_sub c (kc z)))) (k_ev τ (kc 4096)) (k_ev τ (k_new S 0 B).1)
      refine (k_tcH (k := 9) (by omega) ?_).mpr ?_
      · show k_ev τ (k_tc (-2047) (k_sub c (kc z))) < 0
        rw [k_tc_ev, k_ev_sub, k_ev_c, ec]
        omega
      · rw [k_ev_sub, k_ev_c, k_ev_c, ec, t4]
        exact ⟨by omega, w3⟩
    · show kHas N M (k_ev τ (k_tc (-1919) c)) (k_ev τ (kc 64)) (k_ev τ (k_new S 0 B).1)
      refine (k_tcH (k := 1) (by omega) ?_).mpr ?_
      · show k_ev τ (k_tc (-1919) c) < 0
        rw [k_tc_ev, ec]
        omega
      · rw [k_ev_c, ec, t4]
        refine ⟨by omega, ?_⟩
        rw [show (k_ev σ c).toNat = cond b 244 63 + (k_ev σ c - z).toNat by cases b with
          | true =>
            rw [cond_true] at hz ⊢
            omega
          | false =>
            rw [cond_false] at hz ⊢
            omega]
        exact w2
  · cases g1
theorem k_rwk_ok (h : kRS N σ S M) {c : kE} (hc : kSc S.1.length c) : ∃ τ, kAgr S.1.length σ τ ∧ S.1.length ≤ (k_rwk S c).1.length ∧ kRS N τ (k_rwk S c) M := by
  have l1 := k_lo_le h.2.1 c
  have idn : ∃ τ, kAgr S.1.length σ τ ∧ S.1.length ≤ S.1.length ∧ kRS N τ S M := ⟨σ, fun _ _ => rfl, Nat.le_refl _, h⟩
  unfold k_rwk
  split
  · exact idn
  · split
    · rename_i T hT
      cases c1 : k_in1 S c 63 78 with
      | true =>
        rw [c1, cond_true] at hT
        have := of_decide_eq_true (Bool.and_eq_true_iff.mp c1).1
        exact k_rwo_ok (z := 63) (b := false) h hc rfl (by omega) hT
      | false =>
        rw [c1, cond_false] at hT
        obtain ⟨c2, hT⟩ := pm_cs hT
        have := of_decide_eq_true (Bool.and_eq_true_iff.mp c2).1
        exact k_rwo_ok (z := 244) (b := true) h hc rfl (by omega) hT
    · exact idn
/-- an entry of a part of a row -/
def k_lra (S : kS) (c j : kE) (q : kH) : Option kE := match k_ttq S 1 q with
  | some y => cond (k_eqS S y c && k_geS S (k_sub (k_sub q.1.2 (kc 1)) j)) (some q.2) none
  | none => (match k_ttq S 2 q with
    | some y => cond (k_eqS S y c && k_geS S (k_sub j q.1.2)) (some q.2) none
    | none => none)
def k_lrx (S : kS) (c j : kE) : Option kE := match k_lkP S c with
  | some v => cond (k_geS S (k_sub (kc 63) j)) (some v) none
  | none => lfo (k_lra S c j) S.2.2.2
theorem k_lkP_ok (h : kRS N σ S M) {c v : kE} (hv : k_lkP S c = some v) : kSc S.1.length v ∧ 0 ≤ k_ev σ c ∧ kTl M (k_ev σ c).toNat 0 64 (k_ev σ v) := by
  obtain ⟨a1, a2, a3⟩ := k_lkt_ok (k := 1) h (by omega) (show k_lkf S (k_tc (k_tcn 1) c) (kc 64) = some v from hv)
  rw [k_ev_c] at a3
  exact ⟨a1, a2, a3⟩
/-- a row's set, found -/
def k_lkQ (S : kS) (c : kE) : Option kE := match k_lkP S c with
  | some v => some v
  | none => lfo (k_dgt S c) S.2.2.2
theorem k_lkQ_ok (h : kRS N σ S M) {c v : kE} (hv : k_lkQ S c = some v) : kSc S.1.length v ∧ 0 ≤ k_ev σ c ∧ kTl M (k_ev σ c).toNat 0 64 (k_ev σ v) := by
  unfold k_lkQ at hv
  split at hv
  · rename_i v' hv'
    cases hv
    exact k_lkP_ok h hv'
  · obtain ⟨q, hq, hv⟩ := lfo_in hv
    exact k_dgt_ok h hq hv
theorem k_lrx_ok (h : kRS N σ S M) {c j v : kE} (j0 : 0 ≤ k_ev σ j) (j1 : k_ev σ j < 64) (hv : k_lrx S c j = some v) : kSc S.1.length v ∧ 0 ≤ k_ev σ c ∧ k_gi M (k_ev σ c).toNat (k_ev σ j).toNat = some (kWd (k_ev σ j).toNat (k_ev σ v)) := by
  unfold k_lrx at hv
  split at hv
  · rename_i v' hv'
    obtain ⟨-, hv⟩ := pm_cs hv
    cases hv
    obtain ⟨a1, a2, a3⟩ := k_lkP_ok h hv'
    exact ⟨a1, a2, a3 _ (by omega) (by omega) (by omega)⟩
  · obtain ⟨q, hq, hv⟩ := lfo_in hv
    obtain ⟨-, -, s3⟩ := h.2.2.2.2.2.2.2 q hq
    unfold k_lra at hv
    split at hv
    · rename_i y hy
      obtain ⟨g, hv⟩ := pm_cs hv
      cases hv
      obtain ⟨g1, g2⟩ := Bool.and_eq_true_iff.mp g
      have g1 := k_eqv_ok h.2.1 h.2.2.1 g1
      have g2 := k_ge_ok h.2.1 h.2.2.1 g2
      rw [k_ev_sub, k_ev_sub, k_ev_c] at g2
      obtain ⟨-, t0, t1⟩ := k_ttq_ok h hq hy
      rw [g1] at t0 t1
      exact ⟨s3, t0, t1 _ (by omega) (by omega) (by omega)⟩
    · split at hv
      · rename_i y hy
        obtain ⟨g, hv⟩ := pm_cs hv
        cases hv
        obtain ⟨g1, g2⟩ := Bool.and_eq_true_iff.mp g
        have g1 := k_eqv_ok h.2.1 h.2.2.1 g1
        have g2 := k_ge_ok h.2.1 h.2.2.1 g2
        rw [k_ev_sub] at g2
        obtain ⟨-, t0, t1⟩ := k_ttq_ok h hq hy
        rw [g1] at t0 t1
        exact ⟨s3, t0, t1 _ (by omega) (by omega) (by omega)⟩
      · cases hv
def k_lrd (T : kS) (c j : kE) : Option (kE × kS) := cond (k_fiS T 0 63 j) (match k_lrx T c j with
  | some v => some (k_mem T (k_ff7 0 j) v kJ0 kJ1)
  | none => none) none
/-- a number outside that is known -/
def k_xcn (S : kS) (j : kE) (d : kDe) : Option kE := match k_sgf S j d.2.2 with
  | some g => cond (Nat.beq g.2.1 1) (match g.2.2.2 with
    | [q] => cond (Nat.beq q.1 1 && decide (q.2.1 = q.2.2)) (some (kc q.2.1)) none
    | _ => none) none
  | none => none
def k_alJT (D : kDD) (X : List kDe) (S : kS) (pc : Nat) (kl : kLs) (kt : List kV) : Option (List kR) := match kt with
  | (0, j) :: (2, c) :: t => (match k_co D S.1 c with
    | some d => cond (Nat.beq d.1 1 && k_ix S j d.2.1) (match k_lrd (k_rwk S c) c j with
      | some r => some (k_psj r (pc + 1) kl t)
      | none => k_frJ (k_rwk S c) (pc + 1) kl t) none
    | none => (match k_ex X c with
      | some d => cond (Nat.beq d.1 1 && k_ix S j d.2.1) (match k_xcn S j d with
        | some w => k_1 S (pc + 1) kl ((1, w) :: t)
        | none => k_frJ S (pc + 1) kl t) none
      | none => none))
  | _ => none
theorem kNx.up2 {n m : Nat} {τ : Nat → Int} {Ls : List kR} {z : pS} (ag : kAgr n σ τ) (hl : n ≤ m) (hx : kNx E N mods D m τ M Ls z) : kNx E N mods D n σ M Ls z := by
  obtain ⟨r, hr, υ, u1, u2, u3⟩ := hx
  exact ⟨r, hr, υ, fun b hb => (u1 b (Nat.lt_of_lt_of_le hb hl)).trans (ag b hb), Nat.le_trans hl u2, u3⟩
theorem k_alJT_ok (hD : D.1 ≤ pmX) (hX : kExt X N E) (h : kRS N σ S M) (hM : kMem D M) (hl : kRL E S.1.length σ kl ls) (ht : kRT E S.1.length σ kt st) (hL : k_alJT D X S pc kl kt = some L) : kTo E N mods D S.1.length σ M L (pm_ald (fun t => Nat.beq t 1) pm_isJ E pc ls st M) := by
  unfold k_alJT at hL
  split at hL
  · rename_i ej ec t
    obtain ⟨j, r1, rfl, s1, e1, h3⟩ := ht.int
    obtain ⟨a, r, rfl, s2, e2, hlt, hr⟩ := h3.rf
    split at hL
    · rename_i d hd
      obtain ⟨h1, hL⟩ := pm_cs hL
      obtain ⟨h1, h2⟩ := Bool.and_eq_true_iff.mp h1
      obtain ⟨q, f1, f2, f3, f4, f5⟩ := k_own_ok (E := E) hD h hM e2 hd
      have hi := k_ix_ok h h2
      rw [← e1] at hi
      have hcl := k_clamp hi.1
      have hlen : j.toNatClampNeg < q.2.length := by rw [f2.2.1]; omega
      have hv : q.2[j.toNatClampNeg]? = some q.2[j.toNatClampNeg] := List.getElem?_eq_getElem hlen
      have hty := (f2.2.2.2 _ _ hv).1
      rw [pm_beq h1] at hty
      obtain ⟨x, hx⟩ := hty
      rw [hx] at hv
      refine ⟨_, k_ald_go f5 (by rw [f2.1]; exact h1) hi.1 (by rw [f2.2.1]; exact hi.2) hv rfl, ?_⟩
      obtain ⟨τ, t1, t2, t3⟩ := k_rwk_ok h (c := ec) s2
      refine kNx.up2 t1 t2 ?_
      split at hL
      · rename_i p hp
        cases hL
        unfold k_lrd at hp
        obtain ⟨g, hp⟩ := pm_cs hp
        have g := k_fit_ok t3.2.1 t3.2.2.1 g
        split at hp
        · rename_i v hv2
          cases hp
          obtain ⟨v1, v2, v3⟩ := k_lrx_ok t3 g.1 (by omega) hv2
          have ec' : k_ev τ ec = k_ev σ ec := k_ev_agree t1 s2
          have ej' : k_ev τ ej = k_ev σ ej := k_ev_agree t1 s1
          have gx : k_gi M a j.toNatClampNeg = some x.toInt := k_gi_of f1 hv (Or.inr ⟨x, rfl, rfl⟩)
          rw [show (k_ev τ ec).toNat = a by omega, show (k_ev τ ej).toNat = j.toNatClampNeg by omega, gx] at v3
          have v3 := Option.some.inj v3
          obtain ⟨b1, b2⟩ := kWd_rg j.toNatClampNeg (k_ev τ v)
          have en : (k_ev τ ej).toNat = j.toNatClampNeg := by omega
          obtain ⟨υ, u1, u2, u3, u4, u5⟩ := k_me7_ok (z := 0) (u := ej) (k := v) (lo := kJ0) (hi := kJ1) t3 (s1.mono t2) v1 (by omega) (by omega) g.1 (by show kJ0 ≤ kWd (k_ev τ ej).toNat (k_ev τ v); rw [en]; exact b1) (by show kWd (k_ev τ ej).toNat (k_ev τ v) ≤ kJ1; rw [en]; exact b2)
          have u4 : k_ev υ (k_mem (k_rwk S ec) (k_ff7 0 ej) v kJ0 kJ1).1 = kWd (k_ev τ ej).toNat (k_ev τ v) := u4
          rw [en, ← v3] at u4
          exact kNx.psj hM (hl.agr t1 t2) (hr.agr t1 t2) u1 u2 u3 u4 u5
        · cases hp
      · exact kNx.frJ t3 hM (hl.agr t1 t2) (hr.agr t1 t2) hL
    · split at hL
      · rename_i d hd
        obtain ⟨h1, hL⟩ := pm_cs hL
        obtain ⟨h1, h2⟩ := Bool.and_eq_true_iff.mp h1
        obtain ⟨q, f1, f2, f3⟩ := k_ex_ok (M := M) hX e2 hd
        have hi := k_ix_ok h h2
        rw [← e1] at hi
        have hcl := k_clamp hi.1
        have hlen : j.toNatClampNeg < q.2.length := by rw [f2.2.1]; omega
        have hv : q.2[j.toNatClampNeg]? = some q.2[j.toNatClampNeg] := List.getElem?_eq_getElem hlen
        have hok := f2.2.2.2 _ _ hv
        obtain ⟨hty, hk⟩ := hok
        rw [pm_beq h1] at hty
        obtain ⟨x, hx⟩ := hty
        rw [hx] at hv hk
        refine ⟨_, k_ald_go f1 (by rw [f2.1]; exact h1) hi.1 (by rw [f2.2.1]; exact hi.2) hv rfl, ?_⟩
        split at hL
        · rename_i w hw
          unfold k_xcn at hw
          split at hw
          · rename_i g hg
            obtain ⟨-, hw⟩ := pm_cs hw
            split at hw
            · rename_i p hp
              obtain ⟨g2, hw⟩ := pm_cs hw
              cases hw
              obtain ⟨g2, g3⟩ := Bool.and_eq_true_iff.mp g2
              have g3 := of_decide_eq_true g3
              obtain ⟨m1, m2, m3, m4⟩ := k_sgf_ok h (j := j.toNatClampNeg) (by rw [hcl]; exact e1) hg
              obtain ⟨z, z1, z2⟩ := hk g m1 m3 m4
              rw [hp] at z1
              have zp : z = p := by
                have hlt : (j.toNatClampNeg - g.1) % g.2.2.1 < [p].length := (List.getElem?_eq_some_iff.mp z1).1
                have h0 : (j.toNatClampNeg - g.1) % g.2.2.1 = 0 := by
                  have hlt : (j.toNatClampNeg - g.1) % g.2.2.1 < 1 := hlt
                  omega
                rw [h0] at z1
                exact (Option.some.inj z1).symm
              subst zp
              obtain ⟨zk, lo, hi'⟩ := z
              have g2 : zk = 1 := pm_beq g2
              subst g2
              obtain ⟨x', hx', x1, x2⟩ := z2
              cases hx'
              have g3 : lo = hi' := g3
              have x1 : lo ≤ x.toInt := x1
              have x2 : x.toInt ≤ hi' := x2
              exact kNx.lng h hM hl hr kSc_c (by rw [k_ev_c]; show x.toInt = lo; omega) hL
            · cases hw
          · cases hw
        · exact kNx.frJ h hM hl hr hL
      · cases hL
  · cases hL
end KOP
end
