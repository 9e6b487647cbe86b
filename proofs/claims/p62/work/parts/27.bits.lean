/-! bits -/
theorem kI_nat {x : Int32} (h : 0 ≤ x.toInt) : x.toInt = (x.toBitVec.toNat : Int) ∧ x.toBitVec.toNat < 2147483648 := by
  have e : x.toInt = x.toBitVec.toInt := rfl
  rw [e, BitVec.toInt_eq_toNat_cond] at h ⊢
  have := x.toBitVec.isLt
  split at h
  · rename_i h1
    rw [if_pos h1]
    omega
  · omega
theorem kI_ofn {x : Int32} (h : x.toBitVec.toNat < 2147483648) : x.toInt = (x.toBitVec.toNat : Int) := by
  have e : x.toInt = x.toBitVec.toInt := rfl
  rw [e, BitVec.toInt_eq_toNat_cond, if_pos (by omega)]
theorem kI_andr {x y : Int32} (h : 0 ≤ y.toInt) : 0 ≤ (x &&& y).toInt ∧ (x &&& y).toInt ≤ y.toInt := by
  obtain ⟨h1, h2⟩ := kI_nat h
  have h3 : (x &&& y).toBitVec.toNat ≤ y.toBitVec.toNat := by
    rw [Int32.toBitVec_and, BitVec.toNat_and]
    exact Nat.and_le_right
  rw [kI_ofn (x := x &&& y) (by omega), h1]
  omega
theorem kI_andl {x y : Int32} (h : 0 ≤ x.toInt) : 0 ≤ (x &&& y).toInt ∧ (x &&& y).toInt ≤ x.toInt := by
  obtain ⟨h1, h2⟩ := kI_nat h
  have h3 : (x &&& y).toBitVec.toNat ≤ x.toBitVec.toNat := by
    rw [Int32.toBitVec_and, BitVec.toNat_and]
    exact Nat.and_le_left
  rw [kI_ofn (x := x &&& y) (by omega), h1]
  omega
/-- the powers of two up to 31 -/
def k_pw : List Nat := [0, 1, 2, 3, 4, 5, 6, 7, 8, 9, 10, 11, 12, 13, 14, 15, 16, 17, 18, 19, 20, 21, 22, 23, 24, 25, 26, 27, 28, 29, 30, 31]
def k_p2 (n : Int) : Option Nat := k_pw.find? (fun k => decide (n < (2 ^ k : Nat)))
theorem k_p2_ok {n : Int} {k : Nat} (h : k_p2 n = some k) : n < ((2 ^ k : Nat) : Int) ∧ k ≤ 31 := by
  unfold k_p2 at h
  have h1 := List.find?_some h
  have h2 := List.mem_of_find?_eq_some h
  refine ⟨of_decide_eq_true h1, ?_⟩
  have : ∀ k ∈ k_pw, k ≤ 31 := by decide
  exact this k h2
theorem k_pow31 {k : Nat} (h : k ≤ 31) : 2 ^ k ≤ 2147483648 := Nat.pow_le_pow_right (by decide) h
theorem kI_or {x y : Int32} {k : Nat} (hk : k ≤ 31) (h : 0 ≤ x.toInt) (h' : 0 ≤ y.toInt) (hx : x.toInt < ((2 ^ k : Nat) : Int)) (hy : y.toInt < ((2 ^ k : Nat) : Int)) : 0 ≤ (x ||| y).toInt ∧ (x ||| y).toInt ≤ ((2 ^ k : Nat) : Int) - 1 := by
  obtain ⟨h1, h2⟩ := kI_nat h
  obtain ⟨h3, h4⟩ := kI_nat h'
  have hp := k_pow31 hk
  have h5 : (x ||| y).toBitVec.toNat < 2 ^ k := by
    rw [Int32.toBitVec_or, BitVec.toNat_or]
    exact Nat.or_lt_two_pow (by omega) (by omega)
  rw [kI_ofn (x := x ||| y) (by omega)]
  omega
theorem kI_xor {x y : Int32} {k : Nat} (hk : k ≤ 31) (h : 0 ≤ x.toInt) (h' : 0 ≤ y.toInt) (hx : x.toInt < ((2 ^ k : Nat) : Int)) (hy : y.toInt < ((2 ^ k : Nat) : Int)) : 0 ≤ (x ^^^ y).toInt ∧ (x ^^^ y).toInt ≤ ((2 ^ k : Nat) : Int) - 1 := by
  obtain ⟨h1, h2⟩ := kI_nat h
  obtain ⟨h3, h4⟩ := kI_nat h'
  have hp := k_pow31 hk
  have h5 : (x ^^^ y).toBitVec.toNat < 2 ^ k := by
    rw [Int32.toBitVec_xor, BitVec.toNat_xor]
    exact Nat.xor_lt_two_pow (by omega) (by omega)
  rw [kI_ofn (x := x ^^^ y) (by omega)]
  omega
section KBT
variable {E : pM} {N : Nat} {mods : List kMd} {D : List kDe} {σ : Nat → Int} {M : pM} {S : kS} {kl : kLs} {kt : List kV} {ls : pL} {st : List Value} {pc : Nat} {L : List kR}
def k_iand (S : kS) (pc : Nat) (kl : kLs) (kt : List kV) : Option (List kR) := k_bi (fun x y t => cond (decide (0 ≤ k_lo S.1 x)) (cond (decide (0 ≤ k_lo S.1 y) && decide (k_hi S.1 y ≤ k_hi S.1 x)) (k_fr S 0 (k_hi S.1 y) (pc + 1) kl t) (k_fr S 0 (k_hi S.1 x) (pc + 1) kl t))
  (cond (decide (0 ≤ k_lo S.1 y)) (k_fr S 0 (k_hi S.1 y) (pc + 1) kl t) (k_fr S kI0 kI1 (pc + 1) kl t))) kt
theorem k_iand_ok (h : kRS N σ S M) (hM : kMem D M) (hl : kRL E S.1.length σ kl ls) (ht : kRT E S.1.length σ kt st) (hL : k_iand S pc kl kt = some L) : kTo E N mods D S.1.length σ M L (pm_i2 (fun x y => x &&& y) pc ls st M) := by
  obtain ⟨ex, ey, t, x, y, r, rfl, s1, s2, e1, e2, hr, hg⟩ := k_bi_ok ht hL
  refine ⟨(pc + 1, ls, .int (x &&& y) :: r, M), rfl, ?_⟩
  have a1 := k_lo_le h.2.1 ex
  have a2 := k_hi_ge h.2.1 ex
  have a3 := k_lo_le h.2.1 ey
  have a4 := k_hi_ge h.2.1 ey
  cases c1 : decide (0 ≤ k_lo S.1 ex) with
  | true =>
    rw [c1, cond_true] at hg
    have c1 := of_decide_eq_true c1
    have b1 := kI_andl (x := x) (y := y) (by omega)
    cases c2 : (decide (0 ≤ k_lo S.1 ey) && decide (k_hi S.1 ey ≤ k_hi S.1 ex)) with
    | true =>
      rw [c2, cond_true] at hg
      simp only [Bool.and_eq_true, decide_eq_true_eq] at c2
      have b2 := kI_andr (x := x) (y := y) (by omega)
      exact kNx.fr h hM hl hr b2.1 (by omega) hg
    | false =>
      rw [c2, cond_false] at hg
      exact kNx.fr h hM hl hr b1.1 (by omega) hg
  | false =>
    rw [c1, cond_false] at hg
    cases c2 : decide (0 ≤ k_lo S.1 ey) with
    | true =>
      rw [c2, cond_true] at hg
      have c2 := of_decide_eq_true c2
      have b2 := kI_andr (x := x) (y := y) (by omega)
      exact kNx.fr h hM hl hr b2.1 (by omega) hg
    | false =>
      rw [c2, cond_false] at hg
      exact kNx.fr h hM hl hr (kI_rng _).1 (kI_rng _).2 hg
def k_ior (S : kS) (pc : Nat) (kl : kLs) (kt : List kV) : Option (List kR) := k_bi (fun x y t => cond (decide (0 ≤ k_lo S.1 x) && decide (0 ≤ k_lo S.1 y)) (match k_p2 (cond (decide (k_hi S.1 x < k_hi S.1 y)) (k_hi S.1 y) (k_hi S.1 x)) with
  | some k => k_fr S 0 (((2 ^ k : Nat) : Int) - 1) (pc + 1) kl t
  | none => k_fr S kI0 kI1 (pc + 1) kl t) (k_fr S kI0 kI1 (pc + 1) kl t)) kt
theorem k_ior_in {f : Int32 → Int32 → Int32} (hf : ∀ (x y : Int32) (k : Nat), k ≤ 31 → 0 ≤ x.toInt → 0 ≤ y.toInt → x.toInt < ((2 ^ k : Nat) : Int) → y.toInt < ((2 ^ k : Nat) : Int) → 0 ≤ (f x y).toInt ∧ (f x y).toInt ≤ ((2 ^ k : Nat) : Int) - 1) (h : kRS N σ S M) (hM : kMem D M) (hl : kRL E S.1.length σ kl ls) (ht : kRT E S.1.length σ kt st) (hL : k_ior S pc kl kt = some L) : kTo E N mods D S.1.length σ M L (pm_i2 f pc ls st M) := by
  obtain ⟨ex, ey, t, x, y, r, rfl, s1, s2, e1, e2, hr, hg⟩ := k_bi_ok ht hL
  refine ⟨_, rfl, ?_⟩
  have a1 := k_lo_le h.2.1 ex
  have a2 := k_hi_ge h.2.1 ex
  have a3 := k_lo_le h.2.1 ey
  have a4 := k_hi_ge h.2.1 ey
  cases c1 : (decide (0 ≤ k_lo S.1 ex) && decide (0 ≤ k_lo S.1 ey)) with
  | true =>
    rw [c1, cond_true] at hg
    simp only [Bool.and_eq_true, decide_eq_true_eq] at c1
    split at hg
    · rename_i k hk
      obtain ⟨b1, b2⟩ := k_p2_ok hk
      have b3 := k_cmax (a := k_hi S.1 ey) (b := k_hi S.1 ex)
      have b4 := hf x y k b2 (by omega) (by omega) (by omega) (by omega)
      exact kNx.fr h hM hl hr b4.1 b4.2 hg
    · exact kNx.fr h hM hl hr (kI_rng _).1 (kI_rng _).2 hg
  | false =>
    rw [c1, cond_false] at hg
    exact kNx.fr h hM hl hr (kI_rng _).1 (kI_rng _).2 hg
/-! shifts -/
def k_sh (c : Int) : Nat := ((Int32.ofInt c &&& 31).toBitVec.smod 32).toNat
theorem kI_shr {x y : Int32} : (x >>> y).toInt = x.toInt / ((2 ^ (y.toBitVec.smod 32).toNat : Nat) : Int) := by
  show (x >>> y).toBitVec.toInt = _
  rw [Int32.toBitVec_shiftRight]
  show (x.toBitVec.sshiftRight (y.toBitVec.smod 32).toNat).toInt = _
  rw [BitVec.toInt_sshiftRight, Int.shiftRight_eq_div_pow]
  rfl
def k_ishr (S : kS) (pc : Nat) (kl : kLs) (kt : List kV) : Option (List kR) := k_bi (fun x y t => cond (decide (0 ≤ k_lo S.1 x)) (cond (k_cst y) (match k_qt S x ((2 ^ k_sh y.1 : Nat) : Int) with
  | some r => some [(r.2, pc + 1, kl, (0, r.1) :: t)]
  | none => none) (k_fr S 0 (k_hi S.1 x) (pc + 1) kl t)) (k_fr S kI0 kI1 (pc + 1) kl t)) kt
theorem k_ishr_ok (h : kRS N σ S M) (hM : kMem D M) (hl : kRL E S.1.length σ kl ls) (ht : kRT E S.1.length σ kt st) (hL : k_ishr S pc kl kt = some L) : kTo E N mods D S.1.length σ M L (pm_i2 (fun x y => x >>> (y &&& 31)) pc ls st M) := by
  obtain ⟨ex, ey, t, x, y, r, rfl, s1, s2, e1, e2, hr, hg⟩ := k_bi_ok ht hL
  refine ⟨_, rfl, ?_⟩
  have a1 := k_lo_le h.2.1 ex
  have a2 := k_hi_ge h.2.1 ex
  have hpos : ∀ k : Nat, (0 : Int) < ((2 ^ k : Nat) : Int) := fun k => by have := Nat.two_pow_pos k; omega
  cases c1 : decide (0 ≤ k_lo S.1 ex) with
  | true =>
    rw [c1, cond_true] at hg
    have c1 := of_decide_eq_true c1
    cases c2 : k_cst ey with
    | true =>
      rw [c2, cond_true] at hg
      have hy : y.toInt = ey.1 := e2.trans (k_ev_const c2)
      split at hg
      · rename_i q hq
        cases hg
        obtain ⟨τ, t1, t2, t3, t4, t5⟩ := k_qt_ok h s1 (hpos _) hq
        refine ⟨_, List.mem_singleton.mpr rfl, τ, t1, t2, t3, rfl, hl.agr t1 t2, ⟨⟨t5, _, rfl, ?_⟩, hr.agr t1 t2⟩, kSame.rf, hM⟩
        show (x >>> (y &&& 31)).toInt = k_ev τ q.1
        rw [t4, ← e1, kI_shr, ← hy]
        unfold k_sh
        rw [Int32.ofInt_toInt]
      · cases hg
    | false =>
      rw [c2, cond_false] at hg
      have b1 : 0 ≤ x.toInt := by omega
      refine kNx.fr h hM hl hr ?_ ?_ hg
      · show 0 ≤ (x >>> (y &&& 31)).toInt
        rw [kI_shr]
        exact Int.ediv_nonneg b1 (Int.le_of_lt (hpos _))
      · show (x >>> (y &&& 31)).toInt ≤ _
        rw [kI_shr]
        have := Int.ediv_le_self ((2 ^ ((y &&& 31).toBitVec.smod 32).toNat : Nat) : Int) b1
        omega
  | false =>
    rw [c1, cond_false] at hg
    exact kNx.fr h hM hl hr (kI_rng _).1 (kI_rng _).2 hg
def k_ishl (S : kS) (pc : Nat) (kl : kLs) (kt : List kV) : Option (List kR) := k_bi (fun x y t => cond (decide (0 ≤ k_lo S.1 x) && k_cst y && decide (k_hi S.1 x * ((2 ^ k_sh y.1 : Nat) : Int) ≤ kI1)) (k_1 S (pc + 1) kl ((0, k_mul ((2 ^ k_sh y.1 : Nat) : Int) x) :: t)) (k_fr S kI0 kI1 (pc + 1) kl t)) kt
theorem k_ishl_ok (h : kRS N σ S M) (hM : kMem D M) (hl : kRL E S.1.length σ kl ls) (ht : kRT E S.1.length σ kt st) (hL : k_ishl S pc kl kt = some L) : kTo E N mods D S.1.length σ M L (pm_i2 (fun x y => x <<< (y &&& 31)) pc ls st M) := by
  obtain ⟨ex, ey, t, x, y, r, rfl, s1, s2, e1, e2, hr, hg⟩ := k_bi_ok ht hL
  refine ⟨_, rfl, ?_⟩
  have a1 := k_lo_le h.2.1 ex
  have a2 := k_hi_ge h.2.1 ex
  cases c1 : (decide (0 ≤ k_lo S.1 ex) && k_cst ey && decide (k_hi S.1 ex * ((2 ^ k_sh ey.1 : Nat) : Int) ≤ kI1)) with
  | true =>
    rw [c1, cond_true] at hg
    simp only [Bool.and_eq_true, decide_eq_true_eq] at c1
    have hy : y.toInt = ey.1 := e2.trans (k_ev_const c1.1.2)
    have hk : ((y &&& 31).toBitVec.smod 32).toNat = k_sh ey.1 := by
      unfold k_sh
      rw [← hy, Int32.ofInt_toInt]
    have hp := pk_shl x (y &&& 31) _ hk
    obtain ⟨n1, n2⟩ := kI_nat (x := x) (by omega)
    have hm : x.toInt * ((2 ^ k_sh ey.1 : Nat) : Int) ≤ kI1 := Int.le_trans (Int.mul_le_mul_of_nonneg_right (by omega) (Int.natCast_nonneg _)) c1.2
    rw [n1] at hm
    have hm : ((x.toBitVec.toNat * 2 ^ k_sh ey.1 : Nat) : Int) ≤ kI1 := by rw [Int.natCast_mul]; exact hm
    unfold kI1 at hm
    rw [Nat.mod_eq_of_lt (by omega)] at hp
    have hv := kI_ofn (x := x <<< (y &&& 31)) (by omega)
    refine kNx.one (kt := (0, k_mul ((2 ^ k_sh ey.1 : Nat) : Int) ex) :: t) (st := .int (x <<< (y &&& 31)) :: r) h hM hl ⟨⟨kSc_mul s1, _, rfl, ?_⟩, hr⟩ hg
    show (x <<< (y &&& 31)).toInt = k_ev σ (k_mul ((2 ^ k_sh ey.1 : Nat) : Int) ex)
    rw [hv, hp, k_ev_mul, ← e1, n1, Int.natCast_mul, Int.mul_comm]
  | false =>
    rw [c1, cond_false] at hg
    exact kNx.fr h hM hl hr (kI_rng _).1 (kI_rng _).2 hg
/-- narrowings: what fits stays -/
def k_nar (lo hi : Int) (S : kS) (pc : Nat) (kl : kLs) (kt : List kV) : Option (List kR) := k_un (fun x t => cond (k_fit S.1 S.2.1 lo hi x) (k_1 S (pc + 1) kl ((0, x) :: t)) (k_fr S lo hi (pc + 1) kl t)) kt
theorem k_nar_ok {lo hi : Int} {f : Int32 → Int32} (hf : ∀ x : Int32, lo ≤ (f x).toInt ∧ (f x).toInt ≤ hi ∧ (lo ≤ x.toInt → x.toInt ≤ hi → (f x).toInt = x.toInt)) (h : kRS N σ S M) (hM : kMem D M) (hl : kRL E S.1.length σ kl ls) (ht : kRT E S.1.length σ kt st) (hL : k_nar lo hi S pc kl kt = some L) : kTo E N mods D S.1.length σ M L (pm_i1 f pc ls st M) := by
  obtain ⟨ex, t, x, r, rfl, s1, e1, hr, hg⟩ := k_un_ok ht hL
  refine ⟨_, rfl, ?_⟩
  cases c1 : k_fit S.1 S.2.1 lo hi ex with
  | true =>
    rw [c1, cond_true] at hg
    have b := k_fit_ok h.2.1 h.2.2.1 c1
    exact kNx.one (kt := (0, ex) :: t) (st := .int (f x) :: r) h hM hl ⟨⟨s1, _, rfl, ((hf x).2.2 (by omega) (by omega)).trans e1⟩, hr⟩ hg
  | false =>
    rw [c1, cond_false] at hg
    exact kNx.fr h hM hl hr (hf x).1 (hf x).2.1 hg
end KBT
