noncomputable section
/-! bits -/
theorem kI_nat {x : Int32} (h : 0 ≤ x.toInt) : x.toInt = (x.toBitVec.toNat : Int) ∧ x.toBitVec.toNat < 2147483648 := by
  have e : x.toInt = x.toBitVec.toInt := rfl
  rw [e, BitVec.toInt_eq_toNat_cond] at h ⊢
  have := x.toBitVec.isLt
  split at h
  · rename_i h1
    rw [if_pos h1]
    omega
  · omega
theorem kI_ofn {x : Int32} (h : x.toBitVec.toNat < 2147483648) : x.toInt = (x.toBitVec.toNat : Int) := by
  have e : x.toInt = x.toBitVec.toInt := rfl
  rw [e, BitVec.toInt_eq_toNat_cond, if_pos (by omega)]
theorem kI_andr {x y : Int32} (h : 0 ≤ y.toInt) : 0 ≤ (x &&& y).toInt ∧ (x &&& y).toInt ≤ y.toInt := by
  obtain ⟨h1, h2⟩ := kI_nat h
  have h3 : (x &&& y).toBitVec.toNat ≤ y.toBitVec.toNat := by
    rw [Int32.toBitVec_and, BitVec.toNat_and]
    exact Nat.and_le_right
  rw [kI_ofn (x := x &&& y) (by omega), h1]
  omega
theorem kI_andl {x y : Int32} (h : 0 ≤ x.toInt) : 0 ≤ (x &&& y).toInt ∧ (x &&& y).toInt ≤ x.toInt := by
  obtain ⟨h1, h2⟩ := kI_nat h
  have h3 : (x &&& y).toBitVec.toNat ≤ x.toBitVec.toNat := by
    rw [Int32.toBitVec_and, BitVec.toNat_and]
    exact Nat.and_le_left
  rw [kI_ofn (x := x &&& y) (by omega), h1]
  omega
/-- the powers of two up to 31 -/
def k_pw : List Nat := [0, 1, 2, 3, 4, 5, 6, 7, 8, 9, 10, 11, 12, 13, 14, 15, 16, 17, 18, 19, 20, 21, 22, 23, 24, 25, 26, 27, 28, 29, 30, 31]
def k_p2 (n : Int) : Option Nat := k_pw.find? (fun k => decide (n < (2 ^ k : Nat)))
theorem k_p2_ok {n : Int} {k : Nat} (h : k_p2 n = some k) : n < ((2 ^ k : Nat) : Int) ∧ k ≤ 31 := by
  unfold k_p2 at h
  have h1 := List.find?_some h
  have h2 := List.mem_of_find?_eq_some h
  refine ⟨of_decide_eq_true h1, ?_⟩
  have : ∀ k ∈ k_pw, k ≤ 31 := by decide
  exact this k h2
theorem k_pow31 {k : Nat} (h : k ≤ 31) : 2 ^ k ≤ 2147483648 := Nat.pow_le_pow_right (by decide) h
theorem kI_or {x y : Int32} {k : Nat} (hk : k ≤ 31) (h : 0 ≤ x.toInt) (h' : 0 ≤ y.toInt) (hx : x.toInt < ((2 ^ k : Nat) : Int)) (hy : y.toInt < ((2 ^ k : Nat) : Int)) : 0 ≤ (x ||| y).toInt ∧ (x ||| y).toInt ≤ ((2 ^ k : Nat) : Int) - 1 := by
  obtain ⟨h1, h2⟩ := kI_nat h
  obtain ⟨h3, h4⟩ := kI_nat h'
  have hp := k_pow31 hk
  have h5 : (x ||| y).toBitVec.toNat < 2 ^ k := by
    rw [Int32.toBitVec_or, BitVec.toNat_or]
    exact Nat.or_lt_two_pow (by omega) (by omega)
  rw [kI_ofn (x := x ||| y) (by omega)]
  omega
theorem kI_xor {x y : Int32} {k : Nat} (hk : k ≤ 31) (h : 0 ≤ x.toInt) (h' : 0 ≤ y.toInt) (hx : x.toInt < ((2 ^ k : Nat) : Int)) (hy : y.toInt < ((2 ^ k : Nat) : Int)) : 0 ≤ (x ^^^ y).toInt ∧ (x ^^^ y).toInt ≤ ((2 ^ k : Nat) : Int) - 1 := by
  obtain ⟨h1, h2⟩ := kI_nat h
  obtain ⟨h3, h4⟩ := kI_nat h'
  have hp := k_pow31 hk
  have h5 : (x ^^^ y).toBitVec.toNat < 2 ^ k := by
    rw [Int32.toBitVec_xor, BitVec.toNat_xor]
    exact Nat.xor_lt_two_pow (by omega) (by omega)
  rw [kI_ofn (x := x ^^^ y) (by omega)]
  omega
theorem kI_xorn {x y : Int32} (hx : x.toInt < 0) (hy : 0 ≤ y.toInt) : (x ^^^ y).toInt < 0 := by
  obtain ⟨h1, h2⟩ := kI_nat hy
  have hx1 : 2147483648 ≤ x.toBitVec.toNat := by
    refine Nat.not_lt.mp fun hl => ?_
    have := kI_ofn hl
    omega
  refine Int.not_le.mp fun hl => ?_
  obtain ⟨h3, h4⟩ := kI_nat hl
  rw [Int32.toBitVec_xor, BitVec.toNat_xor] at h4
  have h5 : (x.toBitVec.toNat ^^^ y.toBitVec.toNat) ^^^ y.toBitVec.toNat < 2 ^ 31 := Nat.xor_lt_two_pow (by omega) (by omega)
  rw [Nat.xor_assoc, Nat.xor_self, Nat.xor_zero] at h5
  omega
theorem kI_xorp {x y : Int32} (hx : 0 ≤ x.toInt) (hy : 0 ≤ y.toInt) : 0 ≤ (x ^^^ y).toInt := by
  have h1 := kI_rng x
  have h2 := kI_rng y
  unfold kI1 at h1 h2
  exact (kI_xor (k := 31) (Nat.le_refl _) hx hy (by omega) (by omega)).1
section KBT
variable {E : pM} {N : kN} {mods : List kMd} {D : kDD} {σ : Nat → Int} {M : pM} {S : kS} {kl : kLs} {kt : List kV} {ls : pL} {st : List Value} {pc : Nat} {L : List kR}
def k_iand0 (S : kS) (pc : Nat) (kl : kLs) (x y : kE) (t : List kV) : Option (List kR) := cond (decide (0 ≤ k_lo S.1 x)) (cond (decide (0 ≤ k_lo S.1 y) && decide (k_hi S.1 y ≤ k_hi S.1 x)) (k_fr S 0 (k_hi S.1 y) (pc + 1) kl t) (k_fr S 0 (k_hi S.1 x) (pc + 1) kl t))
  (cond (decide (0 ≤ k_lo S.1 y)) (k_fr S 0 (k_hi S.1 y) (pc + 1) kl t) (k_fr S kI0 kI1 (pc + 1) kl t))
theorem k_iand0_ok {ex ey : kE} {t : List kV} {r : List Value} {x y : Int32} (h : kRS N σ S M) (hM : kMem D M) (hl : kRL E S.1.length σ kl ls) (hr : kRT E S.1.length σ t r) (e1 : x.toInt = k_ev σ ex) (e2 : y.toInt = k_ev σ ey) (hg : k_iand0 S pc kl ex ey t = some L) : kNx E N mods D S.1.length σ M L (pc + 1, ls, .int (x &&& y) :: r, M) := by
  unfold k_iand0 at hg
  have a1 := k_lo_le h.2.1 ex
  have a2 := k_hi_ge h.2.1 ex
  have a3 := k_lo_le h.2.1 ey
  have a4 := k_hi_ge h.2.1 ey
  cases c1 : decide (0 ≤ k_lo S.1 ex) with
  | true =>
    rw [c1, cond_true] at hg
    have c1 := of_decide_eq_true c1
    have b1 := kI_andl (x := x) (y := y) (by omega)
    cases c2 : (decide (0 ≤ k_lo S.1 ey) && decide (k_hi S.1 ey ≤ k_hi S.1 ex)) with
    | true =>
      rw [c2, cond_true] at hg
      simp only [Bool.and_eq_true, decide_eq_true_eq] at c2
      have b2 := kI_andr (x := x) (y := y) (by omega)
      exact kNx.fr h hM hl hr b2.1 (by omega) hg
    | false =>
      rw [c2, cond_false] at hg
      exact kNx.fr h hM hl hr b1.1 (by omega) hg
  | false =>
    rw [c1, cond_false] at hg
    cases c2 : decide (0 ≤ k_lo S.1 ey) with
    | true =>
      rw [c2, cond_true] at hg
      have c2 := of_decide_eq_true c2
      have b2 := kI_andr (x := x) (y := y) (by omega)
      exact kNx.fr h hM hl hr b2.1 (by omega) hg
    | false =>
      rw [c2, cond_false] at hg
      exact kNx.fr h hM hl hr (kI_rng _).1 (kI_rng _).2 hg
def k_ior0 (S : kS) (pc : Nat) (kl : kLs) (x y : kE) (t : List kV) : Option (List kR) := cond (decide (0 ≤ k_lo S.1 x) && decide (0 ≤ k_lo S.1 y)) (match k_p2 (cond (decide (k_hi S.1 x < k_hi S.1 y)) (k_hi S.1 y) (k_hi S.1 x)) with
  | some k => k_fr S 0 (((2 ^ k : Nat) : Int) - 1) (pc + 1) kl t
  | none => k_fr S kI0 kI1 (pc + 1) kl t) (k_fr S kI0 kI1 (pc + 1) kl t)
theorem k_ior0_ok {f : Int32 → Int32 → Int32} {ex ey : kE} {t : List kV} {r : List Value} {x y : Int32} (hf : ∀ (x y : Int32) (k : Nat), k ≤ 31 → 0 ≤ x.toInt → 0 ≤ y.toInt → x.toInt < ((2 ^ k : Nat) : Int) → y.toInt < ((2 ^ k : Nat) : Int) → 0 ≤ (f x y).toInt ∧ (f x y).toInt ≤ ((2 ^ k : Nat) : Int) - 1) (h : kRS N σ S M) (hM : kMem D M) (hl : kRL E S.1.length σ kl ls) (hr : kRT E S.1.length σ t r) (e1 : x.toInt = k_ev σ ex) (e2 : y.toInt = k_ev σ ey) (hg : k_ior0 S pc kl ex ey t = some L) : kNx E N mods D S.1.length σ M L (pc + 1, ls, .int (f x y) :: r, M) := by
  unfold k_ior0 at hg
  have a1 := k_lo_le h.2.1 ex
  have a2 := k_hi_ge h.2.1 ex
  have a3 := k_lo_le h.2.1 ey
  have a4 := k_hi_ge h.2.1 ey
  cases c1 : (decide (0 ≤ k_lo S.1 ex) && decide (0 ≤ k_lo S.1 ey)) with
  | true =>
    rw [c1, cond_true] at hg
    simp only [Bool.and_eq_true, decide_eq_true_eq] at c1
    split at hg
    · rename_i k hk
      obtain ⟨b1, b2⟩ := k_p2_ok hk
      have b3 := k_cmax (a := k_hi S.1 ey) (b := k_hi S.1 ex)
      have b4 := hf x y k b2 (by omega) (by omega) (by omega) (by omega)
      exact kNx.fr h hM hl hr b4.1 b4.2 hg
    · exact kNx.fr h hM hl hr (kI_rng _).1 (kI_rng _).2 hg
  | false =>
    rw [c1, cond_false] at hg
    exact kNx.fr h hM hl hr (kI_rng _).1 (kI_rng _).2 hg
/-- two numbers -/
def k_bc (f : Int32 → Int32 → Int32) (x y : kE) : Option kE := cond (k_cst x && k_cst y) (some (kc (f (Int32.ofInt x.1) (Int32.ofInt y.1)).toInt)) none
theorem k_bc_ok {f : Int32 → Int32 → Int32} {ex ey w : kE} {x y : Int32} (e1 : x.toInt = k_ev σ ex) (e2 : y.toInt = k_ev σ ey) (hw : k_bc f ex ey = some w) : (f x y).toInt = k_ev σ w := by
  unfold k_bc at hw
  obtain ⟨h1, h2⟩ := pm_cs hw
  cases h2
  obtain ⟨h1, h2⟩ := Bool.and_eq_true_iff.mp h1
  rw [k_ev_const h1] at e1
  rw [k_ev_const h2] at e2
  rw [k_ev_c, ← e1, ← e2, Int32.ofInt_toInt, Int32.ofInt_toInt]
theorem k_bc_sc {n : Nat} {f : Int32 → Int32 → Int32} {ex ey w : kE} (hw : k_bc f ex ey = some w) : kSc n w := by
  unfold k_bc at hw
  obtain ⟨h1, h2⟩ := pm_cs hw
  cases h2
  exact kSc_c
/-- the low bits -/
def k_msk (S : kS) (x m : kE) : Option kE := cond (k_cst m && (decide (0 ≤ k_lo S.1 x) && k_pw.any (fun k => decide (m.1 + 1 = ((2 ^ k : Nat) : Int))))) (match k_spl S x (m.1 + 1) with
  | some r => some r.2
  | none => none) none
theorem k_msk_ok {ex em w : kE} {x m : Int32} (h : kRS N σ S M) (hs : kSc S.1.length ex) (e1 : x.toInt = k_ev σ ex) (e2 : m.toInt = k_ev σ em) (hw : k_msk S ex em = some w) : (x &&& m).toInt = k_ev σ w ∧ (m &&& x).toInt = k_ev σ w ∧ kSc S.1.length w := by
  unfold k_msk at hw
  obtain ⟨h1, h2⟩ := pm_cs hw
  simp only [Bool.and_eq_true, decide_eq_true_eq] at h1
  obtain ⟨h1, h3, h4⟩ := h1
  obtain ⟨k, -, h5⟩ := List.any_eq_true.mp h4
  have h5 := of_decide_eq_true h5
  split at h2
  · rename_i r hr
    cases h2
    obtain ⟨p1, p2, p3, p4, p5⟩ := k_spl_ok h hs hr
    rw [k_ev_const h1] at e2
    have a1 := k_lo_le h.2.1 ex
    obtain ⟨n1, n2⟩ := kI_nat (x := x) (by omega)
    have hpos := Nat.two_pow_pos k
    obtain ⟨m1, m2⟩ := kI_nat (x := m) (by omega)
    have hm : m.toBitVec.toNat = 2 ^ k - 1 := by omega
    have key : x.toBitVec.toNat &&& m.toBitVec.toNat = x.toBitVec.toNat % 2 ^ k := by rw [hm, Nat.and_two_pow_sub_one_eq_mod]
    have hr2 : ((x.toBitVec.toNat % 2 ^ k : Nat) : Int) = k_ev σ r.2 := by
      rw [Int.natCast_emod, ← n1, e1, p1, ← h5, Int.add_comm, Int.add_mul_emod_self_left]
      exact Int.emod_eq_of_lt p2 p3
    have hlt : x.toBitVec.toNat % 2 ^ k < 2147483648 := Nat.lt_of_le_of_lt (Nat.mod_le _ _) n2
    have g1 : (x &&& m).toBitVec.toNat = x.toBitVec.toNat % 2 ^ k := by rw [Int32.toBitVec_and, BitVec.toNat_and, key]
    have g2 : (m &&& x).toBitVec.toNat = x.toBitVec.toNat % 2 ^ k := by rw [Int32.toBitVec_and, BitVec.toNat_and, Nat.and_comm, key]
    exact ⟨by rw [kI_ofn (by omega), g1, hr2], by rw [kI_ofn (by omega), g2, hr2], p5⟩
  · cases h2
/-- one bit -/
def k_msb (S : kS) (x m : kE) : Option kE := cond (k_cst m && (decide (0 ≤ k_lo S.1 x) && k_pw.any (fun k => decide (m.1 = ((2 ^ k : Nat) : Int))))) (match k_spl S x m.1 with
  | some r => (match k_spl S r.1 2 with
    | some q => some (k_mul m.1 q.2)
    | none => none)
  | none => none) none
theorem kN_bit (X k : Nat) : X &&& 2 ^ k = 2 ^ k * (X / 2 ^ k % 2) := by
  have d : (X &&& 2 ^ k) / 2 ^ k = X / 2 ^ k &&& 2 ^ k / 2 ^ k := Nat.and_div_two_pow
  have m : (X &&& 2 ^ k) % 2 ^ k = (X % 2 ^ k) &&& (2 ^ k % 2 ^ k) := Nat.and_mod_two_pow
  rw [Nat.div_self (Nat.two_pow_pos k), Nat.and_one_is_mod] at d
  rw [Nat.mod_self, Nat.and_zero] at m
  have e := Nat.div_add_mod (X &&& 2 ^ k) (2 ^ k)
  rw [d, m, Nat.add_zero] at e
  exact e.symm
theorem k_msb_ok {ex em w : kE} {x m : Int32} (h : kRS N σ S M) (hs : kSc S.1.length ex) (e1 : x.toInt = k_ev σ ex) (e2 : m.toInt = k_ev σ em) (hw : k_msb S ex em = some w) : (x &&& m).toInt = k_ev σ w ∧ (m &&& x).toInt = k_ev σ w ∧ kSc S.1.length w := by
  unfold k_msb at hw
  obtain ⟨h1, h2⟩ := pm_cs hw
  simp only [Bool.and_eq_true, decide_eq_true_eq] at h1
  obtain ⟨h1, h3, h4⟩ := h1
  obtain ⟨k, -, h5⟩ := List.any_eq_true.mp h4
  have h5 := of_decide_eq_true h5
  split at h2
  · rename_i r hr
    split at h2
    · rename_i q hq
      cases h2
      obtain ⟨p1, p2, p3, p4, p5⟩ := k_spl_ok h hs hr
      obtain ⟨q1, q2, q3, q4, q5⟩ := k_spl_ok h p4 hq
      rw [k_ev_const h1] at e2
      have a1 := k_lo_le h.2.1 ex
      obtain ⟨n1, n2⟩ := kI_nat (x := x) (by omega)
      have hpos := Nat.two_pow_pos k
      obtain ⟨m1, m2⟩ := kI_nat (x := m) (by omega)
      have hm : m.toBitVec.toNat = 2 ^ k := by omega
      have key : x.toBitVec.toNat &&& m.toBitVec.toNat = 2 ^ k * (x.toBitVec.toNat / 2 ^ k % 2) := by rw [hm, kN_bit]
      have hr2 : ((2 ^ k * (x.toBitVec.toNat / 2 ^ k % 2) : Nat) : Int) = k_ev σ (k_mul em.1 q.2) := by
        rw [k_ev_mul, Int.natCast_mul, Int.natCast_emod, Int.natCast_ediv, ← n1, e1, ← h5]
        congr 1
        rw [p1, Int.add_comm, Int.add_mul_ediv_left _ _ (by omega), Int.ediv_eq_zero_of_lt p2 p3]
        omega
      have hlt : 2 ^ k * (x.toBitVec.toNat / 2 ^ k % 2) < 2147483648 := by
        rw [← key]
        exact Nat.lt_of_le_of_lt Nat.and_le_left n2
      have g1 : (x &&& m).toBitVec.toNat = 2 ^ k * (x.toBitVec.toNat / 2 ^ k % 2) := by rw [Int32.toBitVec_and, BitVec.toNat_and, key]
      have g2 : (m &&& x).toBitVec.toNat = 2 ^ k * (x.toBitVec.toNat / 2 ^ k % 2) := by rw [Int32.toBitVec_and, BitVec.toNat_and, Nat.and_comm, key]
      exact ⟨by rw [kI_ofn (by omega), g1, hr2], by rw [kI_ofn (by omega), g2, hr2], kSc_mul q5⟩
    · cases h2
  · cases h2
def k_msx (S : kS) (x m : kE) : Option kE := match k_msk S x m with
  | some w => some w
  | none => k_msb S x m
theorem k_msx_ok {ex em w : kE} {x m : Int32} (h : kRS N σ S M) (hs : kSc S.1.length ex) (e1 : x.toInt = k_ev σ ex) (e2 : m.toInt = k_ev σ em) (hw : k_msx S ex em = some w) : (x &&& m).toInt = k_ev σ w ∧ (m &&& x).toInt = k_ev σ w ∧ kSc S.1.length w := by
  unfold k_msx at hw
  split at hw
  · rename_i u hu
    cases hw
    exact k_msk_ok h hs e1 e2 hu
  · exact k_msb_ok h hs e1 e2 hw
def k_iand (S : kS) (pc : Nat) (kl : kLs) (kt : List kV) : Option (List kR) := k_bi (fun x y t => match k_bc (fun a b => a &&& b) x y with
  | some w => k_1 S (pc + 1) kl ((0, w) :: t)
  | none => match k_msx S x y with
    | some w => k_1 S (pc + 1) kl ((0, w) :: t)
    | none => match k_msx S y x with
      | some w => k_1 S (pc + 1) kl ((0, w) :: t)
      | none => k_iand0 S pc kl x y t) kt
theorem k_iand_ok (h : kRS N σ S M) (hM : kMem D M) (hl : kRL E S.1.length σ kl ls) (ht : kRT E S.1.length σ kt st) (hL : k_iand S pc kl kt = some L) : kTo E N mods D S.1.length σ M L (pm_i2 (fun x y => x &&& y) pc ls st M) := by
  obtain ⟨ex, ey, t, x, y, r, rfl, s1, s2, e1, e2, hr, hg⟩ := k_bi_ok ht hL
  refine ⟨(pc + 1, ls, .int (x &&& y) :: r, M), rfl, ?_⟩
  split at hg
  · rename_i w hw
    exact kNx.one (kt := (0, w) :: t) (st := .int (x &&& y) :: r) h hM hl ⟨⟨k_bc_sc hw, _, rfl, k_bc_ok e1 e2 hw⟩, hr⟩ hg
  · split at hg
    · rename_i w hw
      obtain ⟨f1, f2, f3⟩ := k_msx_ok h s1 e1 e2 hw
      exact kNx.one (kt := (0, w) :: t) (st := .int (x &&& y) :: r) h hM hl ⟨⟨f3, _, rfl, f1⟩, hr⟩ hg
    · split at hg
      · rename_i w hw
        obtain ⟨f1, f2, f3⟩ := k_msx_ok h s2 e2 e1 hw
        exact kNx.one (kt := (0, w) :: t) (st := .int (x &&& y) :: r) h hM hl ⟨⟨f3, _, rfl, f2⟩, hr⟩ hg
      · exact k_iand0_ok h hM hl hr e1 e2 hg
/-- a number's bits set -/
def k_evn (e : kE) : Bool := decide (e.1 % 2 = 0) && e.2.all (fun q => decide (q.2 % 2 = 0))
def k_lw (S : kS) (x : kE) (c : Int) (n : Nat) : Option (kE × kS) := cond (decide (c < ((2 ^ n : Nat) : Int))) (match k_spl S x ((2 ^ n : Nat) : Int) with
  | some r => cond (k_cst r.1 && decide (r.1.1 = 0)) none (some (k_add (k_mul ((2 ^ n : Nat) : Int) r.1) (k_new S 0 (((2 ^ n : Nat) : Int) - 1)).1, (k_new S 0 (((2 ^ n : Nat) : Int) - 1)).2))
  | none => none) none
def k_hw (S : kS) (x : kE) (c : Int) (m : Nat) : Option (kE × kS) := cond (decide (c % ((2 ^ m : Nat) : Int) = 0)) (match k_spl S x ((2 ^ m : Nat) : Int) with
  | some r => cond (decide (c = ((2 ^ m : Nat) : Int)) && k_evn r.1) (some (k_add x (kc c), S)) none
  | none => none) none
def k_hx (S : kS) (x : kE) (c : Int) (m : Nat) : Option (kE × kS) := cond (decide (c % ((2 ^ m : Nat) : Int) = 0)) (match k_spl S x ((2 ^ m : Nat) : Int) with
  | some r => (match k_p2 (cond (decide (k_hi S.1 r.1 < c / ((2 ^ m : Nat) : Int))) (c / ((2 ^ m : Nat) : Int)) (k_hi S.1 r.1)) with
    | some n => some (k_add r.2 (k_mul ((2 ^ m : Nat) : Int) (k_new S 0 (((2 ^ n : Nat) : Int) - 1)).1), (k_new S 0 (((2 ^ n : Nat) : Int) - 1)).2)
    | none => none)
  | none => none) none
def k_orc (S : kS) (x : kE) (c : Int) : Option (kE × kS) := match k_pw.findSome? (k_hw S x c) with
  | some r => some r
  | none => match k_pw.findSome? (k_lw S x c) with
    | some r => some r
    | none => k_pw.reverse.findSome? (k_hx S x c)
theorem kN_lo {a r c n : Nat} (hr : r < 2 ^ n) (hc : c < 2 ^ n) : (2 ^ n * a + r) ||| c = 2 ^ n * a + (r ||| c) := by
  rw [Nat.two_pow_add_eq_or_of_lt hr, Nat.or_assoc, ← Nat.two_pow_add_eq_or_of_lt (Nat.or_lt_two_pow hr hc)]
theorem kN_hi {a r c m : Nat} (hr : r < 2 ^ m) : (2 ^ m * a + r) ||| (2 ^ m * c) = 2 ^ m * (a ||| c) + r := by
  have h1 : 2 ^ m * (a ||| c) = 2 ^ m * a ||| 2 ^ m * c := by
    rw [Nat.mul_comm, Nat.mul_comm (2 ^ m) a, Nat.mul_comm (2 ^ m) c, ← Nat.shiftLeft_eq, ← Nat.shiftLeft_eq, ← Nat.shiftLeft_eq, Nat.shiftLeft_or_distrib]
  rw [Nat.two_pow_add_eq_or_of_lt hr, Nat.two_pow_add_eq_or_of_lt hr, h1, Nat.or_assoc, Nat.or_assoc, Nat.or_comm r]
theorem kN_ev (b : Nat) : 2 * b ||| 1 = 2 * b + 1 := by
  have := Nat.two_pow_add_eq_or_of_lt (i := 1) (b := 1) (by decide) b
  simpa using this.symm
/-- the parts of a word that is not negative -/
theorem kN_spl {X : Nat} {a r : Int} {n : Nat} (h1 : (X : Int) = ((2 ^ n : Nat) : Int) * a + r) (h2 : 0 ≤ r) (h3 : r < ((2 ^ n : Nat) : Int)) : ∃ b q : Nat, a = (b : Int) ∧ r = (q : Int) ∧ X = 2 ^ n * b + q ∧ q < 2 ^ n := by
  have ha : 0 ≤ a := by
    refine Int.not_lt.mp fun hl => ?_
    have : ((2 ^ n : Nat) : Int) * a ≤ ((2 ^ n : Nat) : Int) * (-1) := Int.mul_le_mul_of_nonneg_left (by omega) (by omega)
    omega
  obtain ⟨b, rfl⟩ := Int.eq_ofNat_of_zero_le ha
  obtain ⟨q, rfl⟩ := Int.eq_ofNat_of_zero_le h2
  refine ⟨b, q, rfl, rfl, ?_, by omega⟩
  have : ((2 ^ n * b : Nat) : Int) = ((2 ^ n : Nat) : Int) * (b : Int) := Int.natCast_mul _ _
  omega
def kOrd (N : kN) (n : Nat) (σ : Nat → Int) (M : pM) (r : kE × kS) (z : Nat) : Prop := ∃ τ, kAgr n σ τ ∧ n ≤ r.2.1.length ∧ kRS N τ r.2 M ∧ k_ev τ r.1 = (z : Int) ∧ kSc r.2.1.length r.1
theorem k_evn_ok {e : kE} (h : k_evn e = true) : ∃ t : Int, k_ev σ e = 2 * t := by
  unfold k_evn at h
  obtain ⟨h1, h2⟩ := Bool.and_eq_true_iff.mp h
  have h1 := of_decide_eq_true h1
  have key : ∀ l : List (Nat × Int), l.all (fun q => decide (q.2 % 2 = 0)) = true → ∃ t : Int, k_evl σ l = 2 * t := by
    intro l
    induction l with
    | nil => exact fun _ => ⟨0, rfl⟩
    | cons q t ih =>
      intro hl
      obtain ⟨g1, g2⟩ := Bool.and_eq_true_iff.mp hl
      have g1 := of_decide_eq_true g1
      obtain ⟨t', ht⟩ := ih g2
      refine ⟨q.2 / 2 * σ q.1 + t', ?_⟩
      simp only [k_evl]
      have h3 : q.2 = 2 * (q.2 / 2) := by omega
      rw [ht, Int.mul_add, ← Int.mul_assoc, ← h3]
  obtain ⟨t, ht⟩ := key e.2 h2
  exact ⟨e.1 / 2 + t, by unfold k_ev; rw [ht]; omega⟩
theorem k_orc_ok {x : kE} {X C : Nat} {r : kE × kS} (h : kRS N σ S M) (hs : kSc S.1.length x) (hX : (X : Int) = k_ev σ x) (hr : k_orc S x (C : Int) = some r) : kOrd N S.1.length σ M r (X ||| C) := by
  have hpos : ∀ k : Nat, (0 : Int) < ((2 ^ k : Nat) : Int) := fun k => by have := Nat.two_pow_pos k; omega
  unfold k_orc at hr
  split at hr
  · rename_i r' hr'
    cases hr
    obtain ⟨m, -, hm⟩ := List.exists_of_findSome?_eq_some hr'
    unfold k_hw at hm
    obtain ⟨-, hm⟩ := pm_cs hm
    split at hm
    · rename_i q hq
      obtain ⟨h1, hm⟩ := pm_cs hm
      cases hm
      obtain ⟨h1, h2⟩ := Bool.and_eq_true_iff.mp h1
      have h1 := of_decide_eq_true h1
      obtain ⟨t, ht⟩ := k_evn_ok (σ := σ) h2
      obtain ⟨p1, p2, p3, p4, p5⟩ := k_spl_ok h hs hq
      obtain ⟨b, u, b1, b2, b3, b4⟩ := kN_spl (hX.trans p1) p2 p3
      have hC : C = 2 ^ m := by omega
      obtain ⟨b', rfl⟩ : ∃ b', b = 2 * b' := ⟨b / 2, by omega⟩
      refine ⟨σ, fun _ _ => rfl, Nat.le_refl _, h, ?_, kSc_add hs kSc_c⟩
      have e := kN_hi (a := 2 * b') (c := 1) b4
      rw [Nat.mul_one, kN_ev] at e
      rw [k_ev_add, k_ev_c, ← hX, b3, hC, e, Nat.mul_add]
      omega
    · cases hm
  · split at hr
    · rename_i r' hr'
      cases hr
      obtain ⟨n, -, hm⟩ := List.exists_of_findSome?_eq_some hr'
      unfold k_lw at hm
      obtain ⟨h1, hm⟩ := pm_cs hm
      have h1 := of_decide_eq_true h1
      split at hm
      · rename_i q hq
        obtain ⟨p1, p2, p3, p4, p5⟩ := k_spl_ok h hs hq
        obtain ⟨b, u, b1, b2, b3, b4⟩ := kN_spl (hX.trans p1) p2 p3
        have h2 : C < 2 ^ n := by omega
        have h3 := Nat.or_lt_two_pow b4 h2
        cases hz : (k_cst q.1 && decide (q.1.1 = 0)) with
        | true => rw [hz, cond_true] at hm; cases hm
        | false =>
          rw [hz, cond_false] at hm
          cases hm
          obtain ⟨τ, t1, t2, t3, t4, t5⟩ := k_new_ok h (x := ((u ||| C : Nat) : Int)) (lo := 0) (hi := ((2 ^ n : Nat) : Int) - 1) (by omega) (by omega)
          refine ⟨τ, t1, t2, t3, ?_, kSc_add (kSc_mul (p4.mono t2)) t5⟩
          rw [k_ev_add, k_ev_mul, t4, k_ev_agree t1 p4, b1, b3, kN_lo b4 h2]
          have : ((2 ^ n * b : Nat) : Int) = ((2 ^ n : Nat) : Int) * (b : Int) := Int.natCast_mul _ _
          omega
      · cases hm
    · obtain ⟨m, -, hm⟩ := List.exists_of_findSome?_eq_some hr
      unfold k_hx at hm
      obtain ⟨h1, hm⟩ := pm_cs hm
      have h1 := of_decide_eq_true h1
      split at hm
      · rename_i q hq
        obtain ⟨p1, p2, p3, p4, p5⟩ := k_spl_ok h hs hq
        obtain ⟨b, u, b1, b2, b3, b4⟩ := kN_spl (hX.trans p1) p2 p3
        split at hm
        · rename_i n hn
          cases hm
          obtain ⟨n1, n2⟩ := k_p2_ok hn
          have c3 := k_cmax (a := ((C : Int) / ((2 ^ m : Nat) : Int))) (b := k_hi S.1 q.1)
          have a2 := k_hi_ge h.2.1 q.1
          obtain ⟨c, hc⟩ : ∃ c : Nat, C = 2 ^ m * c := ⟨C / 2 ^ m, by
            have : C % 2 ^ m = 0 := by
              have e : ((C % 2 ^ m : Nat) : Int) = (C : Int) % ((2 ^ m : Nat) : Int) := Int.natCast_emod _ _
              omega
            have h6 := Nat.mod_add_div C (2 ^ m)
            rw [this, Nat.zero_add] at h6
            exact h6.symm⟩
          have hcd : (C : Int) / ((2 ^ m : Nat) : Int) = (c : Int) := by
            have e : ((2 ^ m * c : Nat) : Int) = ((2 ^ m : Nat) : Int) * (c : Int) := Int.natCast_mul _ _
            rw [hc, e]
            exact Int.mul_ediv_cancel_left _ (by have := hpos m; omega)
          have g1 : b < 2 ^ n := by omega
          have g2 : c < 2 ^ n := by omega
          have g3 := Nat.or_lt_two_pow g1 g2
          obtain ⟨τ, t1, t2, t3, t4, t5⟩ := k_new_ok h (x := ((b ||| c : Nat) : Int)) (lo := 0) (hi := ((2 ^ n : Nat) : Int) - 1) (by omega) (by omega)
          refine ⟨τ, t1, t2, t3, ?_, kSc_add (p5.mono t2) (kSc_mul t5)⟩
          rw [k_ev_add, k_ev_mul, t4, k_ev_agree t1 p5, b2, b3, hc, kN_hi b4]
          have : ((2 ^ m * (b ||| c) : Nat) : Int) = ((2 ^ m : Nat) : Int) * ((b ||| c : Nat) : Int) := Int.natCast_mul _ _
          omega
        · cases hm
      · cases hm
/-- unknowns that are known, as numbers -/
def k_nrl (b : kB) : List (Nat × Int) → kE
  | [] => kc 0
  | q :: t => k_add (cond (decide ((zget b q.1).1 = (zget b q.1).2)) (kc (q.2 * (zget b q.1).1)) (0, [q])) (k_nrl b t)
def k_nrm (b : kB) (e : kE) : kE := k_add (kc e.1) (k_nrl b e.2)
theorem k_nrl_ok {b : kB} (hb : kBd σ b) : ∀ l : List (Nat × Int), k_ev σ (k_nrl b l) = k_evl σ l
  | [] => k_ev_c σ 0
  | q :: t => by
    unfold k_nrl
    rw [k_ev_add, k_nrl_ok hb t]
    show _ = q.2 * σ q.1 + k_evl σ t
    cases h : decide ((zget b q.1).1 = (zget b q.1).2) with
    | true =>
      have h := of_decide_eq_true h
      have g := hb q.1
      rw [← zget_eq] at g
      rw [cond_true, k_ev_c]
      have : σ q.1 = (zget b q.1).1 := by omega
      rw [this]
    | false =>
      rw [cond_false]
      have : k_ev σ (0, [q]) = q.2 * σ q.1 := by simp [k_ev, k_evl]
      rw [this]
theorem k_nrm_ok {b : kB} (hb : kBd σ b) (e : kE) : k_ev σ (k_nrm b e) = k_ev σ e := by
  unfold k_nrm
  rw [k_ev_add, k_ev_c, k_nrl_ok hb]
  rfl
theorem k_nrl_sc {n : Nat} {b : kB} : ∀ l : List (Nat × Int), (∀ q ∈ l, q.1 < n) → kSc n (k_nrl b l)
  | [], _ => kSc_c
  | q :: t, h => by
    refine kSc_add ?_ (k_nrl_sc t fun r hr => h r (List.mem_cons_of_mem _ hr))
    cases decide ((zget b q.1).1 = (zget b q.1).2) with
    | true => exact kSc_c
    | false =>
      intro r hr
      rcases List.mem_singleton.mp hr with rfl
      exact h r List.mem_cons_self
theorem k_nrm_sc {n : Nat} {b : kB} {e : kE} (h : kSc n e) : kSc n (k_nrm b e) := kSc_add kSc_c (k_nrl_sc _ h)
def k_orw (S : kS) (x c : kE) : Option (kE × kS) := cond (k_cst c && (decide (0 < c.1) && decide (0 ≤ k_lo S.1 x))) (k_orc S (k_nrm S.1 x) c.1) none
theorem k_orw_ok {ex ec : kE} {x c : Int32} {r : kE × kS} (h : kRS N σ S M) (hs : kSc S.1.length ex) (e1 : x.toInt = k_ev σ ex) (e2 : c.toInt = k_ev σ ec) (hr : k_orw S ex ec = some r) : ∃ z : Nat, kOrd N S.1.length σ M r z ∧ (x ||| c).toInt = (z : Int) ∧ (c ||| x).toInt = (z : Int) := by
  unfold k_orw at hr
  obtain ⟨h1, hr⟩ := pm_cs hr
  simp only [Bool.and_eq_true, decide_eq_true_eq] at h1
  obtain ⟨h1, h2, h3⟩ := h1
  rw [k_ev_const h1] at e2
  have a1 := k_lo_le h.2.1 ex
  obtain ⟨n1, n2⟩ := kI_nat (x := x) (by omega)
  obtain ⟨m1, m2⟩ := kI_nat (x := c) (by omega)
  rw [← e2, m1] at hr
  have hz := k_orc_ok h (k_nrm_sc hs) (by rw [k_nrm_ok h.2.1, ← n1]; exact e1) hr
  have hlt : x.toBitVec.toNat ||| c.toBitVec.toNat < 2 ^ 31 := Nat.or_lt_two_pow (by omega) (by omega)
  have g1 : (x ||| c).toBitVec.toNat = x.toBitVec.toNat ||| c.toBitVec.toNat := by rw [Int32.toBitVec_or, BitVec.toNat_or]
  have g2 : (c ||| x).toBitVec.toNat = x.toBitVec.toNat ||| c.toBitVec.toNat := by rw [Int32.toBitVec_or, BitVec.toNat_or, Nat.or_comm]
  exact ⟨_, hz, by rw [kI_ofn (by omega), g1], by rw [kI_ofn (by omega), g2]⟩
def k_ior (S : kS) (pc : Nat) (kl : kLs) (kt : List kV) : Option (List kR) := k_bi (fun x y t => match k_bc (fun a b => a ||| b) x y with
  | some w => k_1 S (pc + 1) kl ((0, w) :: t)
  | none => match k_orw S x y with
    | some r => some [(r.2, pc + 1, kl, (0, r.1) :: t)]
    | none => match k_orw S y x with
      | some r => some [(r.2, pc + 1, kl, (0, r.1) :: t)]
      | none => k_ior0 S pc kl x y t) kt
theorem kNx.ord {r : kE × kS} {z : Nat} {v : Int32} (hM : kMem D M) (hl : kRL E S.1.length σ kl ls) (ht : kRT E S.1.length σ kt st) (hz : kOrd N S.1.length σ M r z) (hv : v.toInt = (z : Int)) : kNx E N mods D S.1.length σ M [(r.2, pc, kl, (0, r.1) :: kt)] (pc, ls, .int v :: st, M) := by
  obtain ⟨τ, t1, t2, t3, t4, t5⟩ := hz
  exact ⟨_, List.mem_singleton.mpr rfl, τ, t1, t2, t3, rfl, hl.agr t1 t2, ⟨⟨t5, v, rfl, hv.trans t4.symm⟩, ht.agr t1 t2⟩, kSame.rf, hM⟩
theorem k_ior_ok (h : kRS N σ S M) (hM : kMem D M) (hl : kRL E S.1.length σ kl ls) (ht : kRT E S.1.length σ kt st) (hL : k_ior S pc kl kt = some L) : kTo E N mods D S.1.length σ M L (pm_i2 (fun x y => x ||| y) pc ls st M) := by
  obtain ⟨ex, ey, t, x, y, r, rfl, s1, s2, e1, e2, hr, hg⟩ := k_bi_ok ht hL
  refine ⟨(pc + 1, ls, .int (x ||| y) :: r, M), rfl, ?_⟩
  split at hg
  · rename_i w hw
    exact kNx.one (kt := (0, w) :: t) (st := .int (x ||| y) :: r) h hM hl ⟨⟨k_bc_sc hw, _, rfl, k_bc_ok e1 e2 hw⟩, hr⟩ hg
  · split at hg
    · rename_i w hw
      cases hg
      obtain ⟨z, z1, z2, z3⟩ := k_orw_ok h s1 e1 e2 hw
      exact kNx.ord hM hl hr z1 z2
    · split at hg
      · rename_i w hw
        cases hg
        obtain ⟨z, z1, z2, z3⟩ := k_orw_ok h s2 e2 e1 hw
        exact kNx.ord hM hl hr z1 z3
      · exact k_ior0_ok (fun x y k => kI_or) h hM hl hr e1 e2 hg
def k_ixor (S : kS) (pc : Nat) (kl : kLs) (kt : List kV) : Option (List kR) := k_bi (fun x y t => match k_bc (fun a b => a ^^^ b) x y with
  | some w => k_1 S (pc + 1) kl ((0, w) :: t)
  | none => cond (k_cst y && (decide (0 ≤ y.1) && !(decide (0 ≤ k_lo S.1 x)))) (cond (k_ge S.1 S.2.1 (k_sub (kc (-1)) x)) (k_fr S kI0 (-1) (pc + 1) kl t) (cond (k_ge S.1 S.2.1 x) (k_fr S 0 kI1 (pc + 1) kl t) (k_ior0 S pc kl x y t))) (k_ior0 S pc kl x y t)) kt
theorem k_ixor_ok (h : kRS N σ S M) (hM : kMem D M) (hl : kRL E S.1.length σ kl ls) (ht : kRT E S.1.length σ kt st) (hL : k_ixor S pc kl kt = some L) : kTo E N mods D S.1.length σ M L (pm_i2 (fun x y => x ^^^ y) pc ls st M) := by
  obtain ⟨ex, ey, t, x, y, r, rfl, s1, s2, e1, e2, hr, hg⟩ := k_bi_ok ht hL
  refine ⟨(pc + 1, ls, .int (x ^^^ y) :: r, M), rfl, ?_⟩
  split at hg
  · rename_i w hw
    exact kNx.one (kt := (0, w) :: t) (st := .int (x ^^^ y) :: r) h hM hl ⟨⟨k_bc_sc hw, _, rfl, k_bc_ok e1 e2 hw⟩, hr⟩ hg
  · cases c1 : (k_cst ey && (decide (0 ≤ ey.1) && !(decide (0 ≤ k_lo S.1 ex)))) with
    | false =>
      rw [c1, cond_false] at hg
      exact k_ior0_ok (fun x y k => kI_xor) h hM hl hr e1 e2 hg
    | true =>
      rw [c1, cond_true] at hg
      simp only [Bool.and_eq_true, decide_eq_true_eq] at c1
      have hy : y.toInt = ey.1 := e2.trans (k_ev_const c1.1)
      cases c2 : k_ge S.1 S.2.1 (k_sub (kc (-1)) ex) with
      | true =>
        rw [c2, cond_true] at hg
        have := k_ge_ok h.2.1 h.2.2.1 c2
        rw [k_ev_sub, k_ev_c] at this
        have h1 := kI_xorn (x := x) (y := y) (by omega) (by omega)
        exact kNx.fr h hM hl hr (kI_rng _).1 (by omega) hg
      | false =>
        rw [c2, cond_false] at hg
        cases c3 : k_ge S.1 S.2.1 ex with
        | true =>
          rw [c3, cond_true] at hg
          have := k_ge_ok h.2.1 h.2.2.1 c3
          exact kNx.fr h hM hl hr (kI_xorp (by omega) (by omega)) (kI_rng _).2 hg
        | false =>
          rw [c3, cond_false] at hg
          exact k_ior0_ok (fun x y k => kI_xor) h hM hl hr e1 e2 hg
/-! shifts -/
def k_sh (c : Int) : Nat := ((Int32.ofInt c &&& 31).toBitVec.smod 32).toNat
theorem kI_shr {x y : Int32} : (x >>> y).toInt = x.toInt / ((2 ^ (y.toBitVec.smod 32).toNat : Nat) : Int) := by
  show (x >>> y).toBitVec.toInt = _
  rw [Int32.toBitVec_shiftRight]
  show (x.toBitVec.sshiftRight (y.toBitVec.smod 32).toNat).toInt = _
  rw [BitVec.toInt_sshiftRight, Int.shiftRight_eq_div_pow]
  rfl
def k_shf (S : kS) (x : Int) (y : kE) (pc : Nat) (kl : kLs) (t : List kV) (i : Nat) : List kR := match k_cn S .eq (k_sub y (kc (k_lo S.1 y + (i : Int)))) with
  | some T => [(T, pc, kl, (0, kc (x / ((2 ^ k_sh (k_lo S.1 y + (i : Int)) : Nat) : Int))) :: t)]
  | none => []
def k_ishr (S : kS) (pc : Nat) (kl : kLs) (kt : List kV) : Option (List kR) := k_bi (fun x y t => cond (decide (0 ≤ k_lo S.1 x)) (cond (k_cst y) (match k_qt S x ((2 ^ k_sh y.1 : Nat) : Int) with
  | some r => some [(r.2, pc + 1, kl, (0, r.1) :: t)]
  | none => none) (cond (k_cst x && (decide (0 ≤ k_lo S.1 y) && decide (k_hi S.1 y - k_lo S.1 y ≤ 3))) (some ((List.range (k_hi S.1 y - k_lo S.1 y + 1).toNat).flatMap (k_shf S x.1 y (pc + 1) kl t))) (k_fr S 0 (k_hi S.1 x) (pc + 1) kl t))) (k_fr S kI0 kI1 (pc + 1) kl t)) kt
theorem k_ishr_ok (h : kRS N σ S M) (hM : kMem D M) (hl : kRL E S.1.length σ kl ls) (ht : kRT E S.1.length σ kt st) (hL : k_ishr S pc kl kt = some L) : kTo E N mods D S.1.length σ M L (pm_i2 (fun x y => x >>> (y &&& 31)) pc ls st M) := by
  obtain ⟨ex, ey, t, x, y, r, rfl, s1, s2, e1, e2, hr, hg⟩ := k_bi_ok ht hL
  refine ⟨_, rfl, ?_⟩
  have a1 := k_lo_le h.2.1 ex
  have a2 := k_hi_ge h.2.1 ex
  have hpos : ∀ k : Nat, (0 : Int) < ((2 ^ k : Nat) : Int) := fun k => by have := Nat.two_pow_pos k; omega
  cases c1 : decide (0 ≤ k_lo S.1 ex) with
  | true =>
    rw [c1, cond_true] at hg
    have c1 := of_decide_eq_true c1
    cases c2 : k_cst ey with
    | true =>
      rw [c2, cond_true] at hg
      have hy : y.toInt = ey.1 := e2.trans (k_ev_const c2)
      split at hg
      · rename_i q hq
        cases hg
        obtain ⟨τ, t1, t2, t3, t4, t5⟩ := k_qt_ok h s1 (by omega) (hpos _) hq
        refine ⟨_, List.mem_singleton.mpr rfl, τ, t1, t2, t3, rfl, hl.agr t1 t2, ⟨⟨t5, _, rfl, ?_⟩, hr.agr t1 t2⟩, kSame.rf, hM⟩
        show (x >>> (y &&& 31)).toInt = k_ev τ q.1
        rw [t4, ← e1, kI_shr, ← hy]
        unfold k_sh
        rw [Int32.ofInt_toInt]
      · cases hg
    | false =>
      rw [c2, cond_false] at hg
      have b1 : 0 ≤ x.toInt := by omega
      cases c3 : (k_cst ex && (decide (0 ≤ k_lo S.1 ey) && decide (k_hi S.1 ey - k_lo S.1 ey ≤ 3))) with
      | true =>
        rw [c3, cond_true] at hg
        cases hg
        obtain ⟨c3, c4⟩ := Bool.and_eq_true_iff.mp c3
        have a3 := k_lo_le h.2.1 ey
        have a4 := k_hi_ge h.2.1 ey
        have hx : x.toInt = ex.1 := e1.trans (k_ev_const c3)
        obtain ⟨i, hi⟩ := Int.eq_ofNat_of_zero_le (show 0 ≤ k_ev σ ey - k_lo S.1 ey by omega)
        obtain ⟨T, u1, u2, u3⟩ := k_cn_ok (c := .eq) h (d := k_sub ey (kc (k_lo S.1 ey + (i : Int)))) (kSc_sub s2 kSc_c) (by show k_ev σ _ = 0; rw [k_ev_sub, k_ev_c]; omega)
        have hy : k_lo S.1 ey + (i : Int) = y.toInt := by omega
        refine kNx.mono (L := [(T, pc + 1, kl, (0, kc (ex.1 / ((2 ^ k_sh (k_lo S.1 ey + (i : Int)) : Nat) : Int))) :: t)]) ?_ fun q hq => List.mem_flatMap.mpr ⟨i, List.mem_range.mpr (by omega), by unfold k_shf; rw [u1]; exact hq⟩
        rw [← u2] at hl hr ⊢
        refine kNx.one (kt := (0, kc (ex.1 / ((2 ^ k_sh (k_lo S.1 ey + (i : Int)) : Nat) : Int))) :: t) (st := .int (x >>> (y &&& 31)) :: r) u3 hM hl ⟨⟨kSc_c, _, rfl, ?_⟩, hr⟩ rfl
        show (x >>> (y &&& 31)).toInt = k_ev σ (kc _)
        rw [k_ev_c, kI_shr, hx, hy]
        unfold k_sh
        rw [Int32.ofInt_toInt]
      | false =>
      rw [c3, cond_false] at hg
      refine kNx.fr h hM hl hr ?_ ?_ hg
      · show 0 ≤ (x >>> (y &&& 31)).toInt
        rw [kI_shr]
        exact Int.ediv_nonneg b1 (Int.le_of_lt (hpos _))
      · show (x >>> (y &&& 31)).toInt ≤ _
        rw [kI_shr]
        have := Int.ediv_le_self ((2 ^ ((y &&& 31).toBitVec.smod 32).toNat : Nat) : Int) b1
        omega
  | false =>
    rw [c1, cond_false] at hg
    exact kNx.fr h hM hl hr (kI_rng _).1 (kI_rng _).2 hg
def k_ishl (S : kS) (pc : Nat) (kl : kLs) (kt : List kV) : Option (List kR) := k_bi (fun x y t => cond (decide (0 ≤ k_lo S.1 x) && k_cst y && decide (k_hi S.1 x * ((2 ^ k_sh y.1 : Nat) : Int) ≤ kI1)) (k_1 S (pc + 1) kl ((0, k_mul ((2 ^ k_sh y.1 : Nat) : Int) x) :: t)) (cond (decide (0 ≤ k_lo S.1 x) && (decide (0 ≤ k_lo S.1 y) && (decide (k_hi S.1 y ≤ 30) && decide (k_hi S.1 x * ((2 ^ (k_hi S.1 y).toNat : Nat) : Int) ≤ kI1)))) (k_fr S 0 (k_hi S.1 x * ((2 ^ (k_hi S.1 y).toNat : Nat) : Int)) (pc + 1) kl t) (k_fr S kI0 kI1 (pc + 1) kl t))) kt
theorem k_sh_n : ∀ n : Nat, n < 32 → k_sh (n : Int) = n := by
  have : ∀ n ∈ List.range 32, k_sh (n : Int) = n := by decide
  exact fun n hn => this n (List.mem_range.mpr hn)
theorem k_ishl_ok (h : kRS N σ S M) (hM : kMem D M) (hl : kRL E S.1.length σ kl ls) (ht : kRT E S.1.length σ kt st) (hL : k_ishl S pc kl kt = some L) : kTo E N mods D S.1.length σ M L (pm_i2 (fun x y => x <<< (y &&& 31)) pc ls st M) := by
  obtain ⟨ex, ey, t, x, y, r, rfl, s1, s2, e1, e2, hr, hg⟩ := k_bi_ok ht hL
  refine ⟨_, rfl, ?_⟩
  have a1 := k_lo_le h.2.1 ex
  have a2 := k_hi_ge h.2.1 ex
  cases c1 : (decide (0 ≤ k_lo S.1 ex) && k_cst ey && decide (k_hi S.1 ex * ((2 ^ k_sh ey.1 : Nat) : Int) ≤ kI1)) with
  | true =>
    rw [c1, cond_true] at hg
    simp only [Bool.and_eq_true, decide_eq_true_eq] at c1
    have hy : y.toInt = ey.1 := e2.trans (k_ev_const c1.1.2)
    have hk : ((y &&& 31).toBitVec.smod 32).toNat = k_sh ey.1 := by
      unfold k_sh
      rw [← hy, Int32.ofInt_toInt]
    have hp := pk_shl x (y &&& 31) _ hk
    obtain ⟨n1, n2⟩ := kI_nat (x := x) (by omega)
    have hm : x.toInt * ((2 ^ k_sh ey.1 : Nat) : Int) ≤ kI1 := Int.le_trans (Int.mul_le_mul_of_nonneg_right (by omega) (Int.natCast_nonneg _)) c1.2
    rw [n1] at hm
    have hm : ((x.toBitVec.toNat * 2 ^ k_sh ey.1 : Nat) : Int) ≤ kI1 := by rw [Int.natCast_mul]; exact hm
    unfold kI1 at hm
    rw [Nat.mod_eq_of_lt (by omega)] at hp
    have hv := kI_ofn (x := x <<< (y &&& 31)) (by omega)
    refine kNx.one (kt := (0, k_mul ((2 ^ k_sh ey.1 : Nat) : Int) ex) :: t) (st := .int (x <<< (y &&& 31)) :: r) h hM hl ⟨⟨kSc_mul s1, _, rfl, ?_⟩, hr⟩ hg
    show (x <<< (y &&& 31)).toInt = k_ev σ (k_mul ((2 ^ k_sh ey.1 : Nat) : Int) ex)
    rw [hv, hp, k_ev_mul, ← e1, n1, Int.natCast_mul, Int.mul_comm]
  | false =>
    rw [c1, cond_false] at hg
    cases c4 : (decide (0 ≤ k_lo S.1 ex) && (decide (0 ≤ k_lo S.1 ey) && (decide (k_hi S.1 ey ≤ 30) && decide (k_hi S.1 ex * ((2 ^ (k_hi S.1 ey).toNat : Nat) : Int) ≤ kI1)))) with
    | true =>
      rw [c4, cond_true] at hg
      simp only [Bool.and_eq_true, decide_eq_true_eq] at c4
      obtain ⟨d1, d2, d3, d4⟩ := c4
      have a3 := k_lo_le h.2.1 ey
      have a4 := k_hi_ge h.2.1 ey
      obtain ⟨n, hn⟩ := Int.eq_ofNat_of_zero_le (show 0 ≤ y.toInt by omega)
      have hk : ((y &&& 31).toBitVec.smod 32).toNat = n := by
        have := k_sh_n n (by omega)
        rw [← hn] at this
        unfold k_sh at this
        rw [Int32.ofInt_toInt] at this
        exact this
      have hp := pk_shl x (y &&& 31) _ hk
      obtain ⟨n1, n2⟩ := kI_nat (x := x) (by omega)
      have hle : (2 ^ n : Nat) ≤ 2 ^ (k_hi S.1 ey).toNat := Nat.pow_le_pow_right (by decide) (by omega)
      have hm : x.toInt * ((2 ^ n : Nat) : Int) ≤ k_hi S.1 ex * ((2 ^ (k_hi S.1 ey).toNat : Nat) : Int) := Int.mul_le_mul (by omega) (by omega) (Int.natCast_nonneg _) (by omega)
      rw [n1] at hm
      have hm : ((x.toBitVec.toNat * 2 ^ n : Nat) : Int) ≤ k_hi S.1 ex * ((2 ^ (k_hi S.1 ey).toNat : Nat) : Int) := by rw [Int.natCast_mul]; exact hm
      unfold kI1 at d4
      rw [Nat.mod_eq_of_lt (by omega)] at hp
      have hv := kI_ofn (x := x <<< (y &&& 31)) (by omega)
      refine kNx.fr h hM hl hr ?_ ?_ hg
      · show 0 ≤ (x <<< (y &&& 31)).toInt
        rw [hv]
        omega
      · show (x <<< (y &&& 31)).toInt ≤ _
        rw [hv, hp]
        exact hm
    | false =>
    rw [c4, cond_false] at hg
    exact kNx.fr h hM hl hr (kI_rng _).1 (kI_rng _).2 hg
/-- narrowings: what fits stays -/
def k_nar (lo hi : Int) (S : kS) (pc : Nat) (kl : kLs) (kt : List kV) : Option (List kR) := k_un (fun x t => cond (k_fit S.1 S.2.1 lo hi x) (k_1 S (pc + 1) kl ((0, x) :: t)) (k_fr S lo hi (pc + 1) kl t)) kt
theorem k_nar_ok {lo hi : Int} {f : Int32 → Int32} (hf : ∀ x : Int32, lo ≤ (f x).toInt ∧ (f x).toInt ≤ hi ∧ (lo ≤ x.toInt → x.toInt ≤ hi → (f x).toInt = x.toInt)) (h : kRS N σ S M) (hM : kMem D M) (hl : kRL E S.1.length σ kl ls) (ht : kRT E S.1.length σ kt st) (hL : k_nar lo hi S pc kl kt = some L) : kTo E N mods D S.1.length σ M L (pm_i1 f pc ls st M) := by
  obtain ⟨ex, t, x, r, rfl, s1, e1, hr, hg⟩ := k_un_ok ht hL
  refine ⟨_, rfl, ?_⟩
  cases c1 : k_fit S.1 S.2.1 lo hi ex with
  | true =>
    rw [c1, cond_true] at hg
    have b := k_fit_ok h.2.1 h.2.2.1 c1
    exact kNx.one (kt := (0, ex) :: t) (st := .int (f x) :: r) h hM hl ⟨⟨s1, _, rfl, ((hf x).2.2 (by omega) (by omega)).trans e1⟩, hr⟩ hg
  | false =>
    rw [c1, cond_false] at hg
    exact kNx.fr h hM hl hr (hf x).1 (hf x).2.1 hg
end KBT
end
