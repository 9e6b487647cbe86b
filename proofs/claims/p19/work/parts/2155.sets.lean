noncomputable section
/-! sets as numbers: their bits, their longs -/
theorem kBg_nat : kBg = ((2 ^ kBgN : Nat) : Int) := by
  unfold kBg
  rw [Int.natCast_pow]
  rfl
theorem kBg_pos : 0 < kBg := by
  rw [kBg_nat]
  have : 0 < 2 ^ kBgN := Nat.two_pow_pos _
  omega
theorem kSet_lt (p : Nat → Bool) : ∀ n : Nat, kSet p n < 2 ^ n
  | 0 => by
    show 0 < 2 ^ 0
    decide
  | n + 1 => by
    have ih := kSet_lt p n
    show cond (p n) (2 ^ n) 0 + kSet p n < 2 ^ (n + 1)
    rw [Nat.pow_succ]
    cases p n with
    | false =>
      show 0 + kSet p n < 2 ^ n * 2
      omega
    | true =>
      show 2 ^ n + kSet p n < 2 ^ n * 2
      omega
theorem kSet_bit (p : Nat → Bool) : ∀ (n s : Nat), s < n → (kSet p n).testBit s = p s
  | 0, s, h => by omega
  | n + 1, s, h => by
    have hl := kSet_lt p n
    show (cond (p n) (2 ^ n) 0 + kSet p n).testBit s = p s
    by_cases e : s = n
    · subst e
      cases hp : p s with
      | false =>
        show (0 + kSet p s).testBit s = false
        rw [Nat.zero_add]
        exact Nat.testBit_lt_two_pow hl
      | true =>
        show (2 ^ s + kSet p s).testBit s = true
        rw [Nat.testBit_two_pow_add_eq, Nat.testBit_lt_two_pow hl]
        rfl
    · have h2 : s < n := by omega
      cases p n with
      | false =>
        show (0 + kSet p n).testBit s = p s
        rw [Nat.zero_add]
        exact kSet_bit p n s h2
      | true =>
        show (2 ^ n + kSet p n).testBit s = p s
        rw [Nat.testBit_two_pow_add_gt h2]
        exact kSet_bit p n s h2
theorem kSet_rg (p : Nat → Bool) : 0 ≤ (kSet p kBgN : Int) ∧ (kSet p kBgN : Int) < kBg := by
  have := kSet_lt p kBgN
  rw [kBg_nat]
  omega
theorem kBt_01 (u : Nat) (x : Int) : kBt u x = 0 ∨ kBt u x = 1 := Int.emod_two_eq _
theorem kBt_nat (u n : Nat) : kBt u (n : Int) = cond (n.testBit u) 1 0 := by
  have e : kBt u (n : Int) = ((n / 2 ^ u % 2 : Nat) : Int) := by
    unfold kBt
    rw [Int.natCast_emod, Int.natCast_ediv, Int.natCast_pow]
    rfl
  rw [e, Nat.testBit_eq_decide_div_mod_eq]
  have h : n / 2 ^ u % 2 = 0 ∨ n / 2 ^ u % 2 = 1 := by
    generalize n / 2 ^ u = z
    omega
  rcases h with h | h
  · rw [h]
    rfl
  · rw [h]
    rfl
theorem kBt_of {x : Int} (h : 0 ≤ x) (u : Nat) : kBt u x = cond (x.toNat.testBit u) 1 0 := by
  have e : ((x.toNat : Nat) : Int) = x := Int.toNat_of_nonneg h
  rw [← kBt_nat, e]
theorem kBt_iff {x : Int} (h : 0 ≤ x) (u : Nat) : kBt u x = 1 ↔ x.toNat.testBit u = true := by
  rw [kBt_of h]
  cases x.toNat.testBit u with
  | false => exact ⟨fun e => (by cases e), fun e => (by cases e)⟩
  | true => exact ⟨fun _ => rfl, fun _ => rfl⟩
theorem kBt_set (p : Nat → Bool) {n s : Nat} (h : s < n) : kBt s (kSet p n : Int) = cond (p s) 1 0 := by
  rw [kBt_nat, kSet_bit p n s h]
theorem kBt_dec (u : Nat) (x : Int) : (cond (decide (kBt u x = 1)) 1 0 : Int) = kBt u x := by
  rcases kBt_01 u x with e | e
  · rw [e]
    rfl
  · rw [e]
    rfl
theorem kFct_bit {f : Int} {s : Nat} (h : s < kBgN) : kBt s (kFct f : Int) = kBt f.toNat (s : Int) := by
  unfold kFct
  rw [kBt_set _ h, kBt_dec]
theorem kMst_bit {Q : Int} {s : Nat} (h : s < kBgN) : kBt s (kMst Q : Int) = cond (decide (Q % 16 ≤ kCnt (s : Int) (Q / 16))) 1 0 := by
  unfold kMst
  rw [kBt_set _ h]
theorem kFct_rg (f : Int) : 0 ≤ (kFct f : Int) ∧ (kFct f : Int) < kBg := kSet_rg _
theorem kMst_rg (Q : Int) : 0 ≤ (kMst Q : Int) ∧ (kMst Q : Int) < kBg := kSet_rg _
theorem kBg_bit {x : Int} (h0 : 0 ≤ x) (h1 : x < kBg) {u : Nat} (hu : kBgN ≤ u) : x.toNat.testBit u = false := by
  refine Nat.testBit_lt_two_pow ?_
  rw [kBg_nat] at h1
  have h2 : x.toNat < 2 ^ kBgN := by
    generalize 2 ^ kBgN = z at h1
    omega
  exact Nat.lt_of_lt_of_le h2 (Nat.pow_le_pow_right (by decide) hu)
theorem kAnd_n (a b : Int) : (kAnd a b).toNat = a.toNat &&& b.toNat := Int.toNat_natCast _
theorem kOr_n (a b : Int) : (kOr a b).toNat = a.toNat ||| b.toNat := Int.toNat_natCast _
theorem kAnd_0 (a b : Int) : 0 ≤ kAnd a b := by
  unfold kAnd
  omega
theorem kOr_0 (a b : Int) : 0 ≤ kOr a b := by
  unfold kOr
  omega
theorem kLt_bg {x : Int} (h0 : 0 ≤ x) (h : ∀ u : Nat, kBgN ≤ u → x.toNat.testBit u = false) : x < kBg := by
  have := Nat.lt_pow_two_of_testBit x.toNat h
  rw [kBg_nat]
  generalize 2 ^ kBgN = z at this
  omega
theorem kAnd_rg {a b : Int} (a0 : 0 ≤ a) (a1 : a < kBg) : 0 ≤ kAnd a b ∧ kAnd a b < kBg := by
  refine ⟨kAnd_0 a b, kLt_bg (kAnd_0 a b) fun u hu => ?_⟩
  rw [kAnd_n, Nat.testBit_and, kBg_bit a0 a1 hu]
  rfl
theorem kOr_rg {a b : Int} (a0 : 0 ≤ a) (a1 : a < kBg) (b0 : 0 ≤ b) (b1 : b < kBg) : 0 ≤ kOr a b ∧ kOr a b < kBg := by
  refine ⟨kOr_0 a b, kLt_bg (kOr_0 a b) fun u hu => ?_⟩
  rw [kOr_n, Nat.testBit_or, kBg_bit a0 a1 hu, kBg_bit b0 b1 hu]
  rfl
theorem kBt_and {a b : Int} (a0 : 0 ≤ a) (b0 : 0 ≤ b) (u : Nat) : kBt u (kAnd a b) = kBt u a * kBt u b := by
  rw [kBt_of (kAnd_0 a b), kAnd_n, Nat.testBit_and, kBt_of a0, kBt_of b0]
  cases a.toNat.testBit u with
  | false => cases b.toNat.testBit u with
    | false => rfl
    | true => rfl
  | true => cases b.toNat.testBit u with
    | false => rfl
    | true => rfl
theorem kBt_or {a b : Int} (a0 : 0 ≤ a) (b0 : 0 ≤ b) (u : Nat) : kBt u (kOr a b) = kBt u a + kBt u b - kBt u a * kBt u b := by
  rw [kBt_of (kOr_0 a b), kOr_n, Nat.testBit_or, kBt_of a0, kBt_of b0]
  cases a.toNat.testBit u with
  | false => cases b.toNat.testBit u with
    | false => rfl
    | true => rfl
  | true => cases b.toNat.testBit u with
    | false => rfl
    | true => rfl
theorem kNot_n {x : Int} (h0 : 0 ≤ x) (h1 : x < kBg) : (kBg - 1 - x).toNat = 2 ^ kBgN - (x.toNat + 1) := by
  rw [kBg_nat] at h1 ⊢
  generalize 2 ^ kBgN = z at h1 ⊢
  omega
theorem kNot_bit {x : Int} (h0 : 0 ≤ x) (h1 : x < kBg) (u : Nat) : (kBg - 1 - x).toNat.testBit u = (decide (u < kBgN) && !(x.toNat.testBit u)) := by
  rw [kNot_n h0 h1]
  refine Nat.testBit_two_pow_sub_succ ?_ u
  rw [kBg_nat] at h1
  generalize 2 ^ kBgN = z at h1 ⊢
  omega
theorem kBt_not {x : Int} (h0 : 0 ≤ x) (h1 : x < kBg) {u : Nat} (hu : u < kBgN) : kBt u (kBg - 1 - x) = 1 - kBt u x := by
  rw [kBt_of (by omega), kNot_bit h0 h1, decide_eq_true hu, Bool.true_and, kBt_of h0]
  cases x.toNat.testBit u with
  | false => rfl
  | true => rfl
theorem kBt_all {u : Nat} (hu : u < kBgN) : kBt u (kBg - 1) = 1 := by
  have e := kBt_not (x := 0) (by omega) kBg_pos hu
  rw [Int.sub_zero] at e
  rw [e]
  have : kBt u 0 = 0 := by
    unfold kBt
    rw [Int.zero_ediv]
    rfl
  rw [this]
  rfl
theorem kBt_zero (u : Nat) : kBt u 0 = 0 := by
  unfold kBt
  rw [Int.zero_ediv]
  rfl
/-! longs -/
theorem kWv_bit (j : Nat) (x : Int) (u : Nat) : (kWv j x).getLsbD u = (decide (u < 64) && x.toNat.testBit (64 * j + u)) := by
  unfold kWv
  rw [BitVec.getLsbD_ofNat, Nat.testBit_shiftRight]
theorem kWv_and (j : Nat) (a b : Int) : kWv j (kAnd a b) = kWv j a &&& kWv j b := by
  unfold kWv
  rw [kAnd_n, Nat.shiftRight_and_distrib, BitVec.ofNat_and]
theorem kWv_or (j : Nat) (a b : Int) : kWv j (kOr a b) = kWv j a ||| kWv j b := by
  unfold kWv
  rw [kOr_n, Nat.shiftRight_or_distrib, BitVec.ofNat_or]
theorem kWv_not {j : Nat} (hj : j < 64) {x : Int} (h0 : 0 ≤ x) (h1 : x < kBg) : kWv j (kBg - 1 - x) = ~~~(kWv j x) := by
  refine BitVec.eq_of_getLsbD_eq fun i hi => ?_
  rw [BitVec.getLsbD_not, kWv_bit, kWv_bit, kNot_bit h0 h1, decide_eq_true hi, decide_eq_true (show 64 * j + i < kBgN by unfold kBgN; omega)]
  rfl
theorem kWv_zero (j : Nat) : kWv j 0 = 0#64 := by
  unfold kWv
  show BitVec.ofNat 64 (0 >>> (64 * j)) = 0#64
  rw [Nat.zero_shiftRight]
theorem kWd_all {j : Nat} (hj : j < 64) : kWd j (kBg - 1) = -1 := by
  have e := kWv_not hj (x := 0) (by omega) kBg_pos
  rw [Int.sub_zero, kWv_zero] at e
  unfold kWd
  rw [e]
  decide
theorem kWd_zero (j : Nat) : kWd j 0 = 0 := by
  unfold kWd
  rw [kWv_zero]
  decide
/-- a long out of its bits -/
theorem kWv_of {j : Nat} {x : Int} (h0 : 0 ≤ x) {w : BitVec 64} (h : ∀ u : Nat, u < 64 → (w.getLsbD u = true ↔ kBt (64 * j + u) x = 1)) : kWv j x = w := by
  refine BitVec.eq_of_getLsbD_eq fun u hu => ?_
  rw [kWv_bit, decide_eq_true hu, Bool.true_and]
  have := h u hu
  rw [kBt_iff h0] at this
  cases c : w.getLsbD u with
  | false =>
    cases d : x.toNat.testBit (64 * j + u) with
    | false => rfl
    | true =>
      have := this.mpr d
      rw [c] at this
      cases this
  | true => exact this.mp c
/-- the facts 0 to 5: the same in all 64 -/
def kPat (f : Nat) : Int := [-6148914691236517206, -3689348814741910324, -1085102592571150096, -71777214294589696, -281470681808896, -4294967296].getD f 0
theorem kFct_lo {f j : Nat} (hf : f < 6) (hj : j < 64) : kWd j (kFct (f : Int)) = kPat f := by
  have key : ∀ w : BitVec 64, (∀ u : Nat, u < 64 → (w.getLsbD u = true ↔ kBt f ((64 * j + u : Nat) : Int) = 1)) → kWd j (kFct (f : Int)) = w.toInt := fun w hw => by
    unfold kWd
    rw [kWv_of (kFct_rg _).1 (w := w) fun u hu => by rw [kFct_bit (by unfold kBgN; omega), Int.toNat_natCast]; exact hw u hu]
  have red : ∀ u : Nat, kBt f ((64 * j + u : Nat) : Int) = kBt f ((u : Nat) : Int) := fun u => by
    match f, hf with
    | 0, _ => unfold kBt; omega
    | 1, _ => unfold kBt; omega
    | 2, _ => unfold kBt; omega
    | 3, _ => unfold kBt; omega
    | 4, _ => unfold kBt; omega
    | 5, _ => unfold kBt; omega
  have fin : ∀ (w : BitVec 64), (∀ u : Fin 64, w.getLsbD u.val = decide (kBt f ((u.val : Nat) : Int) = 1)) → kWd j (kFct (f : Int)) = w.toInt := fun w hw => key w fun u hu => by
    rw [red, hw ⟨u, hu⟩]
    exact decide_eq_true_iff
  match f, hf, fin with
  | 0, _, fin => exact fin 0xAAAAAAAAAAAAAAAA#64 (by decide +kernel)
  | 1, _, fin => exact fin 0xCCCCCCCCCCCCCCCC#64 (by decide +kernel)
  | 2, _, fin => exact fin 0xF0F0F0F0F0F0F0F0#64 (by decide +kernel)
  | 3, _, fin => exact fin 0xFF00FF00FF00FF00#64 (by decide +kernel)
  | 4, _, fin => exact fin 0xFFFF0000FFFF0000#64 (by decide +kernel)
  | 5, _, fin => exact fin 0xFFFFFFFF00000000#64 (by decide +kernel)
/-- the others: all 64 have them, or none -/
theorem kFct_hi {f j : Nat} (h6 : 6 ≤ f) (hf : f < 12) (hj : j < 64) : kWd j (kFct (f : Int)) = -kBt (f - 6) (j : Int) := by
  have red : ∀ u : Nat, u < 64 → kBt f ((64 * j + u : Nat) : Int) = kBt (f - 6) (j : Int) := fun u hu => by
    match f, h6, hf with
    | 6, _, _ => show ((64 * j + u : Nat) : Int) / 2 ^ 6 % 2 = (j : Int) / 2 ^ 0 % 2; omega
    | 7, _, _ => show ((64 * j + u : Nat) : Int) / 2 ^ 7 % 2 = (j : Int) / 2 ^ 1 % 2; omega
    | 8, _, _ => show ((64 * j + u : Nat) : Int) / 2 ^ 8 % 2 = (j : Int) / 2 ^ 2 % 2; omega
    | 9, _, _ => show ((64 * j + u : Nat) : Int) / 2 ^ 9 % 2 = (j : Int) / 2 ^ 3 % 2; omega
    | 10, _, _ => show ((64 * j + u : Nat) : Int) / 2 ^ 10 % 2 = (j : Int) / 2 ^ 4 % 2; omega
    | 11, _, _ => show ((64 * j + u : Nat) : Int) / 2 ^ 11 % 2 = (j : Int) / 2 ^ 5 % 2; omega
  have key : ∀ w : BitVec 64, (∀ u : Nat, u < 64 → (w.getLsbD u = true ↔ kBt (f - 6) (j : Int) = 1)) → kWd j (kFct (f : Int)) = w.toInt := fun w hw => by
    unfold kWd
    rw [kWv_of (kFct_rg _).1 (w := w) fun u hu => by rw [kFct_bit (by unfold kBgN; omega), Int.toNat_natCast, red u hu]; exact hw u hu]
  rcases kBt_01 (f - 6) (j : Int) with e | e
  · rw [e, key 0#64 fun u hu => by
      rw [e]
      exact ⟨fun h => (by rw [BitVec.getLsbD_zero] at h; cases h), fun h => (by cases h)⟩]
    decide
  · rw [e, key (BitVec.allOnes 64) fun u hu => by
      rw [e, BitVec.getLsbD_allOnes, decide_eq_true hu]
      exact ⟨fun _ => rfl, fun _ => rfl⟩]
    decide
/-! lists -/
theorem kCnl_z (s z : Int) : ∀ n : Nat, kCnl s z n 0 = 0
  | 0 => rfl
  | n + 1 => by
    show cond (decide (1 ≤ (0 : Int) % 16 ∧ (0 : Int) % 16 ≤ z)) (kBt ((0 : Int) % 16 - 1).toNat s) 0 + kCnl s z n (0 / 16) = 0
    rw [decide_eq_false (by omega), cond_false, show (0 : Int) / 16 = 0 from rfl, kCnl_z s z n]
    rfl
theorem kCnl_fu (s z : Int) : ∀ (n k : Nat) (L : Int), 0 ≤ L → L < 16 ^ n → kCnl s z (n + k) L = kCnl s z n L
  | 0, k, L, h0, h1 => by
    have : L = 0 := by
      have : (16 : Int) ^ 0 = 1 := rfl
      omega
    subst this
    rw [kCnl_z]
    rfl
  | n + 1, k, L, h0, h1 => by
    rw [show n + 1 + k = (n + k) + 1 by omega]
    show cond _ _ _ + kCnl s z (n + k) (L / 16) = cond _ _ _ + kCnl s z n (L / 16)
    rw [kCnl_fu s z n k (L / 16) (by omega) (by rw [Int.pow_succ] at h1; generalize (16 : Int) ^ n = q at h1 ⊢; omega)]
theorem kCnl_st (s z L d : Int) (n : Nat) (hd0 : 1 ≤ d) (hd : d < 16) : kCnl s z (n + 1) (16 * L + d) = cond (decide (d ≤ z)) (kBt (d - 1).toNat s) 0 + kCnl s z n L := by
  show cond (decide (1 ≤ (16 * L + d) % 16 ∧ (16 * L + d) % 16 ≤ z)) (kBt ((16 * L + d) % 16 - 1).toNat s) 0 + kCnl s z n ((16 * L + d) / 16) = _
  rw [show (16 * L + d) % 16 = d by omega, show (16 * L + d) / 16 = L by omega]
  by_cases h : d ≤ z
  · rw [decide_eq_true h, decide_eq_true (show 1 ≤ d ∧ d ≤ z from ⟨hd0, h⟩)]
  · rw [decide_eq_false h, decide_eq_false (show ¬ (1 ≤ d ∧ d ≤ z) from fun e => h e.2)]
/-- one more of a list -/
theorem kCnt_st {s L x : Int} (x0 : 0 ≤ x) (x1 : x ≤ 11) (L0 : 0 ≤ L) (L1 : L < 16 ^ 13) : kCnt s (16 * L + (x + 1)) = kCnt s L + kBt x.toNat s := by
  unfold kCnt
  rw [kCnl_st s 12 L (x + 1) 13 (by omega) (by omega), decide_eq_true (by omega), cond_true, show x + 1 - 1 = x by omega]
  have e : kCnl s 12 14 L = kCnl s 12 13 L := kCnl_fu s 12 13 1 L L0 L1
  rw [e]
  omega
theorem kCnt_0 (s : Int) : kCnt s 0 = 0 := kCnl_z s 12 14
theorem kCnl_le (s z : Int) : ∀ (f n : Nat) (L : Int), 0 ≤ L → L < 16 ^ n → 0 ≤ kCnl s z f L ∧ kCnl s z f L ≤ (n : Int)
  | 0, n, L, _, _ => ⟨by show (0 : Int) ≤ 0; omega, by show (0 : Int) ≤ (n : Int); omega⟩
  | f + 1, 0, L, h0, h1 => by
    have : L = 0 := by
      have : (16 : Int) ^ 0 = 1 := rfl
      omega
    subst this
    rw [kCnl_z]
    omega
  | f + 1, n + 1, L, h0, h1 => by
    obtain ⟨a, b⟩ := kCnl_le s z f n (L / 16) (by omega) (by rw [Int.pow_succ] at h1; generalize (16 : Int) ^ n = q at h1 ⊢; omega)
    have e : kCnl s z (f + 1) L = cond (decide (1 ≤ L % 16 ∧ L % 16 ≤ z)) (kBt (L % 16 - 1).toNat s) 0 + kCnl s z f (L / 16) := rfl
    have c : 0 ≤ cond (decide (1 ≤ L % 16 ∧ L % 16 ≤ z)) (kBt (L % 16 - 1).toNat s) 0 ∧ cond (decide (1 ≤ L % 16 ∧ L % 16 ≤ z)) (kBt (L % 16 - 1).toNat s) 0 ≤ 1 := by
      cases decide (1 ≤ L % 16 ∧ L % 16 ≤ z) with
      | false => exact ⟨by show (0 : Int) ≤ 0; omega, by show (0 : Int) ≤ 1; omega⟩
      | true =>
        show 0 ≤ kBt (L % 16 - 1).toNat s ∧ kBt (L % 16 - 1).toNat s ≤ 1
        rcases kBt_01 (L % 16 - 1).toNat s with e | e <;> omega
    rw [e]
    omega
/-- a fact more: as often as the list has it -/
theorem kCnl_z1 (s : Int) (g : Nat) : ∀ (n : Nat) (L : Int), kCnl s ((g : Int) + 1) n L = kCnl s (g : Int) n L + kTms g n L * kBt g s
  | 0, L => by
    show (0 : Int) = 0 + 0 * kBt g s
    omega
  | n + 1, L => by
    have e1 : kCnl s ((g : Int) + 1) (n + 1) L = cond (decide (1 ≤ L % 16 ∧ L % 16 ≤ (g : Int) + 1)) (kBt (L % 16 - 1).toNat s) 0 + kCnl s ((g : Int) + 1) n (L / 16) := rfl
    have e2 : kCnl s (g : Int) (n + 1) L = cond (decide (1 ≤ L % 16 ∧ L % 16 ≤ (g : Int))) (kBt (L % 16 - 1).toNat s) 0 + kCnl s (g : Int) n (L / 16) := rfl
    have e3 : kTms g (n + 1) L = cond (decide (L % 16 = (g : Int) + 1)) 1 0 + kTms g n (L / 16) := rfl
    rw [e1, e2, e3, kCnl_z1 s g n (L / 16)]
    by_cases h : L % 16 = (g : Int) + 1
    · rw [decide_eq_true h, decide_eq_true (show 1 ≤ L % 16 ∧ L % 16 ≤ (g : Int) + 1 by omega), decide_eq_false (show ¬ (1 ≤ L % 16 ∧ L % 16 ≤ (g : Int)) by omega), h, show ((g : Int) + 1 - 1).toNat = g by omega]
      show kBt g s + (kCnl s (g : Int) n (L / 16) + kTms g n (L / 16) * kBt g s) = 0 + kCnl s (g : Int) n (L / 16) + (1 + kTms g n (L / 16)) * kBt g s
      rw [Int.add_mul]
      omega
    · rw [decide_eq_false h]
      have : decide (1 ≤ L % 16 ∧ L % 16 ≤ (g : Int) + 1) = decide (1 ≤ L % 16 ∧ L % 16 ≤ (g : Int)) := by
        by_cases h2 : 1 ≤ L % 16 ∧ L % 16 ≤ (g : Int)
        · rw [decide_eq_true h2, decide_eq_true (show 1 ≤ L % 16 ∧ L % 16 ≤ (g : Int) + 1 by omega)]
        · rw [decide_eq_false h2, decide_eq_false (show ¬ (1 ≤ L % 16 ∧ L % 16 ≤ (g : Int) + 1) by omega)]
      rw [this]
      show _ + (kCnl s (g : Int) n (L / 16) + kTms g n (L / 16) * kBt g s) = _ + kCnl s (g : Int) n (L / 16) + (0 + kTms g n (L / 16)) * kBt g s
      rw [Int.zero_add]
      omega
/-! digits of pending sets -/
theorem kDg_0 {b r : Int} (h0 : 0 ≤ b) (h1 : b < kBg) : kDg (b + kBg * r) 0 = b := by
  unfold kDg
  rw [Int.pow_zero, Int.ediv_one, Int.add_mul_emod_self_left, Int.emod_eq_of_lt h0 h1]
theorem kDg_s {b r : Int} (h0 : 0 ≤ b) (h1 : b < kBg) (i : Nat) : kDg (b + kBg * r) (i + 1) = kDg r i := by
  unfold kDg
  have hp := kBg_pos
  rw [Int.pow_succ', ← Int.ediv_ediv_of_nonneg (by omega), Int.add_mul_ediv_left _ _ (by omega), Int.ediv_eq_zero_of_lt h0 h1, Int.zero_add]
theorem kDg_rg (P : Int) (i : Nat) : 0 ≤ kDg P i ∧ kDg P i < kBg := ⟨Int.emod_nonneg _ (by have := kBg_pos; omega), Int.emod_lt_of_pos _ kBg_pos⟩
theorem kDg_z (i : Nat) : kDg 0 i = 0 := by
  unfold kDg
  rw [Int.zero_ediv, Int.zero_emod]
end
noncomputable section
/-! tables: what the signs leave, what waits, lists -/
section KTB1
variable {M M' : pM}
theorem kLs_s (y n : Nat) : kLss M y (n + 1) = match kLss M y n, k_gi M 461 (y + n) with
    | some L, some x => cond (decide (0 ≤ x ∧ x ≤ 11)) (some (16 * L + (x + 1))) none
    | _, _ => none := rfl
theorem kLs_to {y n : Nat} {L : Int} (h : kLss M y (n + 1) = some L) : ∃ K x : Int, kLss M y n = some K ∧ k_gi M 461 (y + n) = some x ∧ 0 ≤ x ∧ x ≤ 11 ∧ L = 16 * K + (x + 1) := by
  rw [kLs_s] at h
  cases e1 : kLss M y n with
  | none =>
    rw [e1] at h
    cases h
  | some K =>
    rw [e1] at h
    cases e2 : k_gi M 461 (y + n) with
    | none =>
      rw [e2] at h
      cases h
    | some x =>
      rw [e2] at h
      dsimp only at h
      obtain ⟨g, h⟩ := pm_cs h
      cases h
      obtain ⟨g1, g2⟩ := of_decide_eq_true g
      exact ⟨K, x, rfl, rfl, g1, g2, rfl⟩
theorem kLs_of {y n : Nat} {K x : Int} (h1 : kLss M y n = some K) (h2 : k_gi M 461 (y + n) = some x) (h3 : 0 ≤ x) (h4 : x ≤ 11) : kLss M y (n + 1) = some (16 * K + (x + 1)) := by
  rw [kLs_s, h1, h2]
  dsimp only
  rw [decide_eq_true ⟨h3, h4⟩, cond_true]
theorem kLss.fr {y : Nat} : ∀ {n : Nat} {L : Int}, kLss M y n = some L → (∀ i : Nat, i < y + n → k_gi M' 461 i = k_gi M 461 i) → kLss M' y n = some L
  | 0, _, h, _ => h
  | n + 1, L, h, hs => by
    obtain ⟨K, x, e1, e2, e3, e4, rfl⟩ := kLs_to h
    exact kLs_of (kLss.fr e1 fun i hi => hs i (by omega)) (by rw [hs _ (by omega)]; exact e2) e3 e4
theorem kLs_dn {y : Nat} : ∀ {n k : Nat} {L : Int}, kLss M y (n + k) = some L → ∃ K, kLss M y n = some K
  | n, 0, L, h => ⟨L, h⟩
  | n, k + 1, L, h => by
    obtain ⟨K, x, e1, -⟩ := kLs_to (n := n + k) h
    exact kLs_dn e1
theorem kLs_rg {y : Nat} : ∀ {n : Nat} {L : Int}, kLss M y n = some L → 0 ≤ L ∧ L < 16 ^ n
  | 0, L, h => by
    cases h
    exact ⟨by omega, by decide⟩
  | n + 1, L, h => by
    obtain ⟨K, x, e1, -, e3, e4, rfl⟩ := kLs_to h
    obtain ⟨i1, i2⟩ := kLs_rg e1
    rw [Int.pow_succ]
    generalize (16 : Int) ^ n = q at i2 ⊢
    omega
/-- signs -/
theorem kRs.to {q r : Nat × Int × Nat} (h : kRs M q = some r) : ∃ x : Int, k_gi M 461 q.1 = some x ∧ (
    (0 ≤ x ∧ x ≤ 11 ∧ q.2.2 ≤ 198 ∧ r = (q.1 + 1, (kFct x : Int) + kBg * q.2.1, q.2.2 + 1)) ∨
    (x = 20 ∧ 1 ≤ q.2.2 ∧ r = (q.1 + 1, q.2.1 - 2 * (q.2.1 % kBg) + (kBg - 1), q.2.2)) ∨
    (21 ≤ x ∧ x ≤ 23 ∧ 2 ≤ q.2.2 ∧ r = (q.1 + 1, kBop x (q.2.1 / kBg % kBg) (q.2.1 % kBg) + kBg * (q.2.1 / kBg / kBg), q.2.2 - 1)) ∨
    (x = 30 ∧ q.2.2 ≤ 198 ∧ ∃ l y L : Int, k_gi M 461 (q.1 + 1) = some l ∧ k_gi M 461 (q.1 + 2) = some y ∧ 0 ≤ l ∧ l ≤ 12 ∧ 0 ≤ y ∧ y ≤ 12 ∧ kLss M (q.1 + 3) y.toNat = some L ∧ r = (q.1 + 3 + y.toNat, (kMst (l + 16 * L) : Int) + kBg * q.2.1, q.2.2 + 1))) := by
  unfold kRs at h
  split at h
  · cases h
  · rename_i x hx
    refine ⟨x, hx, ?_⟩
    by_cases c1 : 0 ≤ x ∧ x ≤ 11 ∧ q.2.2 ≤ 198
    · rw [if_pos c1] at h
      cases h
      exact Or.inl ⟨c1.1, c1.2.1, c1.2.2, rfl⟩
    · rw [if_neg c1] at h
      by_cases c2 : x = 20 ∧ 1 ≤ q.2.2
      · rw [if_pos c2] at h
        cases h
        exact Or.inr (Or.inl ⟨c2.1, c2.2, rfl⟩)
      · rw [if_neg c2] at h
        by_cases c3 : 21 ≤ x ∧ x ≤ 23 ∧ 2 ≤ q.2.2
        · rw [if_pos c3] at h
          cases h
          exact Or.inr (Or.inr (Or.inl ⟨c3.1, c3.2.1, c3.2.2, rfl⟩))
        · rw [if_neg c3] at h
          by_cases c4 : x = 30 ∧ q.2.2 ≤ 198
          · rw [if_pos c4] at h
            split at h
            · rename_i l y hl hy
              by_cases c5 : 0 ≤ l ∧ l ≤ 12 ∧ 0 ≤ y ∧ y ≤ 12
              · rw [if_pos c5] at h
                split at h
                · rename_i L hL
                  cases h
                  exact Or.inr (Or.inr (Or.inr ⟨c4.1, c4.2, l, y, L, hl, hy, c5.1, c5.2.1, c5.2.2.1, c5.2.2.2, hL, rfl⟩))
                · cases h
              · rw [if_neg c5] at h
                cases h
            · cases h
          · rw [if_neg c4] at h
            cases h
theorem kRs_1 {q : Nat × Int × Nat} {x : Int} (hx : k_gi M 461 q.1 = some x) (h1 : 0 ≤ x) (h2 : x ≤ 11) (h3 : q.2.2 ≤ 198) : kRs M q = some (q.1 + 1, (kFct x : Int) + kBg * q.2.1, q.2.2 + 1) := by
  unfold kRs
  rw [hx]
  exact if_pos ⟨h1, h2, h3⟩
theorem kRs_2 {q : Nat × Int × Nat} (hx : k_gi M 461 q.1 = some 20) (h3 : 1 ≤ q.2.2) : kRs M q = some (q.1 + 1, q.2.1 - 2 * (q.2.1 % kBg) + (kBg - 1), q.2.2) := by
  unfold kRs
  rw [hx]
  exact (if_neg (by omega)).trans (if_pos ⟨rfl, h3⟩)
theorem kRs_3 {q : Nat × Int × Nat} {x : Int} (hx : k_gi M 461 q.1 = some x) (h1 : 21 ≤ x) (h2 : x ≤ 23) (h3 : 2 ≤ q.2.2) : kRs M q = some (q.1 + 1, kBop x (q.2.1 / kBg % kBg) (q.2.1 % kBg) + kBg * (q.2.1 / kBg / kBg), q.2.2 - 1) := by
  unfold kRs
  rw [hx]
  exact (if_neg (by omega)).trans ((if_neg (by omega)).trans (if_pos ⟨h1, h2, h3⟩))
theorem kRs_4 {q : Nat × Int × Nat} {l y L : Int} (hx : k_gi M 461 q.1 = some 30) (h3 : q.2.2 ≤ 198) (hl : k_gi M 461 (q.1 + 1) = some l) (hy : k_gi M 461 (q.1 + 2) = some y) (l0 : 0 ≤ l) (l1 : l ≤ 12) (y0 : 0 ≤ y) (y1 : y ≤ 12) (hL : kLss M (q.1 + 3) y.toNat = some L) : kRs M q = some (q.1 + 3 + y.toNat, (kMst (l + 16 * L) : Int) + kBg * q.2.1, q.2.2 + 1) := by
  unfold kRs
  rw [hx]
  refine (if_neg (by omega)).trans ((if_neg (by omega)).trans ((if_neg (by omega)).trans ((if_pos ⟨rfl, h3⟩).trans ?_)))
  rw [hl, hy]
  refine (if_pos ⟨l0, l1, y0, y1⟩).trans ?_
  rw [hL]
theorem kRs.fr {q r : Nat × Int × Nat} (h : kRs M q = some r) (hs : ∀ n : Nat, n < r.1 → k_gi M' 461 n = k_gi M 461 n) : q.1 < r.1 ∧ kRs M' q = some r := by
  obtain ⟨x, hx, h⟩ := kRs.to h
  rcases h with ⟨h1, h2, h3, rfl⟩ | ⟨rfl, h3, rfl⟩ | ⟨h1, h2, h3, rfl⟩ | ⟨rfl, h3, l, y, L, hl, hy, l0, l1, y0, y1, hL, rfl⟩
  · exact ⟨Nat.lt_succ_self _, kRs_1 (by rw [hs _ (Nat.lt_succ_self _)]; exact hx) h1 h2 h3⟩
  · exact ⟨Nat.lt_succ_self _, kRs_2 (by rw [hs _ (Nat.lt_succ_self _)]; exact hx) h3⟩
  · exact ⟨Nat.lt_succ_self _, kRs_3 (by rw [hs _ (Nat.lt_succ_self _)]; exact hx) h1 h2 h3⟩
  · have hs : ∀ n : Nat, n < q.1 + 3 + y.toNat → k_gi M' 461 n = k_gi M 461 n := hs
    exact ⟨by show q.1 < q.1 + 3 + y.toNat; omega, kRs_4 (by rw [hs _ (by omega)]; exact hx) h3 (by rw [hs _ (by omega)]; exact hl) (by rw [hs _ (by omega)]; exact hy) l0 l1 y0 y1 (kLss.fr hL fun i hi => hs i (by omega))⟩
/-- as the signs alone have it -/
theorem kRs.zs {q r : Nat × Int × Nat} (h : kRs M q = some r) : kZs M (q.1, (q.2.2 : Int)) = some (r.1, (r.2.2 : Int)) := by
  obtain ⟨x, hx, h⟩ := kRs.to h
  unfold kZs
  dsimp only
  rw [hx]
  rcases h with ⟨h1, h2, h3, rfl⟩ | ⟨rfl, h3, rfl⟩ | ⟨h1, h2, h3, rfl⟩ | ⟨rfl, h3, l, y, L, hl, hy, l0, l1, y0, y1, hL, rfl⟩
  · refine (if_pos (by omega)).trans ?_
    simp
  · refine (if_neg (by omega)).trans ((if_pos (by omega)).trans ?_)
    simp
  · refine (if_neg (by omega)).trans ((if_neg (by omega)).trans ((if_pos (by omega)).trans ?_))
    have : ((q.2.2 - 1 : Nat) : Int) = (q.2.2 : Int) - 1 := by omega
    rw [this]
  · refine (if_neg (by omega)).trans ((if_neg (by omega)).trans ((if_neg (by omega)).trans ((if_pos (by omega)).trans ?_)))
    rw [hy]
    refine (if_pos (by omega)).trans ?_
    simp
theorem kRp_s (t : Nat) : kRp M (t + 1) = (kRp M t).bind (kRs M) := rfl
theorem kRp_to {t : Nat} {r : Nat × Int × Nat} (h : kRp M (t + 1) = some r) : ∃ q, kRp M t = some q ∧ kRs M q = some r := by
  rw [kRp_s] at h
  cases e : kRp M t with
  | none =>
    rw [e] at h
    cases h
  | some q =>
    rw [e] at h
    exact ⟨q, rfl, h⟩
theorem kRp_of {t : Nat} {q r : Nat × Int × Nat} (h1 : kRp M t = some q) (h2 : kRs M q = some r) : kRp M (t + 1) = some r := by
  rw [kRp_s, h1]
  exact h2
theorem kRp.fr : ∀ {t : Nat} {r : Nat × Int × Nat}, kRp M t = some r → (∀ n : Nat, n < r.1 → k_gi M' 461 n = k_gi M 461 n) → kRp M' t = some r
  | 0, _, h, _ => h
  | t + 1, r, h, hs => by
    obtain ⟨q, h1, h2⟩ := kRp_to h
    obtain ⟨hl, h3⟩ := kRs.fr h2 hs
    exact kRp_of (kRp.fr h1 fun n hn => hs n (Nat.lt_trans hn hl)) h3
theorem kRp.zi : ∀ {t : Nat} {r : Nat × Int × Nat}, kRp M t = some r → kZi M t = some (r.1, (r.2.2 : Int))
  | 0, _, h => by
    cases h
    rfl
  | t + 1, r, h => by
    obtain ⟨q, h1, h2⟩ := kRp_to h
    show (kZi M t).bind (kZs M) = _
    rw [kRp.zi h1]
    exact kRs.zs h2
/-- digits pushed, popped -/
theorem kPu {a P : Int} {n : Nat} (a0 : 0 ≤ a) (a1 : a < kBg) (p0 : 0 ≤ P) (p1 : P < kBg ^ n) : 0 ≤ a + kBg * P ∧ a + kBg * P < kBg ^ (n + 1) := by
  have hp := kBg_pos
  have e : kBg * P ≤ kBg * (kBg ^ n - 1) := Int.mul_le_mul_of_nonneg_left (by omega) (by omega)
  have f : 0 ≤ kBg * P := Int.mul_nonneg (by omega) p0
  rw [Int.mul_sub, Int.mul_one] at e
  rw [Int.pow_succ']
  generalize kBg * kBg ^ n = z at e ⊢
  generalize kBg * P = y at e f ⊢
  omega
theorem kPd {P : Int} {n : Nat} (p0 : 0 ≤ P) (p1 : P < kBg ^ (n + 1)) : 0 ≤ P / kBg ∧ P / kBg < kBg ^ n := by
  have hp := kBg_pos
  rw [Int.pow_succ] at p1
  exact ⟨Int.ediv_nonneg p0 (by omega), Int.ediv_lt_of_lt_mul hp p1⟩
theorem kPm (P : Int) : 0 ≤ P % kBg ∧ P % kBg < kBg := ⟨Int.emod_nonneg _ (by have := kBg_pos; omega), Int.emod_lt_of_pos _ kBg_pos⟩
theorem kBop_rg {x a b : Int} (a0 : 0 ≤ a) (a1 : a < kBg) (b0 : 0 ≤ b) (b1 : b < kBg) : 0 ≤ kBop x a b ∧ kBop x a b < kBg := by
  unfold kBop
  cases decide (x = 21) with
  | true => exact kAnd_rg a0 a1
  | false =>
    cases decide (x = 22) with
    | true => exact kOr_rg a0 a1 b0 b1
    | false => exact kAnd_rg a0 a1
theorem kRs.rg {q r : Nat × Int × Nat} (h : kRs M q = some r) (p0 : 0 ≤ q.2.1) (p1 : q.2.1 < kBg ^ q.2.2) : 0 ≤ r.2.1 ∧ r.2.1 < kBg ^ r.2.2 := by
  obtain ⟨x, hx, h⟩ := kRs.to h
  rcases h with ⟨h1, h2, h3, rfl⟩ | ⟨rfl, h3, rfl⟩ | ⟨h1, h2, h3, rfl⟩ | ⟨rfl, h3, l, y, L, hl, hy, l0, l1, y0, y1, hL, rfl⟩
  · exact kPu (kFct_rg x).1 (kFct_rg x).2 p0 p1
  · obtain ⟨n, hn⟩ : ∃ n, q.2.2 = n + 1 := ⟨q.2.2 - 1, by omega⟩
    rw [hn] at p1
    obtain ⟨d0, d1⟩ := kPd p0 p1
    have m := kPm q.2.1
    have e : q.2.1 - 2 * (q.2.1 % kBg) + (kBg - 1) = (kBg - 1 - q.2.1 % kBg) + kBg * (q.2.1 / kBg) := by
      have := Int.emod_add_mul_ediv q.2.1 kBg
      generalize kBg * (q.2.1 / kBg) = z at this ⊢
      omega
    show 0 ≤ q.2.1 - 2 * (q.2.1 % kBg) + (kBg - 1) ∧ q.2.1 - 2 * (q.2.1 % kBg) + (kBg - 1) < kBg ^ q.2.2
    rw [e, hn]
    exact kPu (by omega) (by omega) d0 d1
  · obtain ⟨n, hn⟩ : ∃ n, q.2.2 = n + 2 := ⟨q.2.2 - 2, by omega⟩
    rw [hn] at p1
    obtain ⟨d0, d1⟩ := kPd (n := n + 1) p0 p1
    obtain ⟨e0, e1⟩ := kPd d0 d1
    have m := kPm q.2.1
    have m2 := kPm (q.2.1 / kBg)
    obtain ⟨o0, o1⟩ := kBop_rg (x := x) m2.1 m2.2 m.1 m.2
    show 0 ≤ kBop x _ _ + kBg * _ ∧ kBop x _ _ + kBg * _ < kBg ^ (q.2.2 - 1)
    rw [hn]
    exact kPu o0 o1 e0 e1
  · exact kPu (kMst_rg _).1 (kMst_rg _).2 p0 p1
theorem kRp.rg : ∀ {t : Nat} {r : Nat × Int × Nat}, kRp M t = some r → 0 ≤ r.2.1 ∧ r.2.1 < kBg ^ r.2.2
  | 0, _, h => by
    cases h
    exact ⟨by show (0 : Int) ≤ 0; omega, by show (0 : Int) < kBg ^ 0; rw [Int.pow_zero]; omega⟩
  | t + 1, r, h => by
    obtain ⟨q, h1, h2⟩ := kRp_to h
    obtain ⟨a, b⟩ := kRp.rg h1
    exact kRs.rg h2 a b
theorem kRp_pl {t : Nat} {r : Nat × Int × Nat} (h : kRp M (t + 1) = some r) : ∃ q, kRp M t = some q ∧ kRs M q = some r ∧ q.1 < r.1 := by
  obtain ⟨q, h1, h2⟩ := kRp_to h
  exact ⟨q, h1, h2, (kRs.fr (M' := M) h2 fun _ _ => rfl).1⟩
theorem kRp_dn : ∀ {u t : Nat} {r : Nat × Int × Nat}, kRp M (t + u) = some r → ∃ q, kRp M t = some q ∧ q.1 + u ≤ r.1
  | 0, t, r, h => ⟨r, h, Nat.le_refl _⟩
  | u + 1, t, r, h => by
    obtain ⟨q, h1, -, h3⟩ := kRp_pl (t := t + u) h
    obtain ⟨p, p1, p2⟩ := kRp_dn (u := u) h1
    exact ⟨p, p1, by omega⟩
/-- the places tell how many steps -/
theorem kRp_uq {t u : Nat} {q r : Nat × Int × Nat} (h1 : kRp M t = some q) (h2 : kRp M u = some r) (he : q.1 = r.1) : t = u ∧ q = r := by
  have key : t = u := by
    rcases Nat.lt_trichotomy t u with c | c | c
    · obtain ⟨k, rfl⟩ : ∃ k, u = t + (k + 1) := ⟨u - t - 1, by omega⟩
      obtain ⟨p, p1, p2⟩ := kRp_dn h2
      rw [p1] at h1
      cases h1
      omega
    · exact c
    · obtain ⟨k, rfl⟩ : ∃ k, t = u + (k + 1) := ⟨t - u - 1, by omega⟩
      obtain ⟨p, p1, p2⟩ := kRp_dn h1
      rw [p1] at h2
      cases h2
      omega
  subst key
  rw [h1] at h2
  exact ⟨rfl, Option.some.inj h2⟩
/-- before a later place there is a next one -/
theorem kRp_nx {t u : Nat} {q r : Nat × Int × Nat} (h1 : kRp M t = some q) (h2 : kRp M u = some r) (hl : q.1 < r.1) : ∃ p, kRs M q = some p ∧ kRp M (t + 1) = some p ∧ p.1 ≤ r.1 := by
  have c : t < u := by
    rcases Nat.lt_trichotomy t u with c | c | c
    · exact c
    · subst c
      rw [h1] at h2
      cases h2
      omega
    · obtain ⟨k, rfl⟩ : ∃ k, t = u + (k + 1) := ⟨t - u - 1, by omega⟩
      obtain ⟨p, p1, p2⟩ := kRp_dn h1
      rw [p1] at h2
      cases h2
      omega
  obtain ⟨k, rfl⟩ : ∃ k, u = (t + 1) + k := ⟨u - t - 1, by omega⟩
  obtain ⟨p, p1, p2⟩ := kRp_dn h2
  obtain ⟨q', e1, e2⟩ := kRp_to p1
  rw [h1] at e1
  cases e1
  exact ⟨p, e2, p1, by omega⟩
/-- what waits -/
theorem kWs_to {k : Nat} {W : Int} (h : kWs M (k + 1) = some W) : ∃ V x : Int, kWs M k = some V ∧ k_gi M 462 k = some x ∧ ((21 ≤ x ∧ x ≤ 24 ∧ W = 8 * V + (x - 19)) ∨ (x = 20 ∧ V % 8 = 1 ∧ W = V / 8) ∨ (x = 20 ∧ V % 8 ≠ 1 ∧ W = 8 * V + 1)) := by
  have e : kWs M (k + 1) = match kWs M k, k_gi M 462 k with
    | some W, some x => cond (decide (21 ≤ x ∧ x ≤ 24)) (some (8 * W + (x - 19))) (cond (decide (x = 20)) (some (cond (decide (W % 8 = 1)) (W / 8) (8 * W + 1))) none)
    | _, _ => none := rfl
  rw [e] at h
  cases e1 : kWs M k with
  | none =>
    rw [e1] at h
    cases h
  | some V =>
    rw [e1] at h
    cases e2 : k_gi M 462 k with
    | none =>
      rw [e2] at h
      cases h
    | some x =>
      rw [e2] at h
      dsimp only at h
      refine ⟨V, x, rfl, rfl, ?_⟩
      by_cases c1 : 21 ≤ x ∧ x ≤ 24
      · rw [decide_eq_true c1, cond_true] at h
        cases h
        exact Or.inl ⟨c1.1, c1.2, rfl⟩
      · rw [decide_eq_false c1, cond_false] at h
        obtain ⟨c2, h⟩ := pm_cs h
        have c2 := of_decide_eq_true c2
        by_cases c3 : V % 8 = 1
        · rw [decide_eq_true c3, cond_true] at h
          cases h
          exact Or.inr (Or.inl ⟨c2, c3, rfl⟩)
        · rw [decide_eq_false c3, cond_false] at h
          cases h
          exact Or.inr (Or.inr ⟨c2, c3, rfl⟩)
theorem kWs_of {k : Nat} {V x : Int} (h1 : kWs M k = some V) (h2 : k_gi M 462 k = some x) : kWs M (k + 1) = cond (decide (21 ≤ x ∧ x ≤ 24)) (some (8 * V + (x - 19))) (cond (decide (x = 20)) (some (cond (decide (V % 8 = 1)) (V / 8) (8 * V + 1))) none) := by
  show (match kWs M k, k_gi M 462 k with
    | some W, some x => cond (decide (21 ≤ x ∧ x ≤ 24)) (some (8 * W + (x - 19))) (cond (decide (x = 20)) (some (cond (decide (W % 8 = 1)) (W / 8) (8 * W + 1))) none)
    | _, _ => none) = _
  rw [h1, h2]
theorem kWs.fr : ∀ {k : Nat} {W : Int}, kWs M k = some W → (∀ n : Nat, n < k → k_gi M' 462 n = k_gi M 462 n) → kWs M' k = some W
  | 0, _, h, _ => h
  | k + 1, W, h, hs => by
    obtain ⟨V, x, e1, e2, -⟩ := kWs_to h
    rw [kWs_of (kWs.fr e1 fun n hn => hs n (Nat.lt_succ_of_lt hn)) (by rw [hs k (Nat.lt_succ_self k)]; exact e2), ← kWs_of e1 e2]
    exact h
theorem kWs_rg : ∀ {k : Nat} {W : Int}, kWs M k = some W → 0 ≤ W ∧ W < 8 ^ k
  | 0, W, h => by
    cases h
    exact ⟨by omega, by decide⟩
  | k + 1, W, h => by
    obtain ⟨V, x, e1, e2, e3⟩ := kWs_to h
    obtain ⟨i1, i2⟩ := kWs_rg e1
    rw [Int.pow_succ]
    generalize (8 : Int) ^ k = q at i2 ⊢
    omega
/-- no two 'not' in a row -/
def kW1 : Nat → Int → Prop
  | 0, _ => True
  | n + 1, W => ¬ (W % 8 = 1 ∧ W / 8 % 8 = 1) ∧ kW1 n (W / 8)
theorem kW1_up : ∀ (n : Nat) {W : Int}, kW1 (n + 1) W → kW1 n W
  | 0, _, _ => trivial
  | n + 1, _, h => ⟨h.1, kW1_up n h.2⟩
theorem kWs_1 : ∀ (k : Nat) {W : Int}, kWs M k = some W → ∀ n, kW1 n W
  | 0, W, h, n => by
    cases h
    have z : ∀ n, kW1 n 0 := fun n => by
      induction n with
      | zero => trivial
      | succ n ih => exact ⟨by omega, ih⟩
    exact z n
  | k + 1, W, h, n => by
    obtain ⟨V, x, e1, e2, e3⟩ := kWs_to h
    have ih := kWs_1 k e1
    rcases e3 with ⟨h1, h2, rfl⟩ | ⟨-, h2, rfl⟩ | ⟨-, h2, rfl⟩
    · cases n with
      | zero => trivial
      | succ n => exact ⟨by omega, by rw [show (8 * V + (x - 19)) / 8 = V by omega]; exact ih n⟩
    · exact (ih (n + 1)).2
    · cases n with
      | zero => trivial
      | succ n => exact ⟨by omega, by rw [show (8 * V + 1) / 8 = V by omega]; exact ih n⟩
end KTB1
/-! what stays of tables -/
section KTB2
variable {M M' : pM}
theorem kTl.fr {c : Nat} {lo hi X : Int} (h : kTl M c lo hi X) (hs : ∀ n : Nat, k_gi M' c n = k_gi M c n) : kTl M' c lo hi X := fun j a b d => by
  rw [hs]
  exact h j a b d
theorem kTi.fr {r : Nat} {s X : Int} (h : kTi M r s X) (hs : ∀ q : Nat, q < 128 → k_gi M' 451 (128 * r + q) = k_gi M 451 (128 * r + q)) : kTi M' r s X := fun q hq => by
  obtain ⟨x, e, f⟩ := h q hq
  exact ⟨x, by rw [hs q hq]; exact e, f⟩
theorem kRwS.fr {c i : Nat} (h : kRwS M c i) (h1 : ∀ n : Nat, k_gi M' (c + i) n = k_gi M (c + i) n) (h2 : ∀ q : Nat, q < 128 → k_gi M' 451 (128 * i + q) = k_gi M 451 (128 * i + q)) : kRwS M' c i := by
  obtain ⟨X, a, b, d, e⟩ := h
  exact ⟨X, a, b, d.fr h1, e.fr h2⟩
/-- the cells that a table speaks of -/
def kTf (k : Nat) (y : Int) (a : Nat) : Prop := match k with
  | 0 => 369 ≤ a ∧ a ≤ 387
  | 1 => (a : Int) = y
  | 2 => (a : Int) = y
  | 3 => a = 388
  | 4 => (a : Int) = y
  | 5 => a = 461
  | 6 => a = 462
  | 7 => a = 461
  | 8 => a = 464
  | 9 => a = 451
  | 10 => a = 451
  | 11 => a = 451 ∨ (63 ≤ a ∧ a ≤ 78) ∨ (244 ≤ a ∧ a ≤ 259)
  | 12 => a = 451 ∨ (63 ≤ a ∧ a ≤ 78) ∨ (244 ≤ a ∧ a ≤ 259)
  | _ => False
theorem kTab.fr {k : Nat} {y s v : Int} (h : kTab M k y s v) (hs : ∀ a : Nat, kTf k y a → ∀ n : Nat, k_gi M' a n = k_gi M a n) : kTab M' k y s v := by
  match k, h, hs with
  | 0, h, hs =>
    obtain ⟨h1, h2, h3⟩ := h
    exact ⟨h1, h2, fun i hi => (h3 i hi).fr fun n => hs (369 + i) ⟨by omega, by omega⟩ n⟩
  | 1, h, hs =>
    obtain ⟨h1, h2⟩ := h
    exact ⟨h1, h2.fr fun n => hs y.toNat (Int.toNat_of_nonneg h1) n⟩
  | 2, h, hs =>
    obtain ⟨h1, h2⟩ := h
    exact ⟨h1, h2.fr fun n => hs y.toNat (Int.toNat_of_nonneg h1) n⟩
  | 3, h, hs =>
    intro g hg
    rw [hs 388 rfl]
    exact h g hg
  | 4, h, hs =>
    obtain ⟨h1, h2⟩ := h
    refine ⟨h1, fun j hj => ?_⟩
    rw [hs y.toNat (Int.toNat_of_nonneg h1)]
    exact h2 j hj
  | 5, h, hs =>
    obtain ⟨t, j, n, h1, h2⟩ := h
    exact ⟨t, j, n, h1, kRp.fr h2 fun i _ => hs 461 rfl i⟩
  | 6, h, hs =>
    obtain ⟨j, h1, h2⟩ := h
    exact ⟨j, h1, kWs.fr h2 fun i _ => hs 462 rfl i⟩
  | 7, h, hs =>
    obtain ⟨z, n, h1, h2, h3⟩ := h
    exact ⟨z, n, h1, h2, kLss.fr h3 fun i _ => hs 461 rfl i⟩
  | 8, h, hs =>
    obtain ⟨h1, h2⟩ := h
    refine ⟨h1, fun i hi => ?_⟩
    rw [hs 464 rfl]
    exact h2 i hi
  | 9, h, hs =>
    obtain ⟨h1, h2⟩ := h
    exact ⟨h1, h2.fr fun q _ => hs 451 rfl _⟩
  | 10, h, hs =>
    obtain ⟨h1, h2⟩ := h
    refine ⟨h1, fun q hq hq2 => ?_⟩
    rw [hs 451 rfl]
    exact h2 q hq hq2
  | 11, h, hs =>
    obtain ⟨h1, h2⟩ := h
    refine ⟨h1, fun i hi => ⟨fun a => ((h2 i hi).1 a).fr (fun n => hs (63 + i) (Or.inr (Or.inl ⟨by omega, by omega⟩)) n) (fun q _ => hs 451 (Or.inl rfl) _), fun a => ((h2 i hi).2 a).fr (fun n => hs (244 + i) (Or.inr (Or.inr ⟨by omega, by omega⟩)) n) (fun q _ => hs 451 (Or.inl rfl) _)⟩⟩
  | 12, h, hs =>
    intro i hi a b
    have h := h i hi a b
    cases c : decide (y % 2 = 0) with
    | true =>
      rw [c, cond_true] at h
      rw [cond_true]
      exact h.fr (fun n => hs (63 + i) (Or.inr (Or.inl ⟨by omega, by omega⟩)) n) (fun q _ => hs 451 (Or.inl rfl) _)
    | false =>
      rw [c, cond_false] at h
      rw [cond_false]
      exact h.fr (fun n => hs (244 + i) (Or.inr (Or.inr ⟨by omega, by omega⟩)) n) (fun q _ => hs 451 (Or.inl rfl) _)
  | _ + 13, h, _ => exact h.elim
end KTB2
end
