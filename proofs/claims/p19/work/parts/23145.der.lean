noncomputable section
/-! what follows besides the rules: behind a token that joins no more, what waits is popped at every level alike -/
section KDE
variable {T : kTx} {p : Nat} {a b o s u t W Q P : Int}
theorem kMe9_2 : kMe T [a, b, o, s, u, t, W, Q, P] p 2 = o := rfl
theorem kMe9_3 : kMe T [a, b, o, s, u, t, W, Q, P] p 3 = s := rfl
theorem kMe9_4 : kMe T [a, b, o, s, u, t, W, Q, P] p 4 = u := rfl
theorem kMe9_13 : kMe T [a, b, o, s, u, t, W, Q, P] p 13 = u / 2 ^ 0 % 2 := rfl
theorem kMe9_14 : kMe T [a, b, o, s, u, t, W, Q, P] p 14 = u / 2 ^ 1 % 2 := rfl
theorem kMe9_15 : kMe T [a, b, o, s, u, t, W, Q, P] p 15 = u / 2 ^ 2 % 2 := rfl
theorem kMe9_16 : kMe T [a, b, o, s, u, t, W, Q, P] p 16 = u / 2 ^ 3 % 2 := rfl
theorem kMe9_17 : kMe T [a, b, o, s, u, t, W, Q, P] p 17 = u / 2 ^ 4 % 2 := rfl
theorem kMe9_18 : kMe T [a, b, o, s, u, t, W, Q, P] p 18 = u / 2 ^ 5 % 2 := rfl
/-- a token's kind, its value -/
def kTkk (T : kTx) (p : Nat) : Int := kBv T false [0, 0, 0, 0] p
def kTkv (T : kTx) (p : Nat) : Int := kBv T false [1, kBv T true [1] p, 0, 0] p
theorem kMe9_23 : kMe T [a, b, o, s, u, t, W, Q, P] p 23 = kTkk T p := rfl
theorem kMe9_24 : kMe T [a, b, o, s, u, t, W, Q, P] p 24 = kTkv T p := rfl
theorem kMe9_26 : kMe T [a, b, o, s, u, t, W, Q, P] p 26 = (p : Int) := rfl
theorem kMe9_29 : kMe T [a, b, o, s, u, t, W, Q, P] p 29 = W := rfl
theorem kMe9_31 : kMe T [a, b, o, s, u, t, W, Q, P] p 31 = P := rfl
theorem kMe9_32 : kMe T [a, b, o, s, u, t, W, Q, P] p 32 = W % 8 := rfl
theorem kMe9_33 : kMe T [a, b, o, s, u, t, W, Q, P] p 33 = W / 8 := rfl
theorem kMe9_34 : kMe T [a, b, o, s, u, t, W, Q, P] p 34 = P % kBg := rfl
theorem kMe9_36 : kMe T [a, b, o, s, u, t, W, Q, P] p 36 = P / kBg / kBg := rfl
theorem kMe9_37 : kMe T [a, b, o, s, u, t, W, Q, P] p 37 = kAnd (P / kBg % kBg) (P % kBg) := rfl
theorem kMe9_38 : kMe T [a, b, o, s, u, t, W, Q, P] p 38 = kOr (P / kBg % kBg) (P % kBg) := rfl
theorem kMe9_39 : kMe T [a, b, o, s, u, t, W, Q, P] p 39 = kAnd (P / kBg % kBg) (kBg - 1 - P % kBg) := rfl
/-- what a sign popped makes of the pending sets -/
def kPo1 (P : Int) : Int := kPw 4096 - 1 + (P + -2 * (P % kBg))
def kPo2 (P : Int) : Int := kPw 4096 * (P / kBg / kBg) + kAnd (P / kBg % kBg) (P % kBg)
def kPo3 (P : Int) : Int := kPw 4096 * (P / kBg / kBg) + kOr (P / kBg % kBg) (P % kBg)
def kPo4 (P : Int) : Int := kPw 4096 * (P / kBg / kBg) + kAnd (P / kBg % kBg) (kBg - 1 - P % kBg)
theorem kM8_1 (h : W % 8 = 1) : kMs T [8, b, o, s, u, t, W, Q, P] p = (2, [8, 0, o, s, u, 0, W / 8, 0, kPo1 P, 0]) := by
  show kRuv (kMe T [8, b, o, s, u, t, W, Q, P] p) (0, [1 + (p : Int), 0]) kR28 = _
  unfold kPo1 kR28
  simp only [kRuv, kcd, List.all_cons, List.all_nil, kFt1, if_true, Bool.false_eq_true, if_false, Bool.and_eq_true, decide_eq_true_eq, and_true, List.map_cons, List.map_nil, k_ev, k_evl, kMe9_2, kMe9_3, kMe9_4, kMe9_13, kMe9_14, kMe9_15, kMe9_16, kMe9_17, kMe9_18, kMe9_23, kMe9_24, kMe9_26, kMe9_29, kMe9_31, kMe9_32, kMe9_33, kMe9_34, kMe9_36, kMe9_37, kMe9_38, kMe9_39, Int.add_zero, Int.zero_add, Int.one_mul]
  rw [if_pos (show -1 + W % 8 = 0 by omega)]
theorem kM8_2 (h : W % 8 = 2) : kMs T [8, b, o, s, u, t, W, Q, P] p = (2, [8, 0, o, s, u, 0, W / 8, 0, kPo2 P, 0]) := by
  show kRuv (kMe T [8, b, o, s, u, t, W, Q, P] p) (0, [1 + (p : Int), 0]) kR28 = _
  unfold kPo2 kR28
  simp only [kRuv, kcd, List.all_cons, List.all_nil, kFt1, if_true, Bool.false_eq_true, if_false, Bool.and_eq_true, decide_eq_true_eq, and_true, List.map_cons, List.map_nil, k_ev, k_evl, kMe9_2, kMe9_3, kMe9_4, kMe9_13, kMe9_14, kMe9_15, kMe9_16, kMe9_17, kMe9_18, kMe9_23, kMe9_24, kMe9_26, kMe9_29, kMe9_31, kMe9_32, kMe9_33, kMe9_34, kMe9_36, kMe9_37, kMe9_38, kMe9_39, Int.add_zero, Int.zero_add, Int.one_mul]
  rw [if_neg (show ¬ (-1 + W % 8 = 0) by omega), if_pos (show -2 + W % 8 = 0 by omega)]
theorem kM8_no (h1 : W % 8 ≠ 1) (h2 : W % 8 ≠ 2) (h : ¬ (kTkk T p = 1 ∧ kTkv T p = 1111)) : kMs T [8, b, o, s, u, t, W, Q, P] p = (2, [14, 0, o, s, u, 0, W, 0, P, 0]) := by
  show kRuv (kMe T [8, b, o, s, u, t, W, Q, P] p) (0, [1 + (p : Int), 0]) kR28 = _
  unfold kR28
  simp only [kRuv, kcd, List.all_cons, List.all_nil, kFt1, if_true, Bool.false_eq_true, if_false, Bool.and_eq_true, decide_eq_true_eq, and_true, List.map_cons, List.map_nil, k_ev, k_evl, kMe9_2, kMe9_3, kMe9_4, kMe9_13, kMe9_14, kMe9_15, kMe9_16, kMe9_17, kMe9_18, kMe9_23, kMe9_24, kMe9_26, kMe9_29, kMe9_31, kMe9_32, kMe9_33, kMe9_34, kMe9_36, kMe9_37, kMe9_38, kMe9_39, Int.add_zero, Int.zero_add, Int.one_mul]
  (repeat' split) <;> first | rfl | (exfalso; omega)
theorem kM14_1 (h : W % 8 = 1) : kMs T [14, b, o, s, u, t, W, Q, P] p = (2, [14, 0, o, s, u, 0, W / 8, 0, kPo1 P, 0]) := by
  show kRuv (kMe T [14, b, o, s, u, t, W, Q, P] p) (0, [1 + (p : Int), 0]) kR214 = _
  unfold kPo1 kR214
  simp only [kRuv, kcd, List.all_cons, List.all_nil, kFt1, if_true, Bool.false_eq_true, if_false, Bool.and_eq_true, decide_eq_true_eq, and_true, List.map_cons, List.map_nil, k_ev, k_evl, kMe9_2, kMe9_3, kMe9_4, kMe9_13, kMe9_14, kMe9_15, kMe9_16, kMe9_17, kMe9_18, kMe9_23, kMe9_24, kMe9_26, kMe9_29, kMe9_31, kMe9_32, kMe9_33, kMe9_34, kMe9_36, kMe9_37, kMe9_38, kMe9_39, Int.add_zero, Int.zero_add, Int.one_mul]
  rw [if_pos (show -1 + W % 8 = 0 by omega)]
theorem kM14_2 (h : W % 8 = 2) : kMs T [14, b, o, s, u, t, W, Q, P] p = (2, [14, 0, o, s, u, 0, W / 8, 0, kPo2 P, 0]) := by
  show kRuv (kMe T [14, b, o, s, u, t, W, Q, P] p) (0, [1 + (p : Int), 0]) kR214 = _
  unfold kPo2 kR214
  simp only [kRuv, kcd, List.all_cons, List.all_nil, kFt1, if_true, Bool.false_eq_true, if_false, Bool.and_eq_true, decide_eq_true_eq, and_true, List.map_cons, List.map_nil, k_ev, k_evl, kMe9_2, kMe9_3, kMe9_4, kMe9_13, kMe9_14, kMe9_15, kMe9_16, kMe9_17, kMe9_18, kMe9_23, kMe9_24, kMe9_26, kMe9_29, kMe9_31, kMe9_32, kMe9_33, kMe9_34, kMe9_36, kMe9_37, kMe9_38, kMe9_39, Int.add_zero, Int.zero_add, Int.one_mul]
  rw [if_neg (show ¬ (-1 + W % 8 = 0) by omega), if_pos (show -2 + W % 8 = 0 by omega)]
theorem kM14_3 (h : W % 8 = 3) : kMs T [14, b, o, s, u, t, W, Q, P] p = (2, [14, 0, o, s, u, 0, W / 8, 0, kPo3 P, 0]) := by
  show kRuv (kMe T [14, b, o, s, u, t, W, Q, P] p) (0, [1 + (p : Int), 0]) kR214 = _
  unfold kPo3 kR214
  simp only [kRuv, kcd, List.all_cons, List.all_nil, kFt1, if_true, Bool.false_eq_true, if_false, Bool.and_eq_true, decide_eq_true_eq, and_true, List.map_cons, List.map_nil, k_ev, k_evl, kMe9_2, kMe9_3, kMe9_4, kMe9_13, kMe9_14, kMe9_15, kMe9_16, kMe9_17, kMe9_18, kMe9_23, kMe9_24, kMe9_26, kMe9_29, kMe9_31, kMe9_32, kMe9_33, kMe9_34, kMe9_36, kMe9_37, kMe9_38, kMe9_39, Int.add_zero, Int.zero_add, Int.one_mul]
  rw [if_neg (show ¬ (-1 + W % 8 = 0) by omega), if_neg (show ¬ (-2 + W % 8 = 0) by omega), if_pos (show -3 + W % 8 = 0 by omega)]
theorem kM14_no (h1 : W % 8 ≠ 1) (h2 : W % 8 ≠ 2) (h3 : W % 8 ≠ 3) (h : ¬ (kTkk T p = 1 ∧ kTkv T p = 423)) : kMs T [14, b, o, s, u, t, W, Q, P] p = (2, [15, 0, o, s, u, 0, W, 0, P, 0]) := by
  show kRuv (kMe T [14, b, o, s, u, t, W, Q, P] p) (0, [1 + (p : Int), 0]) kR214 = _
  unfold kR214
  simp only [kRuv, kcd, List.all_cons, List.all_nil, kFt1, if_true, Bool.false_eq_true, if_false, Bool.and_eq_true, decide_eq_true_eq, and_true, List.map_cons, List.map_nil, k_ev, k_evl, kMe9_2, kMe9_3, kMe9_4, kMe9_13, kMe9_14, kMe9_15, kMe9_16, kMe9_17, kMe9_18, kMe9_23, kMe9_24, kMe9_26, kMe9_29, kMe9_31, kMe9_32, kMe9_33, kMe9_34, kMe9_36, kMe9_37, kMe9_38, kMe9_39, Int.add_zero, Int.zero_add, Int.one_mul]
  (repeat' split) <;> first | rfl | (exfalso; omega)
theorem kM15_no (h : ¬ (kTkk T p = 1 ∧ kTkv T p = 309007594)) : kMs T [15, b, o, s, u, t, W, Q, P] p = (2, [16, 0, o, s, u, 0, W, 0, P, 0]) := by
  show kRuv (kMe T [15, b, o, s, u, t, W, Q, P] p) (0, [1 + (p : Int), 0]) kR215 = _
  unfold kR215
  simp only [kRuv, kcd, List.all_cons, List.all_nil, kFt1, if_true, Bool.false_eq_true, if_false, Bool.and_eq_true, decide_eq_true_eq, and_true, List.map_cons, List.map_nil, k_ev, k_evl, kMe9_2, kMe9_3, kMe9_4, kMe9_13, kMe9_14, kMe9_15, kMe9_16, kMe9_17, kMe9_18, kMe9_23, kMe9_24, kMe9_26, kMe9_29, kMe9_31, kMe9_32, kMe9_33, kMe9_34, kMe9_36, kMe9_37, kMe9_38, kMe9_39, Int.add_zero, Int.zero_add, Int.one_mul]
  (repeat' split) <;> first | rfl | (exfalso; omega)
theorem kM15_u {j : Nat} (hj : j < 6) (ho : o = j) (h : u / 2 ^ j % 2 = 1) : kMs T [15, b, o, s, u, t, W, Q, P] p = (2, [16, 0, o, s, u, 0, W, 0, P, 0]) := by
  show kRuv (kMe T [15, b, o, s, u, t, W, Q, P] p) (0, [1 + (p : Int), 0]) kR215 = _
  unfold kR215
  match j, hj, h, ho with
  | 0, _, h, ho =>
    simp only [kRuv, kcd, List.all_cons, List.all_nil, kFt1, if_true, Bool.false_eq_true, if_false, Bool.and_eq_true, decide_eq_true_eq, and_true, List.map_cons, List.map_nil, k_ev, k_evl, kMe9_2, kMe9_3, kMe9_4, kMe9_13, kMe9_14, kMe9_15, kMe9_16, kMe9_17, kMe9_18, kMe9_23, kMe9_24, kMe9_26, kMe9_29, kMe9_31, kMe9_32, kMe9_33, kMe9_34, kMe9_36, kMe9_37, kMe9_38, kMe9_39, Int.add_zero, Int.zero_add, Int.one_mul]
    (repeat' split) <;> first | rfl | (exfalso; omega)
  | 1, _, h, ho =>
    simp only [kRuv, kcd, List.all_cons, List.all_nil, kFt1, if_true, Bool.false_eq_true, if_false, Bool.and_eq_true, decide_eq_true_eq, and_true, List.map_cons, List.map_nil, k_ev, k_evl, kMe9_2, kMe9_3, kMe9_4, kMe9_13, kMe9_14, kMe9_15, kMe9_16, kMe9_17, kMe9_18, kMe9_23, kMe9_24, kMe9_26, kMe9_29, kMe9_31, kMe9_32, kMe9_33, kMe9_34, kMe9_36, kMe9_37, kMe9_38, kMe9_39, Int.add_zero, Int.zero_add, Int.one_mul]
    (repeat' split) <;> first | rfl | (exfalso; omega)
  | 2, _, h, ho =>
    simp only [kRuv, kcd, List.all_cons, List.all_nil, kFt1, if_true, Bool.false_eq_true, if_false, Bool.and_eq_true, decide_eq_true_eq, and_true, List.map_cons, List.map_nil, k_ev, k_evl, kMe9_2, kMe9_3, kMe9_4, kMe9_13, kMe9_14, kMe9_15, kMe9_16, kMe9_17, kMe9_18, kMe9_23, kMe9_24, kMe9_26, kMe9_29, kMe9_31, kMe9_32, kMe9_33, kMe9_34, kMe9_36, kMe9_37, kMe9_38, kMe9_39, Int.add_zero, Int.zero_add, Int.one_mul]
    (repeat' split) <;> first | rfl | (exfalso; omega)
  | 3, _, h, ho =>
    simp only [kRuv, kcd, List.all_cons, List.all_nil, kFt1, if_true, Bool.false_eq_true, if_false, Bool.and_eq_true, decide_eq_true_eq, and_true, List.map_cons, List.map_nil, k_ev, k_evl, kMe9_2, kMe9_3, kMe9_4, kMe9_13, kMe9_14, kMe9_15, kMe9_16, kMe9_17, kMe9_18, kMe9_23, kMe9_24, kMe9_26, kMe9_29, kMe9_31, kMe9_32, kMe9_33, kMe9_34, kMe9_36, kMe9_37, kMe9_38, kMe9_39, Int.add_zero, Int.zero_add, Int.one_mul]
    (repeat' split) <;> first | rfl | (exfalso; omega)
  | 4, _, h, ho =>
    simp only [kRuv, kcd, List.all_cons, List.all_nil, kFt1, if_true, Bool.false_eq_true, if_false, Bool.and_eq_true, decide_eq_true_eq, and_true, List.map_cons, List.map_nil, k_ev, k_evl, kMe9_2, kMe9_3, kMe9_4, kMe9_13, kMe9_14, kMe9_15, kMe9_16, kMe9_17, kMe9_18, kMe9_23, kMe9_24, kMe9_26, kMe9_29, kMe9_31, kMe9_32, kMe9_33, kMe9_34, kMe9_36, kMe9_37, kMe9_38, kMe9_39, Int.add_zero, Int.zero_add, Int.one_mul]
    (repeat' split) <;> first | rfl | (exfalso; omega)
  | 5, _, h, ho =>
    simp only [kRuv, kcd, List.all_cons, List.all_nil, kFt1, if_true, Bool.false_eq_true, if_false, Bool.and_eq_true, decide_eq_true_eq, and_true, List.map_cons, List.map_nil, k_ev, k_evl, kMe9_2, kMe9_3, kMe9_4, kMe9_13, kMe9_14, kMe9_15, kMe9_16, kMe9_17, kMe9_18, kMe9_23, kMe9_24, kMe9_26, kMe9_29, kMe9_31, kMe9_32, kMe9_33, kMe9_34, kMe9_36, kMe9_37, kMe9_38, kMe9_39, Int.add_zero, Int.zero_add, Int.one_mul]
    (repeat' split) <;> first | rfl | (exfalso; omega)
  | j + 6, hj, _, _ => omega
theorem kM16_1 (h : W % 8 = 1) : kMs T [16, b, o, s, u, t, W, Q, P] p = (2, [16, 0, o, s, u, 0, W / 8, 0, kPo1 P, 0]) := by
  show kRuv (kMe T [16, b, o, s, u, t, W, Q, P] p) (0, [1 + (p : Int), 0]) kR216 = _
  unfold kPo1 kR216
  simp only [kRuv, kcd, List.all_cons, List.all_nil, kFt1, if_true, Bool.false_eq_true, if_false, Bool.and_eq_true, decide_eq_true_eq, and_true, List.map_cons, List.map_nil, k_ev, k_evl, kMe9_2, kMe9_3, kMe9_4, kMe9_13, kMe9_14, kMe9_15, kMe9_16, kMe9_17, kMe9_18, kMe9_23, kMe9_24, kMe9_26, kMe9_29, kMe9_31, kMe9_32, kMe9_33, kMe9_34, kMe9_36, kMe9_37, kMe9_38, kMe9_39, Int.add_zero, Int.zero_add, Int.one_mul]
  rw [if_pos (show -1 + W % 8 = 0 by omega)]
theorem kM16_2 (h : W % 8 = 2) : kMs T [16, b, o, s, u, t, W, Q, P] p = (2, [16, 0, o, s, u, 0, W / 8, 0, kPo2 P, 0]) := by
  show kRuv (kMe T [16, b, o, s, u, t, W, Q, P] p) (0, [1 + (p : Int), 0]) kR216 = _
  unfold kPo2 kR216
  simp only [kRuv, kcd, List.all_cons, List.all_nil, kFt1, if_true, Bool.false_eq_true, if_false, Bool.and_eq_true, decide_eq_true_eq, and_true, List.map_cons, List.map_nil, k_ev, k_evl, kMe9_2, kMe9_3, kMe9_4, kMe9_13, kMe9_14, kMe9_15, kMe9_16, kMe9_17, kMe9_18, kMe9_23, kMe9_24, kMe9_26, kMe9_29, kMe9_31, kMe9_32, kMe9_33, kMe9_34, kMe9_36, kMe9_37, kMe9_38, kMe9_39, Int.add_zero, Int.zero_add, Int.one_mul]
  rw [if_neg (show ¬ (-1 + W % 8 = 0) by omega), if_pos (show -2 + W % 8 = 0 by omega)]
theorem kM16_3 (h : W % 8 = 3) : kMs T [16, b, o, s, u, t, W, Q, P] p = (2, [16, 0, o, s, u, 0, W / 8, 0, kPo3 P, 0]) := by
  show kRuv (kMe T [16, b, o, s, u, t, W, Q, P] p) (0, [1 + (p : Int), 0]) kR216 = _
  unfold kPo3 kR216
  simp only [kRuv, kcd, List.all_cons, List.all_nil, kFt1, if_true, Bool.false_eq_true, if_false, Bool.and_eq_true, decide_eq_true_eq, and_true, List.map_cons, List.map_nil, k_ev, k_evl, kMe9_2, kMe9_3, kMe9_4, kMe9_13, kMe9_14, kMe9_15, kMe9_16, kMe9_17, kMe9_18, kMe9_23, kMe9_24, kMe9_26, kMe9_29, kMe9_31, kMe9_32, kMe9_33, kMe9_34, kMe9_36, kMe9_37, kMe9_38, kMe9_39, Int.add_zero, Int.zero_add, Int.one_mul]
  rw [if_neg (show ¬ (-1 + W % 8 = 0) by omega), if_neg (show ¬ (-2 + W % 8 = 0) by omega), if_pos (show -3 + W % 8 = 0 by omega)]
theorem kM16_4 (h : W % 8 = 4) : kMs T [16, b, o, s, u, t, W, Q, P] p = (2, [16, 0, o, s, u, 0, W / 8, 0, kPo4 P, 0]) := by
  show kRuv (kMe T [16, b, o, s, u, t, W, Q, P] p) (0, [1 + (p : Int), 0]) kR216 = _
  unfold kPo4 kR216
  simp only [kRuv, kcd, List.all_cons, List.all_nil, kFt1, if_true, Bool.false_eq_true, if_false, Bool.and_eq_true, decide_eq_true_eq, and_true, List.map_cons, List.map_nil, k_ev, k_evl, kMe9_2, kMe9_3, kMe9_4, kMe9_13, kMe9_14, kMe9_15, kMe9_16, kMe9_17, kMe9_18, kMe9_23, kMe9_24, kMe9_26, kMe9_29, kMe9_31, kMe9_32, kMe9_33, kMe9_34, kMe9_36, kMe9_37, kMe9_38, kMe9_39, Int.add_zero, Int.zero_add, Int.one_mul]
  rw [if_neg (show ¬ (-1 + W % 8 = 0) by omega), if_neg (show ¬ (-2 + W % 8 = 0) by omega), if_neg (show ¬ (-3 + W % 8 = 0) by omega), if_pos (show -4 + W % 8 = 0 by omega)]
theorem kM16_no (h1 : W % 8 ≠ 1) (h2 : W % 8 ≠ 2) (h3 : W % 8 ≠ 3) (h4 : W % 8 ≠ 4) (ho : 1 ≤ o) (h : ¬ (kTkk T p = 3 ∧ kTkv T p = 41)) : kMs T [16, b, o, s, u, t, W, Q, P] p = (0, [1 + (p : Int), 0]) := by
  show kRuv (kMe T [16, b, o, s, u, t, W, Q, P] p) (0, [1 + (p : Int), 0]) kR216 = _
  unfold kR216
  simp only [kRuv, kcd, List.all_cons, List.all_nil, kFt1, if_true, Bool.false_eq_true, if_false, Bool.and_eq_true, decide_eq_true_eq, and_true, List.map_cons, List.map_nil, k_ev, k_evl, kMe9_2, kMe9_3, kMe9_4, kMe9_13, kMe9_14, kMe9_15, kMe9_16, kMe9_17, kMe9_18, kMe9_23, kMe9_24, kMe9_26, kMe9_29, kMe9_31, kMe9_32, kMe9_33, kMe9_34, kMe9_36, kMe9_37, kMe9_38, kMe9_39, Int.add_zero, Int.zero_add, Int.one_mul]
  rw [if_neg (show ¬ (-1 + W % 8 = 0) by omega), if_neg (show ¬ (-2 + W % 8 = 0) by omega), if_neg (show ¬ (-3 + W % 8 = 0) by omega), if_neg (show ¬ (-4 + W % 8 = 0) by omega), if_neg (show ¬ (o = 0) by omega), if_neg (show ¬ (-1 + o = 0 ∧ -3 + kTkk T p = 0 ∧ -41 + kTkv T p = 0) from fun e => h ⟨by omega, by omega⟩), if_neg (show ¬ (-2 + o = 0 ∧ -3 + kTkk T p = 0 ∧ -41 + kTkv T p = 0) from fun e => h ⟨by omega, by omega⟩), if_neg (show ¬ (-3 + o = 0 ∧ -3 + kTkk T p = 0 ∧ -41 + kTkv T p = 0) from fun e => h ⟨by omega, by omega⟩), if_neg (show ¬ (-4 + o = 0 ∧ -3 + kTkk T p = 0 ∧ -41 + kTkv T p = 0) from fun e => h ⟨by omega, by omega⟩), if_neg (show ¬ (-5 + o = 0 ∧ -3 + kTkk T p = 0 ∧ -41 + kTkv T p = 0) from fun e => h ⟨by omega, by omega⟩)]
/-- a step that stays at its place, as an equivalence -/
theorem kMw_st {ws l : List Int} {x : Int} (h : kMs T ws p = (2, l)) (h9 : l.getD 9 0 = x) (v : Int) : kMw T ws p v ↔ kMw T (l.take 9) p (v - x) := by
  have hn : (kMs T ws p).1 ≠ 0 := by
    rw [h]
    show (2 : Nat) ≠ 0
    omega
  have e1 : kM9 T ws p = l.take 9 := by
    unfold kM9
    rw [h]
  have e2 : kMp T ws p = p := by
    unfold kMp
    rw [h]
    rfl
  have e3 : (kMs T ws p).2.getD 9 0 = x := by
    rw [h]
    exact h9
  constructor
  · intro hv
    have := kMw_go hn hv
    rw [e1, e2, e3] at this
    exact this
  · intro hv
    have := kMw_bk (v := v - x) hn (by rw [e1, e2]; exact hv)
    rw [e3, Int.sub_add_cancel] at this
    exact this
theorem kMw_s0 {ws : List Int} {a b o s u t W Q P : Int} (h : kMs T ws p = (2, [a, b, o, s, u, t, W, Q, P, 0])) (v : Int) : kMw T ws p v ↔ kMw T [a, b, o, s, u, t, W, Q, P] p v := by
  have := kMw_st h (x := 0) rfl v
  rw [Int.sub_zero] at this
  exact this
/-- behind a token that is no 'and' -/
theorem kM_8 (h : ¬ (kTkk T p = 1 ∧ kTkv T p = 1111)) : ∀ (n : Nat) (b o s u t W Q P v : Int), W.natAbs ≤ n → (kMw T [8, b, o, s, u, t, W, Q, P] p v ↔ kMw T [14, 0, o, s, u, 0, W, 0, P] p v) := by
  intro n
  induction n with
  | zero =>
    intro b o s u t W Q P v hn
    have : W = 0 := by omega
    subst this
    exact kMw_s0 (kM8_no (by decide) (by decide) h) v
  | succ n ih =>
    intro b o s u t W Q P v hn
    by_cases h1 : W % 8 = 1
    · rw [kMw_s0 (kM8_1 h1) v, kMw_s0 (kM14_1 h1) v]
      exact ih 0 o s u 0 (W / 8) 0 (kPo1 P) v (by omega)
    · by_cases h2 : W % 8 = 2
      · rw [kMw_s0 (kM8_2 h2) v, kMw_s0 (kM14_2 h2) v]
        exact ih 0 o s u 0 (W / 8) 0 (kPo2 P) v (by omega)
      · exact kMw_s0 (kM8_no h1 h2 h) v
/-- behind one that is no 'or', and no 'unless' that may come yet -/
theorem kM_14 (h : ¬ (kTkk T p = 1 ∧ kTkv T p = 423)) {o u : Int} (hu : ¬ (kTkk T p = 1 ∧ kTkv T p = 309007594) ∨ ∃ j : Nat, j < 6 ∧ o = j ∧ u / 2 ^ j % 2 = 1) : ∀ (n : Nat) (b s t W Q P v : Int), W.natAbs ≤ n → (kMw T [14, b, o, s, u, t, W, Q, P] p v ↔ kMw T [16, 0, o, s, u, 0, W, 0, P] p v) := by
  have at15 : ∀ (b s t W Q P v : Int), kMw T [15, b, o, s, u, t, W, Q, P] p v ↔ kMw T [16, 0, o, s, u, 0, W, 0, P] p v := fun b s t W Q P v => by
    rcases hu with hu | ⟨j, hj, ho, hb⟩
    · exact kMw_s0 (kM15_no hu) v
    · exact kMw_s0 (kM15_u hj ho hb) v
  intro n
  induction n with
  | zero =>
    intro b s t W Q P v hn
    have : W = 0 := by omega
    subst this
    rw [kMw_s0 (kM14_no (by decide) (by decide) (by decide) h) v]
    exact at15 _ _ _ _ _ _ _
  | succ n ih =>
    intro b s t W Q P v hn
    by_cases h1 : W % 8 = 1
    · rw [kMw_s0 (kM14_1 h1) v, kMw_s0 (kM16_1 h1) v]
      exact ih 0 s 0 (W / 8) 0 (kPo1 P) v (by omega)
    · by_cases h2 : W % 8 = 2
      · rw [kMw_s0 (kM14_2 h2) v, kMw_s0 (kM16_2 h2) v]
        exact ih 0 s 0 (W / 8) 0 (kPo2 P) v (by omega)
      · by_cases h3 : W % 8 = 3
        · rw [kMw_s0 (kM14_3 h3) v, kMw_s0 (kM16_3 h3) v]
          exact ih 0 s 0 (W / 8) 0 (kPo3 P) v (by omega)
        · rw [kMw_s0 (kM14_no h1 h2 h3 h) v]
          exact at15 _ _ _ _ _ _ _
/-- within brackets, and no ')' -/
theorem kM_16 (hp : p ≤ 400) (h : ¬ (kTkk T p = 3 ∧ kTkv T p = 41)) {o : Int} (ho : 1 ≤ o) : ∀ (n : Nat) (b s u t W Q P v : Int), W.natAbs ≤ n → (kMw T [16, b, o, s, u, t, W, Q, P] p v ↔ v = 1 + (p : Int)) := by
  have no : ∀ (b s u t W Q P v : Int), W % 8 ≠ 1 → W % 8 ≠ 2 → W % 8 ≠ 3 → W % 8 ≠ 4 → (kMw T [16, b, o, s, u, t, W, Q, P] p v ↔ v = 1 + (p : Int)) := fun b s u t W Q P v h1 h2 h3 h4 => by
    have e := kM16_no (T := T) (p := p) (b := b) (o := o) (s := s) (u := u) (t := t) (W := W) (Q := Q) (P := P) h1 h2 h3 h4 ho h
    have e0 : (kMs T [16, b, o, s, u, t, W, Q, P] p).1 = 0 := by rw [e]
    have ev : kClp 0 401 ((kMs T [16, b, o, s, u, t, W, Q, P] p).2.getD 0 0) + (kMs T [16, b, o, s, u, t, W, Q, P] p).2.getD 1 0 = 1 + (p : Int) := by
      rw [e]
      show kClp 0 401 (1 + (p : Int)) + 0 = _
      rw [kClp_eq (by omega) (by omega), Int.add_zero]
    constructor
    · intro hv
      rw [kMw_0 e0 hv, ev]
    · intro hv
      rw [hv, ← ev]
      exact kMw_0' e0
  intro n
  induction n with
  | zero =>
    intro b s u t W Q P v hn
    have : W = 0 := by omega
    subst this
    exact no b s u t 0 Q P v (by decide) (by decide) (by decide) (by decide)
  | succ n ih =>
    intro b s u t W Q P v hn
    by_cases h1 : W % 8 = 1
    · rw [kMw_s0 (kM16_1 h1) v]
      exact ih 0 s u 0 (W / 8) 0 (kPo1 P) v (by omega)
    · by_cases h2 : W % 8 = 2
      · rw [kMw_s0 (kM16_2 h2) v]
        exact ih 0 s u 0 (W / 8) 0 (kPo2 P) v (by omega)
      · by_cases h3 : W % 8 = 3
        · rw [kMw_s0 (kM16_3 h3) v]
          exact ih 0 s u 0 (W / 8) 0 (kPo3 P) v (by omega)
        · by_cases h4 : W % 8 = 4
          · rw [kMw_s0 (kM16_4 h4) v]
            exact ih 0 s u 0 (W / 8) 0 (kPo4 P) v (by omega)
          · exact no b s u t W Q P v h1 h2 h3 h4
end KDE
section KDF
variable {N : kN} {σ : Nat → Int} {S : kS} {M : pM}
/-- a leaf: where the words of what comes besides stand -/
def k_lww (l : List kE) (i : Nat) : kE := match l[i]? with
  | some w => w
  | none => kc 0
theorem k_lw_ev (l : List kE) (i : Nat) : k_ev σ (k_lww l i) = (l.map (k_ev σ)).getD i 0 := by
  unfold k_lww
  rw [List.getD_eq_getElem?_getD, List.getElem?_map]
  cases l[i]? with
  | none => exact k_ev_c σ 0
  | some w => rfl
theorem k_lw_sc {n : Nat} {l : List kE} (hl : ∀ w ∈ l, kSc n w) (i : Nat) : kSc n (k_lww l i) := by
  unfold k_lww
  split
  · rename_i w hw
    exact hl w (List.mem_of_getElem? hw)
  · exact kSc_c
/-- a word unlike, alike -/
def k_dun (S : kS) (o : Option kE) (x : Int) : Bool := match o with
  | some e => k_nzw S (k_sub e (kc x))
  | none => false
def k_dq (S : kS) (o : Option kE) (x : Int) : Bool := match o with
  | some e => k_eqS S (k_sub e (kc x)) (kc 0)
  | none => false
def k_d9 (S : kS) (ph : Int) (ws : List kE) : Nat × List kE := (2, [kc ph, kc 0, k_nv S.1 (k_lww ws 2), k_nv S.1 (k_lww ws 3), k_nv S.1 (k_lww ws 4), kc 0, k_nv S.1 (k_lww ws 6), kc 0, k_nv S.1 (k_lww ws 8), kc 0])
def k_js : List Nat := [0, 1, 2, 3, 4, 5]
def k_der (S : kS) (ws : List kE) (k : kE) : Option (Nat × List kE) := cond (k_cst (k_lww ws 0) && Nat.beq ws.length 9)
  (cond (decide ((k_lww ws 0).1 = 8)) (cond (k_dun S (k_em S ws k 23) 1 || k_dun S (k_em S ws k 24) 1111) (some (k_d9 S 14 ws)) none)
  (cond (decide ((k_lww ws 0).1 = 14)) (cond (k_dun S (k_em S ws k 23) 1 || (k_dun S (k_em S ws k 24) 423 && (k_dun S (k_em S ws k 24) 309007594 || k_js.any (fun j => k_dq S (k_em S ws k 2) j && k_dq S (k_em S ws k (13 + j)) 1)))) (some (k_d9 S 16 ws)) none)
  (cond (decide ((k_lww ws 0).1 = 16)) (cond (k_js.any (fun j => k_dq S (k_em S ws k 2) (j + 1)) && (k_dun S (k_em S ws k 23) 3 || k_dun S (k_em S ws k 24) 41)) (some (0, [k_nv S.1 (k_add k (kc 1)), kc 0])) none) none))) none
theorem k_dun_ok (h : kRS N σ S M) {o : Option kE} {x y : Int} (ho : ∀ e, o = some e → k_ev σ e = y) (hd : k_dun S o x = true) : y ≠ x := by
  unfold k_dun at hd
  split at hd
  · rename_i e
    have := k_nzw_ok h hd
    rw [k_ev_sub, k_ev_c, ho e rfl] at this
    omega
  · cases hd
theorem k_dq_ok (h : kRS N σ S M) {o : Option kE} {x y : Int} (ho : ∀ e, o = some e → k_ev σ e = y) (hd : k_dq S o x = true) : y = x := by
  unfold k_dq at hd
  split at hd
  · rename_i e
    have := k_eqv_ok h.2.1 h.2.2.1 hd
    rw [k_ev_sub, k_ev_c, k_ev_c, ho e rfl] at this
    omega
  · cases hd
/-- what the step r of a state says of it -/
def kSt2 (T : kTx) (ws : List Int) (p : Nat) (r : Nat × List Int) : Prop :=
  (r.1 = 0 → ∀ v, kMw T ws p v ↔ v = kClp 0 401 (r.2.getD 0 0) + r.2.getD 1 0) ∧
  (r.1 = 1 → ∀ v, kMw T ws p v ↔ kMw T (r.2.take 9) (kMn T p) (v - r.2.getD 9 0)) ∧
  (r.1 = 2 → ∀ v, kMw T ws p v ↔ kMw T (r.2.take 9) p (v - r.2.getD 9 0))
theorem kSt2_ms (T : kTx) (ws : List Int) (p : Nat) : kSt2 T ws p (kMs T ws p) := by
  have go : (kMs T ws p).1 ≠ 0 → ∀ v, kMw T ws p v ↔ kMw T (kM9 T ws p) (kMp T ws p) (v - (kMs T ws p).2.getD 9 0) := fun h v => ⟨kMw_go h, fun hv => by
    have := kMw_bk h hv
    rw [Int.sub_add_cancel] at this
    exact this⟩
  refine ⟨fun h v => ⟨fun hv => kMw_0 h hv, fun hv => ?_⟩, fun h v => ?_, fun h v => ?_⟩
  · rw [hv]
    exact kMw_0' h
  · have e := go (by omega) v
    unfold kMp at e
    rw [h] at e
    exact e
  · have e := go (by omega) v
    unfold kMp at e
    rw [h] at e
    exact e
theorem kSt2_2 {T : kTx} {ws : List Int} {p : Nat} {a b o s u t W Q P : Int} (h : ∀ v, kMw T ws p v ↔ kMw T [a, b, o, s, u, t, W, Q, P] p v) : kSt2 T ws p (2, [a, b, o, s, u, t, W, Q, P, 0]) := by
  refine ⟨fun e => absurd e (by show (2 : Nat) ≠ 0; omega), fun e => absurd e (by show (2 : Nat) ≠ 1; omega), fun _ v => ?_⟩
  show kMw T ws p v ↔ kMw T [a, b, o, s, u, t, W, Q, P] p (v - 0)
  rw [Int.sub_zero]
  exact h v
theorem k_len9 {α : Type} {l : List α} (h : l.length = 9) : ∃ a b c d e f g i j : α, l = [a, b, c, d, e, f, g, i, j] := by
  match l, h with
  | [a, b, c, d, e, f, g, i, j], _ => exact ⟨a, b, c, d, e, f, g, i, j, rfl⟩
theorem k_d9_sc (h : kRS N σ S M) {ws : List kE} (hs : ∀ w ∈ ws, kSc S.1.length w) (x : Int) : ∀ w ∈ (k_d9 S x ws).2, kSc S.1.length w := by
  have q : ∀ i, kSc S.1.length (k_nv S.1 (k_lww ws i)) := fun i => k_nv_sc (k_lw_sc hs i)
  intro w hw
  unfold k_d9 at hw
  simp only [List.mem_cons, List.not_mem_nil, or_false] at hw
  rcases hw with rfl | rfl | rfl | rfl | rfl | rfl | rfl | rfl | rfl | rfl
  · exact kSc_c
  · exact kSc_c
  · exact q 2
  · exact q 3
  · exact q 4
  · exact kSc_c
  · exact q 6
  · exact kSc_c
  · exact q 8
  · exact kSc_c
theorem k_d9_ev (h : kRS N σ S M) (x : Int) (a b c d e f g i j : kE) : (k_d9 S x [a, b, c, d, e, f, g, i, j]).2.map (k_ev σ) = [x, 0, k_ev σ c, k_ev σ d, k_ev σ e, 0, k_ev σ g, 0, k_ev σ j, 0] := by
  unfold k_d9
  simp only [List.map_cons, List.map_nil, k_ev_c, k_nv_ok h.2.1]
  rfl
theorem k_der_ok (h : kRS N σ S M) {ws : List kE} {k : kE} {p : Nat} {r : Nat × List kE} (hp4 : p ≤ 400) (hs : ∀ w ∈ ws, kSc S.1.length w) (hk : kSc S.1.length k) (hp : (p : Int) = k_ev σ k) (hr : k_der S ws k = some r) : (∀ w ∈ r.2, kSc S.1.length w) ∧ kSt2 (kTt M) (ws.map (k_ev σ)) p (r.1, r.2.map (k_ev σ)) := by
  have E := k_em_ok h hp4 hs hk hp
  unfold k_der at hr
  obtain ⟨g0, hr⟩ := pm_cs hr
  obtain ⟨g0, g9⟩ := Bool.and_eq_true_iff.mp g0
  obtain ⟨a, b, c, d, e, f, g, i, j, rfl⟩ := k_len9 (pm_beq g9)
  have g0 : k_cst a = true := g0
  have ea : k_ev σ a = a.1 := k_ev_const g0
  have E23 : ∀ w, k_em S [a, b, c, d, e, f, g, i, j] k 23 = some w → k_ev σ w = kTkk (kTt M) p := fun w hw => (E 23 w hw).2
  have E24 : ∀ w, k_em S [a, b, c, d, e, f, g, i, j] k 24 = some w → k_ev σ w = kTkv (kTt M) p := fun w hw => (E 24 w hw).2
  have E2 : ∀ w, k_em S [a, b, c, d, e, f, g, i, j] k 2 = some w → k_ev σ w = k_ev σ c := fun w hw => (E 2 w hw).2
  have EU : ∀ z : Nat, z < 6 → ∀ w, k_em S [a, b, c, d, e, f, g, i, j] k (13 + z) = some w → k_ev σ w = k_ev σ e / 2 ^ z % 2 := fun z hz w hw => by
    have := (E (13 + z) w hw).2
    match z, hz, this with
    | 0, _, this => exact this
    | 1, _, this => exact this
    | 2, _, this => exact this
    | 3, _, this => exact this
    | 4, _, this => exact this
    | 5, _, this => exact this
    | z + 6, hz, _ => omega
  have ja : ∀ z ∈ k_js, z < 6 := by decide
  cases c8 : decide ((k_lww [a, b, c, d, e, f, g, i, j] 0).1 = 8) with
  | true =>
    rw [c8, cond_true] at hr
    have c8 : a.1 = 8 := of_decide_eq_true c8
    obtain ⟨g1, hr⟩ := pm_cs hr
    cases hr
    refine ⟨k_d9_sc h hs 14, ?_⟩
    rw [k_d9_ev h]
    show kSt2 (kTt M) [k_ev σ a, k_ev σ b, k_ev σ c, k_ev σ d, k_ev σ e, k_ev σ f, k_ev σ g, k_ev σ i, k_ev σ j] p _
    rw [ea, c8]
    refine kSt2_2 fun v => kM_8 (fun hh => ?_) _ _ _ _ _ _ _ _ _ _ (Nat.le_refl _)
    rcases Bool.or_eq_true_iff.mp g1 with g1 | g1
    · exact k_dun_ok h E23 g1 hh.1
    · exact k_dun_ok h E24 g1 hh.2
  | false =>
    rw [c8, cond_false] at hr
    cases c14 : decide ((k_lww [a, b, c, d, e, f, g, i, j] 0).1 = 14) with
    | true =>
      rw [c14, cond_true] at hr
      have c14 : a.1 = 14 := of_decide_eq_true c14
      obtain ⟨g1, hr⟩ := pm_cs hr
      cases hr
      refine ⟨k_d9_sc h hs 16, ?_⟩
      rw [k_d9_ev h]
      show kSt2 (kTt M) [k_ev σ a, k_ev σ b, k_ev σ c, k_ev σ d, k_ev σ e, k_ev σ f, k_ev σ g, k_ev σ i, k_ev σ j] p _
      rw [ea, c14]
      rcases Bool.or_eq_true_iff.mp g1 with g1 | g1
      · have g1 := k_dun_ok h E23 g1
        exact kSt2_2 fun v => kM_14 (fun hh => g1 hh.1) (Or.inl fun hh => g1 hh.1) _ _ _ _ _ _ _ _ (Nat.le_refl _)
      · obtain ⟨g1, g2⟩ := Bool.and_eq_true_iff.mp g1
        have g1 := k_dun_ok h E24 g1
        refine kSt2_2 fun v => kM_14 (fun hh => g1 hh.2) ?_ _ _ _ _ _ _ _ _ (Nat.le_refl _)
        rcases Bool.or_eq_true_iff.mp g2 with g2 | g2
        · have g2 := k_dun_ok h E24 g2
          exact Or.inl fun hh => g2 hh.2
        · obtain ⟨z, hz, g2⟩ := List.any_eq_true.mp g2
          obtain ⟨g2, g3⟩ := Bool.and_eq_true_iff.mp g2
          exact Or.inr ⟨z, ja z hz, k_dq_ok h E2 g2, k_dq_ok h (EU z (ja z hz)) g3⟩
    | false =>
      rw [c14, cond_false] at hr
      obtain ⟨c16, hr⟩ := pm_cs hr
      have c16 : a.1 = 16 := of_decide_eq_true c16
      obtain ⟨g1, hr⟩ := pm_cs hr
      cases hr
      obtain ⟨g1, g2⟩ := Bool.and_eq_true_iff.mp g1
      obtain ⟨z, hz, g1⟩ := List.any_eq_true.mp g1
      have g1 := k_dq_ok h E2 g1
      have hm : ¬ (kTkk (kTt M) p = 3 ∧ kTkv (kTt M) p = 41) := fun hh => by
        rcases Bool.or_eq_true_iff.mp g2 with g2 | g2
        · exact k_dun_ok h E23 g2 hh.1
        · exact k_dun_ok h E24 g2 hh.2
      refine ⟨fun w hw => ?_, fun _ v => ?_, fun e => absurd e (by show (0 : Nat) ≠ 1; omega), fun e => absurd e (by show (0 : Nat) ≠ 2; omega)⟩
      · simp only [List.mem_cons, List.not_mem_nil, or_false] at hw
        rcases hw with rfl | rfl
        · exact k_nv_sc (kSc_add hk kSc_c)
        · exact kSc_c
      · show kMw (kTt M) [k_ev σ a, k_ev σ b, k_ev σ c, k_ev σ d, k_ev σ e, k_ev σ f, k_ev σ g, k_ev σ i, k_ev σ j] p v ↔ v = kClp 0 401 (k_ev σ (k_nv S.1 (k_add k (kc 1)))) + k_ev σ (kc 0)
        rw [ea, c16, k_nv_ok h.2.1, k_ev_add, k_ev_c, k_ev_c, ← hp, kClp_eq (by omega) (by omega), kM_16 hp4 hm (by omega) _ _ _ _ _ _ _ _ _ (Nat.le_refl _)]
        constructor
        · intro hv
          omega
        · intro hv
          omega
end KDF
end
