noncomputable section
/-! functions found: longs of sets, bits, counts -/
theorem kCnl_f (s z : Int) : ∀ (n : Nat) (L : Int), 0 ≤ kCnl s z n L ∧ kCnl s z n L ≤ (n : Int)
  | 0, _ => ⟨by show (0 : Int) ≤ 0; omega, by show (0 : Int) ≤ ((0 : Nat) : Int); omega⟩
  | n + 1, L => by
    obtain ⟨a, b⟩ := kCnl_f s z n (L / 16)
    have e : kCnl s z (n + 1) L = cond (decide (1 ≤ L % 16 ∧ L % 16 ≤ z)) (kBt (L % 16 - 1).toNat s) 0 + kCnl s z n (L / 16) := rfl
    rw [e]
    cases decide (1 ≤ L % 16 ∧ L % 16 ≤ z) with
    | false =>
      rw [cond_false]
      omega
    | true =>
      rw [cond_true]
      rcases kBt_01 (L % 16 - 1).toNat s with e | e <;> omega
theorem kCnl_n0 (s : Int) : ∀ (n : Nat) (L : Int), kCnl s 0 n L = 0
  | 0, _ => rfl
  | n + 1, L => by
    show cond (decide (1 ≤ L % 16 ∧ L % 16 ≤ 0)) (kBt (L % 16 - 1).toNat s) 0 + kCnl s 0 n (L / 16) = 0
    rw [decide_eq_false (by omega), cond_false, kCnl_n0 s n]
    rfl
theorem kTms_nn (g : Nat) : ∀ (n : Nat) (L : Int), 0 ≤ kTms g n L
  | 0, _ => by show (0 : Int) ≤ 0; omega
  | n + 1, L => by
    have a := kTms_nn g n (L / 16)
    show 0 ≤ cond (decide (L % 16 = (g : Int) + 1)) 1 0 + kTms g n (L / 16)
    cases decide (L % 16 = (g : Int) + 1) with
    | false =>
      rw [cond_false]
      omega
    | true =>
      rw [cond_true]
      omega
theorem kSlv_bit {b w f i u : Nat} {Q : Int} (hu : u < 64) : (kSlv b w f i Q).getLsbD u = decide (kBt b (kSlc w f i Q u) = 1) := by
  unfold kSlv
  rw [BitVec.getLsbD_ofNat, decide_eq_true hu, Bool.true_and, kSet_bit _ 64 u hu]
theorem kWd_mst {j : Nat} (hj : j < 64) (Q : Int) : kWd j (kMst Q : Int) = (kSlv 4 j 12 0 Q).toInt := by
  unfold kWd
  rw [kWv_of (kMst_rg Q).1 (w := kSlv 4 j 12 0 Q) fun u hu => ?_]
  rw [kSlv_bit hu, kMst_bit (s := 64 * j + u) (by unfold kBgN; omega), decide_eq_true_iff]
  obtain ⟨a, b⟩ := kCnl_f ((64 * j + u : Nat) : Int) 12 14 (Q / 16)
  have e : kSlc j 12 0 Q u = 16 - Q % 16 + kCnl ((64 * j + u : Nat) : Int) 12 14 (Q / 16) + ((0 : Nat) : Int) * kBt 12 ((64 * j + u : Nat) : Int) := rfl
  have e0 : ((0 : Nat) : Int) * kBt 12 ((64 * j + u : Nat) : Int) = 0 := Int.zero_mul _
  rw [e, e0]
  unfold kCnt
  generalize kCnl ((64 * j + u : Nat) : Int) 12 14 (Q / 16) = x at a b ⊢
  have k : kBt 4 (16 - Q % 16 + x + 0) = (16 - Q % 16 + x + 0) / 16 % 2 := rfl
  rw [k]
  by_cases c : Q % 16 ≤ x
  · rw [decide_eq_true c, cond_true]
    exact ⟨fun _ => rfl, fun _ => by omega⟩
  · rw [decide_eq_false c, cond_false]
    exact ⟨fun h => by omega, fun h => by cases h⟩
theorem kSlc_0 (w u : Nat) (Q : Int) : kSlc w 0 0 Q u = 16 - Q % 16 := by
  show 16 - Q % 16 + kCnl ((64 * w + u : Nat) : Int) ((0 : Nat) : Int) 14 (Q / 16) + ((0 : Nat) : Int) * kBt 0 ((64 * w + u : Nat) : Int) = _
  rw [show ((0 : Nat) : Int) = 0 from rfl, kCnl_n0, Int.zero_mul]
  omega
theorem kSlv_0 (b w : Nat) (Q : Int) : (kSlv b w 0 0 Q).toInt = -kBt b (16 - Q % 16) := by
  rcases kBt_01 b (16 - Q % 16) with e | e
  · have : kSlv b w 0 0 Q = 0#64 := BitVec.eq_of_getLsbD_eq fun u hu => by
      rw [kSlv_bit hu, kSlc_0, e, BitVec.getLsbD_zero]
      rfl
    rw [this, e]
    decide
  · have : kSlv b w 0 0 Q = BitVec.allOnes 64 := BitVec.eq_of_getLsbD_eq fun u hu => by
      rw [kSlv_bit hu, kSlc_0, e, BitVec.getLsbD_allOnes, decide_eq_true hu]
      rfl
    rw [this, e]
    decide
theorem kSlv_nx {b w f t : Nat} {Q : Int} (ht : (t : Int) = kTms f 14 (Q / 16)) : kSlv b w (f + 1) 0 Q = kSlv b w f t Q := by
  have e : kSlc w (f + 1) 0 Q = kSlc w f t Q := by
    funext u
    show 16 - Q % 16 + kCnl ((64 * w + u : Nat) : Int) ((f + 1 : Nat) : Int) 14 (Q / 16) + ((0 : Nat) : Int) * kBt (f + 1) ((64 * w + u : Nat) : Int) = 16 - Q % 16 + kCnl ((64 * w + u : Nat) : Int) (f : Int) 14 (Q / 16) + (t : Int) * kBt f ((64 * w + u : Nat) : Int)
    rw [show ((f + 1 : Nat) : Int) = (f : Int) + 1 from rfl, kCnl_z1, ht, show ((0 : Nat) : Int) = 0 from rfl, Int.zero_mul]
    omega
  unfold kSlv
  rw [e]
/-- what is carried -/
def kCar : Nat → Int → Int → Int
  | 0, _, h => h
  | b + 1, x, h => kBt b x * kCar b x h
theorem kBt_su (b : Nat) (x : Int) : kBt (b + 1) x = kBt b (x / 2) := by
  unfold kBt
  rw [Int.pow_succ', Int.ediv_ediv_of_nonneg (by omega)]
theorem kBt_z0 (x : Int) : kBt 0 x = x % 2 := by
  unfold kBt
  rw [Int.pow_zero, Int.ediv_one]
theorem kCar_01 : ∀ (b : Nat) (x : Int) {h : Int}, h = 0 ∨ h = 1 → kCar b x h = 0 ∨ kCar b x h = 1
  | 0, _, _, hh => hh
  | b + 1, x, h, hh => by
    show kBt b x * kCar b x h = 0 ∨ kBt b x * kCar b x h = 1
    rcases kCar_01 b x hh with e | e
    · rw [e, Int.mul_zero]
      exact Or.inl rfl
    · rw [e, Int.mul_one]
      exact kBt_01 b x
theorem kCar_s : ∀ (b : Nat) (x h : Int), kCar (b + 1) x h = kCar b (x / 2) (kBt 0 x * h)
  | 0, _, _ => rfl
  | b + 1, x, h => by
    show kBt (b + 1) x * kCar (b + 1) x h = kBt b (x / 2) * kCar b (x / 2) (kBt 0 x * h)
    rw [kCar_s b x h, kBt_su]
theorem kRip : ∀ (b : Nat) (x : Int) {h : Int}, h = 0 ∨ h = 1 → kBt b (x + h) = (kBt b x + kCar b x h) % 2
  | 0, x, h, hh => by
    rw [kBt_z0, kBt_z0]
    show (x + h) % 2 = (x % 2 + h) % 2
    omega
  | b + 1, x, h, hh => by
    have h1 : kBt 0 x * h = 0 ∨ kBt 0 x * h = 1 := by
      rcases hh with e | e
      · rw [e, Int.mul_zero]
        exact Or.inl rfl
      · rw [e, Int.mul_one]
        exact kBt_01 0 x
    have e : (x + h) / 2 = x / 2 + kBt 0 x * h := by
      rw [kBt_z0]
      rcases hh with e | e
      · rw [e, Int.mul_zero]
        omega
      · rw [e, Int.mul_one]
        omega
    rw [kBt_su, e, kRip b (x / 2) h1, kCar_s, kBt_su]
/-- a fact's long, and what is carried of it -/
def kCl (w f i : Nat) (Q : Int) : Nat → BitVec 64
  | 0 => kWv w (kFct (f : Int) : Int)
  | k + 1 => kSlv k w f i Q &&& kCl w f i Q k
theorem kCl_bit {w f i u : Nat} {Q : Int} (hw : w < 64) (hu : u < 64) : ∀ k : Nat, (kCl w f i Q k).getLsbD u = decide (kCar k (kSlc w f i Q u) (kBt f ((64 * w + u : Nat) : Int)) = 1)
  | 0 => by
    show (kWv w (kFct (f : Int) : Int)).getLsbD u = decide (kBt f ((64 * w + u : Nat) : Int) = 1)
    have e := kFct_bit (f := (f : Int)) (s := 64 * w + u) (by unfold kBgN; omega)
    rw [Int.toNat_natCast] at e
    rw [kWv_bit, decide_eq_true hu, Bool.true_and, ← e]
    have k := kBt_iff (kFct_rg (f : Int)).1 (64 * w + u)
    cases c : (kFct (f : Int) : Int).toNat.testBit (64 * w + u) with
    | true => exact (decide_eq_true (k.mpr c)).symm
    | false =>
      refine (decide_eq_false fun z => ?_).symm
      have := k.mp z
      rw [c] at this
      cases this
  | k + 1 => by
    show (kSlv k w f i Q &&& kCl w f i Q k).getLsbD u = decide (kBt k (kSlc w f i Q u) * kCar k (kSlc w f i Q u) (kBt f ((64 * w + u : Nat) : Int)) = 1)
    rw [BitVec.getLsbD_and, kSlv_bit hu, kCl_bit hw hu k]
    rcases kBt_01 k (kSlc w f i Q u) with e | e
    · rw [e, Int.zero_mul]
      rfl
    · rw [e, Int.one_mul, decide_eq_true rfl, Bool.true_and]
theorem kSlv_up {b w f i : Nat} {Q : Int} (hw : w < 64) : kSlv b w f (i + 1) Q = kSlv b w f i Q ^^^ kCl w f i Q b := by
  refine BitVec.eq_of_getLsbD_eq fun u hu => ?_
  have h01 := kBt_01 f ((64 * w + u : Nat) : Int)
  have e : kSlc w f (i + 1) Q u = kSlc w f i Q u + kBt f ((64 * w + u : Nat) : Int) := by
    show 16 - Q % 16 + kCnl ((64 * w + u : Nat) : Int) (f : Int) 14 (Q / 16) + ((i + 1 : Nat) : Int) * kBt f ((64 * w + u : Nat) : Int) = 16 - Q % 16 + kCnl ((64 * w + u : Nat) : Int) (f : Int) 14 (Q / 16) + (i : Int) * kBt f ((64 * w + u : Nat) : Int) + kBt f ((64 * w + u : Nat) : Int)
    rw [show ((i + 1 : Nat) : Int) = (i : Int) + 1 from rfl, Int.add_mul, Int.one_mul]
    omega
  rw [BitVec.getLsbD_xor, kSlv_bit hu, kSlv_bit hu, kCl_bit hw hu, e, kRip b _ h01]
  have c01 := kCar_01 b (kSlc w f i Q u) h01
  rcases kBt_01 b (kSlc w f i Q u) with e1 | e1
  · rcases c01 with e2 | e2
    · rw [e1, e2]
      rfl
    · rw [e1, e2]
      rfl
  · rcases c01 with e2 | e2
    · rw [e1, e2]
      rfl
    · rw [e1, e2]
      rfl
theorem kJ_of (A : BitVec 64) : Int64.ofInt A.toInt = Int64.ofBitVec A := Int64.ofInt_toInt (Int64.ofBitVec A)
theorem kJ_and (A B : BitVec 64) : (Int64.ofInt A.toInt &&& Int64.ofInt B.toInt).toInt = (A &&& B).toInt := by
  rw [kJ_of, kJ_of]
  rfl
theorem kJ_or (A B : BitVec 64) : (Int64.ofInt A.toInt ||| Int64.ofInt B.toInt).toInt = (A ||| B).toInt := by
  rw [kJ_of, kJ_of]
  rfl
theorem kJ_xor (A B : BitVec 64) : (Int64.ofInt A.toInt ^^^ Int64.ofInt B.toInt).toInt = (A ^^^ B).toInt := by
  rw [kJ_of, kJ_of]
  rfl
section KFN
variable {N : kN} {σ : Nat → Int} {S : kS} {M : pM}
def k_ffc : kE := kc (-847)
def k_fmc : kE := kc (-3023)
def k_slq (b : Nat) (w f i : kE) : kE := k_add (kc (b : Int)) (k_mul 8 (k_add w (k_mul 64 (k_add f (k_mul 16 i)))))
theorem k_slq_sc {n b : Nat} {w f i : kE} (hw : kSc n w) (hf : kSc n f) (hi : kSc n i) : kSc n (k_slq b w f i) := kSc_add kSc_c (kSc_mul (kSc_add hw (kSc_mul (kSc_add hf (kSc_mul hi)))))
theorem k_slq_ev (b : Nat) (w f i : kE) : k_ev σ (k_slq b w f i) = (b : Int) + 8 * (k_ev σ w + 64 * (k_ev σ f + 16 * k_ev σ i)) := by
  unfold k_slq
  rw [k_ev_add, k_ev_c, k_ev_mul, k_ev_add, k_ev_mul, k_ev_add, k_ev_mul]
/-- a slice's number: which bit, which long, which fact, how often -/
def k_sld (S : kS) (u : kE) : Option (Nat × kE × kE × kE) := match k_spl S u 8 with
  | none => none
  | some r => cond (k_cst (k_nv S.1 r.2)) (match k_spl S r.1 64 with
    | none => none
    | some p => (match k_spl S p.1 16 with
      | none => none
      | some t => some ((k_nv S.1 r.2).1.toNat, p.2, k_nv S.1 t.2, k_nv S.1 t.1))) none
theorem k_sld_ok (h : kRS N σ S M) {u : kE} {d : Nat × kE × kE × kE} (hu : kSc S.1.length u) (hd : k_sld S u = some d) : (kSc S.1.length d.2.1 ∧ kSc S.1.length d.2.2.1 ∧ kSc S.1.length d.2.2.2) ∧ k_ev σ u = (d.1 : Int) + 8 * (k_ev σ d.2.1 + 64 * (k_ev σ d.2.2.1 + 16 * k_ev σ d.2.2.2)) ∧ d.1 < 8 ∧ 0 ≤ k_ev σ d.2.1 ∧ k_ev σ d.2.1 < 64 ∧ 0 ≤ k_ev σ d.2.2.1 ∧ k_ev σ d.2.2.1 < 16 := by
  unfold k_sld at hd
  split at hd
  · cases hd
  · rename_i r hr
    obtain ⟨g, hd⟩ := pm_cs hd
    obtain ⟨r1, r2, r3, r4, r5⟩ := k_spl_ok h hu hr
    have e := k_nv_ok (e := r.2) h.2.1
    rw [k_ev_const (σ := σ) g] at e
    split at hd
    · cases hd
    · rename_i p hp
      obtain ⟨p1, p2, p3, p4, p5⟩ := k_spl_ok h r4 hp
      split at hd
      · cases hd
      · rename_i t ht
        obtain ⟨t1, t2, t3, t4, t5⟩ := k_spl_ok h p4 ht
        cases hd
        have f1 := k_nv_ok (e := t.2) h.2.1
        have f2 := k_nv_ok (e := t.1) h.2.1
        refine ⟨⟨p5, k_nv_sc t5, k_nv_sc t4⟩, ?_, ?_, p2, p3, ?_, ?_⟩
        · show k_ev σ u = (((k_nv S.1 r.2).1.toNat : Nat) : Int) + 8 * (k_ev σ p.2 + 64 * (k_ev σ (k_nv S.1 t.2) + 16 * k_ev σ (k_nv S.1 t.1)))
          rw [f1, f2]
          omega
        · show (k_nv S.1 r.2).1.toNat < 8
          omega
        · show 0 ≤ k_ev σ (k_nv S.1 t.2)
          omega
        · show k_ev σ (k_nv S.1 t.2) < 16
          omega
/-- what a slice's cell says -/
theorem kLf4_sl {u Q : Int} {b w f i : Nat} (hb : b < 8) (hw : w < 64) (hf : f < 16) (hu : u = (b : Int) + 8 * ((w : Int) + 64 * ((f : Int) + 16 * (i : Int)))) : kLf4 10 u Q = (kSlv b w f i Q).toInt := by
  unfold kLf4
  rw [decide_eq_false (show ¬ (10 : Int) = 0 by omega), cond_false, decide_eq_false (show ¬ (10 : Int) = 1 by omega), cond_false, decide_eq_false (show ¬ (10 : Int) = 2 by omega), cond_false, decide_eq_false (show ¬ (10 : Int) = 4 by omega), cond_false, decide_eq_false (show ¬ (10 : Int) = 5 by omega), cond_false, decide_eq_false (show ¬ (10 : Int) = 8 by omega), cond_false, decide_eq_false (show ¬ (10 : Int) = 9 by omega), cond_false, decide_eq_true (show (10 : Int) = 10 from rfl), cond_true]
  rw [show (u % 8).toNat = b by omega, show (u / 8 % 64).toNat = w by omega, show (u / 512 % 16).toNat = f by omega, show (u / 8192).toNat = i by omega]
theorem k_lksl (h : kRS N σ S M) {b : Nat} {w f i Q v : kE} (hb : b < 8) (w0 : 0 ≤ k_ev σ w) (w1 : k_ev σ w < 64) (f0 : 0 ≤ k_ev σ f) (f1 : k_ev σ f < 16) (i0 : 0 ≤ k_ev σ i) (hv : k_lkf S (k_ff7 10 (k_slq b w f i)) Q = some v) : kSc S.1.length v ∧ k_ev σ v = (kSlv b (k_ev σ w).toNat (k_ev σ f).toNat (k_ev σ i).toNat (k_ev σ Q)).toInt := by
  obtain ⟨a1, a2⟩ := k_lk7_ok h (by omega) (by omega) hv
  refine ⟨a1, a2.trans (kLf4_sl hb (by omega) (by omega) ?_)⟩
  rw [k_slq_ev]
  omega
def k_land (S : kS) (x y : kE) : Option kE := k_lkf S (k_ff7 8 (k_add x (kc 9223372036854775808))) y
def k_lxo (S : kS) (x y : kE) : Option kE := k_lkf S (k_ff7 9 (k_add x (kc 9223372036854775808))) y
theorem k_land_ok (h : kRS N σ S M) {x y v : kE} {A B : BitVec 64} (hx : k_ev σ x = A.toInt) (hy : k_ev σ y = B.toInt) (hv : k_land S x y = some v) : kSc S.1.length v ∧ k_ev σ v = (A &&& B).toInt := by
  obtain ⟨a1, a2⟩ := k_lk7_ok h (by omega) (by omega) hv
  refine ⟨a1, a2.trans ?_⟩
  rw [k_ev_add, k_ev_c, hx, hy]
  show (Int64.ofInt (A.toInt + 9223372036854775808 - 9223372036854775808) &&& Int64.ofInt B.toInt).toInt = _
  rw [show A.toInt + 9223372036854775808 - 9223372036854775808 = A.toInt by omega, kJ_and]
theorem k_lxo_ok (h : kRS N σ S M) {x y v : kE} {A B : BitVec 64} (hx : k_ev σ x = A.toInt) (hy : k_ev σ y = B.toInt) (hv : k_lxo S x y = some v) : kSc S.1.length v ∧ k_ev σ v = (A ^^^ B).toInt := by
  obtain ⟨a1, a2⟩ := k_lk7_ok h (by omega) (by omega) hv
  refine ⟨a1, a2.trans ?_⟩
  rw [k_ev_add, k_ev_c, hx, hy]
  show (Int64.ofInt (A.toInt + 9223372036854775808 - 9223372036854775808) ^^^ Int64.ofInt B.toInt).toInt = _
  rw [show A.toInt + 9223372036854775808 - 9223372036854775808 = A.toInt by omega, kJ_xor]
/-- the carried bits, looked up -/
def k_scl (S : kS) (w f i Q hh : kE) : Nat → Option kE
  | 0 => some hh
  | k + 1 => match k_lkf S (k_ff7 10 (k_slq k w f i)) Q with
    | none => none
    | some x => (match k_scl S w f i Q hh k with
      | none => none
      | some y => k_land S x y)
def k_slu (S : kS) (b : Nat) (w f i Q : kE) : Option kE := match k_lkf S k_ffc f with
  | none => none
  | some F => (match k_lkf S (k_ff7 0 w) F with
    | none => none
    | some hh => (match k_lkf S (k_ff7 10 (k_slq b w f i)) Q with
      | none => none
      | some x => (match k_scl S w f i Q hh b with
        | none => none
        | some y => k_lxo S x y)))
theorem k_slu_ok (h : kRS N σ S M) {b : Nat} {w f i Q v : kE} (hb : b < 8) (w0 : 0 ≤ k_ev σ w) (w1 : k_ev σ w < 64) (f0 : 0 ≤ k_ev σ f) (f1 : k_ev σ f < 16) (i0 : 0 ≤ k_ev σ i) (hv : k_slu S b w f i Q = some v) : kSc S.1.length v ∧ k_ev σ v = (kSlv b (k_ev σ w).toNat (k_ev σ f).toNat ((k_ev σ i).toNat + 1) (k_ev σ Q)).toInt := by
  unfold k_slu at hv
  split at hv
  · cases hv
  · rename_i F hF
    split at hv
    · cases hv
    · rename_i hh hhh
      split at hv
      · cases hv
      · rename_i x hx
        split at hv
        · cases hv
        · rename_i y hy
          obtain ⟨-, eF⟩ := k_lkf_ok (o := 6) (x := kc 0) h (by omega) (by omega) hF
          obtain ⟨-, eh⟩ := k_lk7_ok h (by omega) (by omega) hhh
          have eF : k_ev σ F = (kFct (k_ev σ f) : Int) := eF
          have eh : k_ev σ hh = kWd (k_ev σ w).toNat (k_ev σ F) := eh
          have ec : ∀ (k : Nat) (z : kE), k < 8 → k_scl S w f i Q hh k = some z → k_ev σ z = (kCl (k_ev σ w).toNat (k_ev σ f).toNat (k_ev σ i).toNat (k_ev σ Q) k).toInt := by
            intro k
            induction k with
            | zero =>
              intro z _ hz
              cases hz
              rw [eh, eF]
              show _ = (kWv (k_ev σ w).toNat (kFct ((k_ev σ f).toNat : Int) : Int)).toInt
              rw [Int.toNat_of_nonneg f0]
              rfl
            | succ k ih =>
              intro z hk hz
              unfold k_scl at hz
              split at hz
              · cases hz
              · rename_i a ha
                split at hz
                · cases hz
                · rename_i c hc
                  obtain ⟨-, ea⟩ := k_lksl h (by omega) w0 w1 f0 f1 i0 ha
                  exact (k_land_ok h ea (ih c (by omega) hc) hz).2
          obtain ⟨-, ex⟩ := k_lksl h hb w0 w1 f0 f1 i0 hx
          rw [kSlv_up (by omega)]
          exact k_lxo_ok h ex (ec b y hb hy) hv
def k_sln (S : kS) (b : Nat) (w f i Q : kE) : Option kE := match k_find (kc 388) f S.2.2.2 with
  | none => none
  | some t => (match k_spl S Q 16 with
    | none => none
    | some r => cond (k_eqS S t i && (k_fiS S 0 11 f && lany (fun q => (match k_ttq S 3 q with
      | some _ => k_eqS S q.2 r.1
      | none => false)) S.2.2.2)) (k_lkf S (k_ff7 10 (k_slq b w f i)) Q) none)
theorem k_sln_ok (h : kRS N σ S M) {b : Nat} {w f i Q v : kE} (hb : b < 8) (sQ : kSc S.1.length Q) (w0 : 0 ≤ k_ev σ w) (w1 : k_ev σ w < 64) (hv : k_sln S b w f i Q = some v) : kSc S.1.length v ∧ k_ev σ v = (kSlv b (k_ev σ w).toNat ((k_ev σ f).toNat + 1) 0 (k_ev σ Q)).toInt := by
  unfold k_sln at hv
  split at hv
  · cases hv
  · rename_i t ht
    split at hv
    · cases hv
    · rename_i r hr
      obtain ⟨g, hv⟩ := pm_cs hv
      simp only [Bool.and_eq_true] at g
      obtain ⟨g1, g2, g3⟩ := g
      have g1 := k_eqv_ok h.2.1 h.2.2.1 g1
      have g2 := k_fit_ok h.2.1 h.2.2.1 g2
      rw [lany_eq] at g3
      obtain ⟨q, hq, g3⟩ := List.any_eq_true.mp g3
      obtain ⟨r1, r2, r3, -, -⟩ := k_spl_ok h sQ hr
      split at g3
      · rename_i y hy
        have g3 := k_eqv_ok h.2.1 h.2.2.1 g3
        obtain ⟨-, T⟩ := k_ttq_ok h hq hy
        have T1 : k_gi M 388 (k_ev σ f).toNat = some (kTms (k_ev σ f).toNat 14 (k_ev σ q.2)) := T (k_ev σ f).toNat (by omega)
        have t1 := (k_find_int h ht (by rw [k_ev_c]; omega)).2.2
        rw [k_ev_c] at t1
        have t1 : k_gi M 388 (k_ev σ f).toNat = some (k_ev σ t) := t1
        rw [T1] at t1
        have t1 := Option.some.inj t1
        have nn := kTms_nn (k_ev σ f).toNat 14 (k_ev σ q.2)
        have eQ : k_ev σ Q / 16 = k_ev σ q.2 := by omega
        obtain ⟨a1, a2⟩ := k_lksl h hb w0 w1 g2.1 (by omega) (by omega) hv
        refine ⟨a1, a2.trans ?_⟩
        rw [kSlv_nx (t := (k_ev σ i).toNat) (by rw [eQ]; omega)]
      · cases g3
def k_slx (S : kS) (b : Nat) (w f i Q : kE) (q : kH) : Option kE := cond (k_qm 974 q.1.1 && (k_q16 10 q.1.1 && k_eqS S q.1.2 Q)) (match k_fnn S q with
  | none => none
  | some z => cond (Nat.beq z.1 17) (match k_sld S z.2 with
    | none => none
    | some d => cond (Nat.beq d.1 0 && k_eqS S d.2.1 w) (cond (k_eqS S d.2.2.1 f && (k_eq i (k_add d.2.2.2 (kc 1)) && k_geS S d.2.2.2)) (k_slu S b d.2.1 d.2.2.1 d.2.2.2 q.1.2) (cond (k_wq i (kc 0) && k_eq f (k_add d.2.2.1 (kc 1))) (k_sln S b d.2.1 d.2.2.1 d.2.2.2 q.1.2) none)) none) none) none
def k_slf (S : kS) (u Q : kE) : Option kE := match k_sld S u with
  | none => none
  | some d => cond (k_wq d.2.2.1 (kc 0) && k_wq d.2.2.2 (kc 0)) (match k_spl S Q 16 with
    | none => none
    | some r => (match k_lkf S (k_ff7 4 (kc (d.1 : Int))) (k_sub (kc 16) r.2) with
      | none => none
      | some x => some (k_mul (-1) x))) (lfo (k_slx S d.1 d.2.1 d.2.2.1 d.2.2.2 Q) S.2.2.2)
theorem lfo_in {α β : Type} {f : α → Option β} {v : β} : ∀ {l : List α}, lfo f l = some v → ∃ q ∈ l, f q = some v
  | [], h => by cases h
  | q :: t, h => by
    rw [lfo_cons] at h
    split at h
    · rename_i u hu
      cases h
      exact ⟨q, List.mem_cons_self, hu⟩
    · obtain ⟨r, r1, r2⟩ := lfo_in h
      exact ⟨r, List.mem_cons_of_mem _ r1, r2⟩
theorem k_slf_ok (h : kRS N σ S M) {u Q v : kE} (su : kSc S.1.length u) (sQ : kSc S.1.length Q) (hv : k_slf S u Q = some v) : kSc S.1.length v ∧ k_ev σ v = kLf4 10 (k_ev σ u) (k_ev σ Q) := by
  unfold k_slf at hv
  split at hv
  · cases hv
  · rename_i d hd
    obtain ⟨⟨d1, d2, d3⟩, e, b8, w0, w1, f0, f1⟩ := k_sld_ok h su hd
    cases c1 : (k_wq d.2.2.1 (kc 0) && k_wq d.2.2.2 (kc 0)) with
    | true =>
      rw [c1, cond_true] at hv
      obtain ⟨c2, c3⟩ := Bool.and_eq_true_iff.mp c1
      rw [k_wq_ok c2, k_wq_ok c3, k_ev_c] at e
      split at hv
      · cases hv
      · rename_i r hr
        split at hv
        · cases hv
        · rename_i x hx
          cases hv
          obtain ⟨r1, r2, r3, -, -⟩ := k_spl_ok h sQ hr
          obtain ⟨x1, x2⟩ := k_lk7_ok h (by omega) (by omega) hx
          rw [k_ev_c, k_ev_sub, k_ev_c] at x2
          have x2 : k_ev σ x = kBt ((d.1 : Int)).toNat (16 - k_ev σ r.2) := x2
          rw [Int.toNat_natCast] at x2
          refine ⟨kSc_mul x1, ?_⟩
          rw [kLf4_sl (b := d.1) (w := (k_ev σ d.2.1).toNat) (f := 0) (i := 0) b8 (by omega) (by omega) (by omega), kSlv_0, k_ev_mul, x2, show k_ev σ Q % 16 = k_ev σ r.2 by omega]
          omega
    | false =>
      rw [c1, cond_false] at hv
      obtain ⟨q, hq, hv⟩ := lfo_in hv
      obtain ⟨sq1, sq2, sq3⟩ := h.2.2.2.2.2.2.2 q hq
      unfold k_slx at hv
      obtain ⟨g, hv⟩ := pm_cs hv
      simp only [Bool.and_eq_true] at g
      have eQ := k_eqv_ok h.2.1 h.2.2.1 g.2.2
      split at hv
      · cases hv
      · rename_i z hz
        obtain ⟨g17, hv⟩ := pm_cs hv
        obtain ⟨sz, -⟩ := k_fnn_ok h hq hz
        split at hv
        · cases hv
        · rename_i p hp
          obtain ⟨⟨p1, p2, p3⟩, -, pb, pw0, pw1, pf0, pf1⟩ := k_sld_ok h sz hp
          obtain ⟨gb, hv⟩ := pm_cs hv
          obtain ⟨-, ew⟩ := Bool.and_eq_true_iff.mp gb
          have ew := k_eqv_ok h.2.1 h.2.2.1 ew
          cases c2 : (k_eqS S p.2.2.1 d.2.2.1 && (k_eq d.2.2.2 (k_add p.2.2.2 (kc 1)) && k_geS S p.2.2.2)) with
          | true =>
            rw [c2, cond_true] at hv
            simp only [Bool.and_eq_true] at c2
            obtain ⟨k1, k2, k3⟩ := c2
            have k1 := k_eqv_ok h.2.1 h.2.2.1 k1
            have k2 := k_eq_ok (σ := σ) k2
            rw [k_ev_add, k_ev_c] at k2
            have k3 := k_ge_ok h.2.1 h.2.2.1 k3
            obtain ⟨v1, v2⟩ := k_slu_ok h b8 pw0 pw1 pf0 pf1 k3 hv
            refine ⟨v1, v2.trans ?_⟩
            rw [eQ, kLf4_sl (b := d.1) (w := (k_ev σ p.2.1).toNat) (f := (k_ev σ p.2.2.1).toNat) (i := (k_ev σ p.2.2.2).toNat + 1) b8 (by omega) (by omega) (by omega)]
          | false =>
            rw [c2, cond_false] at hv
            obtain ⟨k0, hv⟩ := pm_cs hv
            obtain ⟨k1, k2⟩ := Bool.and_eq_true_iff.mp k0
            have k2 := k_eq_ok (σ := σ) k2
            rw [k_ev_add, k_ev_c] at k2
            have k1 := congrArg (k_ev σ) (k_wq_ok k1)
            rw [k_ev_c] at k1
            obtain ⟨v1, v2⟩ := k_sln_ok h b8 sq2 pw0 pw1 hv
            refine ⟨v1, v2.trans ?_⟩
            rw [eQ, kLf4_sl (b := d.1) (w := (k_ev σ p.2.1).toNat) (f := (k_ev σ p.2.2.1).toNat + 1) (i := 0) b8 (by omega) (by omega) (by omega)]
/-- a long of a set -/
def k_wdp (S : kS) (j f : kE) : Option kE := cond (k_cst f && (decide (0 ≤ f.1) && decide (f.1 < 12))) (cond (decide (f.1 < 6)) (some (kc (kPat f.1.toNat))) (match k_lkf S (k_ff7 4 (kc (f.1 - 6))) j with
  | some b => some (k_mul (-1) b)
  | none => none)) none
def k_wd1 (S : kS) (j X : kE) (q : kH) : Option kE := cond (k_wq q.1.1 k_ffc && k_wq q.2 X) (k_wdp S j (k_nv S.1 q.1.2)) none
def k_wd2 (S : kS) (j X : kE) (q : kH) : Option kE := cond (k_wq q.1.1 k_fmc && k_eqS S q.2 X) (match k_lkf S (k_ff7 10 (k_slq 4 j (kc 12) (kc 0))) q.1.2 with
  | some v => some v
  | none => k_slf S (k_slq 4 j (kc 12) (kc 0)) q.1.2) none
def k_wdf (S : kS) (j X : kE) : Option kE := cond (k_fiS S 0 63 j) (cond (k_wq (k_nv S.1 X) (kc (kPw 4096 - 1))) (some (kc (-1))) (match lfo (k_wd1 S j (k_nv S.1 X)) S.2.2.2 with
  | some v => some v
  | none => lfo (k_wd2 S j X) S.2.2.2)) none
theorem k_ffc_h (h : kRS N σ S M) {q : kH} (hq : q ∈ S.2.2.2) (hc : k_wq q.1.1 k_ffc = true) : k_ev σ q.2 = (kFct (k_ev σ q.1.2) : Int) := by
  have H := h.2.2.2.2.1 q hq
  rw [k_wq_ok hc] at H
  have e : k_ev σ k_ffc = k_ev σ (k_fop 6 (kc 0)) := rfl
  rw [e] at H
  exact ((k_fop_h (by omega) (by omega) (by rw [k_fop_ev, k_ev_c]; omega)).mp H).symm
theorem k_fmc_h (h : kRS N σ S M) {q : kH} (hq : q ∈ S.2.2.2) (hc : k_wq q.1.1 k_fmc = true) : k_ev σ q.2 = (kMst (k_ev σ q.1.2) : Int) := by
  have H := h.2.2.2.2.1 q hq
  rw [k_wq_ok hc] at H
  have e : k_ev σ k_fmc = k_ev σ (k_ff7 2 (kc 0)) := rfl
  rw [e] at H
  refine ((k_f7_h (by omega) (by omega) ?_).mp H).symm
  show k_ev σ (k_fop 7 (k_add (kc 2) (k_mul 16 (kc 0)))) < 0
  rw [k_fop_ev, k_ev_add, k_ev_mul, k_ev_c, k_ev_c]
  omega
theorem k_wdf_ok (h : kRS N σ S M) {j X v : kE} (sj : kSc S.1.length j) (hv : k_wdf S j X = some v) : kSc S.1.length v ∧ kWd (k_ev σ j).toNat (k_ev σ X) = k_ev σ v := by
  unfold k_wdf at hv
  obtain ⟨g, hv⟩ := pm_cs hv
  have g := k_fit_ok h.2.1 h.2.2.1 g
  have eX := k_nv_ok (e := X) h.2.1
  cases c1 : k_wq (k_nv S.1 X) (kc (kPw 4096 - 1)) with
  | true =>
    rw [c1, cond_true] at hv
    cases hv
    rw [k_wq_ok c1, k_ev_c, kPw_bg] at eX
    refine ⟨kSc_c, ?_⟩
    rw [← eX, kWd_all (by omega), k_ev_c]
  | false =>
    rw [c1, cond_false] at hv
    split at hv
    · rename_i v' hv'
      cases hv
      obtain ⟨q, hq, hv⟩ := lfo_in hv'
      unfold k_wd1 at hv
      obtain ⟨g1, hv⟩ := pm_cs hv
      obtain ⟨g1, g2⟩ := Bool.and_eq_true_iff.mp g1
      have e1 := k_ffc_h h hq g1
      rw [k_wq_ok g2, eX] at e1
      unfold k_wdp at hv
      obtain ⟨g3, hv⟩ := pm_cs hv
      simp only [Bool.and_eq_true, decide_eq_true_eq] at g3
      obtain ⟨g3, g4, g5⟩ := g3
      have ef := k_nv_ok (e := q.1.2) h.2.1
      rw [k_ev_const (σ := σ) g3] at ef
      rw [← ef] at e1
      generalize (k_nv S.1 q.1.2).1 = f at *
      have hf : ((f.toNat : Nat) : Int) = f := by omega
      cases c2 : decide (f < 6) with
      | true =>
        rw [c2, cond_true] at hv
        have c2 := of_decide_eq_true c2
        cases hv
        refine ⟨kSc_c, ?_⟩
        rw [e1, k_ev_c, ← hf, kFct_lo (by omega) (by omega), hf]
      | false =>
        rw [c2, cond_false] at hv
        have c2 := of_decide_eq_false c2
        split at hv
        · rename_i b hb
          cases hv
          obtain ⟨b1, b2⟩ := k_lk7_ok h (by omega) (by omega) hb
          rw [k_ev_c] at b2
          have b2 : k_ev σ b = kBt (f - 6).toNat (k_ev σ j) := b2
          refine ⟨kSc_mul b1, ?_⟩
          have hj : (((k_ev σ j).toNat : Nat) : Int) = k_ev σ j := by omega
          rw [e1, k_ev_mul, b2, ← hf, kFct_hi (by omega) (by omega) (by omega), hj, show ((f.toNat : Nat) : Int) - 6 = f - 6 by omega, show (f - 6).toNat = f.toNat - 6 by omega]
          omega
        · cases hv
    · obtain ⟨q, hq, hv⟩ := lfo_in hv
      obtain ⟨-, sq2, -⟩ := h.2.2.2.2.2.2.2 q hq
      unfold k_wd2 at hv
      obtain ⟨g1, hv⟩ := pm_cs hv
      obtain ⟨g1, g2⟩ := Bool.and_eq_true_iff.mp g1
      have e1 := k_fmc_h h hq g1
      rw [k_eqv_ok h.2.1 h.2.2.1 g2] at e1
      have su : kSc S.1.length (k_slq 4 j (kc 12) (kc 0)) := k_slq_sc sj kSc_c kSc_c
      have fin : kSc S.1.length v ∧ k_ev σ v = kLf4 10 (k_ev σ (k_slq 4 j (kc 12) (kc 0))) (k_ev σ q.1.2) := by
        split at hv
        · rename_i v' hv'
          cases hv
          exact k_lk7_ok h (by omega) (by omega) hv'
        · exact k_slf_ok h su sq2 hv
      refine ⟨fin.1, ?_⟩
      rw [e1, kWd_mst (by omega), fin.2, k_slq_ev, k_ev_c, k_ev_c, kLf4_sl (b := 4) (w := (k_ev σ j).toNat) (f := 12) (i := 0) (by omega) (by omega) (by omega) (by omega)]
/-- how many of a list -/
def k_cnq (S : kS) (f L : kE) : Option kE := match k_lkf S (k_ff7 11 f) L with
  | some v => some v
  | none => cond (k_wq (k_nv S.1 L) (kc 0)) (some (kc 0)) none
def k_cnf (S : kS) (f L : kE) : Option kE := cond (k_wq (k_nv S.1 L) (kc 0)) (some (kc 0)) (match k_spl S L 16 with
  | none => none
  | some r => cond (k_geS S (k_sub r.2 (kc 1)) && (k_geS S (k_sub (kc 12) r.2) && (decide (0 ≤ k_lo S.1 r.1) && decide (k_hi S.1 r.1 < kPw 52)))) (match k_cnq S f r.1 with
    | none => none
    | some a => (match k_lkf S (k_ff7 4 (k_sub r.2 (kc 1))) f with
      | none => none
      | some b => some (k_add a b))) none)
theorem k_cnq_ok (h : kRS N σ S M) {f L v : kE} (hv : k_cnq S f L = some v) : kSc S.1.length v ∧ k_ev σ v = kCnt (k_ev σ f) (k_ev σ L) := by
  unfold k_cnq at hv
  split at hv
  · rename_i v' hv'
    cases hv
    exact k_lk7_ok h (by omega) (by omega) hv'
  · obtain ⟨g, hv⟩ := pm_cs hv
    cases hv
    have e := k_nv_ok (e := L) h.2.1
    rw [k_wq_ok g, k_ev_c] at e
    exact ⟨kSc_c, by rw [k_ev_c, ← e, kCnt_0]⟩
theorem k_cnf_ok (h : kRS N σ S M) {f L v : kE} (sL : kSc S.1.length L) (hv : k_cnf S f L = some v) : kSc S.1.length v ∧ k_ev σ v = kCnt (k_ev σ f) (k_ev σ L) := by
  unfold k_cnf at hv
  cases c1 : k_wq (k_nv S.1 L) (kc 0) with
  | true =>
    rw [c1, cond_true] at hv
    cases hv
    have e := k_nv_ok (e := L) h.2.1
    rw [k_wq_ok c1, k_ev_c] at e
    exact ⟨kSc_c, by rw [k_ev_c, ← e, kCnt_0]⟩
  | false =>
    rw [c1, cond_false] at hv
    split at hv
    · cases hv
    · rename_i r hr
      obtain ⟨g, hv⟩ := pm_cs hv
      simp only [Bool.and_eq_true, decide_eq_true_eq] at g
      obtain ⟨g1, g2, g3, g4⟩ := g
      have g1 := k_ge_ok h.2.1 h.2.2.1 g1
      have g2 := k_ge_ok h.2.1 h.2.2.1 g2
      rw [k_ev_sub, k_ev_c] at g1 g2
      obtain ⟨r1, r2, r3, r4, r5⟩ := k_spl_ok h sL hr
      split at hv
      · cases hv
      · rename_i a ha
        split at hv
        · cases hv
        · rename_i b hb
          cases hv
          obtain ⟨a1, a2⟩ := k_cnq_ok h ha
          obtain ⟨b1, b2⟩ := k_lk7_ok h (by omega) (by omega) hb
          rw [k_ev_sub, k_ev_c] at b2
          have b2 : k_ev σ b = kBt (k_ev σ r.2 - 1).toNat (k_ev σ f) := b2
          have l1 := k_lo_le h.2.1 r.1
          have l2 := k_hi_ge h.2.1 r.1
          have hpw : kPw 52 = (16 : Int) ^ 13 := rfl
          refine ⟨kSc_add a1 b1, ?_⟩
          rw [k_ev_add, a2, b2, r1, show 16 * k_ev σ r.1 + k_ev σ r.2 = 16 * k_ev σ r.1 + (k_ev σ r.2 - 1 + 1) by omega, kCnt_st (by omega) (by omega) (by omega) (by rw [← hpw]; omega)]
/-- a bit of a set, as far as it is known -/
def k_bta (o : Bool) (a b : Option kE) : Option kE := match a with
  | none => (match b with
    | none => none
    | some y => cond (k_wq y (kc (cond o 1 0))) (some y) none)
  | some x => cond (k_wq x (kc (cond o 1 0))) (some x) (match b with
    | none => none
    | some y => cond (k_wq x (kc (cond o 0 1))) (some y) (cond (k_wq y (kc (cond o 1 0))) (some y) (cond (k_wq y (kc (cond o 0 1))) (some x) none)))
def k_btm (S : kS) (f : kE) (q : kH) : Option kE := match k_spl S q.1.2 16 with
  | none => none
  | some r => (match (match k_lkf S (k_ff7 11 f) r.1 with
    | some v => some v
    | none => k_cnf S f r.1) with
    | none => none
    | some n => cond (k_geS S (k_sub n r.2)) (some (kc 1)) (cond (k_geS S (k_sub (k_sub r.2 (kc 1)) n)) (some (kc 0)) none))
def k_bte (S : kS) (f X : kE) (R : kE → Option kE) (q : kH) : Option kE := cond (k_wq q.2 X) (cond (k_wq q.1.1 k_ffc) (match k_lkf S (k_ff7 4 q.1.2) f with
  | some w => some (k_nv S.1 w)
  | none => none) (cond (k_wq q.1.1 k_fmc) (k_btm S f q) (cond (k_qm 590 q.1.1 || k_qm 718 q.1.1) (match k_fnn S q with
    | some z => cond ((Nat.beq z.1 4 || Nat.beq z.1 5) && (k_geS S z.2 && k_geS S q.1.2)) (k_bta (Nat.beq z.1 5) (R z.2) (R q.1.2)) none
    | none => none) none))) none
def k_btz (S : kS) (f X : kE) (R : kE → Option kE) : Option kE := cond (k_cst X) (cond (zeq X.1 (kPw 4096 - 1)) (some (kc 1)) (cond (zz X.1) (some (kc 0)) none)) (match k_lkf S (k_ff7 1 f) X with
  | some v => some (k_nv S.1 v)
  | none => (match lfo (k_bte S f X R) S.2.2.2 with
    | some v => some v
    | none => cond (lany (fun t => decide (t.2 < 0)) X.2 && k_bgR S X) (match R (k_sub (kc (kPw 4096 - 1)) X) with
      | some b => some (k_sub (kc 1) b)
      | none => none) none))
def k_btf (S : kS) (f : kE) : Nat → kE → Option kE
  | 0, _ => none
  | n + 1, X => k_btz S f (k_nv S.1 X) (k_btf S f n)
def kBtP (S : kS) (σ : Nat → Int) (f X v : kE) : Prop := kSc S.1.length v ∧ kBt (k_ev σ f).toNat (k_ev σ X) = k_ev σ v
theorem k_bta_ok {S : kS} {o : Bool} {a b : Option kE} {v f : kE} {x y : Int} (ha : ∀ e, a = some e → kSc S.1.length e ∧ kBt (k_ev σ f).toNat x = k_ev σ e) (hb : ∀ e, b = some e → kSc S.1.length e ∧ kBt (k_ev σ f).toNat y = k_ev σ e) (x0 : 0 ≤ x) (y0 : 0 ≤ y) (hv : k_bta o a b = some v) : kSc S.1.length v ∧ kBt (k_ev σ f).toNat (cond o (kOr x y) (kAnd x y)) = k_ev σ v := by
  have x1 := kBt_01 (k_ev σ f).toNat x
  have y1 := kBt_01 (k_ev σ f).toNat y
  have eq : kBt (k_ev σ f).toNat (cond o (kOr x y) (kAnd x y)) = cond o (kBt (k_ev σ f).toNat x + kBt (k_ev σ f).toNat y - kBt (k_ev σ f).toNat x * kBt (k_ev σ f).toNat y) (kBt (k_ev σ f).toNat x * kBt (k_ev σ f).toNat y) := by
    cases o with
    | true => exact kBt_or x0 y0 _
    | false => exact kBt_and x0 y0 _
  rw [eq]
  generalize kBt (k_ev σ f).toNat x = p at *
  generalize kBt (k_ev σ f).toNat y = r at *
  have nx : ∀ {e : kE} {z : Int}, k_wq e (kc z) = true → k_ev σ e = z := fun hh => by
    rw [k_wq_ok hh, k_ev_c]
  unfold k_bta at hv
  cases a with
  | none =>
    cases b with
    | none => cases hv
    | some e =>
      obtain ⟨g, hv⟩ := pm_cs (show cond (k_wq e (kc (cond o 1 0))) (some e) none = some v from hv)
      cases hv
      obtain ⟨s1, s2⟩ := hb _ rfl
      refine ⟨s1, ?_⟩
      have g := nx g
      rw [← s2] at g ⊢
      cases o with
      | true =>
        have g : r = 1 := g
        rw [g, cond_true, Int.mul_one]
        omega
      | false =>
        have g : r = 0 := g
        rw [g, cond_false, Int.mul_zero]
  | some e =>
    obtain ⟨s1, s2⟩ := ha e rfl
    dsimp only at hv
    cases c1 : k_wq e (kc (cond o 1 0)) with
    | true =>
      rw [c1, cond_true] at hv
      cases hv
      refine ⟨s1, ?_⟩
      have g := nx c1
      rw [← s2] at g ⊢
      cases o with
      | true =>
        have g : p = 1 := g
        rw [g, cond_true, Int.one_mul]
        omega
      | false =>
        have g : p = 0 := g
        rw [g, cond_false, Int.zero_mul]
    | false =>
      rw [c1, cond_false] at hv
      cases b with
      | none => cases hv
      | some d =>
        obtain ⟨t1, t2⟩ := hb d rfl
        have hv : cond (k_wq e (kc (cond o 0 1))) (some d) (cond (k_wq d (kc (cond o 1 0))) (some d) (cond (k_wq d (kc (cond o 0 1))) (some e) none)) = some v := hv
        cases c2 : k_wq e (kc (cond o 0 1)) with
        | true =>
          rw [c2, cond_true] at hv
          cases hv
          refine ⟨t1, ?_⟩
          have g := nx c2
          rw [← s2] at g
          rw [← t2]
          cases o with
          | true =>
            have g : p = 0 := g
            rw [g, cond_true, Int.zero_mul]
            omega
          | false =>
            have g : p = 1 := g
            rw [g, cond_false, Int.one_mul]
        | false =>
          rw [c2, cond_false] at hv
          cases c3 : k_wq d (kc (cond o 1 0)) with
          | true =>
            rw [c3, cond_true] at hv
            cases hv
            refine ⟨t1, ?_⟩
            have g := nx c3
            rw [← t2] at g ⊢
            cases o with
            | true =>
              have g : r = 1 := g
              rw [g, cond_true, Int.mul_one]
              omega
            | false =>
              have g : r = 0 := g
              rw [g, cond_false, Int.mul_zero]
          | false =>
            rw [c3, cond_false] at hv
            obtain ⟨c4, hv⟩ := pm_cs hv
            cases hv
            refine ⟨s1, ?_⟩
            have g := nx c4
            rw [← t2] at g
            rw [← s2]
            cases o with
            | true =>
              have g : r = 0 := g
              rw [g, cond_true, Int.mul_zero]
              omega
            | false =>
              have g : r = 1 := g
              rw [g, cond_false, Int.mul_one]
theorem k_btz_ok (h : kRS N σ S M) {f X v : kE} {R : kE → Option kE} (sX : kSc S.1.length X) (f0 : 0 ≤ k_ev σ f) (f1 : k_ev σ f < 4096) (hR : ∀ Y w, kSc S.1.length Y → R Y = some w → kBtP S σ f Y w) (hv : k_btz S f X R = some v) : kBtP S σ f X v := by
  have hf : (k_ev σ f).toNat < kBgN := by
    unfold kBgN
    omega
  unfold k_btz at hv
  cases c1 : k_cst X with
  | true =>
    rw [c1, cond_true] at hv
    have eX := k_ev_const (σ := σ) c1
    cases c2 : zeq X.1 (kPw 4096 - 1) with
    | true =>
      rw [c2, cond_true] at hv
      cases hv
      exact ⟨kSc_c, by rw [eX, zeq_ok c2, kPw_bg, kBt_all hf, k_ev_c]⟩
    | false =>
      rw [c2, cond_false] at hv
      obtain ⟨c3, hv⟩ := pm_cs hv
      cases hv
      rw [zz_eq] at c3
      exact ⟨kSc_c, by rw [eX, of_decide_eq_true c3, kBt_zero, k_ev_c]⟩
  | false =>
    rw [c1, cond_false] at hv
    split at hv
    · rename_i w hw
      cases hv
      obtain ⟨a1, a2⟩ := k_lk7_ok h (by omega) (by omega) hw
      exact ⟨k_nv_sc a1, by rw [k_nv_ok h.2.1, a2]; rfl⟩
    · split at hv
      · rename_i w hw
        cases hv
        obtain ⟨q, hq, hv⟩ := lfo_in hw
        obtain ⟨sq1, sq2, sq3⟩ := h.2.2.2.2.2.2.2 q hq
        unfold k_bte at hv
        obtain ⟨g, hv⟩ := pm_cs hv
        have eX := k_wq_ok g
        cases c2 : k_wq q.1.1 k_ffc with
        | true =>
          rw [c2, cond_true] at hv
          have e := k_ffc_h h hq c2
          split at hv
          · rename_i b hb
            cases hv
            obtain ⟨b1, b2⟩ := k_lk7_ok h (by omega) (by omega) hb
            have b2 : k_ev σ b = kBt (k_ev σ q.1.2).toNat (k_ev σ f) := b2
            refine ⟨k_nv_sc b1, ?_⟩
            have k := kFct_bit (f := k_ev σ q.1.2) hf
            rw [Int.toNat_of_nonneg f0] at k
            rw [← eX, e, k, k_nv_ok h.2.1, b2]
          · cases hv
        | false =>
          rw [c2, cond_false] at hv
          cases c3 : k_wq q.1.1 k_fmc with
          | true =>
            rw [c3, cond_true] at hv
            have e := k_fmc_h h hq c3
            unfold k_btm at hv
            split at hv
            · cases hv
            · rename_i r hr
              obtain ⟨r1, r2, r3, r4, r5⟩ := k_spl_ok h sq2 hr
              have k := kMst_bit (Q := k_ev σ q.1.2) hf
              rw [Int.toNat_of_nonneg f0, show k_ev σ q.1.2 % 16 = k_ev σ r.2 by omega, show k_ev σ q.1.2 / 16 = k_ev σ r.1 by omega] at k
              split at hv
              · cases hv
              · rename_i n hn
                have en : kSc S.1.length n ∧ k_ev σ n = kCnt (k_ev σ f) (k_ev σ r.1) := by
                  split at hn
                  · rename_i n' hn'
                    cases hn
                    exact k_lk7_ok h (by omega) (by omega) hn'
                  · exact k_cnf_ok h r4 hn
                rw [← en.2] at k
                unfold kBtP
                rw [← eX, e, k]
                cases c4 : k_geS S (k_sub n r.2) with
                | true =>
                  rw [c4, cond_true] at hv
                  cases hv
                  have c4 := k_ge_ok h.2.1 h.2.2.1 c4
                  rw [k_ev_sub] at c4
                  exact ⟨kSc_c, by rw [decide_eq_true (by omega), cond_true, k_ev_c]⟩
                | false =>
                  rw [c4, cond_false] at hv
                  obtain ⟨c5, hv⟩ := pm_cs hv
                  cases hv
                  have c5 := k_ge_ok h.2.1 h.2.2.1 c5
                  rw [k_ev_sub, k_ev_sub, k_ev_c] at c5
                  exact ⟨kSc_c, by rw [decide_eq_false (by omega), cond_false, k_ev_c]⟩
          | false =>
            rw [c3, cond_false] at hv
            obtain ⟨-, hv⟩ := pm_cs hv
            split at hv
            · rename_i z hz
              obtain ⟨g, hv⟩ := pm_cs hv
              simp only [Bool.and_eq_true] at g
              obtain ⟨g1, g2, g3⟩ := g
              have g2 := k_ge_ok h.2.1 h.2.2.1 g2
              have g3 := k_ge_ok h.2.1 h.2.2.1 g3
              obtain ⟨z1, z2⟩ := k_fnn_ok h hq hz
              obtain ⟨v1, v2⟩ := k_bta_ok (S := S) (x := k_ev σ z.2) (y := k_ev σ q.1.2) (fun e he => hR _ _ z1 he) (fun e he => hR _ _ sq2 he) g2 g3 hv
              refine ⟨v1, ?_⟩
              rw [← v2, ← eX, ← z2]
              rcases Bool.or_eq_true_iff.mp g1 with g1 | g1
              · rw [pm_beq g1]
                rfl
              · rw [pm_beq g1]
                rfl
            · cases hv
      · obtain ⟨g, hv⟩ := pm_cs hv
        obtain ⟨-, g⟩ := Bool.and_eq_true_iff.mp g
        have g := k_bgR_ok h g
        split at hv
        · rename_i b hb
          cases hv
          obtain ⟨b1, b2⟩ := hR _ _ (kSc_sub kSc_c sX) hb
          rw [k_ev_sub, k_ev_c, kPw_bg, kBt_not g.1 g.2 hf] at b2
          refine ⟨kSc_sub kSc_c b1, ?_⟩
          rw [k_ev_sub, k_ev_c]
          omega
        · cases hv
theorem k_btf_ok (h : kRS N σ S M) {f : kE} (f0 : 0 ≤ k_ev σ f) (f1 : k_ev σ f < 4096) : ∀ (n : Nat) (X v : kE), kSc S.1.length X → k_btf S f n X = some v → kBtP S σ f X v
  | 0, _, _, _, hv => by cases hv
  | n + 1, X, v, sX, hv => by
    have := k_btz_ok h (k_nv_sc sX) f0 f1 (fun Y w hY hw => k_btf_ok h f0 f1 n Y w hY hw) hv
    unfold kBtP at this ⊢
    rw [k_nv_ok h.2.1] at this
    exact this
def k_bit6 (S : kS) (f X : kE) : Option kE := cond (k_fiS S 0 4095 f) (k_btf S f 6 X) none
theorem k_bit6_ok (h : kRS N σ S M) {f X v : kE} (sX : kSc S.1.length X) (hv : k_bit6 S f X = some v) : kBtP S σ f X v := by
  unfold k_bit6 at hv
  obtain ⟨g, hv⟩ := pm_cs hv
  have g := k_fit_ok h.2.1 h.2.2.1 g
  exact k_btf_ok h g.1 (by omega) 6 X v sX hv
end KFN
end
