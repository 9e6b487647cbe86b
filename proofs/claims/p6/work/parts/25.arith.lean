noncomputable section
/-! the steps of the numbers, symbolic beside pure -/
def kTo (E : pM) (N : kN) (mods : List kMd) (D : kDD) (n : Nat) (σ : Nat → Int) (M : pM) (L : List kR) (o : Option pS) : Prop := ∃ z, o = some z ∧ kNx E N mods D n σ M L z
def k_bi (g : kE → kE → List kV → Option (List kR)) (kt : List kV) : Option (List kR) := match kt with
  | (0, y) :: (0, x) :: t => g x y t
  | _ => none
def k_un (g : kE → List kV → Option (List kR)) (kt : List kV) : Option (List kR) := match kt with
  | (0, x) :: t => g x t
  | _ => none
section KAR
variable {E : pM} {N : kN} {mods : List kMd} {D : kDD} {σ : Nat → Int} {M : pM} {S : kS} {kl : kLs} {kt : List kV} {ls : pL} {st : List Value} {pc : Nat} {L : List kR}
theorem k_bi_ok {g : kE → kE → List kV → Option (List kR)} {n : Nat} (ht : kRT E n σ kt st) (h : k_bi g kt = some L) : ∃ (ex ey : kE) (t : List kV) (x y : Int32) (r : List Value), st = .int y :: .int x :: r ∧ kSc n ex ∧ kSc n ey ∧ x.toInt = k_ev σ ex ∧ y.toInt = k_ev σ ey ∧ kRT E n σ t r ∧ g ex ey t = some L := by
  unfold k_bi at h
  split at h
  · rename_i ey ex t
    obtain ⟨y, r1, rfl, h1, h2, h3⟩ := ht.int
    obtain ⟨x, r, rfl, h4, h5, h6⟩ := h3.int
    exact ⟨ex, ey, t, x, y, r, rfl, h4, h1, h5, h2, h6, h⟩
  · cases h
theorem k_un_ok {g : kE → List kV → Option (List kR)} {n : Nat} (ht : kRT E n σ kt st) (h : k_un g kt = some L) : ∃ (ex : kE) (t : List kV) (x : Int32) (r : List Value), st = .int x :: r ∧ kSc n ex ∧ x.toInt = k_ev σ ex ∧ kRT E n σ t r ∧ g ex t = some L := by
  unfold k_un at h
  split at h
  · rename_i ex t
    obtain ⟨x, r, rfl, h4, h5, h6⟩ := ht.int
    exact ⟨ex, t, x, r, rfl, h4, h5, h6, h⟩
  · cases h
def k_iadd (S : kS) (pc : Nat) (kl : kLs) (kt : List kV) : Option (List kR) := k_bi (fun x y t => k_lin S (k_add x y) (pc + 1) kl t) kt
def k_isub (S : kS) (pc : Nat) (kl : kLs) (kt : List kV) : Option (List kR) := k_bi (fun x y t => k_lin S (k_sub x y) (pc + 1) kl t) kt
def k_ineg (S : kS) (pc : Nat) (kl : kLs) (kt : List kV) : Option (List kR) := k_un (fun x t => k_lin S (k_mul (-1) x) (pc + 1) kl t) kt
def k_imul (S : kS) (pc : Nat) (kl : kLs) (kt : List kV) : Option (List kR) := k_bi (fun x y t => cond (k_cst x) (k_lin S (k_mul x.1 y) (pc + 1) kl t) (cond (k_cst y) (k_lin S (k_mul y.1 x) (pc + 1) kl t)
  (cond (decide (0 ≤ k_lo S.1 x) && decide (0 ≤ k_lo S.1 y) && decide (k_hi S.1 x * k_hi S.1 y ≤ kI1)) (k_fr S 0 (k_hi S.1 x * k_hi S.1 y) (pc + 1) kl t) (k_fr S kI0 kI1 (pc + 1) kl t)))) kt
/-- any result -/
def k_any2 (S : kS) (pc : Nat) (kl : kLs) (kt : List kV) : Option (List kR) := k_bi (fun _ _ t => k_fr S kI0 kI1 (pc + 1) kl t) kt
theorem k_iadd_ok (h : kRS N σ S M) (hM : kMem D M) (hl : kRL E S.1.length σ kl ls) (ht : kRT E S.1.length σ kt st) (hL : k_iadd S pc kl kt = some L) : kTo E N mods D S.1.length σ M L (pm_i2 (fun x y => x + y) pc ls st M) := by
  obtain ⟨ex, ey, t, x, y, r, rfl, s1, s2, e1, e2, hr, hg⟩ := k_bi_ok ht hL
  exact ⟨_, rfl, kNx.lin h hM hl hr (kSc_add s1 s2) (fun a b => by rw [k_ev_add, ← e1, ← e2] at a b ⊢; exact kI_add a b) hg⟩
theorem k_isub_ok (h : kRS N σ S M) (hM : kMem D M) (hl : kRL E S.1.length σ kl ls) (ht : kRT E S.1.length σ kt st) (hL : k_isub S pc kl kt = some L) : kTo E N mods D S.1.length σ M L (pm_i2 (fun x y => x - y) pc ls st M) := by
  obtain ⟨ex, ey, t, x, y, r, rfl, s1, s2, e1, e2, hr, hg⟩ := k_bi_ok ht hL
  exact ⟨_, rfl, kNx.lin h hM hl hr (kSc_sub s1 s2) (fun a b => by rw [k_ev_sub, ← e1, ← e2] at a b ⊢; exact kI_sub a b) hg⟩
theorem k_ineg_ok (h : kRS N σ S M) (hM : kMem D M) (hl : kRL E S.1.length σ kl ls) (ht : kRT E S.1.length σ kt st) (hL : k_ineg S pc kl kt = some L) : kTo E N mods D S.1.length σ M L (pm_i1 (fun x => -x) pc ls st M) := by
  obtain ⟨ex, t, x, r, rfl, s1, e1, hr, hg⟩ := k_un_ok ht hL
  exact ⟨_, rfl, kNx.lin h hM hl hr (kSc_mul s1) (fun a b => by rw [k_ev_mul, ← e1, Int.neg_one_mul] at a b ⊢; exact kI_neg a b) hg⟩
theorem k_any2_ok {f : Int32 → Int32 → Int32} (h : kRS N σ S M) (hM : kMem D M) (hl : kRL E S.1.length σ kl ls) (ht : kRT E S.1.length σ kt st) (hL : k_any2 S pc kl kt = some L) : kTo E N mods D S.1.length σ M L (pm_i2 f pc ls st M) := by
  obtain ⟨ex, ey, t, x, y, r, rfl, s1, s2, e1, e2, hr, hg⟩ := k_bi_ok ht hL
  exact ⟨_, rfl, kNx.fr h hM hl hr (kI_rng _).1 (kI_rng _).2 hg⟩
theorem k_imul_ok (h : kRS N σ S M) (hM : kMem D M) (hl : kRL E S.1.length σ kl ls) (ht : kRT E S.1.length σ kt st) (hL : k_imul S pc kl kt = some L) : kTo E N mods D S.1.length σ M L (pm_i2 (fun x y => x * y) pc ls st M) := by
  obtain ⟨ex, ey, t, x, y, r, rfl, s1, s2, e1, e2, hr, hg⟩ := k_bi_ok ht hL
  refine ⟨_, rfl, ?_⟩
  cases c1 : k_cst ex with
  | true =>
    rw [c1, cond_true] at hg
    have := k_ev_const (σ := σ) c1
    exact kNx.lin h hM hl hr (kSc_mul s2) (fun a b => by rw [k_ev_mul, ← this, ← e1, ← e2] at a b ⊢; exact kI_mul a b) hg
  | false =>
    rw [c1, cond_false] at hg
    cases c2 : k_cst ey with
    | true =>
      rw [c2, cond_true] at hg
      have := k_ev_const (σ := σ) c2
      exact kNx.lin h hM hl hr (kSc_mul s1) (fun a b => by rw [k_ev_mul, ← this, ← e1, ← e2, Int.mul_comm] at a b ⊢; exact kI_mul a b) hg
    | false =>
      rw [c2, cond_false] at hg
      cases c3 : (decide (0 ≤ k_lo S.1 ex) && decide (0 ≤ k_lo S.1 ey) && decide (k_hi S.1 ex * k_hi S.1 ey ≤ kI1)) with
      | true =>
        rw [c3, cond_true] at hg
        simp only [Bool.and_eq_true, decide_eq_true_eq] at c3
        have a1 := k_lo_le h.2.1 ex
        have a2 := k_hi_ge h.2.1 ex
        have a3 := k_lo_le h.2.1 ey
        have a4 := k_hi_ge h.2.1 ey
        rw [← e1] at a1 a2
        rw [← e2] at a3 a4
        have m1 : 0 ≤ x.toInt * y.toInt := Int.mul_nonneg (by omega) (by omega)
        have m2 : x.toInt * y.toInt ≤ k_hi S.1 ex * k_hi S.1 ey := Int.mul_le_mul a2 a4 (by omega) (by omega)
        have m3 := kI_mul (x := x) (y := y) (by unfold kI0; omega) (by omega)
        exact kNx.fr h hM hl hr (by rw [m3]; exact m1) (by rw [m3]; exact m2) hg
      | false =>
        rw [c3, cond_false] at hg
        exact kNx.fr h hM hl hr (kI_rng _).1 (kI_rng _).2 hg
/-- the quotient of something not negative by a number -/
def k_q0 (b : kB) (x : kE) : Int := cond (decide (0 ≤ k_lo b x)) (k_lo b x) 0
theorem k_q0_le {b : kB} {x : kE} (hb : kBd σ b) (hx : 0 ≤ k_ev σ x) : k_q0 b x ≤ k_ev σ x := by
  unfold k_q0
  cases h : decide (0 ≤ k_lo b x) with
  | true => exact k_lo_le hb x
  | false => exact hx
def k_qt (S : kS) (x : kE) (c : Int) : Option (kE × kS) := cond (k_cst x) (some (kc (x.1 / c), S)) (match k_spl S x c with
  | some r => some (r.1, S)
  | none => match k_asm (k_new S (k_q0 S.1 x / c) (k_hi S.1 x / c)).2 (k_sub x (k_mul c (k_new S (k_q0 S.1 x / c) (k_hi S.1 x / c)).1)) with
    | some T => (match k_asm T (k_sub (k_add (k_mul c (k_new S (k_q0 S.1 x / c) (k_hi S.1 x / c)).1) (kc (c - 1))) x) with
      | some T2 => some ((k_new S (k_q0 S.1 x / c) (k_hi S.1 x / c)).1, T2)
      | none => none)
    | none => none)
theorem k_qt_ok {x : kE} {c : Int} {q : kE} {T : kS} (h : kRS N σ S M) (hs : kSc S.1.length x) (hx0 : 0 ≤ k_ev σ x) (hc : 0 < c) (hr : k_qt S x c = some (q, T)) : ∃ τ, kAgr S.1.length σ τ ∧ S.1.length ≤ T.1.length ∧ kRS N τ T M ∧ k_ev τ q = k_ev σ x / c ∧ kSc T.1.length q := by
  unfold k_qt at hr
  cases c1 : k_cst x with
  | true =>
    rw [c1, cond_true] at hr
    cases hr
    exact ⟨σ, fun _ _ => rfl, Nat.le_refl _, h, by rw [k_ev_c, k_ev_const c1], kSc_c⟩
  | false =>
    rw [c1, cond_false] at hr
    split at hr
    · rename_i r hr1
      cases hr
      obtain ⟨p1, p2, p3, p4, p5⟩ := k_spl_ok h hs hr1
      refine ⟨σ, fun _ _ => rfl, Nat.le_refl _, h, ?_, p4⟩
      rw [p1, Int.add_comm, Int.add_mul_ediv_left _ _ (by omega), Int.ediv_eq_zero_of_lt p2 p3]
      omega
    have a1 := k_q0_le h.2.1 hx0
    have a2 := k_hi_ge h.2.1 x
    obtain ⟨τ, t1, t2, t3, t4, t5⟩ := k_new_ok h (x := k_ev σ x / c) (lo := k_q0 S.1 x / c) (hi := k_hi S.1 x / c) (Int.ediv_le_ediv hc a1) (Int.ediv_le_ediv hc a2)
    have hx : k_ev τ x = k_ev σ x := k_ev_agree t1 hs
    have hm := Int.mul_ediv_add_emod (k_ev σ x) c
    have hm1 := Int.emod_nonneg (k_ev σ x) (show c ≠ 0 by omega)
    have hm2 := Int.emod_lt_of_pos (k_ev σ x) hc
    obtain ⟨T1, u1, u2, u3⟩ := k_asm_ok t3 (e := k_sub x (k_mul c (k_new S (k_q0 S.1 x / c) (k_hi S.1 x / c)).1)) (kSc_sub (hs.mono t2) (kSc_mul t5)) (by rw [k_ev_sub, k_ev_mul, t4, hx]; omega)
    rw [u1] at hr
    simp only at hr
    obtain ⟨T2, v1, v2, v3⟩ := k_asm_ok u3 (e := k_sub (k_add (k_mul c (k_new S (k_q0 S.1 x / c) (k_hi S.1 x / c)).1) (kc (c - 1))) x) (by rw [u2]; exact kSc_sub (kSc_add (kSc_mul t5) kSc_c) (hs.mono t2)) (by rw [k_ev_sub, k_ev_add, k_ev_mul, k_ev_c, t4, hx]; omega)
    rw [v1] at hr
    cases hr
    exact ⟨τ, t1, by rw [v2, u2]; exact t2, v3, t4, by rw [v2, u2]; exact t5⟩
def k_nz (S : kS) (y : kE) : Bool := (k_ge S.1 S.2.1 (k_sub y (kc 1)) || k_ge S.1 S.2.1 (k_sub (kc (-1)) y)) || S.2.2.1.any (fun e => decide (e = y) || decide (e = k_mul (-1) y))
theorem k_nz_ok {y : kE} (h : kRS N σ S M) (hz : k_nz S y = true) : k_ev σ y ≠ 0 := by
  unfold k_nz at hz
  simp only [Bool.or_eq_true] at hz
  rcases hz with (hz | hz) | hz
  · have := k_ge_ok h.2.1 h.2.2.1 hz
    rw [k_ev_sub, k_ev_c] at this
    omega
  · have := k_ge_ok h.2.1 h.2.2.1 hz
    rw [k_ev_sub, k_ev_c] at this
    omega
  · obtain ⟨e, he, hz⟩ := List.any_eq_true.mp hz
    have hne := h.2.2.2.1 e he
    simp only [Bool.or_eq_true, decide_eq_true_eq] at hz
    rcases hz with rfl | rfl
    · exact hne
    · rw [k_ev_mul] at hne
      omega
def k_n36 (S : kS) (x : kE) (c : Int) : Bool := decide (0 ≤ k_lo S.1 x) || (decide (c = 360) && k_ge S.1 S.2.1 x)
theorem k_n36_ok {x : kE} {c : Int} (h : kRS N σ S M) (hx : k_n36 S x c = true) : 0 ≤ k_ev σ x := by
  unfold k_n36 at hx
  simp only [Bool.or_eq_true, Bool.and_eq_true, decide_eq_true_eq] at hx
  rcases hx with hx | hx
  · exact Int.le_trans hx (k_lo_le h.2.1 x)
  · exact k_ge_ok h.2.1 h.2.2.1 hx.2
def k_idiv (S : kS) (pc : Nat) (kl : kLs) (kt : List kV) : Option (List kR) := k_bi (fun x y t => cond (k_cst y && decide (0 < y.1) && k_n36 S x y.1) (match k_qt S x y.1 with
    | some r => some [(r.2, pc + 1, kl, (0, r.1) :: t)]
    | none => none) (cond (k_nz S y) (k_fr S kI0 kI1 (pc + 1) kl t) none)) kt
/-- the rest of c * X + R, R from 0 to c - 1, as Java has it -/
def k_r1 (o : Option kS) (e : kE) (pc : Nat) (kl : kLs) (t : List kV) : List kR := match o with
  | some T => [(T, pc, kl, (0, e) :: t)]
  | none => []
def k_rmw (o : Option kS) (X R : kE) (c : Int) (pc : Nat) (kl : kLs) (t : List kV) : List kR := match o with
  | none => []
  | some T => k_r1 (k_asm T X) R pc kl t ++ (match k_asm T (k_sub (kc (-1)) X) with
    | none => []
    | some U => k_r1 (k_cn U .eq R) R pc kl t ++ k_r1 (k_asm U (k_sub R (kc 1))) (k_sub R (kc c)) pc kl t)
def k_rmf (S : kS) (X R : kE) (c : Int) (pc : Nat) (kl : kLs) (t : List kV) : List kR := k_rmw (k_asm S R) X R c pc kl t ++ k_rmw (k_asm S (k_sub (kc (-1)) R)) (k_sub X (kc 1)) (k_add R (kc c)) c pc kl t
/-- the rest by 360 of something not negative: by its share, or what it is called already, or anew -/
def k_rm36 (S : kS) (x : kE) (pc : Nat) (kl : kLs) (t : List kV) : List kR := match k_spl S x 360 with
  | some r => [(S, pc, kl, (0, r.2) :: t)]
  | none => match k_find (kc (-5772)) x S.2.2.2 with
    | some v => [(S, pc, kl, (0, v) :: t)]
    | none => [(k_put (k_new S 0 359).2 ((kc (-5772), x), (k_new S 0 359).1), pc, kl, (0, (k_new S 0 359).1) :: t)]
def k_irem (S : kS) (pc : Nat) (kl : kLs) (kt : List kV) : Option (List kR) := k_bi (fun x y t => cond (k_cst y && decide (0 < y.1)) (cond (decide (0 ≤ k_lo S.1 x)) (cond (decide (y.1 = 360) && !(k_cst x)) (some (k_rm36 S x (pc + 1) kl t)) (match k_qt S x y.1 with
    | some r => some [(r.2, pc + 1, kl, (0, k_sub x (k_mul y.1 r.1)) :: t)]
    | none => none)) (cond (decide (y.1 = 360) && (decide (-y.1 < k_lo S.1 (k_s1r y.1 x)) && decide (k_hi S.1 (k_s1r y.1 x) < y.1))) (some (k_rmf S (k_s1q y.1 x) (k_s1r y.1 x) y.1 (pc + 1) kl t)) (k_fr S (1 - y.1) (y.1 - 1) (pc + 1) kl t))) (cond (k_nz S y) (k_fr S kI0 kI1 (pc + 1) kl t) none)) kt
theorem kI_nz {y : Int32} (h : y.toInt ≠ 0) : decide (y = 0) = false := by
  rw [decide_eq_false_iff_not]
  intro e
  rw [e] at h
  exact h Int32.toInt_zero
theorem kI_divp {x y : Int32} (hx : 0 ≤ x.toInt) (hy : 0 < y.toInt) : (x / y).toInt = x.toInt / y.toInt := by
  have e : x.toInt.tdiv y.toInt = x.toInt / y.toInt := Int.tdiv_eq_ediv_of_nonneg hx
  have h1 := Int.ediv_nonneg hx (Int.le_of_lt hy)
  have h2 := Int.ediv_le_self y.toInt hx
  have h3 := kI_rng x
  rw [kI_div (by rw [e]; unfold kI0; omega) (by rw [e]; omega), e]
theorem kI_remp {x y : Int32} (hx : 0 ≤ x.toInt) (hy : 0 < y.toInt) : (x - x / y * y).toInt = x.toInt - y.toInt * (x.toInt / y.toInt) := by
  have h0 := kI_divp hx hy
  have h1 := Int.mul_ediv_add_emod x.toInt y.toInt
  have h2 := Int.emod_nonneg x.toInt (show y.toInt ≠ 0 by omega)
  have h3 := Int.emod_lt_of_pos x.toInt hy
  have h4 := kI_rng x
  have h6 : 0 ≤ y.toInt * (x.toInt / y.toInt) := Int.mul_nonneg (Int.le_of_lt hy) (Int.ediv_nonneg hx (Int.le_of_lt hy))
  have e : (x / y).toInt * y.toInt = y.toInt * (x.toInt / y.toInt) := by rw [h0, Int.mul_comm]
  have h5 := kI_mul (x := x / y) (y := y) (by rw [e]; unfold kI0; omega) (by rw [e]; omega)
  rw [e] at h5
  rw [kI_sub (by rw [h5]; unfold kI0; omega) (by rw [h5]; unfold kI1 at h4 ⊢; omega), h5]
theorem kI_remn {x y : Int32} (hy : 0 < y.toInt) : 1 - y.toInt ≤ (x - x / y * y).toInt ∧ (x - x / y * y).toInt ≤ y.toInt - 1 := by
  by_cases hx : 0 ≤ x.toInt
  · rw [kI_remp hx hy]
    have h1 := Int.mul_ediv_add_emod x.toInt y.toInt
    have h2 := Int.emod_nonneg x.toInt (show y.toInt ≠ 0 by omega)
    have h3 := Int.emod_lt_of_pos x.toInt hy
    omega
  · have h4 := kI_rng x
    have e0 : x.toInt.tdiv y.toInt = -((-x.toInt) / y.toInt) := by
      have : x.toInt.tdiv y.toInt = -((-x.toInt).tdiv y.toInt) := by rw [Int.neg_tdiv, Int.neg_neg]
      rw [this, Int.tdiv_eq_ediv_of_nonneg (by omega)]
    have h1 := Int.mul_ediv_add_emod (-x.toInt) y.toInt
    have h2 := Int.emod_nonneg (-x.toInt) (show y.toInt ≠ 0 by omega)
    have h3 := Int.emod_lt_of_pos (-x.toInt) hy
    have h5 : 0 ≤ (-x.toInt) / y.toInt := Int.ediv_nonneg (by omega) (by omega)
    have h6 : (-x.toInt) / y.toInt ≤ -x.toInt := Int.ediv_le_self _ (by omega)
    have hd := kI_div (x := x) (y := y) (by rw [e0]; unfold kI0 at h4 ⊢; omega) (by rw [e0]; unfold kI1; omega)
    rw [e0] at hd
    have h7 : 0 ≤ y.toInt * ((-x.toInt) / y.toInt) := Int.mul_nonneg (Int.le_of_lt hy) h5
    have e : (x / y).toInt * y.toInt = -(y.toInt * ((-x.toInt) / y.toInt)) := by rw [hd, Int.neg_mul, Int.mul_comm]
    have h8 := kI_mul (x := x / y) (y := y) (by rw [e]; unfold kI0 at h4 ⊢; omega) (by rw [e]; unfold kI1; omega)
    rw [e] at h8
    rw [kI_sub (by rw [h8]; unfold kI0 at h4 ⊢; omega) (by rw [h8]; unfold kI1; omega), h8]
    omega
theorem kI_remm {x y : Int32} (hx : x.toInt < 0) (hy : 0 < y.toInt) : (x - x / y * y).toInt = x.toInt + y.toInt * ((-x.toInt) / y.toInt) := by
  have h4 := kI_rng x
  have e0 : x.toInt.tdiv y.toInt = -((-x.toInt) / y.toInt) := by
    have : x.toInt.tdiv y.toInt = -((-x.toInt).tdiv y.toInt) := by rw [Int.neg_tdiv, Int.neg_neg]
    rw [this, Int.tdiv_eq_ediv_of_nonneg (by omega)]
  have h1 := Int.mul_ediv_add_emod (-x.toInt) y.toInt
  have h2 := Int.emod_nonneg (-x.toInt) (show y.toInt ≠ 0 by omega)
  have h3 := Int.emod_lt_of_pos (-x.toInt) hy
  have h5 : 0 ≤ (-x.toInt) / y.toInt := Int.ediv_nonneg (by omega) (by omega)
  have h6 : (-x.toInt) / y.toInt ≤ -x.toInt := Int.ediv_le_self _ (by omega)
  have hd := kI_div (x := x) (y := y) (by rw [e0]; unfold kI0 at h4 ⊢; omega) (by rw [e0]; unfold kI1; omega)
  rw [e0] at hd
  have h7 : 0 ≤ y.toInt * ((-x.toInt) / y.toInt) := Int.mul_nonneg (Int.le_of_lt hy) h5
  have e : (x / y).toInt * y.toInt = -(y.toInt * ((-x.toInt) / y.toInt)) := by rw [hd, Int.neg_mul, Int.mul_comm]
  have h8 := kI_mul (x := x / y) (y := y) (by rw [e]; unfold kI0 at h4 ⊢; omega) (by rw [e]; unfold kI1; omega)
  rw [e] at h8
  rw [kI_sub (by rw [h8]; unfold kI0 at h4 ⊢; omega) (by rw [h8]; unfold kI1; omega), h8]
  omega
/-- the rest, by a share: x = y * X + R -/
theorem kI_remw {x y : Int32} {X R : Int} (hy : 0 < y.toInt) (e : x.toInt = y.toInt * X + R) (h0 : 0 ≤ R) (h1 : R < y.toInt) : (0 ≤ X → (x - x / y * y).toInt = R) ∧ (X < 0 → (R = 0 → (x - x / y * y).toInt = 0) ∧ (R ≠ 0 → (x - x / y * y).toInt = R - y.toInt)) := by
  refine ⟨fun hX => ?_, fun hX => ?_⟩
  · have hp : 0 ≤ y.toInt * X := Int.mul_nonneg (Int.le_of_lt hy) hX
    rw [kI_remp (by omega) hy]
    have : x.toInt / y.toInt = X := by
      rw [e, Int.add_comm, Int.add_mul_ediv_left _ _ (by omega), Int.ediv_eq_zero_of_lt h0 h1]
      omega
    rw [this]
    omega
  · have hp : y.toInt * X ≤ y.toInt * (-1) := Int.mul_le_mul_of_nonneg_left (by omega) (Int.le_of_lt hy)
    have hn : x.toInt < 0 := by omega
    rw [kI_remm hn hy]
    refine ⟨fun hR => ?_, fun hR => ?_⟩
    · have : (-x.toInt) / y.toInt = -X := by
        rw [show -x.toInt = 0 + y.toInt * (-X) by rw [Int.mul_neg]; omega, Int.add_mul_ediv_left _ _ (by omega)]
        simp
      rw [this, Int.mul_neg]
      omega
    · have : (-x.toInt) / y.toInt = -X - 1 := by
        rw [show -x.toInt = (y.toInt - R) + y.toInt * (-X - 1) by rw [Int.mul_sub, Int.mul_neg]; omega, Int.add_mul_ediv_left _ _ (by omega), Int.ediv_eq_zero_of_lt (by omega) (by omega)]
        omega
      rw [this, Int.mul_sub, Int.mul_neg]
      omega
theorem kNx.r1 {T : kS} {e : kE} {w : Int32} (h : kRS N σ T M) (hlen : T.1.length = S.1.length) (hM : kMem D M) (hl : kRL E S.1.length σ kl ls) (ht : kRT E S.1.length σ kt st) (hs : kSc S.1.length e) (hw : w.toInt = k_ev σ e) : kNx E N mods D S.1.length σ M (k_r1 (some T) e pc kl kt) (pc, ls, .int w :: st, M) := by
  rw [← hlen] at hl ht hs ⊢
  exact kNx.one (kt := (0, e) :: kt) (st := .int w :: st) h hM hl ⟨⟨hs, w, rfl, hw⟩, ht⟩ rfl
theorem k_rmw_ok {T : kS} {X R : kE} {c : Int} {w : Int32} (h : kRS N σ T M) (hlen : T.1.length = S.1.length) (hM : kMem D M) (hl : kRL E S.1.length σ kl ls) (ht : kRT E S.1.length σ kt st) (hX : kSc S.1.length X) (hR : kSc S.1.length R) (h0 : 0 ≤ k_ev σ R) (w1 : 0 ≤ k_ev σ X → w.toInt = k_ev σ R) (w2 : k_ev σ X < 0 → (k_ev σ R = 0 → w.toInt = 0) ∧ (k_ev σ R ≠ 0 → w.toInt = k_ev σ R - c)) : kNx E N mods D S.1.length σ M (k_rmw (some T) X R c pc kl kt) (pc, ls, .int w :: st, M) := by
  by_cases hx : 0 ≤ k_ev σ X
  · obtain ⟨U, u1, u2, u3⟩ := k_asm_ok h (e := X) (by rw [hlen]; exact hX) hx
    refine kNx.mono (L := k_r1 (some U) R pc kl kt) (kNx.r1 u3 (u2.trans hlen) hM hl ht hR (w1 hx)) fun r hr => ?_
    unfold k_rmw
    dsimp only
    rw [u1]
    exact List.mem_append.mpr (Or.inl hr)
  · obtain ⟨U, u1, u2, u3⟩ := k_asm_ok h (e := k_sub (kc (-1)) X) (by rw [hlen]; exact kSc_sub kSc_c hX) (by rw [k_ev_sub, k_ev_c]; omega)
    obtain ⟨w3, w4⟩ := w2 (by omega)
    by_cases hz : k_ev σ R = 0
    · obtain ⟨V, v1, v2, v3⟩ := k_cn_ok u3 (c := .eq) (d := R) (by rw [u2, hlen]; exact hR) hz
      refine kNx.mono (L := k_r1 (some V) R pc kl kt) (kNx.r1 v3 (v2.trans (u2.trans hlen)) hM hl ht hR ((w3 hz).trans hz.symm)) fun r hr => ?_
      unfold k_rmw
      dsimp only
      rw [u1]
      refine List.mem_append.mpr (Or.inr ?_)
      dsimp only
      rw [v1]
      exact List.mem_append.mpr (Or.inl hr)
    · obtain ⟨V, v1, v2, v3⟩ := k_asm_ok u3 (e := k_sub R (kc 1)) (by rw [u2, hlen]; exact kSc_sub hR kSc_c) (by rw [k_ev_sub, k_ev_c]; omega)
      refine kNx.mono (L := k_r1 (some V) (k_sub R (kc c)) pc kl kt) (kNx.r1 v3 (v2.trans (u2.trans hlen)) hM hl ht (kSc_sub hR kSc_c) (by rw [k_ev_sub, k_ev_c]; exact w4 hz)) fun r hr => ?_
      unfold k_rmw
      dsimp only
      rw [u1]
      refine List.mem_append.mpr (Or.inr ?_)
      dsimp only
      rw [v1]
      exact List.mem_append.mpr (Or.inr hr)
theorem k_rm36_ok {x : kE} {w : Int32} (h : kRS N σ S M) (hM : kMem D M) (hl : kRL E S.1.length σ kl ls) (ht : kRT E S.1.length σ kt st) (hs : kSc S.1.length x) (hw : w.toInt = k_ev σ x % 360) : kNx E N mods D S.1.length σ M (k_rm36 S x pc kl kt) (pc, ls, .int w :: st, M) := by
  unfold k_rm36
  split
  · rename_i r hr
    obtain ⟨p1, p2, p3, p4, p5⟩ := k_spl_ok h hs hr
    exact kNx.one (kt := (0, r.2) :: kt) (st := .int w :: st) h hM hl ⟨⟨p5, w, rfl, by show w.toInt = k_ev σ r.2; omega⟩, ht⟩ rfl
  · split
    · rename_i v hv
      have hh := (h.2.2.2.2.1 _ (k_find_in hv)).2 (by rw [k_ev_c]; omega)
      rw [k_ev_c] at hh
      have hp : k_ev σ x % 360 = k_ev σ v := kPhi_to (i := 12) (p := 360) rfl (by omega) hh
      exact kNx.one (kt := (0, v) :: kt) (st := .int w :: st) h hM hl ⟨⟨k_find_sc h hv, w, rfl, hw.trans hp⟩, ht⟩ rfl
    · obtain ⟨τ, t1, t2, t3, t4, t5⟩ := k_new_ok h (x := k_ev σ x % 360) (lo := 0) (hi := 359) (by omega) (by omega)
      refine ⟨_, List.mem_singleton.mpr rfl, τ, t1, t2, kRS_put t3 ⟨kSc_c, hs.mono t2, t5⟩ ?_, rfl, hl.agr t1 t2, ⟨⟨t5, w, rfl, by show w.toInt = k_ev τ _; rw [t4]; exact hw⟩, ht.agr t1 t2⟩, kSame.rf, hM⟩
      show kHas N M (k_ev τ (kc (-5772))) (k_ev τ x) (k_ev τ (k_new S 0 359).1)
      rw [k_ev_c, k_ev_agree t1 hs, t4]
      exact ⟨fun h0 => by omega, fun _ => kPhi_of (i := 12) (p := 360) rfl (by omega) rfl⟩
theorem k_idiv_ok (h : kRS N σ S M) (hM : kMem D M) (hl : kRL E S.1.length σ kl ls) (ht : kRT E S.1.length σ kt st) (hL : k_idiv S pc kl kt = some L) : kTo E N mods D S.1.length σ M L (pm_idiv pc ls st M) := by
  obtain ⟨ex, ey, t, x, y, r, rfl, s1, s2, e1, e2, hr, hg⟩ := k_bi_ok ht hL
  have fin : y.toInt ≠ 0 → pm_idiv pc ls (.int y :: .int x :: r) M = some (pc + 1, ls, .int (x / y) :: r, M) := fun hy => by
    show cond (decide (y = 0)) none _ = _
    rw [kI_nz hy]
    rfl
  cases c1 : (k_cst ey && decide (0 < ey.1) && k_n36 S ex ey.1) with
  | true =>
    rw [c1, cond_true] at hg
    simp only [Bool.and_eq_true, decide_eq_true_eq] at c1
    have hy : y.toInt = ey.1 := e2.trans (k_ev_const c1.1.1)
    have a1 := k_n36_ok h c1.2
    split at hg
    · rename_i q hq
      cases hg
      obtain ⟨τ, t1, t2, t3, t4, t5⟩ := k_qt_ok h s1 a1 c1.1.2 hq
      refine ⟨_, fin (by omega), _, List.mem_singleton.mpr rfl, τ, t1, t2, t3, rfl, hl.agr t1 t2, ⟨⟨t5, _, rfl, ?_⟩, hr.agr t1 t2⟩, kSame.rf, hM⟩
      show (x / y).toInt = k_ev τ q.1
      rw [t4, ← e1, ← hy]
      exact kI_divp (by omega) (by omega)
    · cases hg
  | false =>
    rw [c1, cond_false] at hg
    obtain ⟨c2, hg⟩ := pm_cs hg
    have := k_nz_ok h c2
    exact ⟨_, fin (by omega), kNx.fr h hM hl hr (kI_rng _).1 (kI_rng _).2 hg⟩
theorem k_irem_ok (h : kRS N σ S M) (hM : kMem D M) (hl : kRL E S.1.length σ kl ls) (ht : kRT E S.1.length σ kt st) (hL : k_irem S pc kl kt = some L) : kTo E N mods D S.1.length σ M L (pm_irem pc ls st M) := by
  obtain ⟨ex, ey, t, x, y, r, rfl, s1, s2, e1, e2, hr, hg⟩ := k_bi_ok ht hL
  have fin : y.toInt ≠ 0 → pm_irem pc ls (.int y :: .int x :: r) M = some (pc + 1, ls, .int (x - x / y * y) :: r, M) := fun hy => by
    show cond (decide (y = 0)) none _ = _
    rw [kI_nz hy]
    rfl
  cases c1 : (k_cst ey && decide (0 < ey.1)) with
  | true =>
    rw [c1, cond_true] at hg
    simp only [Bool.and_eq_true, decide_eq_true_eq] at c1
    have hy : y.toInt = ey.1 := e2.trans (k_ev_const c1.1)
    have a1 := k_lo_le h.2.1 ex
    cases c2 : decide (0 ≤ k_lo S.1 ex) with
    | true =>
      rw [c2, cond_true] at hg
      have c2 := of_decide_eq_true c2
      cases c4 : (decide (ey.1 = 360) && !(k_cst ex)) with
      | true =>
        rw [c4, cond_true] at hg
        cases hg
        obtain ⟨c5, -⟩ := Bool.and_eq_true_iff.mp c4
        have c5 := of_decide_eq_true c5
        refine ⟨_, fin (by omega), k_rm36_ok h hM hl hr s1 ?_⟩
        rw [kI_remp (by omega) (by omega), hy, c5, e1]
        omega
      | false =>
      rw [c4, cond_false] at hg
      split at hg
      · rename_i q hq
        cases hg
        obtain ⟨τ, t1, t2, t3, t4, t5⟩ := k_qt_ok h s1 (by omega) c1.2 hq
        refine ⟨_, fin (by omega), _, List.mem_singleton.mpr rfl, τ, t1, t2, t3, rfl, hl.agr t1 t2, ⟨⟨kSc_sub (s1.mono t2) (kSc_mul t5), _, rfl, ?_⟩, hr.agr t1 t2⟩, kSame.rf, hM⟩
        show (x - x / y * y).toInt = k_ev τ (k_sub ex (k_mul ey.1 q.1))
        rw [k_ev_sub, k_ev_mul, t4, k_ev_agree t1 s1, ← e1, ← hy]
        exact kI_remp (by omega) (by omega)
      · cases hg
    | false =>
      rw [c2, cond_false] at hg
      cases c3 : (decide (ey.1 = 360) && (decide (-ey.1 < k_lo S.1 (k_s1r ey.1 ex)) && decide (k_hi S.1 (k_s1r ey.1 ex) < ey.1))) with
      | false =>
        rw [c3, cond_false] at hg
        have hb := kI_remn (x := x) (y := y) (by omega)
        exact ⟨_, fin (by omega), kNx.fr h hM hl hr (by omega) (by omega) hg⟩
      | true =>
        rw [c3, cond_true] at hg
        cases hg
        simp only [Bool.and_eq_true, decide_eq_true_eq] at c3
        refine ⟨_, fin (by omega), ?_⟩
        have r1 := k_lo_le h.2.1 (k_s1r ey.1 ex)
        have r2 := k_hi_ge h.2.1 (k_s1r ey.1 ex)
        have ee := k_s1_ev σ ey.1 ex
        obtain ⟨sX, sR⟩ := k_s1_sc (c := ey.1) s1
        by_cases hR : 0 ≤ k_ev σ (k_s1r ey.1 ex)
        · obtain ⟨T, u1, u2, u3⟩ := k_asm_ok h (e := k_s1r ey.1 ex) sR hR
          have hw := kI_remw (x := x) (y := y) (X := k_ev σ (k_s1q ey.1 ex)) (R := k_ev σ (k_s1r ey.1 ex)) (by omega) (by rw [hy, e1]; exact ee) hR (by omega)
          rw [hy] at hw
          refine kNx.mono (L := k_rmw (some T) (k_s1q ey.1 ex) (k_s1r ey.1 ex) ey.1 (pc + 1) kl t) (k_rmw_ok u3 u2 hM hl hr sX sR hR hw.1 hw.2) fun r hr => ?_
          unfold k_rmf
          rw [u1]
          exact List.mem_append.mpr (Or.inl hr)
        · obtain ⟨T, u1, u2, u3⟩ := k_asm_ok h (e := k_sub (kc (-1)) (k_s1r ey.1 ex)) (kSc_sub kSc_c sR) (by rw [k_ev_sub, k_ev_c]; omega)
          have e3 : k_ev σ (k_sub (k_s1q ey.1 ex) (kc 1)) = k_ev σ (k_s1q ey.1 ex) - 1 := by rw [k_ev_sub, k_ev_c]
          have e4 : k_ev σ (k_add (k_s1r ey.1 ex) (kc ey.1)) = k_ev σ (k_s1r ey.1 ex) + ey.1 := by rw [k_ev_add, k_ev_c]
          have hw := kI_remw (x := x) (y := y) (X := k_ev σ (k_sub (k_s1q ey.1 ex) (kc 1))) (R := k_ev σ (k_add (k_s1r ey.1 ex) (kc ey.1))) (by omega) (by rw [hy, e1, e3, e4, Int.mul_sub, Int.mul_one]; omega) (by omega) (by omega)
          rw [hy] at hw
          refine kNx.mono (L := k_rmw (some T) (k_sub (k_s1q ey.1 ex) (kc 1)) (k_add (k_s1r ey.1 ex) (kc ey.1)) ey.1 (pc + 1) kl t) (k_rmw_ok u3 u2 hM hl hr (kSc_sub sX kSc_c) (kSc_add sR kSc_c) (by omega) hw.1 hw.2) fun r hr => ?_
          unfold k_rmf
          rw [u1]
          exact List.mem_append.mpr (Or.inr hr)
  | false =>
    rw [c1, cond_false] at hg
    obtain ⟨c2, hg⟩ := pm_cs hg
    have := k_nz_ok h c2
    exact ⟨_, fin (by omega), kNx.fr h hM hl hr (kI_rng _).1 (kI_rng _).2 hg⟩
end KAR
end
