noncomputable section
/-! functions of ints, remembered; steps taken together -/
section KIN
variable {E : pM} {N : kN} {mods : List kMd} {D : kDD} {X : List kDe} {σ : Nat → Int} {M : pM} {S : kS} {kl : kLs} {kt : List kV} {ls : pL} {st : List Value} {pc : Nat} {L : List kR} {me : pmMe} {P : Option Value → pM → Prop} {d : Nat}
/-- 'and 1' behind it -/
def k_nx1 (me : pmMe) (pc : Nat) : Bool := match pm_lc me.2.2.2.2.2.2.2 (pc + 1) with
  | some (.iconst k, 1) => decide (k = 1) && (match pm_lc me.2.2.2.2.2.2.2 (pc + 2) with
    | some (.iand, 1) => true
    | _ => false)
  | _ => false
def k_nxj (me : pmMe) (pc : Nat) : Bool := match pm_lc me.2.2.2.2.2.2.2 (pc + 1) with
  | some (.lconst k, 1) => decide (k = 1) && (match pm_lc me.2.2.2.2.2.2.2 (pc + 2) with
    | some (.land, 1) => true
    | _ => false)
  | _ => false
theorem k_nx1_ok (h : k_nx1 me pc = true) : pm_lc me.2.2.2.2.2.2.2 (pc + 1) = some (.iconst 1, 1) ∧ pm_lc me.2.2.2.2.2.2.2 (pc + 2) = some (.iand, 1) := by
  unfold k_nx1 at h
  split at h
  · rename_i k hk
    obtain ⟨h1, h2⟩ := Bool.and_eq_true_iff.mp h
    have h1 := of_decide_eq_true h1
    subst h1
    split at h2
    · rename_i h3
      exact ⟨hk, h3⟩
    · cases h2
  · cases h
theorem k_nxj_ok (h : k_nxj me pc = true) : pm_lc me.2.2.2.2.2.2.2 (pc + 1) = some (.lconst 1, 1) ∧ pm_lc me.2.2.2.2.2.2.2 (pc + 2) = some (.land, 1) := by
  unfold k_nxj at h
  split at h
  · rename_i k hk
    obtain ⟨h1, h2⟩ := Bool.and_eq_true_iff.mp h
    have h1 := of_decide_eq_true h1
    subst h1
    split at h2
    · rename_i h3
      exact ⟨hk, h3⟩
    · cases h2
  · cases h
/-- x / c, remembered -/
def k_qu1 (S : kS) (x : kE) (c : Int) (r : kE × kS) : Option (kE × kS) := match k_asm r.2 (k_sub x (k_mul c r.1)) with
  | none => none
  | some T => (match k_asm T (k_sub (k_add (k_mul c r.1) (kc (c - 1))) x) with
    | none => none
    | some U => some (r.1, U))
def k_quo (S : kS) (x : kE) (c : Int) : Option (kE × kS) := match k_spl S x c with
  | some q => some (q.1, S)
  | none => k_qu1 S x c (k_mem S (k_ff7 5 (kc c)) x (k_q0 S.1 x / c) (k_hi S.1 x / c))
theorem k_quo_ok (h : kRS N σ S M) {x : kE} {c : Int} (sx : kSc S.1.length x) (hc : 0 < c) (x0 : 0 ≤ k_ev σ x) : ∃ r τ, k_quo S x c = some r ∧ kAgr S.1.length σ τ ∧ S.1.length ≤ r.2.1.length ∧ kRS N τ r.2 M ∧ k_ev τ r.1 = k_ev σ x / c ∧ kSc r.2.1.length r.1 := by
  unfold k_quo
  split
  · rename_i q hq
    obtain ⟨q1, q2, q3, q4, -⟩ := k_spl_ok h sx hq
    refine ⟨_, σ, rfl, fun _ _ => rfl, Nat.le_refl _, h, ?_, q4⟩
    show k_ev σ q.1 = k_ev σ x / c
    rw [q1, Int.add_comm, Int.add_mul_ediv_left _ _ (by omega), Int.ediv_eq_zero_of_lt q2 q3, Int.zero_add]
  · have l1 : k_q0 S.1 x / c ≤ k_ev σ x / c := Int.ediv_le_ediv hc (k_q0_le h.2.1 x0)
    have l2 : k_ev σ x / c ≤ k_hi S.1 x / c := Int.ediv_le_ediv hc (k_hi_ge h.2.1 x)
    have ec : kLf4 5 (k_ev σ (kc c)) (k_ev σ x) = k_ev σ x / c := by
      rw [k_ev_c]
      rfl
    obtain ⟨τ, t1, t2, t3, t4, t5⟩ := k_me7_ok (z := 5) (u := kc c) (k := x) (lo := k_q0 S.1 x / c) (hi := k_hi S.1 x / c) h kSc_c sx (by omega) (by omega) (by rw [k_ev_c]; omega) (by rw [ec]; exact l1) (by rw [ec]; exact l2)
    rw [ec] at t4
    generalize k_mem S (k_ff7 5 (kc c)) x (k_q0 S.1 x / c) (k_hi S.1 x / c) = r at t2 t3 t4 t5 ⊢
    have ex : k_ev τ x = k_ev σ x := k_ev_agree t1 sx
    have m1 := Int.mul_ediv_self_le (x := k_ev σ x) (k := c) (by omega)
    have m2 := Int.lt_mul_ediv_self_add (x := k_ev σ x) hc
    obtain ⟨T, a1, a2, a3⟩ := k_asm_ok t3 (e := k_sub x (k_mul c r.1)) (kSc_sub (sx.mono t2) (kSc_mul t5)) (by rw [k_ev_sub, k_ev_mul, t4, ex]; omega)
    obtain ⟨U, b1, b2, b3⟩ := k_asm_ok a3 (e := k_sub (k_add (k_mul c r.1) (kc (c - 1))) x) (by rw [a2]; exact kSc_sub (kSc_add (kSc_mul t5) kSc_c) (sx.mono t2)) (by rw [k_ev_sub, k_ev_add, k_ev_mul, k_ev_c, t4, ex]; omega)
    refine ⟨(r.1, U), τ, ?_, t1, by show S.1.length ≤ U.1.length; rw [b2, a2]; exact t2, b3, t4, by show kSc U.1.length r.1; rw [b2, a2]; exact t5⟩
    unfold k_qu1
    rw [a1]
    dsimp only
    rw [b1]
/-- rows of the reference's table that are known whole -/
def k_mrw (S : kS) (sl : kE) (q : kH) : Option (kE × kE) := match k_ttq S 9 q with
  | none => none
  | some y => cond (k_geS S (k_sub q.1.2 (kc 4096)) && k_fiS S 0 127 (k_sub sl (k_mul 128 y))) (some (k_sub sl (k_mul 128 y), q.2)) none
def k_bt1 (S : kS) (x : kE) (q : kH) : Option (kE × kE) := cond (k_wq q.1.1 (kc 451) && (k_wq q.2 x && !(k_cst q.2))) (lfo (k_mrw S q.1.2) S.2.2.2) none
theorem k_bt1_ok (h : kRS N σ S M) {x : kE} {q : kH} {r : kE × kE} (hq : q ∈ S.2.2.2) (hr : k_bt1 S x q = some r) : (kSc S.1.length r.1 ∧ kSc S.1.length r.2) ∧ (0 ≤ k_ev σ r.1 ∧ k_ev σ r.1 ≤ 127) ∧ ∀ u : Nat, u < 32 → kBt u (k_ev σ x) = kBt (32 * (k_ev σ r.1).toNat + u) (k_ev σ r.2) := by
  unfold k_bt1 at hr
  obtain ⟨g, hr⟩ := pm_cs hr
  simp only [Bool.and_eq_true] at g
  obtain ⟨g1, g2, -⟩ := g
  obtain ⟨p, hp, hr⟩ := lfo_in hr
  obtain ⟨-, -, s3⟩ := h.2.2.2.2.2.2.2 p hp
  obtain ⟨-, s2, -⟩ := h.2.2.2.2.2.2.2 q hq
  unfold k_mrw at hr
  split at hr
  · cases hr
  · rename_i y hy
    obtain ⟨g, hr⟩ := pm_cs hr
    cases hr
    obtain ⟨g3, g4⟩ := Bool.and_eq_true_iff.mp g
    have g3 := k_ge_ok h.2.1 h.2.2.1 g3
    rw [k_ev_sub, k_ev_c] at g3
    have g4 := k_fit_ok h.2.1 h.2.2.1 g4
    obtain ⟨sy, t0, t1⟩ := k_ttq_ok h hp hy
    refine ⟨⟨kSc_sub s2 (kSc_mul sy), s3⟩, g4, fun u hu => ?_⟩
    have es : k_ev σ (k_sub q.1.2 (k_mul 128 y)) = k_ev σ q.1.2 - 128 * k_ev σ y := by rw [k_ev_sub, k_ev_mul]
    show kBt u (k_ev σ x) = kBt (32 * (k_ev σ (k_sub q.1.2 (k_mul 128 y))).toNat + u) (k_ev σ p.2)
    rw [es] at g4 ⊢
    obtain ⟨v, v1, v2⟩ := t1 (k_ev σ q.1.2 - 128 * k_ev σ y).toNat (by omega)
    have H := h.2.2.2.2.1 q hq
    rw [k_wq_ok g1, k_wq_ok g2, k_ev_c] at H
    have H := (H.int (by omega)).2.2
    rw [show (451 : Int).toNat = 451 from rfl, show (k_ev σ q.1.2).toNat = 128 * (k_ev σ y).toNat + (k_ev σ q.1.2 - 128 * k_ev σ y).toNat by omega, v1] at H
    have H := Option.some.inj H
    rw [← H, kI_bt v hu, v2 u hu, decide_eq_true (show ((32 * (k_ev σ q.1.2 - 128 * k_ev σ y).toNat + u : Nat) : Int) < k_ev σ p.1.2 by omega), Bool.true_and]
    exact kBt_dec _ _
def k_mmo (y : Nat) : Bool := Nat.beq y 18 || (Nat.beq y 21 || (Nat.beq y 267 || (Nat.beq y 268 || Nat.beq y 285)))
/-- one bit: of a row; of an int -/
def k_sh1 (S : kS) (y x : kE) : Option (kE × kS) := cond (k_fiS S 0 31 y) (match lfo (k_bt1 S x) S.2.2.2 with
  | some r => some (k_mem S (k_ff7 1 (k_add (k_mul 32 r.1) y)) r.2 0 1)
  | none => none) none
def k_sh2c (S : kS) (y x : kE) : Bool := !(k_cst x && (k_cst y || (decide (0 ≤ k_lo S.1 y) && (decide (k_hi S.1 y ≤ 31) && decide (k_hi S.1 y - k_lo S.1 y ≤ 3)))))
def k_sh2d (S : kS) (y x : kE) : Bool := match cond (k_cst y && (decide (0 ≤ y.1) && decide (y.1 ≤ 30))) (k_spl S x (kPw y.1.toNat)) none with
  | none => true
  | some p => (match k_spl S p.1 2 with
    | none => true
    | some _ => false)
def k_sh2 (S : kS) (y x : kE) : Option (kE × kS) := cond (k_sh2c S y x && (k_sh2d S y x && (decide (0 ≤ k_lo S.1 x) && k_fiS S 0 30 y))) (some (k_mem S (k_ff7 4 y) x 0 1)) none
def k_sh3 (S : kS) (y x : kE) : Option (kE × kS) := match k_sh1 S y x with
  | some r => some r
  | none => k_sh2 S y x
theorem k_sh3_ok (h : kRS N σ S M) {ey ex : kE} {x y : Int32} {r : kE × kS} (s1 : kSc S.1.length ex) (s2 : kSc S.1.length ey) (e1 : x.toInt = k_ev σ ex) (e2 : y.toInt = k_ev σ ey) (hr : k_sh3 S ey ex = some r) : ∃ τ, kAgr S.1.length σ τ ∧ S.1.length ≤ r.2.1.length ∧ kRS N τ r.2 M ∧ k_ev τ r.1 = ((x >>> (y &&& 31)) &&& 1).toInt ∧ kSc r.2.1.length r.1 := by
  unfold k_sh3 at hr
  split at hr
  · rename_i r' hr'
    cases hr
    unfold k_sh1 at hr'
    obtain ⟨g, hr⟩ := pm_cs hr'
    have g := k_fit_ok h.2.1 h.2.2.1 g
    split at hr
    · rename_i p hp
      cases hr
      obtain ⟨q, hq, hp⟩ := lfo_in hp
      obtain ⟨⟨p1, p2⟩, p3, p4⟩ := k_bt1_ok h hq hp
      have eu : k_ev σ (k_add (k_mul 32 p.1) ey) = 32 * k_ev σ p.1 + k_ev σ ey := by rw [k_ev_add, k_ev_mul]
      have en : (32 * k_ev σ p.1 + k_ev σ ey).toNat = 32 * (k_ev σ p.1).toNat + (k_ev σ ey).toNat := by omega
      have ev : kLf4 1 (k_ev σ (k_add (k_mul 32 p.1) ey)) (k_ev σ p.2) = kBt (k_ev σ ey).toNat (k_ev σ ex) := by
        rw [eu]
        show kBt (32 * k_ev σ p.1 + k_ev σ ey).toNat (k_ev σ p.2) = _
        rw [en, p4 _ (by omega)]
      have b := kBt_01 (k_ev σ ey).toNat (k_ev σ ex)
      obtain ⟨τ, t1, t2, t3, t4, t5⟩ := k_me7_ok (z := 1) (u := k_add (k_mul 32 p.1) ey) (k := p.2) (lo := 0) (hi := 1) h (kSc_add (kSc_mul p1) s2) p2 (by omega) (by omega) (by rw [eu]; omega) (by rw [ev]; omega) (by rw [ev]; omega)
      rw [ev] at t4
      exact ⟨τ, t1, t2, t3, by rw [t4, kI_b1 (u := (k_ev σ ey).toNat) (by omega) (by omega), e1], t5⟩
    · cases hr
  · unfold k_sh2 at hr
    obtain ⟨g, hr⟩ := pm_cs hr
    cases hr
    simp only [Bool.and_eq_true] at g
    have g4 := k_fit_ok h.2.1 h.2.2.1 g.2.2.2
    have b := kBt_01 (k_ev σ ey).toNat (k_ev σ ex)
    have ev : kLf4 4 (k_ev σ ey) (k_ev σ ex) = kBt (k_ev σ ey).toNat (k_ev σ ex) := rfl
    obtain ⟨τ, t1, t2, t3, t4, t5⟩ := k_me7_ok (z := 4) (u := ey) (k := ex) (lo := 0) (hi := 1) h s2 s1 (by omega) (by omega) g4.1 (by rw [ev]; omega) (by rw [ev]; omega)
    rw [ev] at t4
    exact ⟨τ, t1, t2, t3, by rw [t4, kI_b1 (u := (k_ev σ ey).toNat) (by omega) (by omega), e1], t5⟩
/-- a bit of a set's long -/
def k_lu1 (S : kS) (y x : kE) : Option (kE × kS) := cond (k_fiS S 0 63 y) (match k_wds S x with
  | r :: _ => some (k_mem S (k_ff7 1 (k_add (k_mul 64 r.1) y)) r.2 0 1)
  | [] => none) none
theorem k_lu1_ok (h : kRS N σ S M) {ey ex : kE} {x : Int64} {y : Int32} {r : kE × kS} (s2 : kSc S.1.length ey) (e1 : x.toInt = k_ev σ ex) (e2 : y.toInt = k_ev σ ey) (hr : k_lu1 S ey ex = some r) : ∃ τ, kAgr S.1.length σ τ ∧ S.1.length ≤ r.2.1.length ∧ kRS N τ r.2 M ∧ k_ev τ r.1 = (kLsr x y &&& 1).toInt ∧ kSc r.2.1.length r.1 := by
  unfold k_lu1 at hr
  obtain ⟨g, hr⟩ := pm_cs hr
  have g := k_fit_ok h.2.1 h.2.2.1 g
  split at hr
  · rename_i p rest hp
    cases hr
    obtain ⟨⟨p1, p2⟩, p3, p4, p5⟩ := k_wds_ok h (by rw [hp]; exact List.mem_cons_self)
    have eu : k_ev σ (k_add (k_mul 64 p.1) ey) = 64 * k_ev σ p.1 + k_ev σ ey := by rw [k_ev_add, k_ev_mul]
    have en : (64 * k_ev σ p.1 + k_ev σ ey).toNat = 64 * (k_ev σ p.1).toNat + (k_ev σ ey).toNat := by omega
    have ev : kLf4 1 (k_ev σ (k_add (k_mul 64 p.1) ey)) (k_ev σ p.2) = kBt (64 * (k_ev σ p.1).toNat + (k_ev σ ey).toNat) (k_ev σ p.2) := by
      rw [eu, ← en]
      rfl
    have b := kBt_01 (64 * (k_ev σ p.1).toNat + (k_ev σ ey).toNat) (k_ev σ p.2)
    obtain ⟨τ, t1, t2, t3, t4, t5⟩ := k_me7_ok (z := 1) (u := k_add (k_mul 64 p.1) ey) (k := p.2) (lo := 0) (hi := 1) h (kSc_add (kSc_mul p1) s2) p2 (by omega) (by omega) (by rw [eu]; omega) (by rw [ev]; omega) (by rw [ev]; omega)
    rw [ev] at t4
    exact ⟨τ, t1, t2, t3, by rw [t4, kL_bit p4.1 (u := (k_ev σ ey).toNat) (by omega) (by omega) (e1.trans p5.symm)], t5⟩
  · cases hr
/-- steps of one kind: what is pushed -/
def k_mo1 (S : kS) (i : Instr) (y x : kE) : Option (Option (kE × kS)) := match i with
  | .idiv => cond (k_cst y && ((decide (y.1 = 32) || decide (y.1 = 64)) && (decide (0 ≤ k_lo S.1 x) && !(k_cst x)))) (some (k_quo S x y.1)) none
  | .irem => cond (k_cst y && ((decide (y.1 = 32) || decide (y.1 = 64)) && (decide (0 ≤ k_lo S.1 x) && !(k_cst x)))) (some (match k_quo S x y.1 with
    | some r => some (k_sub x (k_mul y.1 r.1), r.2)
    | none => none)) none
  | .ishr => cond (k_wq y (kc 6) && (decide (0 ≤ k_lo S.1 x) && !(k_cst x))) (some (k_quo S x 64)) none
  | .iand => cond (k_wq y (kc 63) && (decide (0 ≤ k_lo S.1 x) && !(k_cst x))) (some (match k_quo S x 64 with
    | some r => some (k_sub x (k_mul 64 r.1), r.2)
    | none => none)) none
  | .ishl => cond (k_wq x (kc 1) && (!(k_cst y) && k_fiS S 0 31 y)) (some (some (k_mem S (k_ff7 12 (kc 0)) y (cond (decide (k_hi S.1 y ≤ 30)) 0 kI0) (cond (decide (k_hi S.1 y ≤ 30)) (kPw (k_hi S.1 y).toNat) kI1)))) none
  | .ior => cond (!(k_cst x && k_cst y)) (some (some (k_mem S (k_ff7 13 (k_add x (kc 2147483648))) y kI0 kI1))) none
  | .ixor => cond (!(k_cst x && k_cst y) && (decide (0 ≤ k_lo S.1 x) && decide (0 ≤ k_lo S.1 y))) (match k_p2 (cond (decide (k_hi S.1 x < k_hi S.1 y)) (k_hi S.1 y) (k_hi S.1 x)) with
    | some k => some (some (k_mem S (k_ff7 14 (k_add x (kc 2147483648))) y 0 (kPw k - 1)))
    | none => none) none
  | _ => none
/-- what these are -/
def k_mov (i : Instr) (x y : Int32) : Int32 := match i with
  | .idiv => x / y
  | .irem => x - x / y * y
  | .ishr => x >>> (y &&& 31)
  | .iand => x &&& y
  | .ishl => x <<< (y &&& 31)
  | .ior => x ||| y
  | _ => x ^^^ y
theorem kI_shl1 {y : Int32} {u : Nat} (hu : u ≤ 30) (hy : y.toInt = (u : Int)) : ((1 : Int32) <<< (y &&& 31)).toInt = kPw u := by
  have key : ∀ v : Fin 31, ((1 : Int32) <<< (Int32.ofInt ((v.val : Nat) : Int) &&& 31)).toInt = ((2 ^ v.val : Nat) : Int) := by decide +kernel
  have ey : y = Int32.ofInt (u : Int) := Int32.toInt_inj.mp (by rw [hy]; exact (Int32.toInt_ofInt_of_le (by omega) (by omega)).symm)
  rw [ey]
  exact key ⟨u, by omega⟩
theorem k_mo1_ok (h : kRS N σ S M) {i : Instr} {ey ex : kE} {x y : Int32} {o : Option (kE × kS)} (s1 : kSc S.1.length ex) (s2 : kSc S.1.length ey) (e1 : x.toInt = k_ev σ ex) (e2 : y.toInt = k_ev σ ey) (ho : k_mo1 S i ey ex = some o) : (i = .idiv ∨ i = .irem → 0 < y.toInt) ∧ ∃ r τ, o = some r ∧ kAgr S.1.length σ τ ∧ S.1.length ≤ r.2.1.length ∧ kRS N τ r.2 M ∧ k_ev τ r.1 = (k_mov i x y).toInt ∧ kSc r.2.1.length r.1 := by
  have lx := k_lo_le h.2.1 ex
  have ly := k_lo_le h.2.1 ey
  have hx := k_hi_ge h.2.1 ex
  have hy := k_hi_ge h.2.1 ey
  cases i with
  | idiv =>
    obtain ⟨g, ho⟩ := pm_cs (show cond (k_cst ey && ((decide (ey.1 = 32) || decide (ey.1 = 64)) && (decide (0 ≤ k_lo S.1 ex) && !(k_cst ex)))) (some (k_quo S ex ey.1)) none = some o from ho)
    cases ho
    simp only [Bool.and_eq_true, Bool.or_eq_true, decide_eq_true_eq] at g
    obtain ⟨g1, g2, g3, -⟩ := g
    have ec := k_ev_const (σ := σ) g1
    have yp : 0 < y.toInt := by omega
    obtain ⟨r, τ, r1, r2, r3, r4, r5, r6⟩ := k_quo_ok h (c := ey.1) s1 (by omega) (by omega)
    refine ⟨fun _ => yp, r, τ, r1, r2, r3, r4, ?_, r6⟩
    show k_ev τ r.1 = (x / y).toInt
    rw [r5, kI_divp (by omega) yp, e1, e2, ec]
  | irem =>
    obtain ⟨g, ho⟩ := pm_cs (show cond (k_cst ey && ((decide (ey.1 = 32) || decide (ey.1 = 64)) && (decide (0 ≤ k_lo S.1 ex) && !(k_cst ex)))) (some (match k_quo S ex ey.1 with
      | some r => some (k_sub ex (k_mul ey.1 r.1), r.2)
      | none => none)) none = some o from ho)
    cases ho
    simp only [Bool.and_eq_true, Bool.or_eq_true, decide_eq_true_eq] at g
    obtain ⟨g1, g2, g3, -⟩ := g
    have ec := k_ev_const (σ := σ) g1
    have yp : 0 < y.toInt := by omega
    obtain ⟨r, τ, r1, r2, r3, r4, r5, r6⟩ := k_quo_ok h (c := ey.1) s1 (by omega) (by omega)
    refine ⟨fun _ => yp, (k_sub ex (k_mul ey.1 r.1), r.2), τ, by rw [r1], r2, r3, r4, ?_, kSc_sub (s1.mono r3) (kSc_mul r6)⟩
    show k_ev τ (k_sub ex (k_mul ey.1 r.1)) = (x - x / y * y).toInt
    rw [k_ev_sub, k_ev_mul, r5, k_ev_agree r2 s1, kI_remp (by omega) yp, e1, e2, ec]
  | ishr =>
    obtain ⟨g, ho⟩ := pm_cs (show cond (k_wq ey (kc 6) && (decide (0 ≤ k_lo S.1 ex) && !(k_cst ex))) (some (k_quo S ex 64)) none = some o from ho)
    cases ho
    simp only [Bool.and_eq_true, decide_eq_true_eq] at g
    obtain ⟨g1, g3, -⟩ := g
    rw [k_wq_ok g1, k_ev_c] at e2
    obtain ⟨r, τ, r1, r2, r3, r4, r5, r6⟩ := k_quo_ok h (c := 64) s1 (by omega) (by omega)
    refine ⟨fun e => (by rcases e with e | e <;> cases e), r, τ, r1, r2, r3, r4, ?_, r6⟩
    show k_ev τ r.1 = (x >>> (y &&& 31)).toInt
    have ey6 : y = 6 := Int32.toInt_inj.mp (by rw [e2]; rfl)
    rw [r5, ey6, kI_shr, e1]
    rfl
  | iand =>
    obtain ⟨g, ho⟩ := pm_cs (show cond (k_wq ey (kc 63) && (decide (0 ≤ k_lo S.1 ex) && !(k_cst ex))) (some (match k_quo S ex 64 with
      | some r => some (k_sub ex (k_mul 64 r.1), r.2)
      | none => none)) none = some o from ho)
    cases ho
    simp only [Bool.and_eq_true, decide_eq_true_eq] at g
    obtain ⟨g1, g3, -⟩ := g
    rw [k_wq_ok g1, k_ev_c] at e2
    obtain ⟨r, τ, r1, r2, r3, r4, r5, r6⟩ := k_quo_ok h (c := 64) s1 (by omega) (by omega)
    refine ⟨fun e => (by rcases e with e | e <;> cases e), (k_sub ex (k_mul 64 r.1), r.2), τ, by rw [r1], r2, r3, r4, ?_, kSc_sub (s1.mono r3) (kSc_mul r6)⟩
    show k_ev τ (k_sub ex (k_mul 64 r.1)) = (x &&& y).toInt
    have nx := kI_nat (x := x) (by omega)
    have ny := kI_nat (x := y) (by omega)
    have yn : y.toBitVec.toNat = 2 ^ 6 - 1 := by omega
    have e : (x &&& y).toBitVec.toNat = x.toBitVec.toNat % 64 := by
      rw [Int32.toBitVec_and, BitVec.toNat_and, yn, Nat.and_two_pow_sub_one_eq_mod]
    rw [k_ev_sub, k_ev_mul, r5, k_ev_agree r2 s1, kI_ofn (x := x &&& y) (by omega), e, ← e1]
    omega
  | ishl =>
    obtain ⟨g, ho⟩ := pm_cs (show cond (k_wq ex (kc 1) && (!(k_cst ey) && k_fiS S 0 31 ey)) (some (some (k_mem S (k_ff7 12 (kc 0)) ey (cond (decide (k_hi S.1 ey ≤ 30)) 0 kI0) (cond (decide (k_hi S.1 ey ≤ 30)) (kPw (k_hi S.1 ey).toNat) kI1)))) none = some o from ho)
    cases ho
    simp only [Bool.and_eq_true] at g
    obtain ⟨g1, -, g3⟩ := g
    have g3 := k_fit_ok h.2.1 h.2.2.1 g3
    rw [k_wq_ok g1, k_ev_c] at e1
    have ex1 : x = 1 := Int32.toInt_inj.mp (by rw [e1]; rfl)
    have ev : kLf4 12 (k_ev σ (kc 0)) (k_ev σ ey) = ((1 : Int32) <<< (y &&& 31)).toInt := by
      show ((1 : Int32) <<< (Int32.ofInt (k_ev σ ey) &&& 31)).toInt = _
      rw [← e2, Int32.ofInt_toInt]
    have rg : (cond (decide (k_hi S.1 ey ≤ 30)) 0 kI0) ≤ ((1 : Int32) <<< (y &&& 31)).toInt ∧ ((1 : Int32) <<< (y &&& 31)).toInt ≤ cond (decide (k_hi S.1 ey ≤ 30)) (kPw (k_hi S.1 ey).toNat) kI1 := by
      cases c : decide (k_hi S.1 ey ≤ 30) with
      | true =>
        have c := of_decide_eq_true c
        rw [cond_true, cond_true, kI_shl1 (u := (k_ev σ ey).toNat) (by omega) (by omega)]
        have := kPw_pos (k_ev σ ey).toNat
        have := kPw_le (a := (k_ev σ ey).toNat) (b := (k_hi S.1 ey).toNat) (by omega)
        omega
      | false => exact kI_rng _
    obtain ⟨τ, t1, t2, t3, t4, t5⟩ := k_me7_ok (z := 12) (u := kc 0) (k := ey) (lo := cond (decide (k_hi S.1 ey ≤ 30)) 0 kI0) (hi := cond (decide (k_hi S.1 ey ≤ 30)) (kPw (k_hi S.1 ey).toNat) kI1) h kSc_c s2 (by omega) (by omega) (by rw [k_ev_c]; omega) (by rw [ev]; exact rg.1) (by rw [ev]; exact rg.2)
    rw [ev] at t4
    refine ⟨fun e => (by rcases e with e | e <;> cases e), _, τ, rfl, t1, t2, t3, ?_, t5⟩
    rw [t4, ex1]
    rfl
  | ior =>
    obtain ⟨g, ho⟩ := pm_cs (show cond (!(k_cst ex && k_cst ey)) (some (some (k_mem S (k_ff7 13 (k_add ex (kc 2147483648))) ey kI0 kI1))) none = some o from ho)
    cases ho
    have bx := (kI_rng x).1
    unfold kI0 at bx
    have ea : k_ev σ (k_add ex (kc 2147483648)) = k_ev σ ex + 2147483648 := by rw [k_ev_add, k_ev_c]
    have ev : kLf4 13 (k_ev σ (k_add ex (kc 2147483648))) (k_ev σ ey) = (x ||| y).toInt := by
      rw [ea]
      show (Int32.ofInt (k_ev σ ex + 2147483648 - 2147483648) ||| Int32.ofInt (k_ev σ ey)).toInt = _
      rw [show k_ev σ ex + 2147483648 - 2147483648 = k_ev σ ex by omega, ← e1, ← e2, Int32.ofInt_toInt, Int32.ofInt_toInt]
    have rg := kI_rng (x ||| y)
    obtain ⟨τ, t1, t2, t3, t4, t5⟩ := k_me7_ok (z := 13) (u := k_add ex (kc 2147483648)) (k := ey) (lo := kI0) (hi := kI1) h (kSc_add s1 kSc_c) s2 (by omega) (by omega) (by rw [ea]; omega) (by rw [ev]; exact rg.1) (by rw [ev]; exact rg.2)
    rw [ev] at t4
    exact ⟨fun e => (by rcases e with e | e <;> cases e), _, τ, rfl, t1, t2, t3, t4, t5⟩
  | ixor =>
    obtain ⟨g, ho⟩ := pm_cs (show cond (!(k_cst ex && k_cst ey) && (decide (0 ≤ k_lo S.1 ex) && decide (0 ≤ k_lo S.1 ey))) (match k_p2 (cond (decide (k_hi S.1 ex < k_hi S.1 ey)) (k_hi S.1 ey) (k_hi S.1 ex)) with
      | some k => some (some (k_mem S (k_ff7 14 (k_add ex (kc 2147483648))) ey 0 (kPw k - 1)))
      | none => none) none = some o from ho)
    simp only [Bool.and_eq_true, decide_eq_true_eq] at g
    obtain ⟨-, g2, g3⟩ := g
    split at ho
    · rename_i k hk
      cases ho
      obtain ⟨k1, k2⟩ := k_p2_ok hk
      have bnd : k_hi S.1 ex < ((2 ^ k : Nat) : Int) ∧ k_hi S.1 ey < ((2 ^ k : Nat) : Int) := by
        cases c : decide (k_hi S.1 ex < k_hi S.1 ey) with
        | true =>
          rw [c, cond_true] at k1
          have c := of_decide_eq_true c
          exact ⟨by omega, k1⟩
        | false =>
          rw [c, cond_false] at k1
          have c := of_decide_eq_false c
          exact ⟨k1, by omega⟩
      have rg := kI_xor (x := x) (y := y) k2 (by omega) (by omega) (by omega) (by omega)
      have ea : k_ev σ (k_add ex (kc 2147483648)) = k_ev σ ex + 2147483648 := by rw [k_ev_add, k_ev_c]
      have ev : kLf4 14 (k_ev σ (k_add ex (kc 2147483648))) (k_ev σ ey) = (x ^^^ y).toInt := by
        rw [ea]
        show (Int32.ofInt (k_ev σ ex + 2147483648 - 2147483648) ^^^ Int32.ofInt (k_ev σ ey)).toInt = _
        rw [show k_ev σ ex + 2147483648 - 2147483648 = k_ev σ ex by omega, ← e1, ← e2, Int32.ofInt_toInt, Int32.ofInt_toInt]
      obtain ⟨τ, t1, t2, t3, t4, t5⟩ := k_me7_ok (z := 14) (u := k_add ex (kc 2147483648)) (k := ey) (lo := 0) (hi := kPw k - 1) h (kSc_add s1 kSc_c) s2 (by omega) (by omega) (by rw [ea]; omega) (by rw [ev]; exact rg.1) (by rw [ev]; exact rg.2)
      rw [ev] at t4
      exact ⟨fun e => (by rcases e with e | e <;> cases e), _, τ, rfl, t1, t2, t3, t4, t5⟩
    · cases ho
  | _ => cases ho
/-- the whole: one step, or some together -/
def k_and1 (S : kS) (y x : kE) : Bool := k_wq y (kc 1) && (decide (0 ≤ k_lo S.1 x) && (!(k_cst x) && (!(k_iso (k_msx S x y)) && !(k_iso (k_msx S y x)))))
def k_tfi (S : kS) (mm fu : Bool) (i : Instr) (pc : Nat) (kl : kLs) (y x : kE) (t : List kV) : Option (List kR) := match cond (fu && (match i with
    | .ishr => true
    | _ => false)) (k_sh3 S y x) none with
  | some r => some (k_psi r (pc + 3) kl t)
  | none => (match cond mm (k_mo1 S i y x) none with
    | some (some r) => some (k_psi r (pc + 1) kl t)
    | some none => some []
    | none => cond ((match i with
      | .iand => true
      | _ => false) && k_and1 S y x) (some (k_psi (k_mem S (k_ff7 4 (kc 0)) x 0 1) (pc + 1) kl t)) none)
def k_tfu (S : kS) (mid : Nat) (me : pmMe) (q : Instr × Nat) (pc : Nat) (kl : kLs) (kt : List kV) : Option (List kR) := cond (Nat.beq q.2 1) (match kt with
  | (0, y) :: (1, x) :: t => cond ((match q.1 with
    | .lushr => true
    | _ => false) && k_nxj me pc) (match k_lu1 S y x with
    | some r => some (k_psj r (pc + 3) kl t)
    | none => none) none
  | (0, y) :: (0, x) :: t => k_tfi S (k_mmo mid) (k_nx1 me pc) q.1 pc kl y x t
  | _ => none) none
theorem pm_i2_at (f : Int32 → Int32 → Int32) (x y : Int32) (r : List Value) : pm_i2 f pc ls (.int y :: .int x :: r) M = some (pc + 1, ls, .int (f x y) :: r, M) := rfl
theorem k_tfu_ok {mid : Nat} {q : Instr × Nat} (h : kRS N σ S M) (hM : kMem D M) (hl : kRL E S.1.length σ kl ls) (ht : kRT E S.1.length σ kt st) (hq : pm_lc me.2.2.2.2.2.2.2 pc = some q) (hL : k_tfu S mid me q pc kl kt = some L)
    (k : ∀ z : pS, kNx E N mods D S.1.length σ M L z → kLp E d me z.1 z.2.1 z.2.2.1 z.2.2.2 P) : kLp E d me pc ls st M P := by
  unfold k_tfu at hL
  obtain ⟨g1, hL⟩ := pm_cs hL
  obtain ⟨i, n⟩ := q
  have g1 : n = 1 := pm_beq g1
  subst g1
  split at hL
  · rename_i ey ex t _
    obtain ⟨y, r, rfl, s2, e2, ht1⟩ := ht.int
    obtain ⟨x, r, rfl, s1, e1, ht2⟩ := ht1.lng
    obtain ⟨g, hL2⟩ := pm_cs hL
    clear hL
    obtain ⟨g2, g3⟩ := Bool.and_eq_true_iff.mp g
    obtain ⟨w1, w2⟩ := k_nxj_ok g3
    have hi : i = .lushr := by
      cases i <;> first | rfl | cases g2
    subst hi
    split at hL2
    · rename_i p hp
      cases hL2
      obtain ⟨τ, t1, t2, t3, t4, t5⟩ := k_lu1_ok h s2 e1 e2 hp
      refine kLp.stp (z := (pc + 1, ls, .long (kLsr x y) :: r, M)) hq rfl rfl rfl ?_
      refine kLp.stp (z := (pc + 2, ls, .long 1 :: .long (kLsr x y) :: r, M)) w1 rfl rfl rfl ?_
      refine kLp.stp (z := (pc + 3, ls, .long (kLsr x y &&& 1) :: r, M)) w2 rfl rfl rfl ?_
      exact k _ (kNx.psj hM hl ht2 t1 t2 t3 t4 t5)
    · cases hL2
  · rename_i ey ex t _
    obtain ⟨y, r, rfl, s2, e2, ht1⟩ := ht.int
    obtain ⟨x, r, rfl, s1, e1, ht2⟩ := ht1.int
    unfold k_tfi at hL
    split at hL
    · rename_i p hp
      cases hL
      obtain ⟨g, hp2⟩ := pm_cs hp
      clear hp
      obtain ⟨g2, g3⟩ := Bool.and_eq_true_iff.mp g
      obtain ⟨w1, w2⟩ := k_nx1_ok g2
      have hi : i = .ishr := by
        cases i <;> first | rfl | cases g3
      subst hi
      obtain ⟨τ, t1, t2, t3, t4, t5⟩ := k_sh3_ok h s1 s2 e1 e2 hp2
      refine kLp.stp (z := (pc + 1, ls, .int (x >>> (y &&& 31)) :: r, M)) hq rfl rfl rfl ?_
      refine kLp.stp (z := (pc + 2, ls, .int 1 :: .int (x >>> (y &&& 31)) :: r, M)) w1 rfl rfl rfl ?_
      refine kLp.stp (z := (pc + 3, ls, .int ((x >>> (y &&& 31)) &&& 1) :: r, M)) w2 rfl rfl rfl ?_
      exact k _ (kNx.psi hM hl ht2 t1 t2 t3 t4 t5)
    · split at hL
      · rename_i p hp
        cases hL
        obtain ⟨-, hp⟩ := pm_cs hp
        obtain ⟨yp, p', τ, hp', t1, t2, t3, t4, t5⟩ := k_mo1_ok h s1 s2 e1 e2 hp
        cases hp'
        have nx := kNx.psi (E := E) (D := D) (mods := mods) (pc := pc + 1) hM hl ht2 t1 t2 t3 t4 t5
        cases i with
        | idiv =>
          have y0 := yp (Or.inl rfl)
          refine kLp.stp (z := (pc + 1, ls, .int (x / y) :: r, M)) hq rfl rfl ?_ (k _ nx)
          show cond (Nat.beq 1 1) (pm_idiv pc ls (.int y :: .int x :: r) M) none = _
          unfold pm_idiv
          simp only [kI_nz (y := y) (by omega), cond_false]
          rfl
        | irem =>
          have y0 := yp (Or.inr rfl)
          refine kLp.stp (z := (pc + 1, ls, .int (x - x / y * y) :: r, M)) hq rfl rfl ?_ (k _ nx)
          show cond (Nat.beq 1 1) (pm_irem pc ls (.int y :: .int x :: r) M) none = _
          unfold pm_irem
          simp only [kI_nz (y := y) (by omega), cond_false]
          rfl
        | ishr => exact kLp.stp hq rfl rfl rfl (k _ nx)
        | iand => exact kLp.stp hq rfl rfl rfl (k _ nx)
        | ishl => exact kLp.stp hq rfl rfl rfl (k _ nx)
        | ior => exact kLp.stp hq rfl rfl rfl (k _ nx)
        | ixor => exact kLp.stp hq rfl rfl rfl (k _ nx)
        | _ => cases hp
      · rename_i hp
        obtain ⟨-, hp⟩ := pm_cs hp
        obtain ⟨-, p', τ, hp', -⟩ := k_mo1_ok h s1 s2 e1 e2 hp
        cases hp'
      · obtain ⟨g, hL⟩ := pm_cs hL
        cases hL
        obtain ⟨g2, g3⟩ := Bool.and_eq_true_iff.mp g
        have hi : i = .iand := by
          cases i <;> first | rfl | cases g2
        subst hi
        unfold k_and1 at g3
        obtain ⟨g4, -⟩ := Bool.and_eq_true_iff.mp g3
        rw [k_wq_ok g4, k_ev_c] at e2
        have ey1 : y = 1 := Int32.toInt_inj.mp (by rw [e2]; rfl)
        have b := kBt_01 0 (k_ev σ ex)
        have ev : kLf4 4 (k_ev σ (kc 0)) (k_ev σ ex) = kBt 0 (k_ev σ ex) := by
          rw [k_ev_c]
          rfl
        obtain ⟨τ, t1, t2, t3, t4, t5⟩ := k_me7_ok (z := 4) (u := kc 0) (k := ex) (lo := 0) (hi := 1) h kSc_c s1 (by omega) (by omega) (by rw [k_ev_c]; omega) (by rw [ev]; omega) (by rw [ev]; omega)
        rw [ev, kBt_z0, ← e1, ← kI_and1] at t4
        refine kLp.stp (z := (pc + 1, ls, .int (x &&& y) :: r, M)) hq rfl rfl rfl (k _ (kNx.psi hM hl ht2 t1 t2 t3 (by rw [t4, ey1]) t5))
  · cases hL
end KIN
end
