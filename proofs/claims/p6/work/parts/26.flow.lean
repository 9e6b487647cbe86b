noncomputable section
/-! locals, the stack, longs, bits, jumps -/
section KFL
variable {E : pM} {N : kN} {mods : List kMd} {D : kDD} {σ : Nat → Int} {M : pM} {S : kS} {kl : kLs} {kt : List kV} {ls : pL} {st : List Value} {pc : Nat} {L : List kR}
def kJ0 : Int := -9223372036854775808
def kJ1 : Int := 9223372036854775807
theorem kJ_rng (x : Int64) : kJ0 ≤ x.toInt ∧ x.toInt ≤ kJ1 := by
  have h1 := Int64.le_toInt x
  have h2 := Int64.toInt_lt x
  unfold kJ0 kJ1
  omega
def k_frJ (S : kS) (pc : Nat) (kl : kLs) (kt : List kV) : Option (List kR) := some [((k_new S kJ0 kJ1).2, pc, kl, (1, (k_new S kJ0 kJ1).1) :: kt)]
def k_lnJ (S : kS) (e : kE) (pc : Nat) (kl : kLs) (kt : List kV) : Option (List kR) := cond (k_fit0 S.1 S.2.1 kJ0 kJ1 e) (k_1 S pc kl ((1, e) :: kt)) (k_frJ S pc kl kt)
theorem kNx.frJ {x : Int64} (h : kRS N σ S M) (hM : kMem D M) (hl : kRL E S.1.length σ kl ls) (ht : kRT E S.1.length σ kt st) (hL : k_frJ S pc kl kt = some L) : kNx E N mods D S.1.length σ M L (pc, ls, .long x :: st, M) := by
  cases hL
  obtain ⟨τ, t1, t2, t3, t4, t5⟩ := k_new_ok h (x := x.toInt) (lo := kJ0) (hi := kJ1) (kJ_rng x).1 (kJ_rng x).2
  exact ⟨_, List.mem_singleton.mpr rfl, τ, t1, t2, t3, rfl, hl.agr t1 t2, ⟨⟨t5, x, rfl, t4.symm⟩, ht.agr t1 t2⟩, kSame.rf, hM⟩
theorem kNx.lng {x : Int64} {e : kE} (h : kRS N σ S M) (hM : kMem D M) (hl : kRL E S.1.length σ kl ls) (ht : kRT E S.1.length σ kt st) (hs : kSc S.1.length e) (hx : x.toInt = k_ev σ e) (hL : k_1 S pc kl ((1, e) :: kt) = some L) : kNx E N mods D S.1.length σ M L (pc, ls, .long x :: st, M) :=
  kNx.one (kt := (1, e) :: kt) (st := .long x :: st) h hM hl ⟨⟨hs, x, rfl, hx⟩, ht⟩ hL
theorem kNx.lnJ {e : kE} {x : Int64} (h : kRS N σ S M) (hM : kMem D M) (hl : kRL E S.1.length σ kl ls) (ht : kRT E S.1.length σ kt st) (hs : kSc S.1.length e) (hx : kJ0 ≤ k_ev σ e → k_ev σ e ≤ kJ1 → x.toInt = k_ev σ e) (hL : k_lnJ S e pc kl kt = some L) : kNx E N mods D S.1.length σ M L (pc, ls, .long x :: st, M) := by
  unfold k_lnJ at hL
  cases hf : k_fit0 S.1 S.2.1 kJ0 kJ1 e with
  | true =>
    rw [hf, cond_true] at hL
    have := k_fit0_ok h.2.1 h.2.2.1 hf
    exact kNx.lng h hM hl ht hs (hx this.1 this.2) hL
  | false =>
    rw [hf, cond_false] at hL
    exact kNx.frJ h hM hl ht hL
theorem kJ_bmod {z : Int} (h1 : kJ0 ≤ z) (h2 : z ≤ kJ1) : z.bmod 18446744073709551616 = z := by
  unfold kJ0 at h1
  unfold kJ1 at h2
  rw [Int.bmod_def]
  omega
/-- a word with one value is a number -/
def k_nvv (b : kB) (q : kV) : kV := (q.1, cond (Nat.ble q.1 1) (k_nv b q.2) q.2)
theorem kRV.nvv {n : Nat} {b : kB} {q : kV} {v : Value} (hb : kBd σ b) (h : kRV E n σ q v) : kRV E n σ (k_nvv b q) v := by
  obtain ⟨k, e⟩ := q
  unfold k_nvv
  simp only
  cases hk : Nat.ble k 1 with
  | false => exact h
  | true =>
    rw [cond_true]
    refine ⟨k_nv_sc h.1, ?_⟩
    have h2 := h.2
    unfold kVal at h2 ⊢
    simp only [k_nv_ok hb]
    exact h2
theorem kNx.cst {x : Int32} {z : Int} (h : kRS N σ S M) (hM : kMem D M) (hl : kRL E S.1.length σ kl ls) (ht : kRT E S.1.length σ kt st) (hz : x.toInt = z) (hL : k_1 S pc kl ((0, kc z) :: kt) = some L) : kNx E N mods D S.1.length σ M L (pc, ls, .int x :: st, M) :=
  kNx.one (kt := (0, kc z) :: kt) (st := .int x :: st) h hM hl ⟨⟨kSc_c, x, rfl, by rw [k_ev_c]; exact hz⟩, ht⟩ hL
def k_ld (kd : Nat) (S : kS) (pc : Nat) (kl : kLs) (i : Nat) (kt : List kV) : Option (List kR) := match pm_lk kl i with
  | some q => cond (Nat.beq q.1 kd) (k_1 S pc kl (k_nvv S.1 q :: kt)) none
  | none => none
theorem k_ld_ok {kd : Nat} {ok : Value → Bool} {i : Nat} (hk : ∀ (σ : Nat → Int) (q : kV) (v : Value), kVal E σ q v → q.1 = kd → ok v = true) (h : kRS N σ S M) (hM : kMem D M) (hl : kRL E S.1.length σ kl ls) (ht : kRT E S.1.length σ kt st) (hL : k_ld kd S pc kl i kt = some L) : kTo E N mods D S.1.length σ M L (pm_ld ok pc ls i st M) := by
  unfold k_ld at hL
  split at hL
  · rename_i q hq
    obtain ⟨h1, hL⟩ := pm_cs hL
    obtain ⟨v, hv, hr⟩ := hl i q hq
    refine ⟨(pc, ls, v :: st, M), ?_, kNx.one (kt := k_nvv S.1 q :: kt) (st := v :: st) h hM hl ⟨hr.nvv h.2.1, ht⟩ hL⟩
    unfold pm_ld
    rw [hv]
    simp only [hk σ q v hr.2 (pm_beq h1), cond_true]
    rfl
  · cases hL
theorem kVal.isI {q : kV} {v : Value} (h : kVal E σ q v) (hq : q.1 = 0) : pm_isI v = true := by
  obtain ⟨k, e⟩ := q
  have hq : k = 0 := hq
  subst hq
  obtain ⟨x, rfl, -⟩ := h
  rfl
theorem kVal.isJ {q : kV} {v : Value} (h : kVal E σ q v) (hq : q.1 = 1) : pm_isJ v = true := by
  obtain ⟨k, e⟩ := q
  have hq : k = 1 := hq
  subst hq
  obtain ⟨x, rfl, -⟩ := h
  rfl
theorem kVal.isA {q : kV} {v : Value} (h : kVal E σ q v) (hq : q.1 = 2) : pm_isA E v = true := by
  obtain ⟨k, e⟩ := q
  have hq : k = 2 := hq
  subst hq
  obtain ⟨n, rfl, -, h3⟩ := h
  exact Nat.ble_eq_true_of_le h3
def k_st1 (kd : Nat) (S : kS) (nL pc : Nat) (kl : kLs) (i : Nat) (kt : List kV) : Option (List kR) := match kt with
  | q :: t => cond (Nat.beq q.1 kd && Nat.blt i nL) (k_1 S pc (k_s1 kl i q) t) none
  | [] => none
theorem k_st1_ok {kd nL : Nat} {ok : Value → Bool} {i : Nat} (hk : ∀ (σ : Nat → Int) (q : kV) (v : Value), kVal E σ q v → q.1 = kd → ok v = true) (h : kRS N σ S M) (hM : kMem D M) (hl : kRL E S.1.length σ kl ls) (ht : kRT E S.1.length σ kt st) (hL : k_st1 kd S nL pc kl i kt = some L) : kTo E N mods D S.1.length σ M L (pm_sto1 ok nL pc ls i st M) := by
  unfold k_st1 at hL
  split at hL
  · rename_i q t
    obtain ⟨h1, hL⟩ := pm_cs hL
    obtain ⟨h1, h2⟩ := Bool.and_eq_true_iff.mp h1
    obtain ⟨v, r, rfl, hr, ht⟩ := ht.cons
    refine ⟨(pc, pm_s1 ls i v, r, M), ?_, kNx.one h hM (hl.s1 hr) ht hL⟩
    unfold pm_sto1
    simp only [hk σ q v hr.2 (pm_beq h1), h2, Bool.and_true, cond_true]
    rfl
  · cases hL
def k_st2 (S : kS) (nL pc : Nat) (kl : kLs) (i : Nat) (kt : List kV) : Option (List kR) := match kt with
  | q :: t => cond (Nat.beq q.1 1 && Nat.blt (i + 1) nL) (k_1 S pc (k_s2 kl i q) t) none
  | [] => none
theorem k_st2_ok {nL i : Nat} (h : kRS N σ S M) (hM : kMem D M) (hl : kRL E S.1.length σ kl ls) (ht : kRT E S.1.length σ kt st) (hL : k_st2 S nL pc kl i kt = some L) : kTo E N mods D S.1.length σ M L (pm_sto2 nL pc ls i st M) := by
  unfold k_st2 at hL
  split at hL
  · rename_i q t
    obtain ⟨h1, hL⟩ := pm_cs hL
    obtain ⟨h1, h2⟩ := Bool.and_eq_true_iff.mp h1
    obtain ⟨v, r, rfl, hr, ht⟩ := ht.cons
    refine ⟨(pc, pm_s2 ls i v, r, M), ?_, kNx.one h hM (hl.s2 hr) ht hL⟩
    unfold pm_sto2
    simp only [hr.2.isJ (pm_beq h1), h2, Bool.and_true, cond_true]
    rfl
  · cases hL
def k_iinc (S : kS) (j : Nat) (k : Int) (pc : Nat) (kl : kLs) (kt : List kV) : Option (List kR) := match pm_lk kl j with
  | some (0, e) => cond (decide ((Int32.ofInt k).toInt = k) && k_fit0 S.1 S.2.1 kI0 kI1 (k_add (k_nv S.1 e) (kc k))) (k_1 S (pc + 3) (k_s1 kl j (0, k_add (k_nv S.1 e) (kc k))) kt) (some [((k_new S kI0 kI1).2, pc + 3, k_s1 kl j (0, (k_new S kI0 kI1).1), kt)])
  | _ => none
theorem k_iinc_ok {j : Nat} {k : Int} (h : kRS N σ S M) (hM : kMem D M) (hl : kRL E S.1.length σ kl ls) (ht : kRT E S.1.length σ kt st) (hL : k_iinc S j k pc kl kt = some L) : kTo E N mods D S.1.length σ M L (pm_iinc j k pc ls st M) := by
  unfold k_iinc at hL
  split at hL
  · rename_i e hq
    obtain ⟨v, hv, hr⟩ := hl j _ hq
    obtain ⟨hs, x, rfl, hx⟩ := hr
    refine ⟨(pc + 3, pm_s1 ls j (.int (x + Int32.ofInt k)), st, M), ?_, ?_⟩
    · unfold pm_iinc
      rw [hv]
      rfl
    · cases hc : (decide ((Int32.ofInt k).toInt = k) && k_fit0 S.1 S.2.1 kI0 kI1 (k_add (k_nv S.1 e) (kc k))) with
      | true =>
        rw [hc, cond_true] at hL
        simp only [Bool.and_eq_true, decide_eq_true_eq] at hc
        have hf := k_fit0_ok h.2.1 h.2.2.1 hc.2
        rw [k_ev_add, k_ev_c, k_nv_ok h.2.1] at hf
        have hx : x.toInt = k_ev σ e := hx
        refine kNx.one h hM (hl.s1 (q := (0, k_add (k_nv S.1 e) (kc k))) (v := .int (x + Int32.ofInt k)) ⟨kSc_add (k_nv_sc hs) kSc_c, _, rfl, ?_⟩) ht hL
        show (x + Int32.ofInt k).toInt = k_ev σ (k_add (k_nv S.1 e) (kc k))
        rw [k_ev_add, k_ev_c, k_nv_ok h.2.1, kI_add (by rw [hc.1, hx]; exact hf.1) (by rw [hc.1, hx]; exact hf.2), hc.1, hx]
      | false =>
        rw [hc, cond_false] at hL
        cases hL
        obtain ⟨τ, t1, t2, t3, t4, t5⟩ := k_new_ok h (x := (x + Int32.ofInt k).toInt) (kI_rng _).1 (kI_rng _).2
        exact ⟨_, List.mem_singleton.mpr rfl, τ, t1, t2, t3, rfl, (hl.agr t1 t2).s1 ⟨t5, _, rfl, t4.symm⟩, ht.agr t1 t2, kSame.rf, hM⟩
  · cases hL
theorem kVal.cat1 {q : kV} {v : Value} (h : kVal E σ q v) : Nat.beq v.category 1 = !(Nat.beq q.1 1) := by
  obtain ⟨k, e⟩ := q
  unfold kVal at h
  match k, h with
  | 0, h =>
    obtain ⟨x, rfl, -⟩ := h
    rfl
  | 1, h =>
    obtain ⟨x, rfl, -⟩ := h
    rfl
  | 2, h =>
    obtain ⟨x, rfl, -⟩ := h
    rfl
  | k + 3, h =>
    obtain ⟨x, rfl⟩ := h
    rfl
theorem kVal.cat2 {q : kV} {v : Value} (h : kVal E σ q v) : Nat.beq v.category 2 = Nat.beq q.1 1 := by
  obtain ⟨k, e⟩ := q
  unfold kVal at h
  match k, h with
  | 0, h =>
    obtain ⟨x, rfl, -⟩ := h
    rfl
  | 1, h =>
    obtain ⟨x, rfl, -⟩ := h
    rfl
  | 2, h =>
    obtain ⟨x, rfl, -⟩ := h
    rfl
  | k + 3, h =>
    obtain ⟨x, rfl⟩ := h
    rfl
def k_pop (S : kS) (pc : Nat) (kl : kLs) (kt : List kV) : Option (List kR) := match kt with
  | q :: t => cond (!(Nat.beq q.1 1)) (k_1 S (pc + 1) kl t) none
  | _ => none
theorem k_pop_ok (h : kRS N σ S M) (hM : kMem D M) (hl : kRL E S.1.length σ kl ls) (ht : kRT E S.1.length σ kt st) (hL : k_pop S pc kl kt = some L) : kTo E N mods D S.1.length σ M L (pm_pop pc ls st M) := by
  unfold k_pop at hL
  split at hL
  · rename_i q t
    obtain ⟨h1, hL⟩ := pm_cs hL
    obtain ⟨v, r, rfl, hr, ht⟩ := ht.cons
    refine ⟨(pc + 1, ls, r, M), ?_, kNx.one h hM hl ht hL⟩
    unfold pm_pop
    simp only [hr.2.cat1, h1, cond_true]
    rfl
  · cases hL
def k_dup (S : kS) (pc : Nat) (kl : kLs) (kt : List kV) : Option (List kR) := match kt with
  | q :: t => cond (!(Nat.beq q.1 1)) (k_1 S (pc + 1) kl (q :: q :: t)) none
  | _ => none
theorem k_dup_ok (h : kRS N σ S M) (hM : kMem D M) (hl : kRL E S.1.length σ kl ls) (ht : kRT E S.1.length σ kt st) (hL : k_dup S pc kl kt = some L) : kTo E N mods D S.1.length σ M L (pm_dup pc ls st M) := by
  unfold k_dup at hL
  split at hL
  · rename_i q t
    obtain ⟨h1, hL⟩ := pm_cs hL
    obtain ⟨v, r, rfl, hr, ht⟩ := ht.cons
    refine ⟨(pc + 1, ls, v :: v :: r, M), ?_, kNx.one (kt := q :: q :: t) (st := v :: v :: r) h hM hl ⟨hr, hr, ht⟩ hL⟩
    unfold pm_dup
    simp only [hr.2.cat1, h1, cond_true]
    rfl
  · cases hL
def k_dupx (S : kS) (pc : Nat) (kl : kLs) (kt : List kV) : Option (List kR) := match kt with
  | q :: p :: t => cond (!(Nat.beq q.1 1) && !(Nat.beq p.1 1)) (k_1 S (pc + 1) kl (q :: p :: q :: t)) none
  | _ => none
theorem k_dupx_ok (h : kRS N σ S M) (hM : kMem D M) (hl : kRL E S.1.length σ kl ls) (ht : kRT E S.1.length σ kt st) (hL : k_dupx S pc kl kt = some L) : kTo E N mods D S.1.length σ M L (pm_dupx pc ls st M) := by
  unfold k_dupx at hL
  split at hL
  · rename_i q p t
    obtain ⟨h1, hL⟩ := pm_cs hL
    obtain ⟨v, r, rfl, hr, ht⟩ := ht.cons
    obtain ⟨w, r, rfl, hw, ht⟩ := ht.cons
    refine ⟨(pc + 1, ls, v :: w :: v :: r, M), ?_, kNx.one (kt := q :: p :: q :: t) (st := v :: w :: v :: r) h hM hl ⟨hr, hw, hr, ht⟩ hL⟩
    unfold pm_dupx
    simp only [hr.2.cat1, hw.2.cat1, h1, cond_true]
    rfl
  · cases hL
def k_dup2 (S : kS) (pc : Nat) (kl : kLs) (kt : List kV) : Option (List kR) := match kt with
  | q :: t => cond (Nat.beq q.1 1) (k_1 S (pc + 1) kl (q :: q :: t)) (match t with
    | p :: t => cond (!(Nat.beq q.1 1) && !(Nat.beq p.1 1)) (k_1 S (pc + 1) kl (q :: p :: q :: p :: t)) none
    | _ => none)
  | _ => none
theorem k_dup2_ok (h : kRS N σ S M) (hM : kMem D M) (hl : kRL E S.1.length σ kl ls) (ht : kRT E S.1.length σ kt st) (hL : k_dup2 S pc kl kt = some L) : kTo E N mods D S.1.length σ M L (pm_dup2 pc ls st M) := by
  unfold k_dup2 at hL
  match kt, hL, ht with
  | [], hL, _ => cases hL
  | q :: t, hL, ht =>
    obtain ⟨v, r, rfl, hr, ht1⟩ := ht.cons
    cases hc : Nat.beq q.1 1 with
    | true =>
      simp only [hc, cond_true] at hL
      refine ⟨(pc + 1, ls, v :: v :: r, M), ?_, kNx.one (kt := q :: q :: t) (st := v :: v :: r) h hM hl ⟨hr, hr, ht1⟩ hL⟩
      unfold pm_dup2
      simp only [hr.2.cat2, hc, cond_true]
      rfl
    | false =>
      simp only [hc, cond_false] at hL
      match t, hL, ht1 with
      | [], hL, _ => cases hL
      | p :: t, hL, ht1 =>
        obtain ⟨h1, hL⟩ := pm_cs hL
        obtain ⟨w, r, rfl, hw, ht2⟩ := ht1.cons
        refine ⟨(pc + 1, ls, v :: w :: v :: w :: r, M), ?_, kNx.one (kt := q :: p :: q :: p :: t) (st := v :: w :: v :: w :: r) h hM hl ⟨hr, hw, hr, hw, ht2⟩ hL⟩
        unfold pm_dup2
        simp only [hr.2.cat2, hc, cond_false, hr.2.cat1, hw.2.cat1, h1, cond_true]
        rfl
/-! longs -/
def k_bj (g : kE → kE → List kV → Option (List kR)) (kt : List kV) : Option (List kR) := match kt with
  | (1, y) :: (1, x) :: t => g x y t
  | _ => none
theorem k_bj_ok {g : kE → kE → List kV → Option (List kR)} {n : Nat} (ht : kRT E n σ kt st) (h : k_bj g kt = some L) : ∃ (ex ey : kE) (t : List kV) (x y : Int64) (r : List Value), st = .long y :: .long x :: r ∧ kSc n ex ∧ kSc n ey ∧ x.toInt = k_ev σ ex ∧ y.toInt = k_ev σ ey ∧ kRT E n σ t r ∧ g ex ey t = some L := by
  unfold k_bj at h
  split at h
  · obtain ⟨y, r, rfl, s1, e1, ht1⟩ := ht.lng
    obtain ⟨x, r, rfl, s2, e2, ht2⟩ := ht1.lng
    exact ⟨_, _, _, x, y, r, rfl, s2, s1, e2, e1, ht2, h⟩
  · cases h
def k_ll (S : kS) (pc : Nat) (kl : kLs) (kt : List kV) : Option (List kR) := k_bj (fun _ _ t => k_frJ S (pc + 1) kl t) kt
theorem k_ll_ok {f : Int64 → Int64 → Int64} (h : kRS N σ S M) (hM : kMem D M) (hl : kRL E S.1.length σ kl ls) (ht : kRT E S.1.length σ kt st) (hL : k_ll S pc kl kt = some L) : kTo E N mods D S.1.length σ M L (pm_l2 f pc ls st M) := by
  obtain ⟨ex, ey, t, x, y, r, rfl, s1, s2, e1, e2, ht2, hL⟩ := k_bj_ok ht hL
  exact ⟨_, rfl, kNx.frJ h hM hl ht2 hL⟩
def k_ladd (S : kS) (pc : Nat) (kl : kLs) (kt : List kV) : Option (List kR) := k_bj (fun x y t => k_lnJ S (k_add x y) (pc + 1) kl t) kt
def k_lsub (S : kS) (pc : Nat) (kl : kLs) (kt : List kV) : Option (List kR) := k_bj (fun x y t => k_lnJ S (k_sub x y) (pc + 1) kl t) kt
def k_lmul (S : kS) (pc : Nat) (kl : kLs) (kt : List kV) : Option (List kR) := k_bj (fun x y t => cond (k_cst x) (k_lnJ S (k_mul x.1 y) (pc + 1) kl t) (cond (k_cst y) (k_lnJ S (k_mul y.1 x) (pc + 1) kl t) (k_frJ S (pc + 1) kl t))) kt
theorem k_ladd_ok (h : kRS N σ S M) (hM : kMem D M) (hl : kRL E S.1.length σ kl ls) (ht : kRT E S.1.length σ kt st) (hL : k_ladd S pc kl kt = some L) : kTo E N mods D S.1.length σ M L (pm_l2 (fun x y => x + y) pc ls st M) := by
  obtain ⟨ex, ey, t, x, y, r, rfl, s1, s2, e1, e2, ht2, hL⟩ := k_bj_ok ht hL
  refine ⟨_, rfl, kNx.lnJ h hM hl ht2 (kSc_add s1 s2) (fun h1 h2 => ?_) hL⟩
  rw [k_ev_add, ← e1, ← e2] at h1 h2 ⊢
  rw [Int64.toInt_add]
  exact kJ_bmod h1 h2
theorem k_lsub_ok (h : kRS N σ S M) (hM : kMem D M) (hl : kRL E S.1.length σ kl ls) (ht : kRT E S.1.length σ kt st) (hL : k_lsub S pc kl kt = some L) : kTo E N mods D S.1.length σ M L (pm_l2 (fun x y => x - y) pc ls st M) := by
  obtain ⟨ex, ey, t, x, y, r, rfl, s1, s2, e1, e2, ht2, hL⟩ := k_bj_ok ht hL
  refine ⟨_, rfl, kNx.lnJ h hM hl ht2 (kSc_sub s1 s2) (fun h1 h2 => ?_) hL⟩
  rw [k_ev_sub, ← e1, ← e2] at h1 h2 ⊢
  rw [Int64.toInt_sub]
  exact kJ_bmod h1 h2
theorem k_lmul_ok (h : kRS N σ S M) (hM : kMem D M) (hl : kRL E S.1.length σ kl ls) (ht : kRT E S.1.length σ kt st) (hL : k_lmul S pc kl kt = some L) : kTo E N mods D S.1.length σ M L (pm_l2 (fun x y => x * y) pc ls st M) := by
  obtain ⟨ex, ey, t, x, y, r, rfl, s1, s2, e1, e2, ht2, hL⟩ := k_bj_ok ht hL
  cases c1 : k_cst ex with
  | true =>
    rw [c1, cond_true] at hL
    refine ⟨_, rfl, kNx.lnJ h hM hl ht2 (kSc_mul s2) (fun h1 h2 => ?_) hL⟩
    rw [k_ev_const c1] at e1
    rw [k_ev_mul, ← e1, ← e2] at h1 h2 ⊢
    rw [Int64.toInt_mul]
    exact kJ_bmod h1 h2
  | false =>
    rw [c1, cond_false] at hL
    cases c2 : k_cst ey with
    | true =>
      rw [c2, cond_true] at hL
      refine ⟨_, rfl, kNx.lnJ h hM hl ht2 (kSc_mul s1) (fun h1 h2 => ?_) hL⟩
      rw [k_ev_const c2] at e2
      rw [k_ev_mul, ← e1, ← e2, Int.mul_comm] at h1 h2 ⊢
      rw [Int64.toInt_mul]
      exact kJ_bmod h1 h2
    | false =>
      rw [c2, cond_false] at hL
      exact ⟨_, rfl, kNx.frJ h hM hl ht2 hL⟩
def k_li (S : kS) (pc : Nat) (kl : kLs) (kt : List kV) : Option (List kR) := match kt with
  | (0, _) :: (1, _) :: t => k_frJ S (pc + 1) kl t
  | _ => none
theorem k_li_ok {f : Int64 → Int32 → Int64} (h : kRS N σ S M) (hM : kMem D M) (hl : kRL E S.1.length σ kl ls) (ht : kRT E S.1.length σ kt st) (hL : k_li S pc kl kt = some L) : kTo E N mods D S.1.length σ M L (pm_li f pc ls st M) := by
  unfold k_li at hL
  split at hL
  · obtain ⟨y, r, rfl, -, -, ht1⟩ := ht.int
    obtain ⟨x, r, rfl, -, -, ht2⟩ := ht1.lng
    exact ⟨_, rfl, kNx.frJ h hM hl ht2 hL⟩
  · cases hL
def k_lneg (S : kS) (pc : Nat) (kl : kLs) (kt : List kV) : Option (List kR) := match kt with
  | (1, _) :: t => k_frJ S (pc + 1) kl t
  | _ => none
theorem k_lneg_ok (h : kRS N σ S M) (hM : kMem D M) (hl : kRL E S.1.length σ kl ls) (ht : kRT E S.1.length σ kt st) (hL : k_lneg S pc kl kt = some L) : kTo E N mods D S.1.length σ M L (pm_lneg pc ls st M) := by
  unfold k_lneg at hL
  split at hL
  · obtain ⟨x, r, rfl, -, -, ht1⟩ := ht.lng
    exact ⟨_, rfl, kNx.frJ h hM hl ht1 hL⟩
  · cases hL
def k_lcmp (S : kS) (pc : Nat) (kl : kLs) (kt : List kV) : Option (List kR) := k_bj (fun _ _ t => k_fr S (-1) 1 (pc + 1) kl t) kt
theorem lg_cmp_rng (x y : Int64) : -1 ≤ (lg_cmp x y).toInt ∧ (lg_cmp x y).toInt ≤ 1 := by
  unfold lg_cmp
  split
  · decide
  · split <;> decide
theorem k_lcmp_ok (h : kRS N σ S M) (hM : kMem D M) (hl : kRL E S.1.length σ kl ls) (ht : kRT E S.1.length σ kt st) (hL : k_lcmp S pc kl kt = some L) : kTo E N mods D S.1.length σ M L (pm_lcmp pc ls st M) := by
  obtain ⟨ex, ey, t, x, y, r, rfl, s1, s2, e1, e2, ht2, hL⟩ := k_bj_ok ht hL
  exact ⟨_, rfl, kNx.fr h hM hl ht2 (lg_cmp_rng x y).1 (lg_cmp_rng x y).2 hL⟩
def k_i2l (S : kS) (pc : Nat) (kl : kLs) (kt : List kV) : Option (List kR) := match kt with
  | (0, e) :: t => k_1 S (pc + 1) kl ((1, e) :: t)
  | _ => none
theorem k_i2l_ok (h : kRS N σ S M) (hM : kMem D M) (hl : kRL E S.1.length σ kl ls) (ht : kRT E S.1.length σ kt st) (hL : k_i2l S pc kl kt = some L) : kTo E N mods D S.1.length σ M L (pm_i2l pc ls st M) := by
  unfold k_i2l at hL
  split at hL
  · obtain ⟨x, r, rfl, s1, e1, ht1⟩ := ht.int
    exact ⟨_, rfl, kNx.lng h hM hl ht1 s1 (by rw [Int32.toInt_toInt64]; exact e1) hL⟩
  · cases hL
def k_l2i (S : kS) (pc : Nat) (kl : kLs) (kt : List kV) : Option (List kR) := match kt with
  | (1, e) :: t => cond (k_fit0 S.1 S.2.1 kI0 kI1 e) (k_1 S (pc + 1) kl ((0, e) :: t)) (k_fr S kI0 kI1 (pc + 1) kl t)
  | _ => none
theorem k_l2i_ok (h : kRS N σ S M) (hM : kMem D M) (hl : kRL E S.1.length σ kl ls) (ht : kRT E S.1.length σ kt st) (hL : k_l2i S pc kl kt = some L) : kTo E N mods D S.1.length σ M L (pm_l2i pc ls st M) := by
  unfold k_l2i at hL
  split at hL
  · rename_i e t
    obtain ⟨x, r, rfl, s1, e1, ht1⟩ := ht.lng
    cases hf : k_fit0 S.1 S.2.1 kI0 kI1 e with
    | true =>
      rw [hf, cond_true] at hL
      have h2 := k_fit0_ok h.2.1 h.2.2.1 hf
      refine ⟨_, rfl, kNx.one (kt := (0, e) :: t) (st := .int x.toInt32 :: r) h hM hl ⟨⟨s1, _, rfl, ?_⟩, ht1⟩ hL⟩
      show x.toInt32.toInt = k_ev σ e
      rw [Int64.toInt_toInt32, e1]
      exact kI_bmod h2.1 h2.2
    | false =>
      rw [hf, cond_false] at hL
      exact ⟨_, rfl, kNx.fr h hM hl ht1 (kI_rng _).1 (kI_rng _).2 hL⟩
  · cases hL
theorem kL_1 : (1 : Int32).toInt = 1 ∧ (0 : Int32).toInt = 0 ∧ (-1 : Int32).toInt = -1 := by decide
theorem kL_sub {x y : Int64} : (x.toInt - y.toInt < 0 ↔ (lg_cmp x y).toInt = -1) ∧ (x.toInt - y.toInt = 0 ↔ (lg_cmp x y).toInt = 0) := by
  unfold lg_cmp
  obtain ⟨k1, k2, k3⟩ := kL_1
  have h1 : x > y ↔ y.toInt < x.toInt := Int64.lt_iff_toInt_lt
  have h2 : x = y ↔ x.toInt = y.toInt := Int64.toInt_inj.symm
  by_cases g : x > y
  · rw [if_pos g, k1]
    have := h1.mp g
    omega
  · rw [if_neg g]
    have g1 : ¬ y.toInt < x.toInt := fun h => g (h1.mpr h)
    by_cases e : x = y
    · rw [if_pos e, k2]
      have := h2.mp e
      omega
    · rw [if_neg e, k3]
      have e1 : ¬ x.toInt = y.toInt := fun h => e (h2.mpr h)
      omega
theorem kL_c {c : ClassFile.Cond} {x y : Int64} : k_cT c (lg_cmp x y).toInt ↔ k_cT c (x.toInt - y.toInt) := by
  obtain ⟨h1, h2⟩ := kL_sub (x := x) (y := y)
  have h3 := lg_cmp_rng x y
  cases c <;> simp only [k_cT] <;> omega
/-! jumps -/
def k_br (S : kS) (c : ClassFile.Cond) (d : kE) (tgt nx : Nat) (kl : kLs) (kt : List kV) : List kR := (match k_cn S c d with
    | some T => [(T, tgt, kl, kt)]
    | none => []) ++ (match k_cn S (k_ng c) d with
    | some T => [(T, nx, kl, kt)]
    | none => [])
theorem k_br_ok {c : ClassFile.Cond} {d : kE} {tgt nx : Nat} {b : Bool} (h : kRS N σ S M) (hM : kMem D M) (hl : kRL E S.1.length σ kl ls) (ht : kRT E S.1.length σ kt st) (hs : kSc S.1.length d) (hb : b = true ↔ k_cT c (k_ev σ d)) : kNx E N mods D S.1.length σ M (k_br S c d tgt nx kl kt) (cond b tgt nx, ls, st, M) := by
  cases b with
  | true =>
    obtain ⟨T, h1, h2, h3⟩ := k_cn_ok h hs (hb.mp rfl)
    refine ⟨(T, tgt, kl, kt), ?_, σ, fun _ _ => rfl, by rw [h2]; exact Nat.le_refl _, h3, rfl, by rw [h2]; exact hl, by rw [h2]; exact ht, kSame.rf, hM⟩
    unfold k_br
    rw [h1]
    exact List.mem_append_left _ (List.mem_singleton.mpr rfl)
  | false =>
    obtain ⟨T, h1, h2, h3⟩ := k_cn_ok h hs (c := k_ng c) (k_ng_T (fun q => by have := hb.mpr q; cases this))
    refine ⟨(T, nx, kl, kt), ?_, σ, fun _ _ => rfl, by rw [h2]; exact Nat.le_refl _, h3, rfl, by rw [h2]; exact hl, by rw [h2]; exact ht, kSame.rf, hM⟩
    unfold k_br
    rw [h1]
    exact List.mem_append_right _ (List.mem_singleton.mpr rfl)
theorem kI_c2 {c : ClassFile.Cond} {x y : Int32} : pm_c2 c x y = true ↔ k_cT c (x.toInt - y.toInt) := by
  cases c <;> simp only [pm_c2, k_cT, decide_eq_true_eq, Bool.not_eq_true', decide_eq_false_iff_not, Int32.lt_iff_toInt_lt, Int32.le_iff_toInt_le, ← Int32.toInt_inj] <;> omega
theorem kI_c0 {c : ClassFile.Cond} {x : Int32} : pm_c0 c x = true ↔ k_cT c x.toInt := by
  cases c <;> simp only [pm_c0, k_cT, decide_eq_true_eq, Bool.not_eq_true', decide_eq_false_iff_not, Int32.lt_iff_toInt_lt, Int32.le_iff_toInt_le, ← Int32.toInt_inj, Int32.toInt_zero]
def k_if0 (S : kS) (c : ClassFile.Cond) (off : Int) (pc : Nat) (kl : kLs) (kt : List kV) : Option (List kR) := k_un (fun x t => some (k_br S c x ((pc : Int) + off).toNat (pc + 3) kl t)) kt
theorem k_if0_ok {c : ClassFile.Cond} {off : Int} (h : kRS N σ S M) (hM : kMem D M) (hl : kRL E S.1.length σ kl ls) (ht : kRT E S.1.length σ kt st) (hL : k_if0 S c off pc kl kt = some L) : kTo E N mods D S.1.length σ M L (pm_if0 c off pc ls st M) := by
  obtain ⟨ex, t, x, r, rfl, s1, e1, hr, hg⟩ := k_un_ok ht hL
  cases hg
  refine ⟨(cond (pm_c0 c x) ((pc : Int) + off).toNat (pc + 3), ls, r, M), ?_, k_br_ok h hM hl hr s1 (by rw [← e1]; exact kI_c0)⟩
  unfold pm_if0
  simp only
  cases pm_c0 c x <;> rfl
def k_if2 (S : kS) (c : ClassFile.Cond) (off : Int) (pc : Nat) (kl : kLs) (kt : List kV) : Option (List kR) := k_bi (fun x y t => some (k_br S c (k_sub x y) ((pc : Int) + off).toNat (pc + 3) kl t)) kt
theorem k_if2_ok {c : ClassFile.Cond} {off : Int} (h : kRS N σ S M) (hM : kMem D M) (hl : kRL E S.1.length σ kl ls) (ht : kRT E S.1.length σ kt st) (hL : k_if2 S c off pc kl kt = some L) : kTo E N mods D S.1.length σ M L (pm_if2 c off pc ls st M) := by
  obtain ⟨ex, ey, t, x, y, r, rfl, s1, s2, e1, e2, hr, hg⟩ := k_bi_ok ht hL
  cases hg
  refine ⟨(cond (pm_c2 c x y) ((pc : Int) + off).toNat (pc + 3), ls, r, M), ?_, k_br_ok h hM hl hr (kSc_sub s1 s2) (by rw [k_ev_sub, ← e1, ← e2]; exact kI_c2)⟩
  unfold pm_if2
  simp only
  cases pm_c2 c x y <;> rfl
end KFL
end
