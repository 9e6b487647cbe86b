noncomputable section
/-! the tape's text: what the rules say -/
theorem kClp_eq {lo hi x : Int} (h1 : lo ≤ x) (h2 : x ≤ hi) : kClp lo hi x = x := by
  unfold kClp
  rw [if_neg (by omega), if_neg (by omega)]
theorem kClp_rg {lo hi : Int} (h : lo ≤ hi) (x : Int) : lo ≤ kClp lo hi x ∧ kClp lo hi x ≤ hi := by
  unfold kClp
  split
  · omega
  · split <;> omega
theorem kcd {α : Type} (b : Bool) (x y : α) : cond b x y = if b = true then x else y := by cases b <;> rfl
section KTX
variable {T : kTx} {z : Bool} {ws : List Int} {p : Nat}
theorem kBv_0 (hp : p ≤ 400) (h : (kBs T z ws p).1 = 0) : kBv T z ws p = kBc z p ((kBs T z ws p).2.getD 0 0) := by
  unfold kBv
  rw [show 401 - p = (400 - p) + 1 by omega]
  show cond (Nat.beq (kBs T z ws p).1 0) _ _ = _
  rw [h]
  rfl
theorem kBv_1 (hp : p ≤ 400) (h : (kBs T z ws p).1 ≠ 0) : kBv T z ws p = kBv T z (kBs T z ws p).2 (p + 1) := by
  unfold kBv
  rw [show 401 - p = (401 - (p + 1)) + 1 by omega]
  show cond (Nat.beq (kBs T z ws p).1 0) _ _ = _
  rw [k_beqf h]
  rfl
theorem kBv_s0 {l : List Int} (hp : p ≤ 400) (h : kBs T z ws p = (0, l)) : kBv T z ws p = kBc z p (l.getD 0 0) := by
  have e := kBv_0 (T := T) (z := z) (ws := ws) (p := p) hp (by rw [h])
  rw [h] at e
  exact e
theorem kBv_s1 {l : List Int} (hp : p ≤ 400) (h : kBs T z ws p = (1, l)) : kBv T z ws p = kBv T z l (p + 1) := by
  have e := kBv_1 (T := T) (z := z) (ws := ws) (p := p) hp (by rw [h]; show (1 : Nat) ≠ 0; omega)
  rw [h] at e
  exact e
theorem kBr_pl : ∀ (f : Nat) (ws : List Int) (p : Nat), p + f = 401 → kBr T true f ws p ≤ 400 ∧ ((p : Int) ≤ kBr T true f ws p ∨ p = 401)
  | 0, ws, p, h => ⟨by show (400 : Int) ≤ 400; omega, Or.inr (by omega)⟩
  | f + 1, ws, p, h => by
    show cond (Nat.beq (kBs T true ws p).1 0) (kClp (p : Int) 400 ((kBs T true ws p).2.getD 0 0)) (kBr T true f (kBs T true ws p).2 (p + 1)) ≤ 400 ∧ ((p : Int) ≤ cond (Nat.beq (kBs T true ws p).1 0) (kClp (p : Int) 400 ((kBs T true ws p).2.getD 0 0)) (kBr T true f (kBs T true ws p).2 (p + 1)) ∨ p = 401)
    cases Nat.beq (kBs T true ws p).1 0 with
    | true =>
      have := kClp_rg (lo := (p : Int)) (hi := 400) (by omega) ((kBs T true ws p).2.getD 0 0)
      exact ⟨this.2, Or.inl this.1⟩
    | false =>
      obtain ⟨h1, h2⟩ := kBr_pl f (kBs T true ws p).2 (p + 1) (by omega)
      refine ⟨h1, Or.inl ?_⟩
      rcases h2 with h2 | h2
      · show (p : Int) ≤ kBr T true f (kBs T true ws p).2 (p + 1)
        omega
      · have : f = 0 := by omega
        subst this
        show (p : Int) ≤ 400
        omega
theorem kBv_pl (ws : List Int) (hp : p ≤ 400) : (p : Int) ≤ kBv T true ws p ∧ kBv T true ws p ≤ 400 := by
  obtain ⟨h1, h2⟩ := kBr_pl (T := T) (401 - p) ws p (by omega)
  refine ⟨?_, h1⟩
  rcases h2 with h2 | h2
  · exact h2
  · omega
theorem kBr_vl : ∀ (f : Nat) (ws : List Int) (p : Nat), -1 ≤ kBr T false f ws p ∧ kBr T false f ws p ≤ 549755813888
  | 0, _, _ => ⟨by show (-1 : Int) ≤ 0; omega, by show (0 : Int) ≤ 549755813888; omega⟩
  | f + 1, ws, p => by
    show -1 ≤ cond (Nat.beq (kBs T false ws p).1 0) (kClp (-1) 549755813888 ((kBs T false ws p).2.getD 0 0)) (kBr T false f (kBs T false ws p).2 (p + 1)) ∧ cond (Nat.beq (kBs T false ws p).1 0) (kClp (-1) 549755813888 ((kBs T false ws p).2.getD 0 0)) (kBr T false f (kBs T false ws p).2 (p + 1)) ≤ 549755813888
    cases Nat.beq (kBs T false ws p).1 0 with
    | true => exact kClp_rg (by omega) _
    | false => exact kBr_vl f _ _
theorem kMr_up : ∀ (f : Nat) {ws : List Int} {p : Nat} {v : Int}, kMr T f ws p = some v → kMr T (f + 1) ws p = some v
  | 0, _, _, _, h => by cases h
  | f + 1, ws, p, v, h => by
    have h : cond (Nat.beq (kMs T ws p).1 0) (some (kClp (-1) 400 ((kMs T ws p).2.getD 0 0))) (kMr T f (kMs T ws p).2 (cond (Nat.beq (kMs T ws p).1 1) (kMn T p) p)) = some v := h
    show cond (Nat.beq (kMs T ws p).1 0) (some (kClp (-1) 400 ((kMs T ws p).2.getD 0 0))) (kMr T (f + 1) (kMs T ws p).2 (cond (Nat.beq (kMs T ws p).1 1) (kMn T p) p)) = some v
    cases hb : Nat.beq (kMs T ws p).1 0 with
    | true =>
      rw [hb] at h
      exact h
    | false =>
      rw [hb] at h
      exact kMr_up f h
theorem kMr_le {f : Nat} {v : Int} (h : kMr T f ws p = some v) : ∀ k : Nat, kMr T (f + k) ws p = some v
  | 0 => h
  | k + 1 => kMr_up (f + k) (kMr_le h k)
theorem kMr_uq {f g : Nat} {v w : Int} (h1 : kMr T f ws p = some v) (h2 : kMr T g ws p = some w) : v = w := by
  have a := kMr_le h1 g
  have b := kMr_le h2 f
  rw [Nat.add_comm, b] at a
  exact (Option.some.inj a).symm
theorem kMv_of {f : Nat} {v : Int} (h : kMr T f ws p = some v) : kMv T ws p = v := by
  rcases kMv_sp T ws p with ⟨g, hg⟩ | ⟨hn, -⟩
  · exact kMr_uq hg h
  · rw [hn f] at h
    cases h
theorem kMv_0 (h : (kMs T ws p).1 = 0) : kMv T ws p = kClp (-1) 400 ((kMs T ws p).2.getD 0 0) := by
  refine kMv_of (f := 1) ?_
  show cond (Nat.beq (kMs T ws p).1 0) _ _ = _
  rw [h]
  rfl
theorem kMv_go (h : (kMs T ws p).1 ≠ 0) : kMv T ws p = kMv T (kMs T ws p).2 (cond (Nat.beq (kMs T ws p).1 1) (kMn T p) p) := by
  have st : ∀ f, kMr T (f + 1) ws p = kMr T f (kMs T ws p).2 (cond (Nat.beq (kMs T ws p).1 1) (kMn T p) p) := fun f => by
    show cond (Nat.beq (kMs T ws p).1 0) _ _ = _
    rw [k_beqf h]
    rfl
  rcases kMv_sp T (kMs T ws p).2 (cond (Nat.beq (kMs T ws p).1 1) (kMn T p) p) with ⟨g, hg⟩ | ⟨hn, h0⟩
  · exact kMv_of (f := g + 1) ((st g).trans hg)
  · rw [h0]
    rcases kMv_sp T ws p with ⟨g, hg⟩ | ⟨-, h1⟩
    · cases g with
      | zero => cases hg
      | succ g =>
        rw [st g, hn g] at hg
        cases hg
    · exact h1
theorem kMr_rg : ∀ (f : Nat) {ws : List Int} {p : Nat} {v : Int}, kMr T f ws p = some v → -1 ≤ v ∧ v ≤ 400
  | 0, _, _, _, h => by cases h
  | f + 1, ws, p, v, h => by
    have h : cond (Nat.beq (kMs T ws p).1 0) (some (kClp (-1) 400 ((kMs T ws p).2.getD 0 0))) (kMr T f (kMs T ws p).2 (cond (Nat.beq (kMs T ws p).1 1) (kMn T p) p)) = some v := h
    cases hb : Nat.beq (kMs T ws p).1 0 with
    | true =>
      rw [hb] at h
      rw [← Option.some.inj h]
      exact kClp_rg (by omega) _
    | false =>
      rw [hb] at h
      exact kMr_rg f h
theorem kMv_rg (ws : List Int) (p : Nat) : -1 ≤ kMv T ws p ∧ kMv T ws p ≤ 400 := by
  rcases kMv_sp T ws p with ⟨g, hg⟩ | ⟨-, h0⟩
  · exact kMr_rg g hg
  · omega
/-- one step, of all three kinds -/
def kTs (T : kTx) (i : Nat) (ws : List Int) (p : Nat) : Nat × List Int := cond (Nat.beq i 0) (kBs T true ws p) (cond (Nat.beq i 1) (kBs T false ws p) (kMs T ws p))
def kTc (i p : Nat) (x : Int) : Int := cond (Nat.beq i 0) (kClp (p : Int) 400 x) (cond (Nat.beq i 1) (kClp (-1) 549755813888 x) (kClp (-1) 400 x))
theorem kBc_t {x : Int} : kBc true p x = kClp (p : Int) 400 x := rfl
theorem kBc_f {x : Int} : kBc false p x = kClp (-1) 549755813888 x := rfl
theorem kTc_0 {x : Int} : kTc 0 p x = kClp (p : Int) 400 x := rfl
theorem kTc_1 {x : Int} : kTc 1 p x = kClp (-1) 549755813888 x := rfl
theorem kTc_2 {x : Int} {i : Nat} : kTc (i + 2) p x = kClp (-1) 400 x := rfl
theorem kTs_0 : kTs T 0 ws p = kBs T true ws p := rfl
theorem kTs_1 : kTs T 1 ws p = kBs T false ws p := rfl
theorem kTs_2 {i : Nat} : kTs T (i + 2) ws p = kMs T ws p := rfl
theorem kTV_00 : kTV T 0 ws p = kBv T true ws p := rfl
theorem kTV_11 : kTV T 1 ws p = kBv T false ws p := rfl
theorem kTV_22 {i : Nat} : kTV T (i + 2) ws p = kMv T ws p := rfl
theorem kTV_0 {i : Nat} (hp : p ≤ 400) (h : (kTs T i ws p).1 = 0) : kTV T i ws p = kTc i p ((kTs T i ws p).2.getD 0 0) := by
  match i, h with
  | 0, h =>
    rw [kTs_0] at h ⊢
    rw [kTV_00, kTc_0, kBv_0 hp h, kBc_t]
  | 1, h =>
    rw [kTs_1] at h ⊢
    rw [kTV_11, kTc_1, kBv_0 hp h, kBc_f]
  | i + 2, h =>
    rw [kTs_2] at h ⊢
    rw [kTV_22, kTc_2, kMv_0 h]
theorem kTV_1 {i : Nat} (hp : p ≤ 400) (h : (kTs T i ws p).1 = 1) : kTV T i ws p = kTV T i (kTs T i ws p).2 (cond (Nat.blt i 2) (p + 1) (kMn T p)) := by
  unfold kTs at h
  unfold kTV kTs
  match i, h with
  | 0, h => exact kBv_1 hp (fun e => by rw [show (kBs T true ws p).1 = 1 from h] at e; cases e)
  | 1, h => exact kBv_1 hp (fun e => by rw [show (kBs T false ws p).1 = 1 from h] at e; cases e)
  | i + 2, h =>
    have h : (kMs T ws p).1 = 1 := h
    have := kMv_go (T := T) (ws := ws) (p := p) (by rw [h]; omega)
    rw [h] at this
    exact this
theorem kTV_2 (h : (kTs T 2 ws p).1 = 2) : kTV T 2 ws p = kTV T 2 (kTs T 2 ws p).2 p := by
  have h : (kMs T ws p).1 = 2 := h
  have := kMv_go (T := T) (ws := ws) (p := p) (by rw [h]; omega)
  rw [h] at this
  exact this
theorem kTV_rg {i : Nat} (hp : p ≤ 400) : (cond (Nat.beq i 0) (p : Int) (-1)) ≤ kTV T i ws p ∧ kTV T i ws p ≤ cond (Nat.beq i 1) 549755813888 400 := by
  match i with
  | 0 => exact kBv_pl ws hp
  | 1 => exact kBr_vl _ ws p
  | i + 2 => exact kMv_rg ws p
/-! bytes -/
theorem kBe_4 : kBe T ws p 4 = T.1 p := rfl
theorem kBe_5 : kBe T ws p 5 = (p : Int) := rfl
theorem kBe_6 : kBe T ws p 6 = T.2 := rfl
theorem kBe_1 {a b c d : Int} : kBe T [a, b, c, d] p 1 = b := rfl
theorem kBe_2 {a b c d : Int} : kBe T [a, b, c, d] p 2 = c := rfl
theorem kBe_3 {a b c d : Int} : kBe T [a, b, c, d] p 3 = d := rfl
theorem kB_kind {b c d : Int} : kBs T false [0, b, c, d] p = if T.2 ≤ (p : Int) then (0, [0]) else if 97 ≤ T.1 p ∧ T.1 p ≤ 122 then (0, [1]) else if 48 ≤ T.1 p ∧ T.1 p ≤ 57 then (0, [2]) else (0, [3]) := by
  show kRuv (kBe T [0, b, c, d] p) (0, [0]) kR10 = _
  unfold kR10
  simp only [kRuv, kcd, List.all_cons, List.all_nil, kFt1, if_true, Bool.false_eq_true, if_false, Bool.and_eq_true, decide_eq_true_eq, and_true, List.map_cons, List.map_nil, k_ev, k_evl, kBe_4, kBe_5, kBe_6, Int.add_zero, Int.zero_add]
  (repeat' split) <;> first | rfl | (exfalso; omega)
theorem kB_name {e c d : Int} : kBs T false [1, e, c, d] p = if T.2 ≤ (p : Int) then (0, [0]) else if 97 ≤ T.1 p ∧ T.1 p ≤ 122 then (1, [2, e, 1, T.1 p - 96]) else if 48 ≤ T.1 p ∧ T.1 p ≤ 57 then (1, [3, e, 1, T.1 p - 48]) else (0, [T.1 p]) := by
  show kRuv (kBe T [1, e, c, d] p) (0, [0]) kR11 = _
  unfold kR11
  simp only [kRuv, kcd, List.all_cons, List.all_nil, kFt1, if_true, Bool.false_eq_true, if_false, Bool.and_eq_true, decide_eq_true_eq, and_true, List.map_cons, List.map_nil, k_ev, k_evl, kBe_1, kBe_4, kBe_5, kBe_6, Int.add_zero, Int.zero_add, Int.one_mul]
  (repeat' split) <;> first | rfl | (exfalso; omega) | (rw [show -96 + T.1 p = T.1 p - 96 by omega]) | (rw [show -48 + T.1 p = T.1 p - 48 by omega])
theorem kB_num {e c d : Int} : kBs T false [4, e, c, d] p = if (p : Int) < T.2 ∧ e ≤ (p : Int) + 3 ∧ 48 ≤ T.1 p ∧ T.1 p ≤ 57 then (1, [3, e, 1, T.1 p - 48]) else (0, [-1]) := by
  show kRuv (kBe T [4, e, c, d] p) (0, [0]) kR14 = _
  unfold kR14
  simp only [kRuv, kcd, List.all_cons, List.all_nil, kFt1, if_true, Bool.false_eq_true, if_false, Bool.and_eq_true, decide_eq_true_eq, and_true, List.map_cons, List.map_nil, k_ev, k_evl, kBe_1, kBe_4, kBe_5, kBe_6, Int.add_zero, Int.zero_add, Int.one_mul]
  (repeat' split) <;> first | rfl | (exfalso; omega) | (rw [show -48 + T.1 p = T.1 p - 48 by omega])
theorem kB_dg {e j v : Int} : kBs T false [2, e, j, v] p = if e ≤ (p : Int) ∧ 9 ≤ j then (0, [0]) else if e ≤ (p : Int) then (0, [v]) else if 8 ≤ j then (1, [2, e, 9, 0]) else if T.1 p ≤ 96 then (1, [2, e, 1 + j, 1 + 27 * v]) else if 123 ≤ T.1 p then (1, [2, e, 1 + j, 26 + 27 * v]) else (1, [2, e, 1 + j, -96 + (27 * v + T.1 p)]) := by
  show kRuv (kBe T [2, e, j, v] p) (0, [0]) kR12 = _
  unfold kR12
  simp only [kRuv, kcd, List.all_cons, List.all_nil, kFt1, if_true, Bool.false_eq_true, if_false, Bool.and_eq_true, decide_eq_true_eq, and_true, List.map_cons, List.map_nil, k_ev, k_evl, kBe_1, kBe_2, kBe_3, kBe_4, kBe_5, kBe_6, Int.add_zero, Int.zero_add, Int.one_mul]
  (repeat' split) <;> first | rfl | (exfalso; omega)
theorem kB_dn {e j v : Int} : kBs T false [3, e, j, v] p = if e ≤ (p : Int) then (0, [v]) else if 3 ≤ j then (1, [3, e, 3, v]) else if T.1 p ≤ 47 then (1, [3, e, 1 + j, 10 * v]) else if 58 ≤ T.1 p then (1, [3, e, 1 + j, 9 + 10 * v]) else (1, [3, e, 1 + j, -48 + (10 * v + T.1 p)]) := by
  show kRuv (kBe T [3, e, j, v] p) (0, [0]) kR13 = _
  unfold kR13
  simp only [kRuv, kcd, List.all_cons, List.all_nil, kFt1, if_true, Bool.false_eq_true, if_false, Bool.and_eq_true, decide_eq_true_eq, and_true, List.map_cons, List.map_nil, k_ev, k_evl, kBe_1, kBe_2, kBe_3, kBe_4, kBe_5, kBe_6, Int.add_zero, Int.zero_add, Int.one_mul]
  (repeat' split) <;> first | rfl | (exfalso; omega)
theorem kB_p1 : kBs T true [1] p = if T.2 ≤ (p : Int) then (0, [(p : Int)]) else if 97 ≤ T.1 p ∧ T.1 p ≤ 122 then (1, [2]) else if 48 ≤ T.1 p ∧ T.1 p ≤ 57 then (1, [3]) else (0, [1 + (p : Int)]) := by
  show kRuv (kBe T [1] p) (0, [0]) kR01 = _
  unfold kR01
  simp only [kRuv, kcd, List.all_cons, List.all_nil, kFt1, if_true, Bool.false_eq_true, if_false, Bool.and_eq_true, decide_eq_true_eq, and_true, List.map_cons, List.map_nil, k_ev, k_evl, kBe_4, kBe_5, kBe_6, Int.add_zero, Int.zero_add, Int.one_mul]
  (repeat' split) <;> first | rfl | (exfalso; omega)
theorem kB_p2 : kBs T true [2] p = if (p : Int) < T.2 ∧ 97 ≤ T.1 p ∧ T.1 p ≤ 122 then (1, [2]) else (0, [(p : Int)]) := by
  show kRuv (kBe T [2] p) (0, [0]) kR02 = _
  unfold kR02
  simp only [kRuv, kcd, List.all_cons, List.all_nil, kFt1, if_true, Bool.false_eq_true, if_false, Bool.and_eq_true, decide_eq_true_eq, and_true, List.map_cons, List.map_nil, k_ev, k_evl, kBe_4, kBe_5, kBe_6, Int.add_zero, Int.zero_add, Int.one_mul]
  (repeat' split) <;> first | rfl | (exfalso; omega)
theorem kB_p3 : kBs T true [3] p = if (p : Int) < T.2 ∧ 48 ≤ T.1 p ∧ T.1 p ≤ 57 then (1, [3]) else (0, [(p : Int)]) := by
  show kRuv (kBe T [3] p) (0, [0]) kR03 = _
  unfold kR03
  simp only [kRuv, kcd, List.all_cons, List.all_nil, kFt1, if_true, Bool.false_eq_true, if_false, Bool.and_eq_true, decide_eq_true_eq, and_true, List.map_cons, List.map_nil, k_ev, k_evl, kBe_4, kBe_5, kBe_6, Int.add_zero, Int.zero_add, Int.one_mul]
  (repeat' split) <;> first | rfl | (exfalso; omega)
/-- a token's kind -/
theorem kT_kind (hp : p ≤ 400) {b c d : Int} : (kBv T false [0, b, c, d] p = 0 ∧ T.2 ≤ (p : Int)) ∨ (kBv T false [0, b, c, d] p = 1 ∧ (p : Int) < T.2 ∧ 97 ≤ T.1 p ∧ T.1 p ≤ 122) ∨ (kBv T false [0, b, c, d] p = 2 ∧ (p : Int) < T.2 ∧ 48 ≤ T.1 p ∧ T.1 p ≤ 57) ∨ (kBv T false [0, b, c, d] p = 3 ∧ (p : Int) < T.2 ∧ ¬ (97 ≤ T.1 p ∧ T.1 p ≤ 122) ∧ ¬ (48 ≤ T.1 p ∧ T.1 p ≤ 57)) := by
  have e := kB_kind (T := T) (p := p) (b := b) (c := c) (d := d)
  by_cases h1 : T.2 ≤ (p : Int)
  · rw [if_pos h1] at e
    exact Or.inl ⟨(kBv_s0 hp e).trans (by show kClp (-1) 549755813888 0 = 0; exact kClp_eq (by omega) (by omega)), h1⟩
  · rw [if_neg h1] at e
    by_cases h2 : 97 ≤ T.1 p ∧ T.1 p ≤ 122
    · rw [if_pos h2] at e
      exact Or.inr (Or.inl ⟨(kBv_s0 hp e).trans (by show kClp (-1) 549755813888 1 = 1; exact kClp_eq (by omega) (by omega)), by omega, h2⟩)
    · rw [if_neg h2] at e
      by_cases h3 : 48 ≤ T.1 p ∧ T.1 p ≤ 57
      · rw [if_pos h3] at e
        exact Or.inr (Or.inr (Or.inl ⟨(kBv_s0 hp e).trans (by show kClp (-1) 549755813888 2 = 2; exact kClp_eq (by omega) (by omega)), by omega, h3⟩))
      · rw [if_neg h3] at e
        exact Or.inr (Or.inr (Or.inr ⟨(kBv_s0 hp e).trans (by show kClp (-1) 549755813888 3 = 3; exact kClp_eq (by omega) (by omega)), by omega, h2, h3⟩))
/-- a name ends behind its letter -/
theorem kT_end (hp : p < 400) (h1 : (p : Int) < T.2) (h2 : 97 ≤ T.1 p ∧ T.1 p ≤ 122) : (p : Int) + 1 ≤ kBv T true [1] p := by
  have e := kB_p1 (T := T) (p := p)
  rw [if_neg (by omega), if_pos h2] at e
  rw [kBv_s1 (by omega) e]
  have := (kBv_pl (T := T) (p := p + 1) [2] (by omega)).1
  omega
/-- where a name, a number goes on, its byte is a letter, a digit -/
theorem kT_let (h : (p : Int) + 1 ≤ kBv T true [2] p) : 97 ≤ T.1 p ∧ T.1 p ≤ 122 := by
  by_cases hp : p ≤ 400
  · have e := kB_p2 (T := T) (p := p)
    by_cases h2 : (p : Int) < T.2 ∧ 97 ≤ T.1 p ∧ T.1 p ≤ 122
    · exact h2.2
    · rw [if_neg h2] at e
      rw [kBv_s0 hp e] at h
      have h : (p : Int) + 1 ≤ kClp (p : Int) 400 (p : Int) := h
      rw [kClp_eq (by omega) (by omega)] at h
      omega
  · unfold kBv at h
    rw [show 401 - p = 0 by omega] at h
    have h : (p : Int) + 1 ≤ 400 := h
    omega
theorem kT_dig (h : (p : Int) + 1 ≤ kBv T true [3] p) : 48 ≤ T.1 p ∧ T.1 p ≤ 57 := by
  by_cases hp : p ≤ 400
  · have e := kB_p3 (T := T) (p := p)
    by_cases h2 : (p : Int) < T.2 ∧ 48 ≤ T.1 p ∧ T.1 p ≤ 57
    · exact h2.2
    · rw [if_neg h2] at e
      rw [kBv_s0 hp e] at h
      have h : (p : Int) + 1 ≤ kClp (p : Int) 400 (p : Int) := h
      rw [kClp_eq (by omega) (by omega)] at h
      omega
  · unfold kBv at h
    rw [show 401 - p = 0 by omega] at h
    have h : (p : Int) + 1 ≤ 400 := h
    omega
/-- digests: least and greatest by the letters still to come -/
def kDl : Nat → Int → Int
  | 0, v => v
  | r + 1, v => kDl r (1 + 27 * v)
def kDh : Nat → Int → Int
  | 0, v => v
  | r + 1, v => kDh r (26 + 27 * v)
theorem kDl_mo : ∀ (r : Nat) {v w : Int}, v ≤ w → kDl r v ≤ kDl r w
  | 0, _, _, h => h
  | r + 1, v, w, h => kDl_mo r (by omega)
theorem kDh_mo : ∀ (r : Nat) {v w : Int}, v ≤ w → kDh r v ≤ kDh r w
  | 0, _, _, h => h
  | r + 1, v, w, h => kDh_mo r (by omega)
theorem kDh_ge : ∀ (r : Nat) {v : Int}, 0 ≤ v → v ≤ kDh r v
  | 0, _, _ => Int.le_refl _
  | r + 1, v, h => Int.le_trans (by omega) (kDh_ge r (v := 26 + 27 * v) (by omega))
theorem kT_dg : ∀ (r : Nat) (j v : Int) (p : Nat), j + (r : Int) ≤ 8 → p + r ≤ 400 → 0 ≤ v → kDh r v ≤ 549755813888 → kDl r v ≤ kBv T false [2, ((p + r : Nat) : Int), j, v] p ∧ kBv T false [2, ((p + r : Nat) : Int), j, v] p ≤ kDh r v
  | 0, j, v, p, h1, h2, h3, h4 => by
    have e := kB_dg (T := T) (p := p) (e := ((p + 0 : Nat) : Int)) (j := j) (v := v)
    rw [if_neg (by omega), if_pos (by omega)] at e
    have h4 : v ≤ 549755813888 := h4
    rw [kBv_s0 (by omega) e]
    show v ≤ kClp (-1) 549755813888 v ∧ kClp (-1) 549755813888 v ≤ v
    rw [kClp_eq (by omega) h4]
    omega
  | r + 1, j, v, p, h1, h2, h3, h4 => by
    have e := kB_dg (T := T) (p := p) (e := ((p + (r + 1) : Nat) : Int)) (j := j) (v := v)
    rw [if_neg (by omega), if_neg (by omega), if_neg (by omega)] at e
    have hn : p + (r + 1) = p + 1 + r := by omega
    have h4 : kDh r (26 + 27 * v) ≤ 549755813888 := h4
    show kDl r (1 + 27 * v) ≤ _ ∧ _ ≤ kDh r (26 + 27 * v)
    have go : ∀ x : Int, 1 + 27 * v ≤ x → x ≤ 26 + 27 * v → kBs T false [2, ((p + (r + 1) : Nat) : Int), j, v] p = (1, [2, ((p + (r + 1) : Nat) : Int), 1 + j, x]) → kDl r (1 + 27 * v) ≤ kBv T false [2, ((p + (r + 1) : Nat) : Int), j, v] p ∧ kBv T false [2, ((p + (r + 1) : Nat) : Int), j, v] p ≤ kDh r (26 + 27 * v) := fun x x1 x2 hx => by
      rw [kBv_s1 (by omega) hx]
      show kDl r (1 + 27 * v) ≤ kBv T false [2, ((p + (r + 1) : Nat) : Int), 1 + j, x] (p + 1) ∧ kBv T false [2, ((p + (r + 1) : Nat) : Int), 1 + j, x] (p + 1) ≤ kDh r (26 + 27 * v)
      rw [hn]
      have m := kDh_mo r x2
      obtain ⟨i1, i2⟩ := kT_dg r (1 + j) x (p + 1) (by omega) (by omega) (by omega) (by omega)
      exact ⟨Int.le_trans (kDl_mo r x1) i1, Int.le_trans i2 m⟩
    by_cases c1 : T.1 p ≤ 96
    · rw [if_pos c1] at e
      exact go _ (by omega) (by omega) e
    · rw [if_neg c1] at e
      by_cases c2 : 123 ≤ T.1 p
      · rw [if_pos c2] at e
        exact go _ (by omega) (by omega) e
      · rw [if_neg c2] at e
        exact go _ (by omega) (by omega) e
theorem kBr_st {z : Bool} {f : Nat} : kBr T z (f + 1) ws p = cond (Nat.beq (kBs T z ws p).1 0) (kBc z p ((kBs T z ws p).2.getD 0 0)) (kBr T z f (kBs T z ws p).2 (p + 1)) := rfl
/-- nine letters and more: 0 -/
theorem kT_d9 : ∀ (f : Nat) (e j v : Int) (p : Nat), j = 9 ∨ (j ≤ 8 ∧ 9 ≤ j + (e - (p : Int))) → kBr T false f [2, e, j, v] p = 0
  | 0, _, _, _, _, _ => rfl
  | f + 1, e, j, v, p, h => by
    have s := kB_dg (T := T) (p := p) (e := e) (j := j) (v := v)
    rw [kBr_st]
    by_cases c1 : e ≤ (p : Int) ∧ 9 ≤ j
    · rw [if_pos c1] at s
      rw [s]
      show kClp (-1) 549755813888 0 = 0
      exact kClp_eq (by omega) (by omega)
    · rw [if_neg c1, if_neg (by omega)] at s
      by_cases c2 : 8 ≤ j
      · rw [if_pos c2] at s
        rw [s]
        exact kT_d9 f e 9 0 (p + 1) (Or.inl rfl)
      · rw [if_neg c2] at s
        have nx : ∀ x : Int, kBr T false f [2, e, 1 + j, x] (p + 1) = 0 := fun x => kT_d9 f e (1 + j) x (p + 1) (Or.inr (by omega))
        by_cases c3 : T.1 p ≤ 96
        · rw [if_pos c3] at s
          rw [s]
          exact nx _
        · rw [if_neg c3] at s
          by_cases c4 : 123 ≤ T.1 p
          · rw [if_pos c4] at s
            rw [s]
            exact nx _
          · rw [if_neg c4] at s
            rw [s]
            exact nx _
/-- numbers: three digits count -/
theorem kT_dn : ∀ (f : Nat) (e j v : Int) (p : Nat), 0 ≤ v → ((j = 1 ∧ v ≤ 9) ∨ (j = 2 ∧ v ≤ 99) ∨ (j = 3 ∧ v ≤ 999)) → 0 ≤ kBr T false f [3, e, j, v] p ∧ kBr T false f [3, e, j, v] p ≤ 999
  | 0, _, _, _, _, _, _ => ⟨by show (0 : Int) ≤ 0; omega, by show (0 : Int) ≤ 999; omega⟩
  | f + 1, e, j, v, p, h0, h => by
    have s := kB_dn (T := T) (p := p) (e := e) (j := j) (v := v)
    rw [kBr_st]
    by_cases c1 : e ≤ (p : Int)
    · rw [if_pos c1] at s
      rw [s]
      show 0 ≤ kClp (-1) 549755813888 v ∧ kClp (-1) 549755813888 v ≤ 999
      rw [kClp_eq (by omega) (by omega)]
      omega
    · rw [if_neg c1] at s
      by_cases c2 : 3 ≤ j
      · rw [if_pos c2] at s
        rw [s]
        exact kT_dn f e 3 v (p + 1) h0 (by omega)
      · rw [if_neg c2] at s
        by_cases c3 : T.1 p ≤ 47
        · rw [if_pos c3] at s
          rw [s]
          exact kT_dn f e (1 + j) (10 * v) (p + 1) (by omega) (by omega)
        · rw [if_neg c3] at s
          by_cases c4 : 58 ≤ T.1 p
          · rw [if_pos c4] at s
            rw [s]
            exact kT_dn f e (1 + j) (9 + 10 * v) (p + 1) (by omega) (by omega)
          · rw [if_neg c4] at s
            rw [s]
            exact kT_dn f e (1 + j) (-48 + (10 * v + T.1 p)) (p + 1) (by omega) (by omega)
/-- what a number says -/
theorem kT_no (hp : p ≤ 400) {e c d : Int} (hd : ¬ ((p : Int) < T.2 ∧ 48 ≤ T.1 p ∧ T.1 p ≤ 57) ∨ (p : Int) + 4 ≤ e) : kBv T false [4, e, c, d] p = -1 := by
  have s := kB_num (T := T) (p := p) (e := e) (c := c) (d := d)
  rw [if_neg (by omega)] at s
  rw [kBv_s0 hp s]
  show kClp (-1) 549755813888 (-1) = -1
  exact kClp_eq (by omega) (by omega)
theorem kT_n3 (hp : p ≤ 400) {e c d c2 d2 : Int} (hd : (p : Int) < T.2 ∧ 48 ≤ T.1 p ∧ T.1 p ≤ 57) (he : e ≤ (p : Int) + 3) : kBv T false [4, e, c, d] p = kBv T false [1, e, c2, d2] p := by
  have s := kB_num (T := T) (p := p) (e := e) (c := c) (d := d)
  have t := kB_name (T := T) (p := p) (e := e) (c := c2) (d := d2)
  rw [if_pos (by omega)] at s
  rw [if_neg (by omega), if_neg (by omega), if_pos (by omega)] at t
  rw [kBv_s1 hp s, kBv_s1 hp t]
theorem kT_nr (hp : p ≤ 400) {e c d : Int} (hd : (p : Int) < T.2 ∧ 48 ≤ T.1 p ∧ T.1 p ≤ 57) : 0 ≤ kBv T false [1, e, c, d] p ∧ kBv T false [1, e, c, d] p ≤ 999 := by
  have t := kB_name (T := T) (p := p) (e := e) (c := c) (d := d)
  rw [if_neg (by omega), if_neg (by omega), if_pos (by omega)] at t
  rw [kBv_s1 hp t]
  exact kT_dn _ e 1 _ (p + 1) (by omega) (Or.inl ⟨rfl, by omega⟩)
def k_27 : List (Int × Int × Int) := [(1, 0, 0), (27, 1, 26), (729, 28, 728), (19683, 757, 19682), (531441, 20440, 531440), (14348907, 551881, 14348906), (387420489, 14900788, 387420488), (10460353203, 402321277, 10460353202), (282429536481, 10862674480, 282429536480)]
theorem kD_at {r : Nat} (hr : r < 9) (v : Int) : kDl r v = (k_27.getD r (0, 0, 0)).1 * v + (k_27.getD r (0, 0, 0)).2.1 ∧ kDh r v = (k_27.getD r (0, 0, 0)).1 * v + (k_27.getD r (0, 0, 0)).2.2 := by
  match r, hr with
  | 0, _ => exact ⟨by show v = 1 * v + 0; omega, by show v = 1 * v + 0; omega⟩
  | 1, _ => exact ⟨by show 1 + 27 * v = 27 * v + 1; omega, by show 26 + 27 * v = 27 * v + 26; omega⟩
  | 2, _ => exact ⟨by show 1 + 27 * (1 + 27 * v) = 729 * v + 28; omega, by show 26 + 27 * (26 + 27 * v) = 729 * v + 728; omega⟩
  | 3, _ => exact ⟨by show 1 + 27 * (1 + 27 * (1 + 27 * v)) = 19683 * v + 757; omega, by show 26 + 27 * (26 + 27 * (26 + 27 * v)) = 19683 * v + 19682; omega⟩
  | 4, _ => exact ⟨by show 1 + 27 * (1 + 27 * (1 + 27 * (1 + 27 * v))) = 531441 * v + 20440; omega, by show 26 + 27 * (26 + 27 * (26 + 27 * (26 + 27 * v))) = 531441 * v + 531440; omega⟩
  | 5, _ => exact ⟨by show 1 + 27 * (1 + 27 * (1 + 27 * (1 + 27 * (1 + 27 * v)))) = 14348907 * v + 551881; omega, by show 26 + 27 * (26 + 27 * (26 + 27 * (26 + 27 * (26 + 27 * v)))) = 14348907 * v + 14348906; omega⟩
  | 6, _ => exact ⟨by show 1 + 27 * (1 + 27 * (1 + 27 * (1 + 27 * (1 + 27 * (1 + 27 * v))))) = 387420489 * v + 14900788; omega, by show 26 + 27 * (26 + 27 * (26 + 27 * (26 + 27 * (26 + 27 * (26 + 27 * v))))) = 387420489 * v + 387420488; omega⟩
  | 7, _ => exact ⟨by show 1 + 27 * (1 + 27 * (1 + 27 * (1 + 27 * (1 + 27 * (1 + 27 * (1 + 27 * v)))))) = 10460353203 * v + 402321277; omega, by show 26 + 27 * (26 + 27 * (26 + 27 * (26 + 27 * (26 + 27 * (26 + 27 * (26 + 27 * v)))))) = 10460353203 * v + 10460353202; omega⟩
  | 8, _ => exact ⟨by show 1 + 27 * (1 + 27 * (1 + 27 * (1 + 27 * (1 + 27 * (1 + 27 * (1 + 27 * (1 + 27 * v))))))) = 282429536481 * v + 10862674480; omega, by show 26 + 27 * (26 + 27 * (26 + 27 * (26 + 27 * (26 + 27 * (26 + 27 * (26 + 27 * (26 + 27 * v))))))) = 282429536481 * v + 282429536480; omega⟩
/-- a name's digest by its length -/
theorem kT_wd {r : Nat} {c d : Int} (h1 : (p : Int) < T.2) (h2 : 97 ≤ T.1 p ∧ T.1 p ≤ 122) (hr : p + 1 + r ≤ 400) : (r ≤ 7 → kDl r 1 ≤ kBv T false [1, ((p + 1 + r : Nat) : Int), c, d] p ∧ kBv T false [1, ((p + 1 + r : Nat) : Int), c, d] p ≤ kDh r 26) ∧ (8 ≤ r → kBv T false [1, ((p + 1 + r : Nat) : Int), c, d] p = 0) := by
  have t := kB_name (T := T) (p := p) (e := ((p + 1 + r : Nat) : Int)) (c := c) (d := d)
  rw [if_neg (by omega), if_pos h2] at t
  rw [kBv_s1 (by omega) t]
  show (r ≤ 7 → kDl r 1 ≤ kBv T false [2, ((p + 1 + r : Nat) : Int), 1, T.1 p - 96] (p + 1) ∧ kBv T false [2, ((p + 1 + r : Nat) : Int), 1, T.1 p - 96] (p + 1) ≤ kDh r 26) ∧ (8 ≤ r → kBv T false [2, ((p + 1 + r : Nat) : Int), 1, T.1 p - 96] (p + 1) = 0)
  refine ⟨fun h7 => ?_, fun h8 => kT_d9 _ _ 1 _ (p + 1) (Or.inr (by omega))⟩
  have m1 := kDl_mo r (v := 1) (w := T.1 p - 96) (by omega)
  have m2 := kDh_mo r (v := T.1 p - 96) (w := 26) (by omega)
  have m3 : kDh r 26 ≤ 549755813888 := by
    rw [(kD_at (by omega) 26).2]
    match r, h7 with
    | 0, _ => decide
    | 1, _ => decide
    | 2, _ => decide
    | 3, _ => decide
    | 4, _ => decide
    | 5, _ => decide
    | 6, _ => decide
    | 7, _ => decide
  obtain ⟨i1, i2⟩ := kT_dg (T := T) r 1 (T.1 p - 96) (p + 1) (by omega) hr (by omega) (by omega)
  exact ⟨Int.le_trans m1 i1, Int.le_trans i2 m2⟩
end KTX
end
