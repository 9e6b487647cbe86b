noncomputable section
/-! the parse ends, and what it may say at the most: by a look at every rule -/
section KTE
variable {T : kTx} {p : Nat} {ws : List Int}
theorem kRuv_in {ρ : Nat → Int} {z : Nat × List Int} : ∀ l : kRu, (∃ r ∈ l, r.1.all (kFt1 ρ) = true ∧ kRuv ρ z l = (r.2.1, r.2.2.map (k_ev ρ))) ∨ kRuv ρ z l = z
  | [] => Or.inr rfl
  | r :: t => by
    cases c : r.1.all (kFt1 ρ) with
    | true =>
      refine Or.inl ⟨r, List.mem_cons_self, c, ?_⟩
      show cond (r.1.all (kFt1 ρ)) _ _ = _
      rw [c]
      rfl
    | false =>
      have e : kRuv ρ z (r :: t) = kRuv ρ z t := by
        show cond (r.1.all (kFt1 ρ)) _ _ = _
        rw [c]
        rfl
      rw [e]
      rcases kRuv_in (ρ := ρ) (z := z) t with ⟨q, h1, h2, h3⟩ | h
      · exact Or.inl ⟨q, List.mem_cons_of_mem _ h1, h2, h3⟩
      · exact Or.inr h
abbrev kRlz : Type := List (Bool × kE) × Nat × List kE
def kLw (r : kRlz) (i : Nat) : kE := r.2.2.getD i (0, [])
theorem kLw_ev {ρ : Nat → Int} (r : kRlz) (i : Nat) : (r.2.2.map (k_ev ρ)).getD i 0 = k_ev ρ (kLw r i) := by
  unfold kLw
  rw [List.getD_eq_getElem?_getD, List.getD_eq_getElem?_getD, List.getElem?_map]
  cases r.2.2[i]? with
  | none => rfl
  | some w => rfl
theorem kTk9 {l : List Int} {i : Nat} (hi : i < 9) : (l.take 9).getD i 0 = l.getD i 0 := by
  rw [List.getD_eq_getElem?_getD, List.getD_eq_getElem?_getD, List.getElem?_take_of_lt hi]
/-- a step: a rule whose tests hold, or the end -/
theorem kMs_in (T : kTx) (ws : List Int) (p : Nat) : (∃ r ∈ kR2.getD (ws.getD 0 0).toNat [], r.1.all (kFt1 (kMe T ws p)) = true ∧ kMs T ws p = (r.2.1, r.2.2.map (k_ev (kMe T ws p)))) ∨ kMs T ws p = (0, [1 + (p : Int), 0]) := kRuv_in _
/-- a test that wants a token -/
def kTk1 (q : Bool × kE) : Bool := match q with
  | (true, (c, [(i, k)])) => decide (k = 1) && ((Nat.beq i 23 && decide (c < 0)) || (Nat.beq i 28 && decide (c ≤ 0)))
  | (false, (c, [(i, k)])) => decide (k = 1) && (Nat.beq i 28 && decide (c ≤ 0))
  | _ => false
/-- one that wants a sign waiting -/
def kTw1 (q : Bool × kE) : Bool := match q with
  | (true, (c, [(i, k)])) => decide (k = 1) && (Nat.beq i 32 && (decide (c < 0) && decide (-7 < c)))
  | _ => false
theorem kEv1 {ρ : Nat → Int} {c : Int} {i : Nat} : k_ev ρ (c, [(i, 1)]) = c + ρ i := by
  show c + (1 * ρ i + 0) = _
  omega
theorem kTk_28 (hp : p ≤ 400) (h : 0 ≤ kMe T ws p 28) : (p : Int) < T.2 := by
  have h : 0 ≤ kBv T false [4, kBv T true [1] p, 0, 0] p := h
  rcases kT_kind (T := T) (p := p) (b := 0) (c := 0) (d := 0) hp with ⟨-, k⟩ | ⟨-, k, -⟩ | ⟨-, k, -⟩ | ⟨-, k, -⟩
  · rw [kT_no hp (Or.inl (by omega))] at h
    omega
  · exact k
  · exact k
  · exact k
theorem kTk_23 (hp : p ≤ 400) (h : 0 < kMe T ws p 23) : (p : Int) < T.2 := by
  have h : 0 < kBv T false [0, 0, 0, 0] p := h
  rcases kT_kind (T := T) (p := p) (b := 0) (c := 0) (d := 0) hp with ⟨k, -⟩ | ⟨-, k, -⟩ | ⟨-, k, -⟩ | ⟨-, k, -⟩
  · omega
  · exact k
  · exact k
  · exact k
theorem kTk1_ok (hp : p ≤ 400) {q : Bool × kE} (h1 : kTk1 q = true) (h2 : kFt1 (kMe T ws p) q = true) : (p : Int) < T.2 := by
  unfold kTk1 at h1
  split at h1
  · rename_i c i k
    simp only [Bool.and_eq_true, Bool.or_eq_true, decide_eq_true_eq] at h1
    obtain ⟨rfl, h1⟩ := h1
    have h2 := of_decide_eq_true h2
    rw [kEv1] at h2
    rcases h1 with ⟨h1, h3⟩ | ⟨h1, h3⟩
    · rw [pm_beq h1] at h2
      exact kTk_23 (ws := ws) hp (by omega)
    · rw [pm_beq h1] at h2
      exact kTk_28 (ws := ws) hp (by omega)
  · rename_i c i k
    simp only [Bool.and_eq_true, decide_eq_true_eq] at h1
    obtain ⟨rfl, h1, h3⟩ := h1
    have h2 := of_decide_eq_true h2
    rw [kEv1, pm_beq h1] at h2
    exact kTk_28 (ws := ws) hp (by omega)
  · cases h1
theorem kTk_ok (hp : p ≤ 400) {l : List (Bool × kE)} (h1 : l.any kTk1 = true) (h2 : l.all (kFt1 (kMe T ws p)) = true) : (p : Int) < T.2 := by
  obtain ⟨q, hq, h1⟩ := List.any_eq_true.mp h1
  exact kTk1_ok hp h1 (List.all_eq_true.mp h2 q hq)
theorem kTw_ok {l : List (Bool × kE)} (h1 : l.any kTw1 = true) (h2 : l.all (kFt1 (kMe T ws p)) = true) : 0 < ws.getD 6 0 % 8 ∧ ws.getD 6 0 % 8 < 7 := by
  obtain ⟨q, hq, h1⟩ := List.any_eq_true.mp h1
  have h2 := List.all_eq_true.mp h2 q hq
  unfold kTw1 at h1
  split at h1
  · rename_i c i k
    simp only [Bool.and_eq_true, decide_eq_true_eq] at h1
    obtain ⟨rfl, h1, h3, h4⟩ := h1
    have h2 := of_decide_eq_true h2
    rw [kEv1, pm_beq h1] at h2
    have h2 : c + ws.getD 6 0 % 8 = 0 := h2
    omega
  · cases h1
/-- the token behind -/
theorem kMn_le (hp : p ≤ 400) : p ≤ kMn T p ∧ kMn T p ≤ 400 := by
  obtain ⟨a1, a2⟩ := kBv_pl (T := T) (p := p) [1] hp
  obtain ⟨b1, b2⟩ := kBv_pl (T := T) (p := (kBv T true [1] p).toNat) [0] (by omega)
  unfold kMn
  omega
theorem kMn_lt (hn : T.2 ≤ 400) (h : (p : Int) < T.2) : p + 1 ≤ kMn T p := by
  have hp : p < 400 := by omega
  have e := kB_p1 (T := T) (p := p)
  rw [if_neg (by omega)] at e
  have a1 : (p : Int) + 1 ≤ kBv T true [1] p := by
    by_cases h1 : 97 ≤ T.1 p ∧ T.1 p ≤ 122
    · rw [if_pos h1] at e
      rw [kBv_s1 (by omega) e]
      have := (kBv_pl (T := T) (p := p + 1) [2] (by omega)).1
      omega
    · rw [if_neg h1] at e
      by_cases h2 : 48 ≤ T.1 p ∧ T.1 p ≤ 57
      · rw [if_pos h2] at e
        rw [kBv_s1 (by omega) e]
        have := (kBv_pl (T := T) (p := p + 1) [3] (by omega)).1
        omega
      · rw [if_neg h2] at e
        rw [kBv_s0 (by omega) e]
        show (p : Int) + 1 ≤ kClp (p : Int) 400 (1 + (p : Int))
        rw [kClp_eq (by omega) (by omega)]
        omega
  have a2 := (kBv_pl (T := T) (p := p) [1] (by omega)).2
  obtain ⟨b1, b2⟩ := kBv_pl (T := T) (p := (kBv T true [1] p).toNat) [0] (by omega)
  unfold kMn
  omega
/-- the phases' order, before the end and at it -/
def kOd (b : Bool) (m : Nat) : Nat := cond (Nat.beq m 8) 5 (cond (Nat.beq m 14) 4 (cond (Nat.beq m 15) 3 (cond (Nat.beq m 16) 2 (cond (Nat.beq m 17) (cond b 0 6) (cond (Nat.beq m 13 || (Nat.beq m 2 || Nat.beq m 3)) 1 0)))))
theorem kOd_le (b : Bool) (m : Nat) : kOd b m ≤ 6 := by
  unfold kOd
  simp only [kcd]
  (repeat' split) <;> omega
def kOkT (m : Nat) (r : kRlz) : Bool := Nat.beq r.2.1 0 || (k_cst (kLw r 0) && cond (Nat.beq r.2.1 1) (r.1.any kTk1 || (Nat.beq m 17 && decide ((kLw r 0).1 = 8)))
  ((decide (kOd true (kLw r 0).1.toNat < kOd true m) && (r.1.any kTk1 || decide (kOd false (kLw r 0).1.toNat < kOd false m))) || (Nat.beq (kLw r 0).1.toNat m && (decide (kLw r 6 = (0, [(33, 1)])) && r.1.any kTw1))))
theorem kOkT_all : ∀ m : Nat, m < 18 → (kR2.getD m []).all (kOkT m) = true := by decide +kernel
theorem kR2_len : kR2.length = 18 := rfl
theorem kR2_big {m : Nat} (h : 18 ≤ m) : kR2.getD m [] = [] := by
  rw [List.getD_eq_getElem?_getD, List.getElem?_eq_none (by rw [kR2_len]; exact h)]
  rfl
/-- how far from the end -/
def kDst (T : kTx) (ws : List Int) (p : Nat) : Nat := (401 - p) * 8 + kOd (decide ((p : Int) < T.2)) (ws.getD 0 0).toNat
/-- a step goes on to nearer the end, or pops a sign -/
theorem kMs_near (hn : T.2 ≤ 400) (hp : p ≤ 400) : (kMs T ws p).1 = 0 ∨ (kMp T ws p ≤ 400 ∧ (kDst T (kM9 T ws p) (kMp T ws p) < kDst T ws p ∨ (kDst T (kM9 T ws p) (kMp T ws p) = kDst T ws p ∧ ((kM9 T ws p).getD 6 0).natAbs < (ws.getD 6 0).natAbs))) := by
  rcases kMs_in T ws p with ⟨r, hr, h1, h2⟩ | h
  · by_cases hm : (ws.getD 0 0).toNat < 18
    · have ok := List.all_eq_true.mp (kOkT_all _ hm) r hr
      unfold kOkT at ok
      rcases Bool.or_eq_true_iff.mp ok with ok | ok
      · left
        rw [h2]
        exact pm_beq ok
      · obtain ⟨c0, ok⟩ := Bool.and_eq_true_iff.mp ok
        have e0 : (kM9 T ws p).getD 0 0 = (kLw r 0).1 := by
          unfold kM9
          rw [kTk9 (by omega), h2, kLw_ev, k_ev_const c0]
        have e6 : (kM9 T ws p).getD 6 0 = k_ev (kMe T ws p) (kLw r 6) := by
          unfold kM9
          rw [kTk9 (by omega), h2, kLw_ev]
        have o1 := kOd_le (decide ((p : Int) < T.2)) (ws.getD 0 0).toNat
        have o2 := fun b => kOd_le b (kLw r 0).1.toNat
        right
        cases c1 : Nat.beq r.2.1 1 with
        | true =>
          rw [c1, cond_true] at ok
          have c1 := pm_beq c1
          have ep : kMp T ws p = kMn T p := by
            unfold kMp
            rw [h2]
            show cond (Nat.beq r.2.1 1) _ _ = _
            rw [c1]
            rfl
          rw [ep]
          refine ⟨(kMn_le hp).2, Or.inl ?_⟩
          unfold kDst
          rw [e0]
          have far : (p : Int) < T.2 → (401 - kMn T p) * 8 + kOd (decide ((kMn T p : Int) < T.2)) (kLw r 0).1.toNat < (401 - p) * 8 + kOd (decide ((p : Int) < T.2)) (ws.getD 0 0).toNat := fun hl => by
            have l1 := kMn_lt hn hl
            have l2 := o2 (decide ((kMn T p : Int) < T.2))
            omega
          rcases Bool.or_eq_true_iff.mp ok with ok | ok
          · exact far (kTk_ok hp ok h1)
          · by_cases hl : (p : Int) < T.2
            · exact far hl
            · obtain ⟨d1, d2⟩ := Bool.and_eq_true_iff.mp ok
              have d1 := pm_beq d1
              have d2 := of_decide_eq_true d2
              have l1 := (kMn_le (T := T) hp).1
              rw [d1, d2, decide_eq_false hl, decide_eq_false (by omega)]
              show (401 - kMn T p) * 8 + 5 < (401 - p) * 8 + 6
              omega
        | false =>
          rw [c1, cond_false] at ok
          have ep : kMp T ws p = p := by
            unfold kMp
            rw [h2]
            show cond (Nat.beq r.2.1 1) _ _ = _
            rw [c1]
            rfl
          rw [ep]
          refine ⟨hp, ?_⟩
          unfold kDst
          rw [e0]
          rcases Bool.or_eq_true_iff.mp ok with ok | ok
          · left
            obtain ⟨d1, d2⟩ := Bool.and_eq_true_iff.mp ok
            have d1 := of_decide_eq_true d1
            cases hb : decide ((p : Int) < T.2) with
            | true => omega
            | false =>
              have hl := of_decide_eq_false hb
              rcases Bool.or_eq_true_iff.mp d2 with d2 | d2
              · exact absurd (kTk_ok hp d2 h1) hl
              · have d2 := of_decide_eq_true d2
                omega
          · right
            obtain ⟨d1, d2⟩ := Bool.and_eq_true_iff.mp ok
            obtain ⟨d2, d3⟩ := Bool.and_eq_true_iff.mp d2
            have d1 := pm_beq d1
            have d2 := of_decide_eq_true d2
            have d3 := kTw_ok d3 h1
            refine ⟨by rw [d1], ?_⟩
            rw [e6, d2, kEv1]
            show (0 + ws.getD 6 0 / 8).natAbs < (ws.getD 6 0).natAbs
            omega
    · rw [kR2_big (by omega)] at hr
      cases hr
  · left
    rw [h]
/-- the parse ends -/
theorem kMr_ends (hn : T.2 ≤ 400) : ∀ (k n : Nat) (ws : List Int) (p : Nat), p ≤ 400 → kDst T ws p ≤ k → (ws.getD 6 0).natAbs ≤ n → ∃ f v, kMr T f ws p = some v := by
  intro k
  induction k with
  | zero =>
    intro n ws p hp hk _
    unfold kDst at hk
    omega
  | succ k ik =>
    intro n
    induction n with
    | zero =>
      intro ws p hp hk hw
      rcases kMs_near (ws := ws) hn hp with h0 | ⟨q1, q2 | ⟨-, q2⟩⟩
      · exact ⟨1, _, kMr_0 h0 0⟩
      · by_cases h0 : (kMs T ws p).1 = 0
        · exact ⟨1, _, kMr_0 h0 0⟩
        · obtain ⟨f, v, hv⟩ := ik _ (kM9 T ws p) (kMp T ws p) q1 (by omega) (Nat.le_refl _)
          exact ⟨f + 1, _, by rw [kMr_1 h0 f, hv]; rfl⟩
      · omega
    | succ n jn =>
      intro ws p hp hk hw
      rcases kMs_near (ws := ws) hn hp with h0 | ⟨q1, q2⟩
      · exact ⟨1, _, kMr_0 h0 0⟩
      · by_cases h0 : (kMs T ws p).1 = 0
        · exact ⟨1, _, kMr_0 h0 0⟩
        · have : ∃ f v, kMr T f (kM9 T ws p) (kMp T ws p) = some v := by
            rcases q2 with q2 | ⟨q2, q3⟩
            · exact ik _ (kM9 T ws p) (kMp T ws p) q1 (by omega) (Nat.le_refl _)
            · exact jn (kM9 T ws p) (kMp T ws p) q1 (by omega) (by omega)
          obtain ⟨f, v, hv⟩ := this
          exact ⟨f + 1, _, by rw [kMr_1 h0 f, hv]; rfl⟩
theorem kMr_end (hn : T.2 ≤ 400) (hp : p ≤ 400) (ws : List Int) : ∃ f v, kMr T f ws p = some v := kMr_ends hn _ _ ws p hp (Nat.le_refl _) (Nat.le_refl _)
/-! what it may say -/
/-- a test: the part of bit i isn't there yet -/
def kTb1 (i : Nat) (q : Bool × kE) : Bool := match q with
  | (true, (c, [(j, k)])) => decide (k = 1) && (Nat.beq j (6 + i) && decide (c = 0))
  | _ => false
def kTb (i : Nat) (r : kRlz) : Bool := r.1.any (kTb1 i)
/-- the word for the parts: as it was, or one more, that wasn't there -/
def kSw (r : kRlz) : Bool := decide (kLw r 3 = (0, [(3, 1)])) || (List.range 7).any (fun i => decide (kLw r 3 = (((2 ^ i : Nat) : Int), [(3, 1)])) && kTb i r)
/-- outside the condition, the condition had: no set more -/
def kOk2 (m : Nat) (r : kRlz) : Bool := !(Nat.ble m 6) || (kTb 2 r || cond (Nat.beq r.2.1 0) (decide (kLw r 1 = (0, []))) (k_cst (kLw r 0) && (decide (0 ≤ (kLw r 0).1) && (decide ((kLw r 0).1 ≤ 6) && (kSw r && decide (kLw r 9 = (0, [])))))))
/-- within it: one set more, at its end -/
def kOk1 (m : Nat) (r : kRlz) : Bool := Nat.ble m 6 || cond (Nat.beq r.2.1 0) (decide (kLw r 1 = (0, []))) (k_cst (kLw r 0) && (decide (0 ≤ (kLw r 0).1) && (kSw r && cond (decide ((kLw r 0).1 ≤ 6)) (decide (kLw r 9 = (0, [(34, 512)]))) (decide (kLw r 9 = (0, []))))))
/-- before it: at the end all sets, or into it -/
def kOk0 (m : Nat) (r : kRlz) : Bool := !(Nat.ble m 6) || cond (Nat.beq r.2.1 0) (decide (kLw r 1 = (0, [])) || decide (kLw r 1 = (512 * (kPw 4096 - 1), []))) (k_cst (kLw r 0) && (decide (0 ≤ (kLw r 0).1) && (decide (kLw r 9 = (0, [])) && (decide ((kLw r 0).1 ≤ 6) && kSw r || decide (kLw r 3 = (4, [(3, 1)])) && kTb 2 r))))
theorem kOk_all : ∀ m : Nat, m < 18 → ((kR2.getD m []).all (fun r => kOk2 m r && (kOk1 m r && kOk0 m r))) = true := by decide +kernel
theorem kOk_at {m : Nat} {r : kRlz} (hr : r ∈ kR2.getD m []) : kOk2 m r = true ∧ kOk1 m r = true ∧ kOk0 m r = true := by
  by_cases hm : m < 18
  · have := List.all_eq_true.mp (kOk_all m hm) r hr
    simp only [Bool.and_eq_true] at this
    exact this
  · rw [kR2_big (by omega)] at hr
    cases hr
theorem kTb_ok {i : Nat} (hi : i < 7) {r : kRlz} (h1 : kTb i r = true) (h2 : r.1.all (kFt1 (kMe T ws p)) = true) : ws.getD 3 0 / 2 ^ i % 2 = 0 := by
  obtain ⟨q, hq, h1⟩ := List.any_eq_true.mp h1
  have h2 := List.all_eq_true.mp h2 q hq
  unfold kTb1 at h1
  split at h1
  · rename_i c j k
    simp only [Bool.and_eq_true, decide_eq_true_eq] at h1
    obtain ⟨rfl, h1, rfl⟩ := h1
    have h2 := of_decide_eq_true h2
    rw [kEv1, pm_beq h1] at h2
    have e : kMe T ws p (6 + i) = ws.getD 3 0 / 2 ^ i % 2 := by
      match i, hi with
      | 0, _ => rfl
      | 1, _ => rfl
      | 2, _ => rfl
      | 3, _ => rfl
      | 4, _ => rfl
      | 5, _ => rfl
      | 6, _ => rfl
      | i + 7, hi => omega
    rw [e] at h2
    omega
  · cases h1
/-- the parts told: whether the condition is among them stays -/
theorem kSw_ok {r : kRlz} (h1 : kSw r = true) (h2 : r.1.all (kFt1 (kMe T ws p)) = true) (hb : ws.getD 3 0 / 4 % 2 = 1) : k_ev (kMe T ws p) (kLw r 3) / 4 % 2 = 1 := by
  have e3 : kMe T ws p 3 = ws.getD 3 0 := rfl
  unfold kSw at h1
  rcases Bool.or_eq_true_iff.mp h1 with h1 | h1
  · rw [of_decide_eq_true h1, kEv1, e3]
    omega
  · obtain ⟨i, hi, h1⟩ := List.any_eq_true.mp h1
    obtain ⟨h1, h3⟩ := Bool.and_eq_true_iff.mp h1
    have hi := List.mem_range.mp hi
    have h3 := kTb_ok hi h3 h2
    rw [of_decide_eq_true h1, kEv1, e3]
    generalize ws.getD 3 0 = s at hb h3 ⊢
    match i, hi, h3 with
    | 0, _, h3 =>
      have h3 : s / 1 % 2 = 0 := h3
      show (1 + s) / 4 % 2 = 1
      omega
    | 1, _, h3 =>
      have h3 : s / 2 % 2 = 0 := h3
      show (2 + s) / 4 % 2 = 1
      omega
    | 2, _, h3 =>
      have h3 : s / 4 % 2 = 0 := h3
      omega
    | 3, _, h3 =>
      show (8 + s) / 4 % 2 = 1
      omega
    | 4, _, h3 =>
      show (16 + s) / 4 % 2 = 1
      omega
    | 5, _, h3 =>
      show (32 + s) / 4 % 2 = 1
      omega
    | 6, _, h3 =>
      show (64 + s) / 4 % 2 = 1
      omega
    | i + 7, hi, _ => omega
theorem kMr_stp {f : Nat} {v : Int} (h : kMr T (f + 1) ws p = some v) : ((kMs T ws p).1 = 0 ∧ v = kClp 0 401 ((kMs T ws p).2.getD 0 0) + (kMs T ws p).2.getD 1 0) ∨ ((kMs T ws p).1 ≠ 0 ∧ ∃ u, kMr T f (kM9 T ws p) (kMp T ws p) = some u ∧ v = u + (kMs T ws p).2.getD 9 0) := by
  by_cases c : (kMs T ws p).1 = 0
  · rw [kMr_0 c] at h
    exact Or.inl ⟨c, (Option.some.inj h).symm⟩
  · exact Or.inr ⟨c, kMr_to c h⟩
theorem kMs_dv (h : kMs T ws p = (0, [1 + (p : Int), 0])) {f : Nat} {v : Int} (hv : kMr T (f + 1) ws p = some v) : 0 ≤ v ∧ v ≤ 401 := by
  rcases kMr_stp hv with ⟨-, e⟩ | ⟨c, -⟩
  · rw [h] at e
    have e : v = kClp 0 401 (1 + (p : Int)) + 0 := e
    have := kClp_rg (lo := 0) (hi := 401) (by omega) (1 + (p : Int))
    omega
  · rw [h] at c
    exact absurd rfl c
/-- outside the condition, the condition had: the fault alone -/
theorem kMr_v2 : ∀ (f : Nat) (ws : List Int) (p : Nat) (v : Int), (ws.getD 0 0).toNat ≤ 6 → ws.getD 3 0 / 4 % 2 = 1 → kMr T f ws p = some v → 0 ≤ v ∧ v ≤ 401
  | 0, _, _, _, _, _, h => by cases h
  | f + 1, ws, p, v, hm, hb, h => by
    rcases kMs_in T ws p with ⟨r, hr, h1, h2⟩ | hz
    · obtain ⟨ok, -, -⟩ := kOk_at hr
      unfold kOk2 at ok
      rw [show Nat.ble (ws.getD 0 0).toNat 6 = true from Nat.ble_eq_true_of_le hm] at ok
      have ok : (kTb 2 r || cond (Nat.beq r.2.1 0) (decide (kLw r 1 = (0, []))) (k_cst (kLw r 0) && (decide (0 ≤ (kLw r 0).1) && (decide ((kLw r 0).1 ≤ 6) && (kSw r && decide (kLw r 9 = (0, []))))))) = true := ok
      rcases Bool.or_eq_true_iff.mp ok with ok | ok
      · have := kTb_ok (by omega) ok h1
        have : ws.getD 3 0 / 4 % 2 = 0 := this
        omega
      · rcases kMr_stp h with ⟨c, e⟩ | ⟨c, u, hu, e⟩
        · rw [h2] at c e
          have c : r.2.1 = 0 := c
          rw [c] at ok
          have ok : decide (kLw r 1 = (0, [])) = true := ok
          rw [kLw_ev, kLw_ev, of_decide_eq_true ok] at e
          have e : v = kClp 0 401 (k_ev (kMe T ws p) (kLw r 0)) + 0 := e
          have := kClp_rg (lo := 0) (hi := 401) (by omega) (k_ev (kMe T ws p) (kLw r 0))
          omega
        · rw [h2] at c e
          have c : r.2.1 ≠ 0 := c
          rw [k_beqf c, cond_false] at ok
          simp only [Bool.and_eq_true, decide_eq_true_eq] at ok
          obtain ⟨o1, o2, o3, o4, o5⟩ := ok
          rw [kLw_ev, o5] at e
          have e : v = u + 0 := e
          have e0 : (kM9 T ws p).getD 0 0 = (kLw r 0).1 := by
            unfold kM9
            rw [kTk9 (by omega), h2, kLw_ev, k_ev_const o1]
          have e3 : (kM9 T ws p).getD 3 0 = k_ev (kMe T ws p) (kLw r 3) := by
            unfold kM9
            rw [kTk9 (by omega), h2, kLw_ev]
          have := kMr_v2 f _ _ u (by rw [e0]; omega) (by rw [e3]; exact kSw_ok o4 h1 hb) hu
          omega
    · exact kMs_dv hz h
/-- what may be said: a fault and one, and a set -/
def kRg (v : Int) : Prop := ∃ r c : Int, 0 ≤ r ∧ r ≤ 401 ∧ 0 ≤ c ∧ c ≤ kBg - 1 ∧ v = r + 512 * c
theorem kBg_1 : 1 ≤ kBg := by
  rw [← kPw_bg]
  have := kPw_pos 4096
  omega
theorem kRg_0 {v : Int} (h : 0 ≤ v ∧ v ≤ 401) : kRg v := ⟨v, 0, h.1, h.2, by omega, by have := kBg_1; omega, by omega⟩
/-- within it -/
theorem kMr_v1 : ∀ (f : Nat) (ws : List Int) (p : Nat) (v : Int), 7 ≤ (ws.getD 0 0).toNat → ws.getD 3 0 / 4 % 2 = 1 → kMr T f ws p = some v → kRg v
  | 0, _, _, _, _, _, h => by cases h
  | f + 1, ws, p, v, hm, hb, h => by
    rcases kMs_in T ws p with ⟨r, hr, h1, h2⟩ | hz
    · obtain ⟨-, ok, -⟩ := kOk_at hr
      unfold kOk1 at ok
      rw [show Nat.ble (ws.getD 0 0).toNat 6 = false from by
        cases c : Nat.ble (ws.getD 0 0).toNat 6 with
        | false => rfl
        | true =>
          have := Nat.le_of_ble_eq_true c
          omega, Bool.false_or] at ok
      rcases kMr_stp h with ⟨c, e⟩ | ⟨c, u, hu, e⟩
      · rw [h2] at c e
        have c : r.2.1 = 0 := c
        rw [c] at ok
        have ok : decide (kLw r 1 = (0, [])) = true := ok
        rw [kLw_ev, kLw_ev, of_decide_eq_true ok] at e
        have e : v = kClp 0 401 (k_ev (kMe T ws p) (kLw r 0)) + 0 := e
        have := kClp_rg (lo := 0) (hi := 401) (by omega) (k_ev (kMe T ws p) (kLw r 0))
        exact kRg_0 (by omega)
      · rw [h2] at c e
        have c : r.2.1 ≠ 0 := c
        rw [k_beqf c, cond_false] at ok
        simp only [Bool.and_eq_true] at ok
        obtain ⟨o1, o2, o4, o5⟩ := ok
        have o2 := of_decide_eq_true o2
        have e0 : (kM9 T ws p).getD 0 0 = (kLw r 0).1 := by
          unfold kM9
          rw [kTk9 (by omega), h2, kLw_ev, k_ev_const o1]
        have e3 : (kM9 T ws p).getD 3 0 = k_ev (kMe T ws p) (kLw r 3) := by
          unfold kM9
          rw [kTk9 (by omega), h2, kLw_ev]
        have hb2 : (kM9 T ws p).getD 3 0 / 4 % 2 = 1 := by
          rw [e3]
          exact kSw_ok o4 h1 hb
        rw [kLw_ev] at e
        cases d : decide ((kLw r 0).1 ≤ 6) with
        | true =>
          rw [d, cond_true] at o5
          have d := of_decide_eq_true d
          have u1 := kMr_v2 f _ _ u (by rw [e0]; omega) hb2 hu
          rw [of_decide_eq_true o5] at e
          have e : v = u + (0 + (512 * (ws.getD 8 0 % kBg) + 0)) := e
          have := kBg_1
          have m1 := Int.emod_nonneg (ws.getD 8 0) (b := kBg) (by omega)
          have m2 := Int.emod_lt_of_pos (ws.getD 8 0) (b := kBg) (by omega)
          exact ⟨u, ws.getD 8 0 % kBg, u1.1, u1.2, m1, by omega, by omega⟩
        | false =>
          rw [d, cond_false] at o5
          have d := of_decide_eq_false d
          rw [of_decide_eq_true o5] at e
          have e : v = u + 0 := e
          rw [e, Int.add_zero]
          exact kMr_v1 f _ _ u (by rw [e0]; omega) hb2 hu
    · exact kRg_0 (kMs_dv hz h)
/-- before it, or anywhere else -/
theorem kMr_v0 : ∀ (f : Nat) (ws : List Int) (p : Nat) (v : Int), (ws.getD 0 0).toNat ≤ 6 → kMr T f ws p = some v → kRg v
  | 0, _, _, _, _, h => by cases h
  | f + 1, ws, p, v, hm, h => by
    by_cases hb : ws.getD 3 0 / 4 % 2 = 1
    · exact kRg_0 (kMr_v2 _ ws p v hm hb h)
    · rcases kMs_in T ws p with ⟨r, hr, h1, h2⟩ | hz
      · obtain ⟨-, -, ok⟩ := kOk_at hr
        unfold kOk0 at ok
        rw [show Nat.ble (ws.getD 0 0).toNat 6 = true from Nat.ble_eq_true_of_le hm, Bool.not_true, Bool.false_or] at ok
        rcases kMr_stp h with ⟨c, e⟩ | ⟨c, u, hu, e⟩
        · rw [h2] at c e
          have c : r.2.1 = 0 := c
          rw [c] at ok
          have ok : (decide (kLw r 1 = (0, [])) || decide (kLw r 1 = (512 * (kPw 4096 - 1), []))) = true := ok
          rw [kLw_ev, kLw_ev] at e
          have := kClp_rg (lo := 0) (hi := 401) (by omega) (k_ev (kMe T ws p) (kLw r 0))
          rcases Bool.or_eq_true_iff.mp ok with ok | ok
          · rw [of_decide_eq_true ok] at e
            have e : v = kClp 0 401 (k_ev (kMe T ws p) (kLw r 0)) + 0 := e
            exact kRg_0 (by omega)
          · rw [of_decide_eq_true ok] at e
            have e : v = kClp 0 401 (k_ev (kMe T ws p) (kLw r 0)) + (512 * (kPw 4096 - 1) + 0) := e
            rw [kPw_bg] at e
            have := kBg_1
            exact ⟨kClp 0 401 (k_ev (kMe T ws p) (kLw r 0)), kBg - 1, by omega, by omega, by omega, by omega, by omega⟩
        · rw [h2] at c e
          have c : r.2.1 ≠ 0 := c
          rw [k_beqf c, cond_false] at ok
          simp only [Bool.and_eq_true] at ok
          obtain ⟨o1, o2, o5, o4⟩ := ok
          have o2 := of_decide_eq_true o2
          have e0 : (kM9 T ws p).getD 0 0 = (kLw r 0).1 := by
            unfold kM9
            rw [kTk9 (by omega), h2, kLw_ev, k_ev_const o1]
          have e3 : (kM9 T ws p).getD 3 0 = k_ev (kMe T ws p) (kLw r 3) := by
            unfold kM9
            rw [kTk9 (by omega), h2, kLw_ev]
          rw [kLw_ev, of_decide_eq_true o5] at e
          have e : v = u + 0 := e
          rw [e, Int.add_zero]
          rcases Bool.or_eq_true_iff.mp o4 with o4 | o4
          · obtain ⟨o4, -⟩ := Bool.and_eq_true_iff.mp o4
            have o4 := of_decide_eq_true o4
            exact kMr_v0 f _ _ u (by rw [e0]; omega) hu
          · obtain ⟨o4, o6⟩ := Bool.and_eq_true_iff.mp o4
            have o6 := kTb_ok (by omega) o6 h1
            have o6 : ws.getD 3 0 / 4 % 2 = 0 := o6
            have hb2 : (kM9 T ws p).getD 3 0 / 4 % 2 = 1 := by
              rw [e3, of_decide_eq_true o4, kEv1]
              show (4 + ws.getD 3 0) / 4 % 2 = 1
              omega
            by_cases d : ((kM9 T ws p).getD 0 0).toNat ≤ 6
            · exact kRg_0 (kMr_v2 f _ _ u d hb2 hu)
            · exact kMr_v1 f _ _ u (by omega) hb2 hu
      · exact kRg_0 (kMs_dv hz h)
end KTE
end
