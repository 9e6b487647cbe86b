noncomputable section
section KBB
variable {N : kN} {σ : Nat → Int} {S : kS} {M : pM} {n y : kE} {k : Nat}
/-- not yet, no more, in force that day; the facts' bit -/
def k_bru (S : kS) (n d : kE) : Bool := match k_c7 S false n 7 with
  | some u => k_geS S (k_sub (k_sub u d) (kc 1))
  | none => false
def k_brw (S : kS) (n d : kE) : Bool := match k_c7 S false n 8 with
  | some w => k_geS S w && k_geS S (k_sub d w)
  | none => false
def k_bri (S : kS) (n d : kE) : Bool := match k_c7 S false n 7 with
  | some u => k_geS S (k_sub d u) && (match k_c7 S false n 8 with
    | some w => k_geS S (k_sub (kc (-1)) w) || k_geS S (k_sub (k_sub w d) (kc 1))
    | none => false)
  | none => false
def k_brx (S : kS) (n f : kE) : Option kE := match k_lkf S (k_tc (-2047) n) (kc 4096) with
  | some X => (match k_lkf S (k_ff7 1 f) X with
    | some b => some (k_nv S.1 b)
    | none => none)
  | none => none
def k_bard (S : kS) (n y : kE) : Option Bool := match k_spl S y 4096 with
  | none => none
  | some q => cond (k_bru S n q.1 || k_brw S n q.1) (some false) (match k_brx S n q.2 with
    | none => none
    | some b => cond (k_wq b (kc 1)) (some false) (cond (k_wq b (kc 0) && k_bri S n q.1) (some true) none))
theorem k_bru_ok (h : kRS N σ S M) (hk : (k : Int) = k_ev σ n) {d : kE} (g : k_bru S n d = true) : k_ev σ d < (k_gi M 450 (26 * k + 7)).getD 0 := by
  unfold k_bru at g
  split at g
  · rename_i u hu
    have e := k_c7_ok (o := 7) h hk hu
    rw [cond_false, cond_false, Nat.zero_add] at e
    have g := k_ge_ok h.2.1 h.2.2.1 g
    rw [k_ev_sub, k_ev_sub, k_ev_c] at g
    rw [e]
    show k_ev σ d < k_ev σ u
    omega
  · cases g
theorem k_brw_ok (h : kRS N σ S M) (hk : (k : Int) = k_ev σ n) {d : kE} (g : k_brw S n d = true) : 0 ≤ (k_gi M 450 (26 * k + 8)).getD 0 ∧ (k_gi M 450 (26 * k + 8)).getD 0 ≤ k_ev σ d := by
  unfold k_brw at g
  split at g
  · rename_i w hw
    have e := k_c7_ok (o := 8) h hk hw
    rw [cond_false, cond_false, Nat.zero_add] at e
    obtain ⟨g1, g2⟩ := Bool.and_eq_true_iff.mp g
    have g1 := k_ge_ok h.2.1 h.2.2.1 g1
    have g2 := k_ge_ok h.2.1 h.2.2.1 g2
    rw [k_ev_sub] at g2
    rw [e]
    show 0 ≤ k_ev σ w ∧ k_ev σ w ≤ k_ev σ d
    omega
  · cases g
theorem k_bri_ok (h : kRS N σ S M) (hk : (k : Int) = k_ev σ n) {d : kE} (g : k_bri S n d = true) : (k_gi M 450 (26 * k + 7)).getD 0 ≤ k_ev σ d ∧ ((k_gi M 450 (26 * k + 8)).getD 0 < 0 ∨ k_ev σ d < (k_gi M 450 (26 * k + 8)).getD 0) := by
  unfold k_bri at g
  split at g
  · rename_i u hu
    have e := k_c7_ok (o := 7) h hk hu
    rw [cond_false, cond_false, Nat.zero_add] at e
    obtain ⟨g1, g2⟩ := Bool.and_eq_true_iff.mp g
    have g1 := k_ge_ok h.2.1 h.2.2.1 g1
    rw [k_ev_sub] at g1
    split at g2
    · rename_i w hw
      have e8 := k_c7_ok (o := 8) h hk hw
      rw [cond_false, cond_false, Nat.zero_add] at e8
      rw [e, e8]
      refine ⟨by show k_ev σ u ≤ k_ev σ d; omega, ?_⟩
      show k_ev σ w < 0 ∨ k_ev σ d < k_ev σ w
      rcases Bool.or_eq_true_iff.mp g2 with g2 | g2
      · have g2 := k_ge_ok h.2.1 h.2.2.1 g2
        rw [k_ev_sub, k_ev_c] at g2
        omega
      · have g2 := k_ge_ok h.2.1 h.2.2.1 g2
        rw [k_ev_sub, k_ev_sub, k_ev_c] at g2
        omega
    · cases g2
  · cases g
/-- the reference's row and a set that is it -/
theorem kRb_of {X : Int} {f : Nat} (hT : kTi M k 4096 X) (hf : f < 4096) : kRb M k f = decide (kBt f X = 1) := by
  obtain ⟨x, x1, x2⟩ := hT (f / 32) (by omega)
  have b := x2 (f % 32) (by omega)
  rw [show 32 * (f / 32) + f % 32 = f by omega, decide_eq_true (show ((f : Nat) : Int) < 4096 by omega), Bool.true_and] at b
  unfold kRb
  rw [x1]
  show decide (kBt (f % 32) x.toInt = 1) = _
  rw [kI_bt x (by omega), b]
  cases decide (kBt f X = 1) <;> rfl
theorem k_brx_ok (h : kRS N σ S M) (hk : (k : Int) = k_ev σ n) {f b : kE} (f0 : 0 ≤ k_ev σ f) (f1 : k_ev σ f < 4096) (g : k_brx S n f = some b) : kRb M k (k_ev σ f).toNat = decide (k_ev σ b = 1) := by
  unfold k_brx at g
  split at g
  · rename_i X hX
    split at g
    · rename_i v hv
      cases g
      obtain ⟨-, T⟩ := k_lkt_ok h (k := 9) (y := n) (s := kc 4096) (by omega) hX
      rw [k_ev_c] at T
      have T : 0 ≤ k_ev σ n ∧ kTi M (k_ev σ n).toNat 4096 (k_ev σ X) := T
      obtain ⟨-, T⟩ := T
      rw [show (k_ev σ n).toNat = k by omega] at T
      obtain ⟨-, a2⟩ := k_lk7_ok h (z := 1) (by omega) (by omega) hv
      have a2 : k_ev σ v = kBt (k_ev σ f).toNat (k_ev σ X) := a2
      rw [kRb_of T (by omega), k_nv_ok h.2.1, a2]
    · cases g
  · cases g
theorem k_bard_ok (h : kRS N σ S M) (sy : kSc S.1.length y) (hk : (k : Int) = k_ev σ n) {b : Bool} (hb : k_bard S n y = some b) : kBrd M (k_ev σ y) k = b := by
  unfold k_bard at hb
  split at hb
  · cases hb
  · rename_i q hq
    obtain ⟨q1, q2, q3, -, -⟩ := k_spl_ok h sy hq
    have ed : k_ev σ y / 4096 = k_ev σ q.1 := by omega
    have ef : k_ev σ y % 4096 = k_ev σ q.2 := by omega
    unfold kBrd
    rw [ed, ef]
    cases c1 : k_bru S n q.1 with
    | true =>
      rw [c1, Bool.true_or, cond_true] at hb
      cases hb
      have g := k_bru_ok h hk c1
      rw [decide_eq_false (by omega), Bool.false_and]
    | false =>
      rw [c1, Bool.false_or] at hb
      cases c2 : k_brw S n q.1 with
      | true =>
        rw [c2, cond_true] at hb
        cases hb
        have g := k_brw_ok h hk c2
        rw [decide_eq_false (show ¬ (k_gi M 450 (26 * k + 8)).getD 0 < 0 by omega), decide_eq_false (show ¬ k_ev σ q.1 < (k_gi M 450 (26 * k + 8)).getD 0 by omega), Bool.or_false, Bool.false_and, Bool.and_false]
      | false =>
        rw [c2, cond_false] at hb
        split at hb
        · cases hb
        · rename_i v hv
          have r := k_brx_ok h hk q2 q3 hv
          rw [r]
          cases c3 : k_wq v (kc 1) with
          | true =>
            rw [c3, cond_true] at hb
            cases hb
            rw [k_wq_ok c3, k_ev_c, decide_eq_true (show (1 : Int) = 1 from rfl), Bool.not_true, Bool.and_false, Bool.and_false]
          | false =>
            rw [c3, cond_false] at hb
            obtain ⟨g, hb2⟩ := pm_cs hb
            cases hb2
            obtain ⟨g1, g2⟩ := Bool.and_eq_true_iff.mp g
            have i := k_bri_ok h hk g2
            rw [k_wq_ok g1, k_ev_c, decide_eq_true i.1, Bool.true_and, decide_eq_false (show ¬ (0 : Int) = 1 by omega), Bool.not_false, Bool.and_true, Bool.or_eq_true_iff, decide_eq_true_eq, decide_eq_true_eq]
            exact i.2
end KBB
end
