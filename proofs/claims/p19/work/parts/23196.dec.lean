noncomputable section
/-! cells of tables and of functions: which they are, of what -/
section KTD
variable {N : kN} {σ : Nat → Int} {S : kS} {M : pM}
/-- a table's cell: which, of what -/
def k_tev (S : kS) (c : kE) : Option (Nat × kE) := match k_ts c with
  | none => none
  | some z => cond (Nat.beq z.1 7) (match k_spl S z.2 8 with
    | none => none
    | some r => cond (k_wq r.2 (kc 6) || k_wq r.2 (kc 7)) (match k_spl S r.1 8 with
      | none => none
      | some p => cond (k_cst p.2) (some (p.2.1.toNat + cond (k_wq r.2 (kc 7)) 8 0, p.1)) none) none) none
theorem k_tev_ok (h : kRS N σ S M) {c : kE} {z : Nat × kE} (hc : kSc S.1.length c) (hn : k_ev σ c < 0) (hz : k_tev S c = some z) : kSc S.1.length z.2 ∧ ∀ (M' : pM) (s v : Int), kHas N M' (k_ev σ c) s v ↔ kTab M' z.1 (k_ev σ z.2) s v := by
  unfold k_tev at hz
  split at hz
  · cases hz
  · rename_i y hy
    obtain ⟨b7, hz⟩ := pm_cs hz
    have b7 := pm_beq b7
    split at hz
    · cases hz
    · rename_i r hr
      obtain ⟨cr, hz⟩ := pm_cs hz
      obtain ⟨r1, r2, r3, r4, r5⟩ := k_spl_ok h (k_ts_sc hc hy) hr
      obtain ⟨-, t2, t3⟩ := k_ts_ok (σ := σ) hy
      split at hz
      · cases hz
      · rename_i p hp
        obtain ⟨cp, hz⟩ := pm_cs hz
        cases hz
        obtain ⟨p1, p2, p3, p4, p5⟩ := k_spl_ok h r4 hp
        rw [k_ev_const (σ := σ) cp] at p1 p2 p3
        refine ⟨p4, fun M' s v => ?_⟩
        rw [k_t15 hy hn, kPtx_7 (t2.trans b7)]
        unfold kFms
        have e1 : k_ev σ y.2 / 8 = k_ev σ r.1 := by omega
        have e2 : k_ev σ y.2 % 8 = k_ev σ r.2 := by omega
        rw [t3, e1, e2, show k_ev σ r.1 % 8 = p.2.1 by omega, show k_ev σ r.1 / 8 = k_ev σ p.1 by omega]
        cases c7 : k_wq r.2 (kc 7) with
        | true =>
          have c7 := k_wq_ok c7
          rw [c7, k_ev_c]
          exact Iff.rfl
        | false =>
          rw [c7, Bool.or_false] at cr
          have c6 := k_wq_ok cr
          rw [c6, k_ev_c]
          exact Iff.rfl
/-- an entry of a table -/
def k_tab (S : kS) (q : kH) : Option (Nat × kE) := cond (decide (k_hi S.1 q.1.1 < 0)) (k_tev S q.1.1) none
theorem k_tab_ok (h : kRS N σ S M) {q : kH} {z : Nat × kE} (hq : q ∈ S.2.2.2) (hz : k_tab S q = some z) : kSc S.1.length z.2 ∧ kTab M z.1 (k_ev σ z.2) (k_ev σ q.1.2) (k_ev σ q.2) := by
  unfold k_tab at hz
  obtain ⟨g, hz⟩ := pm_cs hz
  obtain ⟨s1, -, -⟩ := h.2.2.2.2.2.2.2 q hq
  obtain ⟨a1, a2⟩ := k_tev_ok h s1 (k_neg_hi h g) hz
  exact ⟨a1, (a2 M _ _).mp (h.2.2.2.2.1 q hq)⟩
/-- a function's cell: which, of what -/
def kLfz (n : Nat) (x s : Int) : Int := cond (Nat.blt n 7) (kLf2 (n : Int) x s) (kLf4 ((n - 7 : Nat) : Int) x s)
def k_fev (S : kS) (c : kE) : Option (Nat × kE) := match k_ts c with
  | none => none
  | some z => cond (Nat.beq z.1 4) (match k_spl S z.2 8 with
    | none => none
    | some r => cond (k_cst r.2 && decide (4 ≤ r.2.1)) (cond (decide (r.2.1 = 7)) (match k_spl S r.1 16 with
        | none => none
        | some p => cond (k_cst p.2) (some (7 + p.2.1.toNat, p.1)) none) (some (r.2.1.toNat, r.1))) none) none
theorem k_fev_ok (h : kRS N σ S M) {c : kE} {z : Nat × kE} (hc : kSc S.1.length c) (hn : k_ev σ c < 0) (hz : k_fev S c = some z) : kSc S.1.length z.2 ∧ ∀ (M' : pM) (s v : Int), kHas N M' (k_ev σ c) s v ↔ kLfz z.1 (k_ev σ z.2) s = v := by
  unfold k_fev at hz
  split at hz
  · cases hz
  · rename_i y hy
    obtain ⟨b4, hz⟩ := pm_cs hz
    have b4 := pm_beq b4
    split at hz
    · cases hz
    · rename_i r hr
      obtain ⟨cr, hz⟩ := pm_cs hz
      obtain ⟨cr, c4⟩ := Bool.and_eq_true_iff.mp cr
      have c4 := of_decide_eq_true c4
      obtain ⟨r1, r2, r3, r4, r5⟩ := k_spl_ok h (k_ts_sc hc hy) hr
      obtain ⟨-, t2, t3⟩ := k_ts_ok (σ := σ) hy
      rw [k_ev_const (σ := σ) cr] at r1 r2 r3
      have base : ∀ (M' : pM) (s v : Int), kHas N M' (k_ev σ c) s v ↔ kLf2 r.2.1 (k_ev σ r.1) s = v := fun M' s v => by
        rw [k_t15 hy hn, kPtx_4 (t2.trans b4), t3, show k_ev σ y.2 = r.2.1 + 8 * k_ev σ r.1 by omega, kLf_4 _ _ _ c4 (by omega)]
      cases d7 : decide (r.2.1 = 7) with
      | true =>
        rw [d7, cond_true] at hz
        have d7 := of_decide_eq_true d7
        split at hz
        · cases hz
        · rename_i p hp
          obtain ⟨cp, hz⟩ := pm_cs hz
          cases hz
          obtain ⟨p1, p2, p3, p4, p5⟩ := k_spl_ok h r4 hp
          rw [k_ev_const (σ := σ) cp] at p1 p2 p3
          refine ⟨p4, fun M' s v => ?_⟩
          rw [base, d7, show k_ev σ r.1 = p.2.1 + 16 * k_ev σ p.1 by omega, kLf2_7 _ _ _ (by omega) (by omega)]
          unfold kLfz
          rw [show Nat.blt (7 + p.2.1.toNat) 7 = false from by
            cases e : Nat.blt (7 + p.2.1.toNat) 7 with
            | false => rfl
            | true =>
              have := pm_blt e
              omega, cond_false, show ((7 + p.2.1.toNat - 7 : Nat) : Int) = p.2.1 by omega]
      | false =>
        rw [d7, cond_false] at hz
        cases hz
        have d7 := of_decide_eq_false d7
        refine ⟨r4, fun M' s v => ?_⟩
        rw [base]
        unfold kLfz
        rw [show Nat.blt r.2.1.toNat 7 = true from Nat.ble_eq_true_of_le (by omega), cond_true, show ((r.2.1.toNat : Nat) : Int) = r.2.1 by omega]
def k_fnn (S : kS) (q : kH) : Option (Nat × kE) := cond (decide (k_hi S.1 q.1.1 < 0)) (k_fev S q.1.1) none
theorem k_fnn_ok (h : kRS N σ S M) {q : kH} {z : Nat × kE} (hq : q ∈ S.2.2.2) (hz : k_fnn S q = some z) : kSc S.1.length z.2 ∧ kLfz z.1 (k_ev σ z.2) (k_ev σ q.1.2) = k_ev σ q.2 := by
  unfold k_fnn at hz
  obtain ⟨g, hz⟩ := pm_cs hz
  obtain ⟨s1, -, -⟩ := h.2.2.2.2.2.2.2 q hq
  obtain ⟨a1, a2⟩ := k_fev_ok h s1 (k_neg_hi h g) hz
  exact ⟨a1, (a2 M _ _).mp (h.2.2.2.2.1 q hq)⟩
theorem k_tth {c s v y : Int} {k : Nat} (hk : k < 8) (hc : c = -(15 + 16 * (7 + 8 * (6 + 8 * ((k : Int) + 8 * y))))) (hn : c < 0) : kHas N M c s v ↔ kTab M k y s v := by
  have e : kPtx M (7 + 8 * (6 + 8 * ((k : Int) + 8 * y))) s v ↔ kTab M k y s v := by
    rw [kPtx_7 (by omega)]
    unfold kFms
    rw [show (7 + 8 * (6 + 8 * ((k : Int) + 8 * y))) / 8 = 6 + 8 * ((k : Int) + 8 * y) by omega, show decide (6 ≤ (6 + 8 * ((k : Int) + 8 * y)) % 8) = true from decide_eq_true (by omega), cond_true, show ((6 + 8 * ((k : Int) + 8 * y)) / 8 % 8).toNat = k by omega, show decide ((6 + 8 * ((k : Int) + 8 * y)) % 8 = 7) = false from decide_eq_false (by omega), cond_false, show (6 + 8 * ((k : Int) + 8 * y)) / 8 / 8 = y by omega]
    exact Iff.rfl
  rw [← e]
  constructor
  · intro hh
    exact kPhi_to (i := 15) hc (by omega) (hh.2 hn)
  · intro hh
    exact ⟨fun h0 => by omega, fun _ => kPhi_of (i := 15) hc (by omega) hh⟩

theorem kTt_px {t m y s v : Int} (ht : t = 6 ∨ t = 7) (h0 : 0 ≤ m) (h8 : m < 8) : kPtx M (7 + 8 * (t + 8 * (m + 8 * y))) s v ↔ kTab M (m.toNat + cond (decide (t = 7)) 8 0) y s v := by
  rw [kPtx_7 (by omega)]
  unfold kFms
  have e1 : (7 + 8 * (t + 8 * (m + 8 * y))) / 8 = t + 8 * (m + 8 * y) := by omega
  have e2 : (t + 8 * (m + 8 * y)) % 8 = t := by omega
  have e3 : (t + 8 * (m + 8 * y)) / 8 % 8 = m := by omega
  have e4 : (t + 8 * (m + 8 * y)) / 8 / 8 = y := by omega
  rw [e1, e2, e3, e4, show decide (6 ≤ t) = true from decide_eq_true (by omega), cond_true]
theorem k_ttH {c s v y t m : Int} (ht : t = 6 ∨ t = 7) (h0 : 0 ≤ m) (h8 : m < 8) (hc : c = -(15 + 16 * (7 + 8 * (t + 8 * (m + 8 * y))))) (hn : c < 0) : kHas N M c s v ↔ kTab M (m.toNat + cond (decide (t = 7)) 8 0) y s v := by
  constructor
  · intro hh
    exact (kTt_px ht h0 h8).mp (kPhi_to (i := 15) hc (by omega) (hh.2 hn))
  · intro hh
    exact ⟨fun h => by omega, fun _ => kPhi_of (i := 15) hc (by omega) ((kTt_px ht h0 h8).mpr hh)⟩
/-- a table's cell, made: its number, of what -/
def k_tc (n : Int) (y : kE) : kE := k_sub (kc n) (k_mul 8192 y)
theorem k_tc_sc {n : Nat} {z : Int} {y : kE} (h : kSc n y) : kSc n (k_tc z y) := kSc_sub kSc_c (kSc_mul h)
theorem k_tc_ev (n : Int) (y : kE) : k_ev σ (k_tc n y) = n - 8192 * k_ev σ y := by
  unfold k_tc
  rw [k_ev_sub, k_ev_c, k_ev_mul]
theorem k_tc_h {n t m : Int} (ht : t = 6 ∨ t = 7) (h0 : 0 ≤ m) (h8 : m < 8) (hn : n = -(127 + 128 * (t + 8 * m))) {y : kE} {s v : Int} (hl : k_ev σ (k_tc n y) < 0) : kHas N M (k_ev σ (k_tc n y)) s v ↔ kTab M (m.toNat + cond (decide (t = 7)) 8 0) (k_ev σ y) s v := k_ttH ht h0 h8 (by rw [k_tc_ev]; omega) hl
def k_tcn (k : Nat) : Int := match k with
  | 0 => -895
  | 1 => -1919
  | 2 => -2943
  | 3 => -3967
  | 4 => -4991
  | 5 => -6015
  | 6 => -7039
  | 7 => -8063
  | 8 => -1023
  | 9 => -2047
  | 10 => -3071
  | 11 => -4095
  | _ => -5119
theorem k_tcH {k : Nat} (hk : k < 13) {y : kE} {s v : Int} (hl : k_ev σ (k_tc (k_tcn k) y) < 0) : kHas N M (k_ev σ (k_tc (k_tcn k) y)) s v ↔ kTab M k (k_ev σ y) s v := by
  match k, hk, hl with
  | 0, _, hl => exact k_tc_h (t := 6) (m := 0) (Or.inl rfl) (by omega) (by omega) rfl hl
  | 1, _, hl => exact k_tc_h (t := 6) (m := 1) (Or.inl rfl) (by omega) (by omega) rfl hl
  | 2, _, hl => exact k_tc_h (t := 6) (m := 2) (Or.inl rfl) (by omega) (by omega) rfl hl
  | 3, _, hl => exact k_tc_h (t := 6) (m := 3) (Or.inl rfl) (by omega) (by omega) rfl hl
  | 4, _, hl => exact k_tc_h (t := 6) (m := 4) (Or.inl rfl) (by omega) (by omega) rfl hl
  | 5, _, hl => exact k_tc_h (t := 6) (m := 5) (Or.inl rfl) (by omega) (by omega) rfl hl
  | 6, _, hl => exact k_tc_h (t := 6) (m := 6) (Or.inl rfl) (by omega) (by omega) rfl hl
  | 7, _, hl => exact k_tc_h (t := 6) (m := 7) (Or.inl rfl) (by omega) (by omega) rfl hl
  | 8, _, hl => exact k_tc_h (t := 7) (m := 0) (Or.inr rfl) (by omega) (by omega) rfl hl
  | 9, _, hl => exact k_tc_h (t := 7) (m := 1) (Or.inr rfl) (by omega) (by omega) rfl hl
  | 10, _, hl => exact k_tc_h (t := 7) (m := 2) (Or.inr rfl) (by omega) (by omega) rfl hl
  | 11, _, hl => exact k_tc_h (t := 7) (m := 3) (Or.inr rfl) (by omega) (by omega) rfl hl
  | 12, _, hl => exact k_tc_h (t := 7) (m := 4) (Or.inr rfl) (by omega) (by omega) rfl hl
  | k + 13, hk, _ => omega
/-- a table looked up -/
theorem k_lkt_ok (h : kRS N σ S M) {k : Nat} (hk : k < 13) {y s v : kE} (hv : k_lkf S (k_tc (k_tcn k) y) s = some v) : kSc S.1.length v ∧ kTab M k (k_ev σ y) (k_ev σ s) (k_ev σ v) := by
  unfold k_lkf at hv
  obtain ⟨g, hv⟩ := pm_cs hv
  obtain ⟨a1, a2⟩ := k_look_ok h hv
  exact ⟨a1, (k_tcH hk (k_neg_hi h g)).mp a2⟩
/-- quick looks at a cell's number -/
def k_qm (m : Nat) (c : kE) : Bool := Nat.beq (Nat.mod (k_zm c.1) 1024) m
def k_q8 (z : Nat) (c : kE) : Bool := Nat.beq (Nat.mod (Nat.div (k_zm c.1) 1024) 8) z
def k_q16 (z : Nat) (c : kE) : Bool := Nat.beq (Nat.mod (Nat.div (k_zm c.1) 1024) 16) z
/-- an entry of table k: of what -/
def k_ttq (S : kS) (k : Nat) (q : kH) : Option kE := cond (k_qm (cond (Nat.blt k 8) 894 1022) q.1.1 && k_q8 (Nat.mod k 8) q.1.1) (match k_tab S q with
  | some z => cond (Nat.beq z.1 k) (some z.2) none
  | none => none) none
theorem k_ttq_ok (h : kRS N σ S M) {k : Nat} {q : kH} {y : kE} (hq : q ∈ S.2.2.2) (hz : k_ttq S k q = some y) : kSc S.1.length y ∧ kTab M k (k_ev σ y) (k_ev σ q.1.2) (k_ev σ q.2) := by
  unfold k_ttq at hz
  obtain ⟨-, hz⟩ := pm_cs hz
  split at hz
  · rename_i z hz2
    obtain ⟨g, hz⟩ := pm_cs hz
    cases hz
    obtain ⟨a1, a2⟩ := k_tab_ok h hq hz2
    rw [pm_beq g] at a2
    exact ⟨a1, a2⟩
  · cases hz
/-- the top set, and the rest -/
def k_pdg (S : kS) (P : kE) : Option (kE × kE) := match k_spl S P (kPw 4096) with
  | some r => some (k_nv S.1 r.2, r.1)
  | none => none
theorem k_pdg_ok (h : kRS N σ S M) {P : kE} {r : kE × kE} (hP : kSc S.1.length P) (hr : k_pdg S P = some r) : (kSc S.1.length r.1 ∧ k_ev σ r.1 = k_ev σ P % kBg) ∧ kSc S.1.length r.2 ∧ k_ev σ r.2 = k_ev σ P / kBg := by
  unfold k_pdg at hr
  split at hr
  · rename_i p hp
    cases hr
    obtain ⟨p1, p2, p3, p4, p5⟩ := k_spl_ok h hP hp
    have hb := kPw_pos 4096
    refine ⟨⟨k_nv_sc p5, ?_⟩, p4, ?_⟩
    · show k_ev σ (k_nv S.1 p.2) = _
      rw [k_nv_ok h.2.1, p1, ← kPw_bg, Int.add_comm, Int.add_mul_emod_self_left, Int.emod_eq_of_lt p2 p3]
    · show k_ev σ p.1 = _
      rw [p1, ← kPw_bg, Int.add_comm, Int.add_mul_ediv_left _ _ (by omega), Int.ediv_eq_zero_of_lt p2 p3, Int.zero_add]
  · cases hr
/-- sets by their numbers: within 2^4096 -/
def k_bgR (S : kS) (X : kE) : Bool := decide (0 ≤ k_lo S.1 X) && decide (k_hi S.1 X < kPw 4096)
theorem k_bgR_ok (h : kRS N σ S M) {X : kE} (hx : k_bgR S X = true) : 0 ≤ k_ev σ X ∧ k_ev σ X < kBg := by
  obtain ⟨a, b⟩ := Bool.and_eq_true_iff.mp hx
  have a := of_decide_eq_true a
  have b := of_decide_eq_true b
  have := k_lo_le h.2.1 X
  have := k_hi_ge h.2.1 X
  rw [kPw_bg] at b
  omega
end KTD
end
