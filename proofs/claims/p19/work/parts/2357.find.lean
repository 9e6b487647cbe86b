noncomputable section
/-! tables and functions: what is known without being written, what is found -/
section KRT
variable {N : kN} {σ : Nat → Int} {S : kS} {M : pM}
def k_mem (S : kS) (c k : kE) (lo hi : Int) : kE × kS := match k_look S c k with
  | some v => (v, S)
  | none => ((k_new S lo hi).1, k_put (k_new S lo hi).2 ((c, k), (k_new S lo hi).1))
theorem k_mem_ok (h : kRS N σ S M) {c k : kE} {lo hi x : Int} (hc : kSc S.1.length c) (hk : kSc S.1.length k) (h1 : lo ≤ x) (h2 : x ≤ hi) (he : ∀ v, kHas N M (k_ev σ c) (k_ev σ k) v ↔ x = v) : ∃ τ, kAgr S.1.length σ τ ∧ S.1.length ≤ (k_mem S c k lo hi).2.1.length ∧ kRS N τ (k_mem S c k lo hi).2 M ∧ k_ev τ (k_mem S c k lo hi).1 = x ∧ kSc (k_mem S c k lo hi).2.1.length (k_mem S c k lo hi).1 := by
  unfold k_mem
  split
  · rename_i v hv
    obtain ⟨a1, a2⟩ := k_look_ok h hv
    exact ⟨σ, fun _ _ => rfl, Nat.le_refl _, h, ((he _).mp a2).symm, a1⟩
  · obtain ⟨τ, t1, t2, t3, t4, t5⟩ := k_new_ok h h1 h2
    refine ⟨τ, t1, t2, kRS_put t3 ⟨hc.mono t2, hk.mono t2, t5⟩ ?_, t4, t5⟩
    show kHas N M (k_ev τ c) (k_ev τ k) (k_ev τ (k_new S lo hi).1)
    rw [k_ev_agree t1 hc, k_ev_agree t1 hk, t4]
    exact (he x).mpr rfl
theorem k_fop_neg {o : Int} {x : kE} (h4 : 0 ≤ o) (hx : 0 ≤ k_ev σ x) : k_ev σ (k_fop o x) < 0 := by
  rw [k_fop_ev]
  omega
theorem k_f7_neg {z : Int} {u : kE} (hz : 0 ≤ z) (hu : 0 ≤ k_ev σ u) : k_ev σ (k_ff7 z u) < 0 := by
  refine k_fop_neg (by omega) ?_
  rw [k_ev_add, k_ev_c, k_ev_mul]
  omega
/-- a function of one kind, remembered -/
theorem k_mef_ok (h : kRS N σ S M) {o : Int} {x k : kE} {lo hi : Int} (hx : kSc S.1.length x) (hk : kSc S.1.length k) (h4 : 4 ≤ o) (h8 : o < 8) (x0 : 0 ≤ k_ev σ x) (h1 : lo ≤ kLf2 o (k_ev σ x) (k_ev σ k)) (h2 : kLf2 o (k_ev σ x) (k_ev σ k) ≤ hi) : ∃ τ, kAgr S.1.length σ τ ∧ S.1.length ≤ (k_mem S (k_fop o x) k lo hi).2.1.length ∧ kRS N τ (k_mem S (k_fop o x) k lo hi).2 M ∧ k_ev τ (k_mem S (k_fop o x) k lo hi).1 = kLf2 o (k_ev σ x) (k_ev σ k) ∧ kSc (k_mem S (k_fop o x) k lo hi).2.1.length (k_mem S (k_fop o x) k lo hi).1 := k_mem_ok h (k_fop_sc hx) hk h1 h2 fun v => k_fop_h h4 h8 (k_fop_neg (by omega) x0)
theorem k_me7_ok (h : kRS N σ S M) {z : Int} {u k : kE} {lo hi : Int} (hu : kSc S.1.length u) (hk : kSc S.1.length k) (z0 : 0 ≤ z) (z1 : z < 16) (u0 : 0 ≤ k_ev σ u) (h1 : lo ≤ kLf4 z (k_ev σ u) (k_ev σ k)) (h2 : kLf4 z (k_ev σ u) (k_ev σ k) ≤ hi) : ∃ τ, kAgr S.1.length σ τ ∧ S.1.length ≤ (k_mem S (k_ff7 z u) k lo hi).2.1.length ∧ kRS N τ (k_mem S (k_ff7 z u) k lo hi).2 M ∧ k_ev τ (k_mem S (k_ff7 z u) k lo hi).1 = kLf4 z (k_ev σ u) (k_ev σ k) ∧ kSc (k_mem S (k_ff7 z u) k lo hi).2.1.length (k_mem S (k_ff7 z u) k lo hi).1 := k_mem_ok h (k_f7_sc hu) hk h1 h2 fun v => k_f7_h z0 z1 (k_f7_neg z0 u0)
/-- nothing yet -/
def k_trk0 (S : kS) (z : Nat × kE) : Bool := match z.1 with
  | 0 => true
  | 4 => k_geS S z.2
  | 5 => true
  | 6 => true
  | 8 => true
  | 10 => k_geS S z.2
  | 11 => true
  | 12 => true
  | _ => false
def k_trv (S : kS) (s : kE) (z : Nat × kE) : Option kE := cond (Nat.beq z.1 7) (cond (k_eqS S s z.2 && k_geS S z.2) (some (kc 0)) none) (cond (k_wq (k_nv S.1 s) (kc 0) && k_trk0 S z) (some (kc 0)) none)
theorem k_trv_ok (h : kRS N σ S M) {s v : kE} {z : Nat × kE} (hv : k_trv S s z = some v) : kSc S.1.length v ∧ kTab M z.1 (k_ev σ z.2) (k_ev σ s) (k_ev σ v) := by
  obtain ⟨k, y⟩ := z
  unfold k_trv at hv
  cases c7 : Nat.beq (k, y).1 7 with
  | true =>
    rw [c7, cond_true] at hv
    obtain ⟨g, hv⟩ := pm_cs hv
    cases hv
    obtain ⟨g1, g2⟩ := Bool.and_eq_true_iff.mp g
    have g1 := k_eqv_ok h.2.1 h.2.2.1 g1
    have g2 := k_ge_ok h.2.1 h.2.2.1 g2
    have c7 : k = 7 := pm_beq c7
    subst c7
    have g1 : k_ev σ s = k_ev σ y := g1
    have g2 : 0 ≤ k_ev σ y := g2
    refine ⟨kSc_c, (k_ev σ y).toNat, 0, by show ((k_ev σ y).toNat : Int) = k_ev σ y; omega, by show (((k_ev σ y).toNat + 0 : Nat) : Int) = k_ev σ s; omega, ?_⟩
    rw [k_ev_c]
    rfl
  | false =>
    rw [c7, cond_false] at hv
    obtain ⟨g, hv⟩ := pm_cs hv
    cases hv
    obtain ⟨g1, g2⟩ := Bool.and_eq_true_iff.mp g
    have e := k_nv_ok (e := s) h.2.1
    rw [k_wq_ok g1, k_ev_c] at e
    refine ⟨kSc_c, ?_⟩
    show kTab M k (k_ev σ y) (k_ev σ s) (k_ev σ (kc 0))
    rw [← e, k_ev_c]
    have no : ∀ {p : Prop} {i : Nat}, (i : Int) < 0 → p := fun hi => absurd hi (by omega)
    match k, g2 with
    | 0, _ => exact ⟨by omega, by omega, fun i hi => no hi⟩
    | 4, g2 => exact ⟨k_ge_ok h.2.1 h.2.2.1 g2, fun i hi => no hi⟩
    | 5, _ => exact ⟨0, 0, 0, rfl, rfl⟩
    | 6, _ => exact ⟨0, rfl, rfl⟩
    | 8, _ => exact ⟨by omega, fun i hi => no hi⟩
    | 10, g2 => exact ⟨k_ge_ok h.2.1 h.2.2.1 g2, fun i _ hi => no hi⟩
    | 11, _ => exact ⟨by omega, fun i _ => ⟨fun hi => no hi, fun hi => no hi⟩⟩
    | 12, _ => exact fun i _ hi => no hi
    | 1, g2 => cases g2
    | 2, g2 => cases g2
    | 3, g2 => cases g2
    | 7, g2 => cases g2
    | 9, g2 => cases g2
    | k + 13, g2 => cases g2
def k_vtvT (S : kS) (c s : kE) : Option kE := cond (k_qtb c) (match k_tev S c with
  | some z => k_trv S s z
  | none => k_vtv S c s) (k_vtv S c s)
theorem k_vtvT_ok (h : kRS N σ S M) {c s v : kE} (hc : kSc S.1.length c) (hs : kSc S.1.length s) (hn : k_ev σ c < 0) (hv : k_vtvT S c s = some v) : kSc S.1.length v ∧ kHas N M (k_ev σ c) (k_ev σ s) (k_ev σ v) := by
  unfold k_vtvT at hv
  cases c1 : k_qtb c with
  | false =>
    rw [c1, cond_false] at hv
    exact k_vtv_ok h hc hs hn hv
  | true =>
    rw [c1, cond_true] at hv
    split at hv
    · rename_i z hz
      obtain ⟨-, H⟩ := k_tev_ok h hc hn hz
      obtain ⟨a1, a2⟩ := k_trv_ok h hv
      exact ⟨a1, (H M _ _).mpr a2⟩
    · exact k_vtv_ok h hc hs hn hv
/-- functions found -/
def k_vff (S : kS) (s : kE) (z : Nat × kE) : Option kE := cond (Nat.beq z.1 7) (k_wdf S z.2 s) (cond (Nat.beq z.1 8) (k_bit6 S z.2 s) (cond (Nat.beq z.1 17) (k_slf S z.2 s) (cond (Nat.beq z.1 18) (k_cnf S z.2 s) none)))
theorem kLfz_17 (x s : Int) : kLfz 17 x s = kLf4 10 x s := by
  unfold kLfz
  rw [show Nat.blt 17 7 = false from rfl, cond_false, show (((17 - 7 : Nat) : Nat) : Int) = 10 from rfl]
theorem kLfz_18 (x s : Int) : kLfz 18 x s = kLf4 11 x s := by
  unfold kLfz
  rw [show Nat.blt 18 7 = false from rfl, cond_false, show (((18 - 7 : Nat) : Nat) : Int) = 11 from rfl]
theorem k_vff_ok (h : kRS N σ S M) {s v : kE} {z : Nat × kE} (hz : kSc S.1.length z.2) (hs : kSc S.1.length s) (hv : k_vff S s z = some v) : kSc S.1.length v ∧ kLfz z.1 (k_ev σ z.2) (k_ev σ s) = k_ev σ v := by
  unfold k_vff at hv
  cases c7 : Nat.beq z.1 7 with
  | true =>
    rw [c7, cond_true] at hv
    rw [pm_beq c7]
    exact k_wdf_ok h hz hv
  | false =>
    rw [c7, cond_false] at hv
    cases c8 : Nat.beq z.1 8 with
    | true =>
      rw [c8, cond_true] at hv
      rw [pm_beq c8]
      exact k_bit6_ok h hs hv
    | false =>
      rw [c8, cond_false] at hv
      cases c9 : Nat.beq z.1 17 with
      | true =>
        rw [c9, cond_true] at hv
        rw [pm_beq c9]
        obtain ⟨a1, a2⟩ := k_slf_ok h hz hs hv
        exact ⟨a1, by rw [kLfz_17]; exact a2.symm⟩
      | false =>
        rw [c9, cond_false] at hv
        obtain ⟨c10, hv⟩ := pm_cs hv
        rw [pm_beq c10]
        obtain ⟨a1, a2⟩ := k_cnf_ok h hs hv
        exact ⟨a1, by rw [kLfz_18]; exact a2.symm⟩
/-- tables found -/
def k_popT : Nat → kS → kE → Option kE
  | 0, _, P => some P
  | n + 1, S, P => match k_spl S P (kPw 4096) with
    | none => none
    | some r => k_popT n S r.1
theorem k_popT_ok (h : kRS N σ S M) : ∀ (n : Nat) {P v : kE}, kSc S.1.length P → k_popT n S P = some v → kSc S.1.length v ∧ ∀ i : Nat, kDg (k_ev σ v) i = kDg (k_ev σ P) (i + n)
  | 0, _, _, sP, hv => by
    cases hv
    exact ⟨sP, fun _ => rfl⟩
  | n + 1, P, v, sP, hv => by
    unfold k_popT at hv
    split at hv
    · cases hv
    · rename_i r hr
      obtain ⟨p1, p2, p3, p4, -⟩ := k_spl_ok h sP hr
      have hb := kPw_pos 4096
      obtain ⟨a1, a2⟩ := k_popT_ok h n p4 hv
      refine ⟨a1, fun i => ?_⟩
      rw [a2, show i + (n + 1) = (i + n) + 1 by omega, ← kDg_dv]
      congr 1
      rw [p1, ← kPw_bg, Int.add_comm, Int.add_mul_ediv_left _ _ (by omega), Int.ediv_eq_zero_of_lt p2 p3, Int.zero_add]
def k_f0a (S : kS) (s h0 P : kE) : Option kE := cond (k_cst (k_sub h0 s) && (decide (0 ≤ (k_sub h0 s).1) && decide ((k_sub h0 s).1 ≤ 2))) (k_popT (k_sub h0 s).1.toNat S P) none
/-- a set of the class's table's row, pushed -/
def k_f0r (S : kS) (h0 P : kE) (r : kH) : Option kE := match k_ttq S 1 r with
  | none => none
  | some y => cond (k_wq (k_nv S.1 r.1.2) (kc 64) && (k_eq y (k_add h0 (kc 369)) && k_bgR S r.2)) (some (k_add r.2 (k_mul (kPw 4096) P))) none
def k_f0b (S : kS) (s h0 P : kE) : Option kE := cond (k_wq (k_sub h0 s) (kc (-1)) && k_geS S (k_sub (kc 19) s)) (lfo (k_f0r S h0 P) S.2.2.2) none
def k_f0c (S : kS) (s h0 P : kE) : Option kE := match k_f0a S s h0 P with
  | some v => some v
  | none => k_f0b S s h0 P
def k_f0q (S : kS) (s : kE) (q : kH) : Option kE := match k_ttq S 0 q with
  | none => none
  | some _ => k_f0c S s q.1.2 q.2
def k_f0 (S : kS) (s : kE) : Option kE := match lfo (k_f0q S s) S.2.2.2 with
  | some v => some v
  | none => k_f0c S s (kc 0) (kc 0)
theorem k_f0c_ok (h : kRS N σ S M) {s h0 P v : kE} (sh : kSc S.1.length h0) (sP : kSc S.1.length P) (hs0 : 0 ≤ k_ev σ s) {y : Int} (hT : kTab M 0 y (k_ev σ h0) (k_ev σ P)) (hv : k_f0c S s h0 P = some v) : kSc S.1.length v ∧ kTab M 0 y (k_ev σ s) (k_ev σ v) := by
  obtain ⟨h1, h2, h3⟩ := hT
  unfold k_f0c at hv
  split at hv
  · rename_i v' hv'
    cases hv
    unfold k_f0a at hv'
    obtain ⟨g, hv⟩ := pm_cs hv'
    simp only [Bool.and_eq_true, decide_eq_true_eq] at g
    obtain ⟨g1, g2, g3⟩ := g
    have e := k_ev_const (σ := σ) g1
    rw [k_ev_sub] at e
    obtain ⟨a1, a2⟩ := k_popT_ok h _ sP hv
    refine ⟨a1, hs0, by omega, fun i hi => ?_⟩
    rw [a2, show (k_ev σ s).toNat - 1 - i + (k_sub h0 s).1.toNat = (k_ev σ h0).toNat - 1 - i by omega]
    exact h3 i (by omega)
  · unfold k_f0b at hv
    obtain ⟨g, hv⟩ := pm_cs hv
    obtain ⟨g1, g2⟩ := Bool.and_eq_true_iff.mp g
    have g1 := congrArg (k_ev σ) (k_wq_ok g1)
    rw [k_ev_sub, k_ev_c] at g1
    have g2 := k_ge_ok h.2.1 h.2.2.1 g2
    rw [k_ev_sub, k_ev_c] at g2
    obtain ⟨r, hr, hv⟩ := lfo_in hv
    unfold k_f0r at hv
    split at hv
    · cases hv
    · rename_i yy hy
      obtain ⟨g3, hv⟩ := pm_cs hv
      cases hv
      simp only [Bool.and_eq_true] at g3
      obtain ⟨g3, g4, g5⟩ := g3
      have e64 := k_nv_ok (e := r.1.2) h.2.1
      rw [k_wq_ok g3, k_ev_c] at e64
      have g4 := k_eq_ok (σ := σ) g4
      rw [k_ev_add, k_ev_c] at g4
      have g5 := k_bgR_ok h g5
      obtain ⟨-, T⟩ := k_ttq_ok h hr hy
      obtain ⟨t0, t1⟩ := T
      rw [← e64] at t1
      refine ⟨kSc_add (h.2.2.2.2.2.2.2 r hr).2.2 (kSc_mul sP), hs0, by omega, fun i hi => ?_⟩
      rw [k_ev_add, k_ev_mul, kPw_bg]
      by_cases c : (i : Int) = k_ev σ h0
      · rw [show (k_ev σ s).toNat - 1 - i = 0 by omega, kDg_0 g5.1 g5.2, show 369 + i = (k_ev σ yy).toNat by omega]
        exact t1
      · rw [show (k_ev σ s).toNat - 1 - i = ((k_ev σ h0).toNat - 1 - i) + 1 by omega, kDg_s g5.1 g5.2]
        exact h3 i (by omega)
theorem k_f0_ok (h : kRS N σ S M) {s v : kE} {y : Int} (hs0 : 0 ≤ k_ev σ s) (hv : k_f0 S s = some v) : kSc S.1.length v ∧ kTab M 0 y (k_ev σ s) (k_ev σ v) := by
  unfold k_f0 at hv
  split at hv
  · rename_i v' hv'
    cases hv
    obtain ⟨q, hq, hv⟩ := lfo_in hv'
    obtain ⟨-, s2, s3⟩ := h.2.2.2.2.2.2.2 q hq
    unfold k_f0q at hv
    split at hv
    · cases hv
    · rename_i y' hy
      obtain ⟨-, T⟩ := k_ttq_ok h hq hy
      exact k_f0c_ok h s2 s3 hs0 T hv
  · refine k_f0c_ok h (h0 := kc 0) (P := kc 0) kSc_c kSc_c hs0 ?_ hv
    rw [k_ev_c]
    exact ⟨by omega, by omega, fun i hi => absurd hi (by omega)⟩
/-- a digit of what the class's tables hold -/
def k_dgt (S : kS) (y : kE) (q : kH) : Option kE := match k_ttq S 0 q with
  | none => none
  | some _ => cond (k_cst (k_sub (k_sub (k_add q.1.2 (kc 369)) y) (kc 1)) && (decide (0 ≤ (k_sub (k_sub (k_add q.1.2 (kc 369)) y) (kc 1)).1) && (decide ((k_sub (k_sub (k_add q.1.2 (kc 369)) y) (kc 1)).1 ≤ 1) && k_geS S (k_sub y (kc 369))))) (match k_popT (k_sub (k_sub (k_add q.1.2 (kc 369)) y) (kc 1)).1.toNat S q.2 with
    | none => none
    | some P => (match k_spl S P (kPw 4096) with
      | some r => some r.2
      | none => none)) none
theorem k_dgt_ok (h : kRS N σ S M) {y v : kE} {q : kH} (hq : q ∈ S.2.2.2) (hv : k_dgt S y q = some v) : kSc S.1.length v ∧ 0 ≤ k_ev σ y ∧ kTl M (k_ev σ y).toNat 0 64 (k_ev σ v) := by
  obtain ⟨-, s2, s3⟩ := h.2.2.2.2.2.2.2 q hq
  unfold k_dgt at hv
  split at hv
  · cases hv
  · rename_i y' hy
    obtain ⟨-, T⟩ := k_ttq_ok h hq hy
    obtain ⟨h1, h2, h3⟩ := T
    obtain ⟨g, hv⟩ := pm_cs hv
    simp only [Bool.and_eq_true, decide_eq_true_eq] at g
    obtain ⟨g1, g2, g3, g4⟩ := g
    have e := k_ev_const (σ := σ) g1
    rw [k_ev_sub, k_ev_sub, k_ev_add, k_ev_c, k_ev_c] at e
    have g4 := k_ge_ok h.2.1 h.2.2.1 g4
    rw [k_ev_sub, k_ev_c] at g4
    split at hv
    · cases hv
    · rename_i P hP
      obtain ⟨a1, a2⟩ := k_popT_ok h _ s3 hP
      split at hv
      · rename_i r hr
        cases hv
        obtain ⟨p1, p2, p3, -, p5⟩ := k_spl_ok h a1 hr
        have hb := kPw_pos 4096
        refine ⟨p5, by omega, ?_⟩
        have t := h3 ((k_ev σ y).toNat - 369) (by omega)
        rw [show 369 + ((k_ev σ y).toNat - 369) = (k_ev σ y).toNat by omega, show (k_ev σ q.1.2).toNat - 1 - ((k_ev σ y).toNat - 369) = 0 + (k_sub (k_sub (k_add q.1.2 (kc 369)) y) (kc 1)).1.toNat by omega, ← a2] at t
        have ed : kDg (k_ev σ P) 0 = k_ev σ r.2 := by
          unfold kDg
          rw [Int.pow_zero, Int.ediv_one, p1, ← kPw_bg, Int.add_comm, Int.add_mul_emod_self_left, Int.emod_eq_of_lt p2 p3]
        rw [ed] at t
        exact t
      · cases hv
def k_f3q (S : kS) (q : kH) : Bool := match k_ttq S 4 q with
  | some y => k_wq y (kc 388) && k_geS S (k_sub q.1.2 (kc 12))
  | none => false
/-- a value of the reference's, pushed -/
def k_f8r (S : kS) (y n P v : kE) (r : kH) : Option kE := match k_ttq S 5 r with
  | none => none
  | some _ => (match k_pdg S r.2 with
    | none => none
    | some d => cond (k_eqS S d.2 P) (match k_bit6 S y d.1 with
      | some w => cond (k_eqS S w v) (some r.2) none
      | none => none) none)
def k_f8a (S : kS) (y s n P : kE) : Option kE := cond (k_wq (k_sub n s) (kc (-1)) && k_geS S n) (match k_fq S (kc 464) n with
  | none => none
  | some v => lfo (k_f8r S y n P v) S.2.2.2) none
def k_f8q (S : kS) (y s : kE) (q : kH) : Option kE := match k_ttq S 8 q with
  | none => none
  | some y2 => cond (k_eqS S y2 y) (k_f8a S y s q.1.2 q.2) none
def k_f8 (S : kS) (y s : kE) : Option kE := match lfo (k_f8q S y s) S.2.2.2 with
  | some v => some v
  | none => k_f8a S y s (kc 0) (kc 0)
theorem k_f8a_ok (h : kRS N σ S M) {y s n P v : kE} (hT : kTab M 8 (k_ev σ y) (k_ev σ n) (k_ev σ P)) (hv : k_f8a S y s n P = some v) : kSc S.1.length v ∧ kTab M 8 (k_ev σ y) (k_ev σ s) (k_ev σ v) := by
  obtain ⟨h1, h2⟩ := hT
  unfold k_f8a at hv
  obtain ⟨g, hv⟩ := pm_cs hv
  obtain ⟨g1, -⟩ := Bool.and_eq_true_iff.mp g
  have g1 := congrArg (k_ev σ) (k_wq_ok g1)
  rw [k_ev_sub, k_ev_c] at g1
  split at hv
  · cases hv
  · rename_i u hu
    obtain ⟨-, H⟩ := k_fq_ok h hu
    rw [k_ev_c] at H
    have H := (H.int (by omega)).2.2
    obtain ⟨r, hr, hv⟩ := lfo_in hv
    obtain ⟨-, -, s3⟩ := h.2.2.2.2.2.2.2 r hr
    unfold k_f8r at hv
    split at hv
    · cases hv
    · split at hv
      · cases hv
      · rename_i d hd
        obtain ⟨⟨d1, d2⟩, d3, d4⟩ := k_pdg_ok h s3 hd
        obtain ⟨g2, hv⟩ := pm_cs hv
        have g2 := k_eqv_ok h.2.1 h.2.2.1 g2
        split at hv
        · rename_i w hw
          obtain ⟨g3, hv⟩ := pm_cs hv
          cases hv
          have g3 := k_eqv_ok h.2.1 h.2.2.1 g3
          obtain ⟨-, b⟩ := k_bit6_ok h d1 hw
          refine ⟨s3, by omega, fun i hi => ?_⟩
          have hb := kBg_pos
          by_cases c : (i : Int) = k_ev σ n
          · have e0 : kDg (k_ev σ r.2) 0 = k_ev σ d.1 := by
              unfold kDg
              rw [Int.pow_zero, Int.ediv_one, d2]
            rw [show (k_ev σ s).toNat - 1 - i = 0 by omega, e0, b, g3, show i = (k_ev σ n).toNat by omega]
            exact H
          · rw [show (k_ev σ s).toNat - 1 - i = ((k_ev σ n).toNat - 1 - i) + 1 by omega, ← kDg_dv, ← d4, g2]
            exact h2 i (by omega)
        · cases hv
theorem k_f8_ok (h : kRS N σ S M) {y s v : kE} (hv : k_f8 S y s = some v) : kSc S.1.length v ∧ kTab M 8 (k_ev σ y) (k_ev σ s) (k_ev σ v) := by
  unfold k_f8 at hv
  split at hv
  · rename_i v' hv'
    cases hv
    obtain ⟨q, hq, hv⟩ := lfo_in hv'
    unfold k_f8q at hv
    split at hv
    · cases hv
    · rename_i y2 hy
      obtain ⟨-, T⟩ := k_ttq_ok h hq hy
      obtain ⟨g, hv⟩ := pm_cs hv
      rw [k_eqv_ok h.2.1 h.2.2.1 g] at T
      exact k_f8a_ok h T hv
  · refine k_f8a_ok h (n := kc 0) (P := kc 0) ?_ hv
    rw [k_ev_c]
    exact ⟨by omega, fun i hi => absurd hi (by omega)⟩
def k_f9q (S : kS) (y s : kE) (q : kH) : Option kE := match k_ttq S 9 q with
  | none => none
  | some y2 => cond (k_eqS S y2 y) (cond (k_eqS S q.1.2 s) (some q.2) (cond (k_eq s (k_add q.1.2 (kc 1))) (match k_bit6 S q.1.2 q.2 with
    | some b => cond (k_wq b (kc 0)) (some q.2) none
    | none => none) none)) none
theorem k_f9q_ok (h : kRS N σ S M) {y s v : kE} {q : kH} (hq : q ∈ S.2.2.2) (hv : k_f9q S y s q = some v) : kSc S.1.length v ∧ kTab M 9 (k_ev σ y) (k_ev σ s) (k_ev σ v) := by
  obtain ⟨-, s2, s3⟩ := h.2.2.2.2.2.2.2 q hq
  unfold k_f9q at hv
  split at hv
  · cases hv
  · rename_i y2 hy
    obtain ⟨-, T⟩ := k_ttq_ok h hq hy
    obtain ⟨g, hv⟩ := pm_cs hv
    rw [k_eqv_ok h.2.1 h.2.2.1 g] at T
    cases c1 : k_eqS S q.1.2 s with
    | true =>
      rw [c1, cond_true] at hv
      cases hv
      rw [k_eqv_ok h.2.1 h.2.2.1 c1] at T
      exact ⟨s3, T⟩
    | false =>
      rw [c1, cond_false] at hv
      obtain ⟨c2, hv⟩ := pm_cs hv
      have c2 := k_eq_ok (σ := σ) c2
      rw [k_ev_add, k_ev_c] at c2
      split at hv
      · rename_i b hb
        obtain ⟨c3, hv⟩ := pm_cs hv
        cases hv
        obtain ⟨-, e⟩ := k_bit6_ok h s3 hb
        rw [k_wq_ok c3, k_ev_c] at e
        obtain ⟨t0, t1⟩ := T
        unfold k_bit6 at hb
        obtain ⟨fr, -⟩ := pm_cs hb
        have fr := k_fit_ok h.2.1 h.2.2.1 fr
        refine ⟨s3, t0, fun z hz => ?_⟩
        obtain ⟨x, x1, x2⟩ := t1 z hz
        refine ⟨x, x1, fun u hu => ?_⟩
        rw [x2 u hu, c2]
        by_cases d : ((32 * z + u : Nat) : Int) = k_ev σ q.1.2
        · rw [decide_eq_false (show ¬ ((32 * z + u : Nat) : Int) < k_ev σ q.1.2 by omega), show 32 * z + u = (k_ev σ q.1.2).toNat by omega, e]
          rw [show decide ((0 : Int) = 1) = false from rfl, Bool.and_false, Bool.and_false]
        · congr 1
          exact decide_eq_decide.mpr (by omega)
      · cases hv
def k_f10q (S : kS) (y s : kE) (q : kH) : Bool := match k_ttq S 10 q with
  | some y2 => k_eqS S y2 y && k_geS S (k_sub q.1.2 s)
  | none => false
/-- rows of both tables -/
def k_f11q (S : kS) (s : kE) (q : kH) : Option kE := match k_ttq S 11 q with
  | none => none
  | some _ => cond (k_eqS S q.1.2 s) (some q.2) (cond (k_eq s (k_add q.1.2 (kc 1)) && (k_geS S (k_sub (kc 15) q.1.2) && k_geS S q.1.2)) (match k_lkf S (k_tc (-2047) q.1.2) (kc 4096) with
    | none => none
    | some X => (match k_lkf S (k_tc (-1919) (k_add (kc 63) q.1.2)) (kc 64) with
      | none => none
      | some Y => cond (k_eqS S X Y && k_bgR S X) (some q.2) none)) none)
theorem k_f11q_ok (h : kRS N σ S M) {y : Int} {s v : kE} {q : kH} (hq : q ∈ S.2.2.2) (hv : k_f11q S s q = some v) : kSc S.1.length v ∧ kTab M 11 y (k_ev σ s) (k_ev σ v) := by
  obtain ⟨-, s2, s3⟩ := h.2.2.2.2.2.2.2 q hq
  unfold k_f11q at hv
  split at hv
  · cases hv
  · rename_i y2 hy
    obtain ⟨-, T⟩ := k_ttq_ok h hq hy
    have T : kTab M 11 y (k_ev σ q.1.2) (k_ev σ q.2) := T
    cases c1 : k_eqS S q.1.2 s with
    | true =>
      rw [c1, cond_true] at hv
      cases hv
      rw [k_eqv_ok h.2.1 h.2.2.1 c1] at T
      exact ⟨s3, T⟩
    | false =>
      rw [c1, cond_false] at hv
      obtain ⟨g, hv⟩ := pm_cs hv
      simp only [Bool.and_eq_true] at g
      obtain ⟨g1, g2, g3⟩ := g
      have g1 := k_eq_ok (σ := σ) g1
      rw [k_ev_add, k_ev_c] at g1
      have g2 := k_ge_ok h.2.1 h.2.2.1 g2
      rw [k_ev_sub, k_ev_c] at g2
      have g3 := k_ge_ok h.2.1 h.2.2.1 g3
      split at hv
      · cases hv
      · rename_i X hX
        split at hv
        · cases hv
        · rename_i Y hY
          obtain ⟨g4, hv⟩ := pm_cs hv
          cases hv
          obtain ⟨g4, g5⟩ := Bool.and_eq_true_iff.mp g4
          have g4 := k_eqv_ok h.2.1 h.2.2.1 g4
          have g5 := k_bgR_ok h g5
          obtain ⟨-, X1, X2⟩ := k_lkt_ok (k := 9) h (by omega) hX
          obtain ⟨-, Y1, Y2⟩ := k_lkt_ok (k := 1) h (by omega) hY
          rw [k_ev_c] at X2 Y2
          rw [k_ev_add, k_ev_c] at Y2
          obtain ⟨T1, T2⟩ := T
          refine ⟨s3, by omega, fun i hi => ⟨fun e => ?_, fun e => (T2 i hi).2 e⟩⟩
          by_cases d : (i : Int) = k_ev σ q.1.2
          · refine ⟨k_ev σ X, g5.1, g5.2, ?_, ?_⟩
            · rw [show 63 + i = (63 + k_ev σ q.1.2).toNat by omega, g4]
              exact Y2
            · rw [show i = (k_ev σ q.1.2).toNat by omega]
              exact X2
          · exact (T2 i hi).1 (by omega)
/-- both tables' rows, copied -/
def k_f11m (S : kS) (s : kE) (q : kH) : Option kE := match k_ttq S 12 q with
  | none => none
  | some y => (match k_trk S y with
    | none => none
    | some t => cond (decide (t.1 = 1) && (k_geS S (k_sub q.1.2 (kc 16)) && k_geS S (k_sub s t.2))) (some t.2) none)
def k_f11n (S : kS) (s : kE) (q : kH) : Bool := match k_ttq S 12 q with
  | none => false
  | some y => (match k_trk S y with
    | none => false
    | some t => decide (t.1 = 0) && (k_geS S (k_sub q.1.2 (kc 16)) && k_eqS S t.2 s))
def k_f11 (S : kS) (s : kE) : Option kE := match lfo (k_f11q S s) S.2.2.2 with
  | some v => some v
  | none => cond (lany (k_f11n S s) S.2.2.2) (lfo (k_f11m S s) S.2.2.2) none
theorem k_f11_ok (h : kRS N σ S M) {y : Int} {s v : kE} (hv : k_f11 S s = some v) : kSc S.1.length v ∧ kTab M 11 y (k_ev σ s) (k_ev σ v) := by
  unfold k_f11 at hv
  split at hv
  · rename_i v' hv'
    cases hv
    obtain ⟨q, hq, hv⟩ := lfo_in hv'
    exact k_f11q_ok h hq hv
  · obtain ⟨g, hv⟩ := pm_cs hv
    rw [lany_eq] at g
    obtain ⟨r, hr, g⟩ := List.any_eq_true.mp g
    obtain ⟨q, hq, hv⟩ := lfo_in hv
    unfold k_f11n at g
    unfold k_f11m at hv
    split at g
    · cases g
    · rename_i y1 hy1
      split at g
      · cases g
      · rename_i t1 ht1
        simp only [Bool.and_eq_true, decide_eq_true_eq] at g
        obtain ⟨a1, a2, a3⟩ := g
        have a2 := k_ge_ok h.2.1 h.2.2.1 a2
        rw [k_ev_sub, k_ev_c] at a2
        have a3 := k_eqv_ok h.2.1 h.2.2.1 a3
        obtain ⟨sy1, T1⟩ := k_ttq_ok h hr hy1
        obtain ⟨-, -, e1⟩ := k_trk_ok h sy1 ht1
        split at hv
        · cases hv
        · rename_i y2 hy2
          split at hv
          · cases hv
          · rename_i t2 ht2
            obtain ⟨g, hv⟩ := pm_cs hv
            cases hv
            simp only [Bool.and_eq_true, decide_eq_true_eq] at g
            obtain ⟨b1, b2, b3⟩ := g
            have b2 := k_ge_ok h.2.1 h.2.2.1 b2
            rw [k_ev_sub, k_ev_c] at b2
            have b3 := k_ge_ok h.2.1 h.2.2.1 b3
            rw [k_ev_sub] at b3
            obtain ⟨sy2, T2⟩ := k_ttq_ok h hq hy2
            obtain ⟨-, s2, e2⟩ := k_trk_ok h sy2 ht2
            refine ⟨s2, by omega, fun i hi => ⟨fun e => ?_, fun e => ?_⟩⟩
            · have g := T1 i hi (by omega) (by omega)
              rw [decide_eq_true (show k_ev σ y1 % 2 = 0 by omega), cond_true] at g
              exact g
            · have g := T2 i hi (by omega) (by omega)
              rw [decide_eq_false (show ¬ k_ev σ y2 % 2 = 0 by omega), cond_false] at g
              exact g
def k_f12q (S : kS) (t : Int × kE) (q : kH) : Bool := match k_ttq S 11 q with
  | none => false
  | some _ => k_eqS S t.2 (cond (zz t.1) q.1.2 q.2)
def k_vft (S : kS) (s : kE) (z : Nat × kE) : Option kE := match z.1 with
  | 0 => cond (k_geS S s) (k_f0 S s) none
  | 1 => cond (k_wq (k_nv S.1 s) (kc 64)) (lfo (k_dgt S z.2) S.2.2.2) none
  | 2 => cond (k_wq (k_nv S.1 s) (kc 0)) (lfo (k_dgt S z.2) S.2.2.2) none
  | 3 => cond (lany (k_f3q S) S.2.2.2) (some (kc 0)) none
  | 5 => lfo (k_rq S s) S.2.2.2
  | 8 => k_f8 S z.2 s
  | 9 => lfo (k_f9q S z.2 s) S.2.2.2
  | 10 => cond (lany (k_f10q S z.2 s) S.2.2.2) (some (kc 0)) none
  | 11 => k_f11 S s
  | 12 => (match k_trk S z.2 with
    | some t => cond (lany (k_f12q S t) S.2.2.2) (some (kc 0)) none
    | none => none)
  | _ => none
theorem k_vft_ok (h : kRS N σ S M) {s v : kE} {z : Nat × kE} (sz : kSc S.1.length z.2) (hv : k_vft S s z = some v) : kSc S.1.length v ∧ kTab M z.1 (k_ev σ z.2) (k_ev σ s) (k_ev σ v) := by
  obtain ⟨k, y⟩ := z
  have sz : kSc S.1.length y := sz
  show kSc S.1.length v ∧ kTab M k (k_ev σ y) (k_ev σ s) (k_ev σ v)
  match k, hv with
  | 0, hv =>
    obtain ⟨g, hv⟩ := pm_cs (show cond (k_geS S s) (k_f0 S s) none = some v from hv)
    exact k_f0_ok h (k_ge_ok h.2.1 h.2.2.1 g) hv
  | 1, hv =>
    obtain ⟨g, hv⟩ := pm_cs (show cond (k_wq (k_nv S.1 s) (kc 64)) (lfo (k_dgt S y) S.2.2.2) none = some v from hv)
    obtain ⟨q, hq, hv⟩ := lfo_in hv
    obtain ⟨a1, a2, a3⟩ := k_dgt_ok h hq hv
    have e := k_nv_ok (e := s) h.2.1
    rw [k_wq_ok g, k_ev_c] at e
    exact ⟨a1, a2, by rw [← e]; exact a3⟩
  | 2, hv =>
    obtain ⟨g, hv⟩ := pm_cs (show cond (k_wq (k_nv S.1 s) (kc 0)) (lfo (k_dgt S y) S.2.2.2) none = some v from hv)
    obtain ⟨q, hq, hv⟩ := lfo_in hv
    obtain ⟨a1, a2, a3⟩ := k_dgt_ok h hq hv
    have e := k_nv_ok (e := s) h.2.1
    rw [k_wq_ok g, k_ev_c] at e
    exact ⟨a1, a2, by rw [← e]; exact a3⟩
  | 3, hv =>
    obtain ⟨g, hv⟩ := pm_cs (show cond (lany (k_f3q S) S.2.2.2) (some (kc 0)) none = some v from hv)
    cases hv
    rw [lany_eq] at g
    obtain ⟨q, hq, g⟩ := List.any_eq_true.mp g
    unfold k_f3q at g
    split at g
    · rename_i y2 hy
      obtain ⟨-, T⟩ := k_ttq_ok h hq hy
      obtain ⟨t0, t1⟩ := T
      obtain ⟨g1, g2⟩ := Bool.and_eq_true_iff.mp g
      have g2 := k_ge_ok h.2.1 h.2.2.1 g2
      rw [k_ev_sub, k_ev_c] at g2
      rw [k_wq_ok g1, k_ev_c] at t1
      refine ⟨kSc_c, fun i hi => ?_⟩
      rw [k_ev_c, kTms_z]
      exact t1 i (by omega)
    · cases g
  | 4, hv => cases hv
  | 5, hv =>
    obtain ⟨q, hq, hv⟩ := lfo_in (show lfo (k_rq S s) S.2.2.2 = some v from hv)
    obtain ⟨a1, a2⟩ := k_rq_ok h hq hv
    exact ⟨a1, (k_tth (k := 5) (y := 0) (by omega) (by omega) (by omega)).mp a2⟩
  | 6, hv => cases hv
  | 7, hv => cases hv
  | 8, hv => exact k_f8_ok h (show k_f8 S y s = some v from hv)
  | 9, hv =>
    obtain ⟨q, hq, hv⟩ := lfo_in (show lfo (k_f9q S y s) S.2.2.2 = some v from hv)
    exact k_f9q_ok h hq hv
  | 10, hv =>
    obtain ⟨g, hv⟩ := pm_cs (show cond (lany (k_f10q S y s) S.2.2.2) (some (kc 0)) none = some v from hv)
    cases hv
    rw [lany_eq] at g
    obtain ⟨q, hq, g⟩ := List.any_eq_true.mp g
    unfold k_f10q at g
    split at g
    · rename_i y2 hy
      obtain ⟨-, T⟩ := k_ttq_ok h hq hy
      obtain ⟨g1, g2⟩ := Bool.and_eq_true_iff.mp g
      rw [k_eqv_ok h.2.1 h.2.2.1 g1] at T
      have g2 := k_ge_ok h.2.1 h.2.2.1 g2
      rw [k_ev_sub] at g2
      obtain ⟨t0, t1⟩ := T
      exact ⟨kSc_c, t0, fun z hz a1 => t1 z hz (by omega)⟩
    · cases g
  | 11, hv => exact k_f11_ok h (show k_f11 S s = some v from hv)
  | 12, hv =>
    have hv : (match k_trk S y with
      | some t => cond (lany (k_f12q S t) S.2.2.2) (some (kc 0)) none
      | none => none) = some v := hv
    split at hv
    · rename_i t ht
      obtain ⟨t1, -, e⟩ := k_trk_ok h sz ht
      obtain ⟨g, hv⟩ := pm_cs hv
      cases hv
      rw [lany_eq] at g
      obtain ⟨q, hq, g⟩ := List.any_eq_true.mp g
      unfold k_f12q at g
      split at g
      · cases g
      · rename_i y2 hy
        obtain ⟨-, T1, T2⟩ := k_ttq_ok h hq hy
        have g := k_eqv_ok h.2.1 h.2.2.1 g
        rw [zz_eq] at g
        have e : k_ev σ y = 2 * k_ev σ t.2 + t.1 := e
        refine ⟨kSc_c, fun i hi _ a2 => ?_⟩
        rcases t1 with t1 | t1
        · rw [t1, show decide ((0 : Int) = 0) = true from rfl, cond_true] at g
          rw [decide_eq_true (show k_ev σ y % 2 = 0 by omega), cond_true]
          exact (T2 i hi).1 (by omega)
        · rw [t1, show decide ((1 : Int) = 0) = false from rfl, cond_false] at g
          rw [decide_eq_false (show ¬ k_ev σ y % 2 = 0 by omega), cond_false]
          exact (T2 i hi).2 (by omega)
    · cases hv
  | k + 13, hv => cases hv
def k_vfT (S : kS) (c s : kE) : Option kE := cond (k_qfn c) (match k_fev S c with
  | some z => k_vff S s z
  | none => k_vfd S c s) (cond (k_qtb c) (match k_tev S c with
  | some z => k_vft S s z
  | none => k_vfd S c s) (k_vfd S c s))
theorem k_vfT_ok (h : kRS N σ S M) {c s v : kE} (hc : kSc S.1.length c) (hs : kSc S.1.length s) (hn : k_ev σ c < 0) (hv : k_vfT S c s = some v) : kSc S.1.length v ∧ kHas N M (k_ev σ c) (k_ev σ s) (k_ev σ v) := by
  unfold k_vfT at hv
  cases c1 : k_qfn c with
  | true =>
    rw [c1, cond_true] at hv
    split at hv
    · rename_i z hz
      obtain ⟨sz, H⟩ := k_fev_ok h hc hn hz
      obtain ⟨a1, a2⟩ := k_vff_ok h sz hs hv
      exact ⟨a1, (H M _ _).mpr a2⟩
    · exact k_vfd_ok h hc hs hn hv
  | false =>
    rw [c1, cond_false] at hv
    cases c2 : k_qtb c with
    | false =>
      rw [c2, cond_false] at hv
      exact k_vfd_ok h hc hs hn hv
    | true =>
      rw [c2, cond_true] at hv
      split at hv
      · rename_i z hz
        obtain ⟨sz, H⟩ := k_tev_ok h hc hn hz
        obtain ⟨a1, a2⟩ := k_vft_ok h sz hv
        exact ⟨a1, (H M _ _).mpr a2⟩
      · exact k_vfd_ok h hc hs hn hv
end KRT
end
