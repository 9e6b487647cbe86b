noncomputable section
/-! what a write, a call leaves of tables and functions -/
section KVT6
variable {N : kN} {σ : Nat → Int} {S : kS} {M : pM} {c s v : kE} {a j : Nat} {cl : pC} {w : Value} {q : kH}
/-- how many sets are pending at a place -/
def k_cnt3 (S : kS) (k : kE) : Option kE := lfb (fun r => k_is r.1.1 (-3) && k_eqS S r.1.2 k) (fun r => r.2) S.2.2.2
/-- what a sign makes of the pending sets; d: how many -/
def k_rpo (o : Option kE) (P : kE) : Option kE := match o with
  | some x => some (k_add x (k_mul (kPw 4096) P))
  | none => none
def k_rp3 (S : kS) (v b a r : kE) : Option kE := cond (k_wq v (kc 21)) (k_rpo (k_lkf S (k_fop 4 a) b) r) (cond (k_wq v (kc 22)) (k_rpo (k_lkf S (k_fop 5 a) b) r) (cond (k_wq v (kc 23)) (k_rpo (k_lkf S (k_fop 4 a) (k_sub (kc (kPw 4096 - 1)) b)) r) none))
def k_rp2 (S : kS) (v P b r d : kE) : Option kE := cond (k_wq v (kc 20)) (cond (k_geS S (k_sub d (kc 1))) (some (k_add (k_sub P (k_mul 2 b)) (kc (kPw 4096 - 1)))) none) (cond (k_geS S (k_sub d (kc 2))) (match k_pdg S r with
  | some z => k_rp3 S v b z.1 z.2
  | none => none) none)
def k_rp1 (S : kS) (v P d : kE) : Option kE := cond (k_fiS S 0 11 v) (cond (k_geS S (k_sub (kc 198) d)) (k_rpo (k_lkf S (k_fop 6 (kc 0)) v) P) none) (match k_pdg S P with
  | some z => k_rp2 S v P z.1 z.2 d
  | none => none)
theorem k_rpo_ok {o : Option kE} {P u : kE} {n : Nat} {x : Int} (hP : kSc n P) (ho : ∀ e, o = some e → kSc n e ∧ k_ev σ e = x) (hu : k_rpo o P = some u) : kSc n u ∧ k_ev σ u = x + kBg * k_ev σ P := by
  unfold k_rpo at hu
  split at hu
  · rename_i e
    cases hu
    obtain ⟨a1, a2⟩ := ho e rfl
    exact ⟨kSc_add a1 (kSc_mul hP), by rw [k_ev_add, k_ev_mul, a2, kPw_bg]⟩
  · cases hu
theorem k_rp1_ok (h : kRS N σ S M) {v P d u : kE} {x : Int} (sv : kSc S.1.length v) (hv : k_ev σ v = x) (sP : kSc S.1.length P) (hu : k_rp1 S v P d = some u) : kSc S.1.length u ∧ ∀ (k n : Nat) (M' : pM), (n : Int) = k_ev σ d → k_gi M' 461 k = some x → ∃ n', kRs M' (k, k_ev σ P, n) = some (k + 1, k_ev σ u, n') := by
  unfold k_rp1 at hu
  cases c1 : k_fiS S 0 11 v with
  | true =>
    rw [c1, cond_true] at hu
    have c1 := k_fit_ok h.2.1 h.2.2.1 c1
    obtain ⟨g, hu⟩ := pm_cs hu
    have g := k_ge_ok h.2.1 h.2.2.1 g
    rw [k_ev_sub, k_ev_c] at g
    obtain ⟨u1, u2⟩ := k_rpo_ok (x := (kFct x : Int)) sP (fun e he => by
      obtain ⟨a1, a2⟩ := k_lkf_ok h (by omega) (by omega) he
      exact ⟨a1, by rw [a2, kLf2_6, hv]⟩) hu
    exact ⟨u1, fun k n M' hn hx => ⟨n + 1, by rw [u2]; exact kRs_1 (q := (k, k_ev σ P, n)) hx (by omega) (by omega) (by show n ≤ 198; omega)⟩⟩
  | false =>
    rw [c1, cond_false] at hu
    split at hu
    · rename_i z hz
      obtain ⟨⟨z1, z2⟩, z3, z4⟩ := k_pdg_ok h sP hz
      unfold k_rp2 at hu
      cases c2 : k_wq v (kc 20) with
      | true =>
        rw [c2, cond_true] at hu
        obtain ⟨g, hu⟩ := pm_cs hu
        have g := k_ge_ok h.2.1 h.2.2.1 g
        rw [k_ev_sub, k_ev_c] at g
        cases hu
        have c2 := k_wq_ok c2
        rw [c2, k_ev_c] at hv
        subst hv
        exact ⟨kSc_add (kSc_sub sP (kSc_mul z1)) kSc_c, fun k n M' hn hx => ⟨n, by
          rw [k_ev_add, k_ev_sub, k_ev_mul, k_ev_c, z2, kPw_bg]
          exact kRs_2 (q := (k, k_ev σ P, n)) hx (by show 1 ≤ n; omega)⟩⟩
      | false =>
        rw [c2, cond_false] at hu
        obtain ⟨g, hu⟩ := pm_cs hu
        have g := k_ge_ok h.2.1 h.2.2.1 g
        rw [k_ev_sub, k_ev_c] at g
        split at hu
        · rename_i y hy
          obtain ⟨⟨y1, y2⟩, y3, y4⟩ := k_pdg_ok h z3 hy
          rw [z4] at y2 y4
          have fin : ∀ (o : Int) (b' : kE), 21 ≤ x → x ≤ 23 → (∀ e, k_lkf S (k_fop o y.1) b' = some e → kSc S.1.length e ∧ k_ev σ e = kBop x (k_ev σ P / kBg % kBg) (k_ev σ P % kBg)) → k_rpo (k_lkf S (k_fop o y.1) b') y.2 = some u → kSc S.1.length u ∧ ∀ (k n : Nat) (M' : pM), (n : Int) = k_ev σ d → k_gi M' 461 k = some x → ∃ n', kRs M' (k, k_ev σ P, n) = some (k + 1, k_ev σ u, n') := fun o b' x1 x2 he hu => by
            obtain ⟨u1, u2⟩ := k_rpo_ok y3 he hu
            rw [y4] at u2
            exact ⟨u1, fun k n M' hn hx => ⟨n - 1, by rw [u2]; exact kRs_3 (q := (k, k_ev σ P, n)) hx x1 x2 (by show 2 ≤ n; omega)⟩⟩
          unfold k_rp3 at hu
          cases d1 : k_wq v (kc 21) with
          | true =>
            rw [d1, cond_true] at hu
            have d1 := k_wq_ok d1
            rw [d1, k_ev_c] at hv
            subst hv
            refine fin 4 z.1 (by omega) (by omega) (fun e he => ?_) hu
            obtain ⟨a1, a2⟩ := k_lkf_ok h (by omega) (by omega) he
            exact ⟨a1, by rw [a2, kLf2_4, y2, z2]; rfl⟩
          | false =>
            rw [d1, cond_false] at hu
            cases d2 : k_wq v (kc 22) with
            | true =>
              rw [d2, cond_true] at hu
              have d2 := k_wq_ok d2
              rw [d2, k_ev_c] at hv
              subst hv
              refine fin 5 z.1 (by omega) (by omega) (fun e he => ?_) hu
              obtain ⟨a1, a2⟩ := k_lkf_ok h (by omega) (by omega) he
              exact ⟨a1, by rw [a2, kLf2_5, y2, z2]; rfl⟩
            | false =>
              rw [d2, cond_false] at hu
              obtain ⟨d3, hu⟩ := pm_cs hu
              have d3 := k_wq_ok d3
              rw [d3, k_ev_c] at hv
              subst hv
              refine fin 4 (k_sub (kc (kPw 4096 - 1)) z.1) (by omega) (by omega) (fun e he => ?_) hu
              obtain ⟨a1, a2⟩ := k_lkf_ok h (by omega) (by omega) he
              exact ⟨a1, by rw [a2, kLf2_4, k_ev_sub, k_ev_c, y2, z2, kPw_bg]; rfl⟩
        · cases hu
    · cases hu
/-- a sign that waits -/
def k_wp1 (S : kS) (v W : kE) : Option kE := cond (k_cst v && (decide (21 ≤ v.1) && decide (v.1 ≤ 24))) (some (k_add (k_mul 8 W) (kc (v.1 - 19)))) (cond (k_wq v (kc 20)) (match k_spl S W 8 with
  | some r => cond (k_wq (k_nv S.1 r.2) (kc 1)) (some r.1) (cond (k_nzv S (k_sub r.2 (kc 1))) (some (k_add (k_mul 8 W) (kc 1))) none)
  | none => none) none)
theorem k_wp1_ok (h : kRS N σ S M) {v W u : kE} {x : Int} (hv : k_ev σ v = x) (sW : kSc S.1.length W) (hu : k_wp1 S v W = some u) : kSc S.1.length u ∧ cond (decide (21 ≤ x ∧ x ≤ 24)) (some (8 * k_ev σ W + (x - 19))) (cond (decide (x = 20)) (some (cond (decide (k_ev σ W % 8 = 1)) (k_ev σ W / 8) (8 * k_ev σ W + 1))) none) = some (k_ev σ u) := by
  unfold k_wp1 at hu
  cases c1 : (k_cst v && (decide (21 ≤ v.1) && decide (v.1 ≤ 24))) with
  | true =>
    rw [c1, cond_true] at hu
    cases hu
    simp only [Bool.and_eq_true, decide_eq_true_eq] at c1
    obtain ⟨c0, c1, c2⟩ := c1
    rw [k_ev_const c0] at hv
    subst hv
    refine ⟨kSc_add (kSc_mul sW) kSc_c, ?_⟩
    rw [decide_eq_true ⟨c1, c2⟩, cond_true, k_ev_add, k_ev_mul, k_ev_c]
  | false =>
    rw [c1, cond_false] at hu
    obtain ⟨c2, hu⟩ := pm_cs hu
    have c2 := k_wq_ok c2
    rw [c2, k_ev_c] at hv
    subst hv
    rw [show decide ((21 : Int) ≤ 20 ∧ (20 : Int) ≤ 24) = false from rfl, show decide ((20 : Int) = 20) = true from rfl, cond_false, cond_true]
    split at hu
    · rename_i r hr
      obtain ⟨r1, r2, r3, r4, r5⟩ := k_spl_ok h sW hr
      cases c3 : k_wq (k_nv S.1 r.2) (kc 1) with
      | true =>
        rw [c3, cond_true] at hu
        cases hu
        have e := k_nv_ok (e := r.2) h.2.1
        rw [k_wq_ok c3, k_ev_c] at e
        refine ⟨r4, ?_⟩
        rw [decide_eq_true (show k_ev σ W % 8 = 1 by omega), cond_true]
        exact congrArg some (by omega)
      | false =>
        rw [c3, cond_false] at hu
        obtain ⟨c4, hu⟩ := pm_cs hu
        cases hu
        have c4 := k_nzv_ok h c4
        rw [k_ev_sub, k_ev_c] at c4
        refine ⟨kSc_add (kSc_mul sW) kSc_c, ?_⟩
        rw [decide_eq_false (show ¬ k_ev σ W % 8 = 1 by omega), cond_false, k_ev_add, k_ev_mul, k_ev_c]
    · cases hu
/-- a known bit of a set: told by an entry -/
def k_apart (S : kS) (c y : kE) : Bool := decide (0 < k_lo S.1 (k_sub c y)) || decide (k_hi S.1 (k_sub c y) < 0)
theorem k_apart_ok (h : kRS N σ S M) {c y : kE} (ha : k_apart S c y = true) : k_ev σ c ≠ k_ev σ y := by
  have h1 := k_lo_le h.2.1 (k_sub c y)
  have h2 := k_hi_ge h.2.1 (k_sub c y)
  rw [k_ev_sub] at h1 h2
  rcases Bool.or_eq_true_iff.mp ha with e | e
  · have e := of_decide_eq_true e
    omega
  · have e := of_decide_eq_true e
    omega
def k_up1 (q : kH) : kE := k_add q.1.2 (kc 1)
def k_tt0 (S : kS) (c : kE) (q : kH) : List kH := cond (k_off S.1 c 369 387 || k_geS S (k_sub (k_sub c (kc 369)) q.1.2)) [q] []
def k_ttn (S : kS) (s : kE) (q : kH) (o : Option kE) : List kH := match o with
  | some u => cond (k_eqS S s q.1.2) [q, ((q.1.1, k_up1 q), u)] [q]
  | none => [q]
def k_tt5 (S : kS) (c s v : kE) (q : kH) : List kH := cond (k_off S.1 c 461 461) [q] (cond (k_is c 461 && k_geS S (k_sub s q.1.2)) (k_ttn S s q (match k_cnt3 S q.1.2 with
  | some d => k_rp1 S (k_nv S.1 v) q.2 d
  | none => none)) [])
def k_tt7 (S : kS) (c s v : kE) (q : kH) (y : kE) : List kH := cond (k_off S.1 c 461 461) [q] (cond (k_is c 461) (cond (k_geS S (k_sub s q.1.2)) (k_ttn S s q (cond (k_fiS S 0 11 v) (some (k_add (k_mul 16 q.2) (k_add v (kc 1)))) none)) (cond (k_geS S (k_sub (k_sub y (kc 1)) s)) [q] [])) [])
def k_tt6 (S : kS) (c s v : kE) (q : kH) : List kH := cond (k_off S.1 c 462 462) [q] (cond (k_is c 462 && k_geS S (k_sub s q.1.2)) (k_ttn S s q (k_wp1 S (k_nv S.1 v) q.2)) [])
def k_tt3 (S : kS) (c s v : kE) (q : kH) : List kH := cond (k_off S.1 c 388 388) [q] (cond (k_is c 388) (match k_find c s S.2.2.2 with
  | some x => cond (k_eqS S v (k_add x (kc 1)) && (k_fiS S 0 11 s && (decide (0 ≤ k_lo S.1 q.2) && decide (k_hi S.1 q.2 < kPw 52)))) [((q.1.1, q.1.2), k_add (k_mul 16 q.2) (k_add s (kc 1)))] []
  | none => []) [])
def k_tt4 (S : kS) (c s v : kE) (q : kH) (y : kE) : List kH := cond (k_apart S c y) [q] (cond (k_eqS S c y && k_wq (k_nv S.1 v) (kc 0)) (cond (k_eqS S s q.1.2) [((q.1.1, k_up1 q), q.2)] [q]) [])
def k_tt1 (S : kS) (wd : Option kE) (c s v : kE) (q : kH) (y : kE) : List kH := cond (k_apart S c y) [q] (cond (k_eqS S c y) (cond (k_geS S (k_sub s q.1.2)) (q :: cond (k_eqS S s q.1.2 && k_geS S (k_sub (kc 63) q.1.2)) (match wd with
  | some u => cond (k_eqS S u v) [((q.1.1, k_up1 q), q.2)] []
  | none => []) []) []) [])
def k_tt2 (S : kS) (c s : kE) (q : kH) (y : kE) : List kH := cond (k_apart S c y) [q] (cond (k_eqS S c y) (cond (k_geS S (k_sub (k_sub q.1.2 (kc 1)) s)) [q] (cond (k_eqS S s q.1.2) [((q.1.1, k_up1 q), q.2)] [])) [])
def k_tt8 (S : kS) (c s : kE) (q : kH) : List kH := cond (k_off S.1 c 464 464) [q] (cond (k_is c 464) (cond (k_geS S (k_sub s q.1.2)) [q] (match k_pdg S q.2 with
  | none => []
  | some p => cond (k_eqS S s (k_sub q.1.2 (kc 1))) (cond (k_geS S (k_sub q.1.2 (kc 1))) [((q.1.1, k_sub q.1.2 (kc 1)), p.2)] []) (match k_pdg S p.2 with
    | none => []
    | some r => cond (k_eqS S s (k_sub q.1.2 (kc 2)) && k_geS S (k_sub q.1.2 (kc 2))) [((q.1.1, k_sub q.1.2 (kc 2)), r.2)] []))) [])
def k_otr (S : kS) (s y : kE) : Bool := k_geS S (k_sub (k_sub s (k_mul 128 y)) (kc 128)) || k_geS S (k_sub (kc (-1)) (k_sub s (k_mul 128 y)))
def k_tt10 (S : kS) (c s v : kE) (q : kH) (y : kE) : List kH := cond (k_off S.1 c 451 451) [q] (cond (k_is c 451) (cond (k_otr S s y) [q] (cond (k_wq (k_nv S.1 v) (kc 0)) (cond (k_eqS S (k_sub s (k_mul 128 y)) q.1.2) [((q.1.1, k_up1 q), q.2)] [q]) [])) [])
/-- bit: what is known of the bit at the slot -/
def k_tt9a (S : kS) (c s v : kE) (q : kH) (g : kE) : Bool := match k_find c s S.2.2.2 with
  | none => false
  | some w0 => (match k_lkf S (k_ff7 12 (kc 0)) (k_sub q.1.2 (k_mul 32 g)) with
    | none => false
    | some s1 => (match k_lkf S (k_ff7 13 (k_add w0 (kc 2147483648))) s1 with
      | none => false
      | some u => k_eqS S u v))
def k_tt9 (S : kS) (bit : Option kE) (c s v : kE) (q : kH) (y : kE) : List kH := cond (k_off S.1 c 451 451) [q] (cond (k_is c 451) (cond (k_otr S s y) [q] (match bit with
  | none => []
  | some b => (match k_lkf S (k_ff7 5 (kc 32)) q.1.2 with
    | none => []
    | some g => cond (k_wq b (kc 1) && (k_eqS S (k_sub s (k_mul 128 y)) g && (k_fiS S 0 4095 q.1.2 && k_tt9a S c s v q g))) [((q.1.1, k_up1 q), q.2)] []))) [])
def k_tt11 (S : kS) (c s : kE) (q : kH) : List kH := cond (k_is c 451) (cond (k_geS S (k_sub s (k_mul 128 q.1.2))) [q] []) (cond (k_off S.1 c 451 451 && ((k_off S.1 c 63 78 || k_geS S (k_sub c (k_add (kc 63) q.1.2))) && (k_off S.1 c 244 259 || k_geS S (k_sub c (k_add (kc 244) q.2))))) [q] [])
def k_trk (S : kS) (y : kE) : Option (Int × kE) := match k_spl S y 2 with
  | some r => cond (k_cst r.2) (some (r.2.1, r.1)) none
  | none => none
theorem k_trk_ok (h : kRS N σ S M) {y : kE} {t : Int × kE} (hy : kSc S.1.length y) (ht : k_trk S y = some t) : (t.1 = 0 ∨ t.1 = 1) ∧ kSc S.1.length t.2 ∧ k_ev σ y = 2 * k_ev σ t.2 + t.1 := by
  unfold k_trk at ht
  split at ht
  · rename_i r hr
    obtain ⟨g, ht⟩ := pm_cs ht
    cases ht
    obtain ⟨r1, r2, r3, r4, -⟩ := k_spl_ok h hy hr
    rw [k_ev_const (σ := σ) g] at r1 r2 r3
    exact ⟨by show r.2.1 = 0 ∨ r.2.1 = 1; omega, r4, r1⟩
  · cases ht
def k_tt12 (S : kS) (c : kE) (q : kH) (y : kE) : List kH := match k_trk S y with
  | some t => cond (k_off S.1 c 451 451 && cond (zz t.1) (k_off S.1 c 63 78) (k_off S.1 c 244 259)) [q] []
  | none => []
/-- an entry of table k, at another place, with another word -/
def kMk (N : kN) (σ : Nat → Int) (S : kS) (M' : pM) (q : kH) (k : Nat) (y : Int) : Prop := ∀ s' v' : kE, kSc S.1.length s' → kSc S.1.length v' → kTab M' k y (k_ev σ s') (k_ev σ v') → kVw N σ S M' ((q.1.1, s'), v')
theorem kMk.self {M' : pM} {k : Nat} {y : Int} (mk : kMk N σ S M' q k y) (h : kRS N σ S M) (hq : q ∈ S.2.2.2) (hT : kTab M' k y (k_ev σ q.1.2) (k_ev σ q.2)) : ∀ q' ∈ [q], kVw N σ S M' q' := fun q' hq' => by
  rcases List.mem_singleton.mp hq' with rfl
  obtain ⟨-, s2, s3⟩ := h.2.2.2.2.2.2.2 q' hq
  exact mk q'.1.2 q'.2 s2 s3 hT
theorem kMk.one {M' : pM} {k : Nat} {y : Int} (mk : kMk N σ S M' q k y) {s' v' : kE} (h1 : kSc S.1.length s') (h2 : kSc S.1.length v') (hT : kTab M' k y (k_ev σ s') (k_ev σ v')) : ∀ q' ∈ [((q.1.1, s'), v')], kVw N σ S M' q' := fun q' hq' => by
  rcases List.mem_singleton.mp hq' with rfl
  exact mk s' v' h1 h2 hT
theorem kCi {b : Bool} {l : List kH} {q : kH} (h : q ∈ cond b l []) : b = true ∧ q ∈ l := by
  cases b with
  | true => exact ⟨rfl, h⟩
  | false => cases h
theorem kNil {p : kH → Prop} : ∀ q' ∈ ([] : List kH), p q' := fun q' hq' => by cases hq'
theorem k_up1_ev (q : kH) : k_ev σ (k_up1 q) = k_ev σ q.1.2 + 1 := by
  unfold k_up1
  rw [k_ev_add, k_ev_c]
theorem kOff (h : kRS N σ S M) (ha : (a : Int) = k_ev σ c) {lo hi : Int} (ho : k_off S.1 c lo hi = true) : (a : Int) < lo ∨ hi < (a : Int) := by
  rw [ha]
  exact k_off_ok h.2.1 ho
theorem kIsa (ha : (a : Int) = k_ev σ c) {z : Nat} (hi : k_is c (z : Int) = true) : a = z := by
  have := k_is_ev (σ := σ) hi
  omega
theorem k_tt0_ok (h : kRS N σ S M) (hs : kSc S.1.length s) (hv : kSc S.1.length v) (ha : (a : Int) = k_ev σ c) (hj : (j : Int) = k_ev σ s) (hcl : M[a]? = some cl) (hjl : j < cl.2.length) (hw : kNum w (k_ev σ v)) (hq : q ∈ S.2.2.2) {y : kE} (sy : kSc S.1.length y) (old : kTab M 0 (k_ev σ y) (k_ev σ q.1.2) (k_ev σ q.2)) (mk : kMk N σ S (pm_put M a j cl w) q 0 (k_ev σ y)) : ∀ q' ∈ k_tt0 S c q, kVw N σ S (pm_put M a j cl w) q' := by
  obtain ⟨-, s2, s3⟩ := h.2.2.2.2.2.2.2 q hq
  unfold k_tt0
  cases c1 : (k_off S.1 c 369 387 || k_geS S (k_sub (k_sub c (kc 369)) q.1.2)) with
  | true =>
    rw [cond_true]
    refine mk.self h hq (kT0_put hcl old ?_)
    rcases Bool.or_eq_true_iff.mp c1 with c1 | c1
    · exact Or.inl (kOff h ha c1)
    · have c1 := k_ge_ok h.2.1 h.2.2.1 c1
      rw [k_ev_sub, k_ev_sub, k_ev_c] at c1
      exact Or.inr (by omega)
  | false =>
    rw [cond_false]
    exact kNil
theorem k_ttn_ok {M' : pM} {k : Nat} {y : Int} (mk : kMk N σ S M' q k y) (h : kRS N σ S M) (hq : q ∈ S.2.2.2) {o : Option kE} (hold : kTab M' k y (k_ev σ q.1.2) (k_ev σ q.2)) (hnew : ∀ u, o = some u → k_ev σ s = k_ev σ q.1.2 → kSc S.1.length u ∧ kTab M' k y (k_ev σ q.1.2 + 1) (k_ev σ u)) : ∀ q' ∈ k_ttn S s q o, kVw N σ S M' q' := by
  obtain ⟨-, s2, s3⟩ := h.2.2.2.2.2.2.2 q hq
  unfold k_ttn
  split
  · rename_i u
    cases c1 : k_eqS S s q.1.2 with
    | true =>
      rw [cond_true]
      intro q' hq'
      rcases List.mem_cons.mp hq' with rfl | hq'
      · exact mk.self h hq hold _ List.mem_cons_self
      · obtain ⟨u1, u2⟩ := hnew u rfl (k_eqv_ok h.2.1 h.2.2.1 c1)
        exact mk.one (kSc_add s2 kSc_c) u1 (by show kTab M' k y (k_ev σ (k_up1 q)) (k_ev σ u); rw [k_up1_ev]; exact u2) q' hq'
    | false =>
      rw [cond_false]
      exact mk.self h hq hold
  · exact mk.self h hq hold
theorem k_cnt3_ok (h : kRS N σ S M) {k d : kE} (hd : k_cnt3 S k = some d) : kSc S.1.length d ∧ ∃ t i : Nat, (i : Int) = k_ev σ k ∧ kZi M t = some (i, k_ev σ d) := by
  have go : ∀ l : List kH, (∀ r ∈ l, r ∈ S.2.2.2) → lfb (fun r : kH => k_is r.1.1 (-3) && k_eqS S r.1.2 k) (fun r => r.2) l = some d → ∃ r ∈ S.2.2.2, k_is r.1.1 (-3) = true ∧ k_eqS S r.1.2 k = true ∧ r.2 = d := by
    intro l
    induction l with
    | nil =>
      intro _ e
      cases e
    | cons r t ih =>
      intro hl e
      rw [lfb_cons] at e
      cases c : (k_is r.1.1 (-3) && k_eqS S r.1.2 k) with
      | true =>
        rw [c, cond_true] at e
        cases e
        obtain ⟨c1, c2⟩ := Bool.and_eq_true_iff.mp c
        exact ⟨r, hl r List.mem_cons_self, c1, c2, rfl⟩
      | false =>
        rw [c, cond_false] at e
        exact ih (fun r hr => hl r (List.mem_cons_of_mem _ hr)) e
  obtain ⟨r, hr, c1, c2, rfl⟩ := go S.2.2.2 (fun _ hr => hr) hd
  have H := h.2.2.2.2.1 r hr
  have e2 := k_is_ev (σ := σ) c1
  rw [e2] at H
  obtain ⟨t, i, i1, i2⟩ : ∃ t k : Nat, (k : Int) = k_ev σ r.1.2 ∧ kZi M t = some (k, k_ev σ r.2) := kPhi_to (i := 3) (p := 0) rfl (by omega) (H.2 (by omega))
  exact ⟨(h.2.2.2.2.2.2.2 r hr).2.2, t, i, i1.trans (k_eqv_ok h.2.1 h.2.2.1 c2), i2⟩
/-- the signs alone: the places tell how many steps -/
theorem kZi_pl {t : Nat} {r : Nat × Int} (h : kZi M (t + 1) = some r) : ∃ p, kZi M t = some p ∧ p.1 < r.1 := by
  have h : (kZi M t).bind (kZs M) = some r := h
  cases hp : kZi M t with
  | none =>
    rw [hp] at h
    cases h
  | some p =>
    rw [hp] at h
    exact ⟨p, rfl, (kZs.fr (M' := M) h fun _ _ => rfl).1⟩
theorem kZi_dn : ∀ {u t : Nat} {r : Nat × Int}, kZi M (t + u) = some r → ∃ p, kZi M t = some p ∧ p.1 + u ≤ r.1
  | 0, t, r, h => ⟨r, h, Nat.le_refl _⟩
  | u + 1, t, r, h => by
    obtain ⟨p, p1, p2⟩ := kZi_pl (t := t + u) h
    obtain ⟨x, x1, x2⟩ := kZi_dn (u := u) p1
    exact ⟨x, x1, by omega⟩
theorem kZi_uq {t u k : Nat} {n m : Int} (h1 : kZi M t = some (k, n)) (h2 : kZi M u = some (k, m)) : n = m := by
  rcases Nat.lt_trichotomy t u with c | c | c
  · obtain ⟨d, rfl⟩ : ∃ d, u = t + (d + 1) := ⟨u - t - 1, by omega⟩
    obtain ⟨p, p1, p2⟩ := kZi_dn h2
    rw [p1] at h1
    cases h1
    have p2 : k + (d + 1) ≤ k := p2
    omega
  · subst c
    rw [h1] at h2
    cases h2
    rfl
  · obtain ⟨d, rfl⟩ : ∃ d, t = u + (d + 1) := ⟨t - u - 1, by omega⟩
    obtain ⟨p, p1, p2⟩ := kZi_dn h1
    rw [p1] at h2
    cases h2
    have p2 : k + (d + 1) ≤ k := p2
    omega
theorem k_tt5_ok (h : kRS N σ S M) (hs : kSc S.1.length s) (hv : kSc S.1.length v) (ha : (a : Int) = k_ev σ c) (hj : (j : Int) = k_ev σ s) (hcl : M[a]? = some cl) (hjl : j < cl.2.length) (hw : kNum w (k_ev σ v)) (hq : q ∈ S.2.2.2) {y : kE} (sy : kSc S.1.length y) (old : kTab M 5 (k_ev σ y) (k_ev σ q.1.2) (k_ev σ q.2)) (mk : kMk N σ S (pm_put M a j cl w) q 5 (k_ev σ y)) : ∀ q' ∈ k_tt5 S c s v q, kVw N σ S (pm_put M a j cl w) q' := by
  obtain ⟨-, s2, s3⟩ := h.2.2.2.2.2.2.2 q hq
  unfold k_tt5
  cases c1 : k_off S.1 c 461 461 with
  | true =>
    rw [cond_true]
    have o := kOff h ha c1
    exact mk.self h hq (kT5_up hcl old (Or.inl (by omega)))
  | false =>
    rw [cond_false]
    cases c2 : (k_is c 461 && k_geS S (k_sub s q.1.2)) with
    | false =>
      rw [cond_false]
      exact kNil
    | true =>
      rw [cond_true]
      obtain ⟨c3, c4⟩ := Bool.and_eq_true_iff.mp c2
      have c3 := kIsa (z := 461) ha c3
      have c4 := k_ge_ok h.2.1 h.2.2.1 c4
      rw [k_ev_sub] at c4
      refine k_ttn_ok mk h hq (kT5_up hcl old (Or.inr (by omega))) fun u hu e => ?_
      split at hu
      · rename_i d hd
        obtain ⟨sd, t, i, i1, i2⟩ := k_cnt3_ok h hd
        have ev := k_nv_ok (e := v) h.2.1
        obtain ⟨u1, u2⟩ := k_rp1_ok h (x := k_ev σ v) (k_nv_sc hv) ev s3 hu
        refine ⟨u1, kT5_new hcl hjl c3 hw old (by omega) fun k n M' hk hz hx => ?_⟩
        obtain ⟨t', hz⟩ := hz
        have : i = k := by omega
        subst this
        exact u2 i n M' (kZi_uq hz i2) hx
      · cases hu
theorem k_tt7_ok (h : kRS N σ S M) (hs : kSc S.1.length s) (hv : kSc S.1.length v) (ha : (a : Int) = k_ev σ c) (hj : (j : Int) = k_ev σ s) (hcl : M[a]? = some cl) (hjl : j < cl.2.length) (hw : kNum w (k_ev σ v)) (hq : q ∈ S.2.2.2) {y : kE} (sy : kSc S.1.length y) (old : kTab M 7 (k_ev σ y) (k_ev σ q.1.2) (k_ev σ q.2)) (mk : kMk N σ S (pm_put M a j cl w) q 7 (k_ev σ y)) : ∀ q' ∈ k_tt7 S c s v q y, kVw N σ S (pm_put M a j cl w) q' := by
  obtain ⟨-, s2, s3⟩ := h.2.2.2.2.2.2.2 q hq
  unfold k_tt7
  cases c1 : k_off S.1 c 461 461 with
  | true =>
    rw [cond_true]
    have o := kOff h ha c1
    exact mk.self h hq (kT7_off hcl old (Or.inl (Or.inl (by omega))))
  | false =>
    rw [cond_false]
    cases c2 : k_is c 461 with
    | false =>
      rw [cond_false]
      exact kNil
    | true =>
      rw [cond_true]
      have c3 := kIsa (z := 461) ha c2
      cases c4 : k_geS S (k_sub s q.1.2) with
      | true =>
        rw [cond_true]
        have c4 := k_ge_ok h.2.1 h.2.2.1 c4
        rw [k_ev_sub] at c4
        refine k_ttn_ok mk h hq (kT7_off hcl old (Or.inl (Or.inr (by omega)))) fun u hu e => ?_
        obtain ⟨g, hu⟩ := pm_cs hu
        cases hu
        have g := k_fit_ok h.2.1 h.2.2.1 g
        refine ⟨kSc_add (kSc_mul s3) (kSc_add hv kSc_c), ?_⟩
        rw [k_ev_add, k_ev_mul, k_ev_add, k_ev_c]
        exact kT7_new hcl hjl c3 hw old (by omega) g.1 g.2
      | false =>
        rw [cond_false]
        cases c5 : k_geS S (k_sub (k_sub y (kc 1)) s) with
        | true =>
          rw [cond_true]
          have c5 := k_ge_ok h.2.1 h.2.2.1 c5
          rw [k_ev_sub, k_ev_sub, k_ev_c] at c5
          exact mk.self h hq (kT7_off hcl old (Or.inr (by omega)))
        | false =>
          rw [cond_false]
          exact kNil
theorem k_tt6_ok (h : kRS N σ S M) (hs : kSc S.1.length s) (hv : kSc S.1.length v) (ha : (a : Int) = k_ev σ c) (hj : (j : Int) = k_ev σ s) (hcl : M[a]? = some cl) (hjl : j < cl.2.length) (hw : kNum w (k_ev σ v)) (hq : q ∈ S.2.2.2) {y : kE} (sy : kSc S.1.length y) (old : kTab M 6 (k_ev σ y) (k_ev σ q.1.2) (k_ev σ q.2)) (mk : kMk N σ S (pm_put M a j cl w) q 6 (k_ev σ y)) : ∀ q' ∈ k_tt6 S c s v q, kVw N σ S (pm_put M a j cl w) q' := by
  obtain ⟨-, s2, s3⟩ := h.2.2.2.2.2.2.2 q hq
  unfold k_tt6
  cases c1 : k_off S.1 c 462 462 with
  | true =>
    rw [cond_true]
    have o := kOff h ha c1
    exact mk.self h hq (kT6_up hcl old (Or.inl (by omega)))
  | false =>
    rw [cond_false]
    cases c2 : (k_is c 462 && k_geS S (k_sub s q.1.2)) with
    | false =>
      rw [cond_false]
      exact kNil
    | true =>
      rw [cond_true]
      obtain ⟨c3, c4⟩ := Bool.and_eq_true_iff.mp c2
      have c3 := kIsa (z := 462) ha c3
      have c4 := k_ge_ok h.2.1 h.2.2.1 c4
      rw [k_ev_sub] at c4
      refine k_ttn_ok mk h hq (kT6_up hcl old (Or.inr (by omega))) fun u hu e => ?_
      obtain ⟨u1, u2⟩ := k_wp1_ok h (x := k_ev σ v) (k_nv_ok h.2.1) s3 hu
      exact ⟨u1, kT6_new hcl hjl c3 hw old (by omega) u2⟩
theorem k_tt3_ok (h : kRS N σ S M) (hs : kSc S.1.length s) (hv : kSc S.1.length v) (ha : (a : Int) = k_ev σ c) (hj : (j : Int) = k_ev σ s) (hcl : M[a]? = some cl) (hjl : j < cl.2.length) (hw : kNum w (k_ev σ v)) (hq : q ∈ S.2.2.2) {y : kE} (sy : kSc S.1.length y) (old : kTab M 3 (k_ev σ y) (k_ev σ q.1.2) (k_ev σ q.2)) (mk : kMk N σ S (pm_put M a j cl w) q 3 (k_ev σ y)) : ∀ q' ∈ k_tt3 S c s v q, kVw N σ S (pm_put M a j cl w) q' := by
  obtain ⟨-, s2, s3⟩ := h.2.2.2.2.2.2.2 q hq
  unfold k_tt3
  cases c1 : k_off S.1 c 388 388 with
  | true =>
    rw [cond_true]
    have o := kOff h ha c1
    exact mk.self h hq (kT3_off hcl old (by omega))
  | false =>
    rw [cond_false]
    cases c2 : k_is c 388 with
    | false =>
      rw [cond_false]
      exact kNil
    | true =>
      rw [cond_true]
      have c3 := kIsa (z := 388) ha c2
      split
      · rename_i x hx
        cases c4 : (k_eqS S v (k_add x (kc 1)) && (k_fiS S 0 11 s && (decide (0 ≤ k_lo S.1 q.2) && decide (k_hi S.1 q.2 < kPw 52)))) with
        | false =>
          rw [cond_false]
          exact kNil
        | true =>
          rw [cond_true]
          simp only [Bool.and_eq_true] at c4
          obtain ⟨d1, d2, d3, d4⟩ := c4
          have d1 := k_eqv_ok h.2.1 h.2.2.1 d1
          rw [k_ev_add, k_ev_c] at d1
          have d2 := k_fit_ok h.2.1 h.2.2.1 d2
          have d3 := of_decide_eq_true d3
          have d4 := of_decide_eq_true d4
          have l1 := k_lo_le h.2.1 q.2
          have l2 := k_hi_ge h.2.1 q.2
          have hx1 := k_find_int h hx (by omega)
          have hx2 : k_gi M 388 j = some (k_ev σ x) := by
            have := hx1.2.2
            rw [show (k_ev σ c).toNat = 388 by omega, show (k_ev σ s).toNat = j by omega] at this
            exact this
          have hpw : kPw 52 = (16 : Int) ^ 13 := rfl
          refine mk.one s2 (kSc_add (kSc_mul s3) (kSc_add hs kSc_c)) ?_
          rw [k_ev_add, k_ev_mul, k_ev_add, k_ev_c, ← hj]
          exact kT3_new hcl hjl (by rw [← d1]; exact hw) old c3 hx2 (by omega) (by omega) (by rw [← hpw]; omega)
      · exact kNil
theorem k_tt4_ok (h : kRS N σ S M) (hs : kSc S.1.length s) (hv : kSc S.1.length v) (ha : (a : Int) = k_ev σ c) (hj : (j : Int) = k_ev σ s) (hcl : M[a]? = some cl) (hjl : j < cl.2.length) (hw : kNum w (k_ev σ v)) (hq : q ∈ S.2.2.2) {y : kE} (sy : kSc S.1.length y) (old : kTab M 4 (k_ev σ y) (k_ev σ q.1.2) (k_ev σ q.2)) (mk : kMk N σ S (pm_put M a j cl w) q 4 (k_ev σ y)) : ∀ q' ∈ k_tt4 S c s v q y, kVw N σ S (pm_put M a j cl w) q' := by
  obtain ⟨-, s2, s3⟩ := h.2.2.2.2.2.2.2 q hq
  unfold k_tt4
  cases c1 : k_apart S c y with
  | true =>
    rw [cond_true]
    have o := k_apart_ok h c1
    exact mk.self h hq (kT4_off hcl old (by omega))
  | false =>
    rw [cond_false]
    cases c2 : (k_eqS S c y && k_wq (k_nv S.1 v) (kc 0)) with
    | false =>
      rw [cond_false]
      exact kNil
    | true =>
      rw [cond_true]
      obtain ⟨c3, c4⟩ := Bool.and_eq_true_iff.mp c2
      have c3 := k_eqv_ok h.2.1 h.2.2.1 c3
      rw [k_nvc h c4] at hw
      cases c5 : k_eqS S s q.1.2 with
      | true =>
        rw [cond_true]
        have c5 := k_eqv_ok h.2.1 h.2.2.1 c5
        refine mk.one (kSc_add s2 kSc_c) s3 ?_
        rw [k_up1_ev]
        exact kT4_new hcl hjl hw old (by omega) (by omega)
      | false =>
        rw [cond_false]
        exact mk.self h hq (kT4_z hcl hjl hw old (by omega))
theorem k_tt1_ok (h : kRS N σ S M) (hs : kSc S.1.length s) (hv : kSc S.1.length v) (ha : (a : Int) = k_ev σ c) (hj : (j : Int) = k_ev σ s) (hcl : M[a]? = some cl) (hjl : j < cl.2.length) (hw : kNum w (k_ev σ v)) (hq : q ∈ S.2.2.2) {y : kE} (sy : kSc S.1.length y) {wd : Option kE} (hwd : ∀ u, wd = some u → 0 ≤ k_ev σ s → k_ev σ s ≤ 63 → kWd (k_ev σ s).toNat (k_ev σ q.2) = k_ev σ u) (old : kTab M 1 (k_ev σ y) (k_ev σ q.1.2) (k_ev σ q.2)) (mk : kMk N σ S (pm_put M a j cl w) q 1 (k_ev σ y)) : ∀ q' ∈ k_tt1 S wd c s v q y, kVw N σ S (pm_put M a j cl w) q' := by
  obtain ⟨-, s2, s3⟩ := h.2.2.2.2.2.2.2 q hq
  unfold k_tt1
  cases c1 : k_apart S c y with
  | true =>
    rw [cond_true]
    have o := k_apart_ok h c1
    exact mk.self h hq (kT1_off hcl old (by omega))
  | false =>
    rw [cond_false]
    cases c2 : k_eqS S c y with
    | false =>
      rw [cond_false]
      exact kNil
    | true =>
      rw [cond_true]
      have c3 := k_eqv_ok h.2.1 h.2.2.1 c2
      cases c4 : k_geS S (k_sub s q.1.2) with
      | false =>
        rw [cond_false]
        exact kNil
      | true =>
        rw [cond_true]
        have c4 := k_ge_ok h.2.1 h.2.2.1 c4
        rw [k_ev_sub] at c4
        intro q' hq'
        rcases List.mem_cons.mp hq' with rfl | hq'
        · exact mk.self h hq (kT1_up hcl old (by omega)) _ List.mem_cons_self
        · cases c5 : (k_eqS S s q.1.2 && k_geS S (k_sub (kc 63) q.1.2)) with
          | false =>
            rw [c5, cond_false] at hq'
            cases hq'
          | true =>
            rw [c5, cond_true] at hq'
            obtain ⟨d1, d2⟩ := Bool.and_eq_true_iff.mp c5
            have d1 := k_eqv_ok h.2.1 h.2.2.1 d1
            have d2 := k_ge_ok h.2.1 h.2.2.1 d2
            rw [k_ev_sub, k_ev_c] at d2
            cases wd with
            | none => cases hq'
            | some u =>
              obtain ⟨d3, hq'⟩ := kCi (show q' ∈ cond (k_eqS S u v) [((q.1.1, k_up1 q), q.2)] [] from hq')
              have d3 := k_eqv_ok h.2.1 h.2.2.1 d3
              have e := hwd u rfl (by omega) (by omega)
              rw [← hj, Int.toNat_natCast] at e
              refine mk.one (kSc_add s2 kSc_c) s3 ?_ q' hq'
              rw [k_ev_add, k_ev_c]
              refine kT1_new hcl hjl ?_ old (by omega) (by omega)
              rw [e, d3]
              exact hw
theorem k_tt2_ok (h : kRS N σ S M) (hs : kSc S.1.length s) (hv : kSc S.1.length v) (ha : (a : Int) = k_ev σ c) (hj : (j : Int) = k_ev σ s) (hcl : M[a]? = some cl) (hjl : j < cl.2.length) (hw : kNum w (k_ev σ v)) (hq : q ∈ S.2.2.2) {y : kE} (sy : kSc S.1.length y) (old : kTab M 2 (k_ev σ y) (k_ev σ q.1.2) (k_ev σ q.2)) (mk : kMk N σ S (pm_put M a j cl w) q 2 (k_ev σ y)) : ∀ q' ∈ k_tt2 S c s q y, kVw N σ S (pm_put M a j cl w) q' := by
  obtain ⟨-, s2, s3⟩ := h.2.2.2.2.2.2.2 q hq
  unfold k_tt2
  cases c1 : k_apart S c y with
  | true =>
    rw [cond_true]
    have o := k_apart_ok h c1
    exact mk.self h hq (kT2_off hcl old (by omega))
  | false =>
    rw [cond_false]
    cases c2 : k_eqS S c y with
    | false =>
      rw [cond_false]
      exact kNil
    | true =>
      rw [cond_true]
      cases c4 : k_geS S (k_sub (k_sub q.1.2 (kc 1)) s) with
      | true =>
        rw [cond_true]
        have c4 := k_ge_ok h.2.1 h.2.2.1 c4
        rw [k_ev_sub, k_ev_sub, k_ev_c] at c4
        exact mk.self h hq (kT2_dn hcl old (by omega))
      | false =>
        rw [cond_false]
        cases c5 : k_eqS S s q.1.2 with
        | false =>
          rw [cond_false]
          exact kNil
        | true =>
          rw [cond_true]
          have c5 := k_eqv_ok h.2.1 h.2.2.1 c5
          refine mk.one (kSc_add s2 kSc_c) s3 ?_
          rw [k_up1_ev]
          exact kT2_new hcl old (by omega)
theorem k_tt8_ok (h : kRS N σ S M) (hs : kSc S.1.length s) (hv : kSc S.1.length v) (ha : (a : Int) = k_ev σ c) (hj : (j : Int) = k_ev σ s) (hcl : M[a]? = some cl) (hjl : j < cl.2.length) (hw : kNum w (k_ev σ v)) (hq : q ∈ S.2.2.2) {y : kE} (sy : kSc S.1.length y) (old : kTab M 8 (k_ev σ y) (k_ev σ q.1.2) (k_ev σ q.2)) (mk : kMk N σ S (pm_put M a j cl w) q 8 (k_ev σ y)) : ∀ q' ∈ k_tt8 S c s q, kVw N σ S (pm_put M a j cl w) q' := by
  obtain ⟨-, s2, s3⟩ := h.2.2.2.2.2.2.2 q hq
  unfold k_tt8
  cases c1 : k_off S.1 c 464 464 with
  | true =>
    rw [cond_true]
    have o := kOff h ha c1
    exact mk.self h hq (kT8_up hcl old (Or.inl (by omega)))
  | false =>
    rw [cond_false]
    cases c2 : k_is c 464 with
    | false =>
      rw [cond_false]
      exact kNil
    | true =>
      rw [cond_true]
      cases c4 : k_geS S (k_sub s q.1.2) with
      | true =>
        rw [cond_true]
        have c4 := k_ge_ok h.2.1 h.2.2.1 c4
        rw [k_ev_sub] at c4
        exact mk.self h hq (kT8_up hcl old (Or.inr (by omega)))
      | false =>
        rw [cond_false]
        split
        · exact kNil
        · rename_i p hp
          obtain ⟨-, p3, p4⟩ := k_pdg_ok h s3 hp
          cases c5 : k_eqS S s (k_sub q.1.2 (kc 1)) with
          | true =>
            rw [cond_true]
            have c5 := k_eqv_ok h.2.1 h.2.2.1 c5
            rw [k_ev_sub, k_ev_c] at c5
            cases c6 : k_geS S (k_sub q.1.2 (kc 1)) with
            | false =>
              rw [cond_false]
              exact kNil
            | true =>
              rw [cond_true]
              have c6 := k_ge_ok h.2.1 h.2.2.1 c6
              rw [k_ev_sub, k_ev_c] at c6
              refine mk.one (kSc_sub s2 kSc_c) p3 ?_
              rw [k_ev_sub, k_ev_c, p4]
              exact kT8_up hcl (kT8_pop old (by omega)) (Or.inr (by omega))
          | false =>
            rw [cond_false]
            split
            · exact kNil
            · rename_i r hr
              obtain ⟨-, r3, r4⟩ := k_pdg_ok h p3 hr
              cases c6 : (k_eqS S s (k_sub q.1.2 (kc 2)) && k_geS S (k_sub q.1.2 (kc 2))) with
              | false =>
                rw [cond_false]
                exact kNil
              | true =>
                rw [cond_true]
                obtain ⟨d1, d2⟩ := Bool.and_eq_true_iff.mp c6
                have d1 := k_eqv_ok h.2.1 h.2.2.1 d1
                have d2 := k_ge_ok h.2.1 h.2.2.1 d2
                rw [k_ev_sub, k_ev_c] at d1 d2
                have t1 := kT8_pop (kT8_pop old (by omega)) (by omega)
                refine mk.one (kSc_sub s2 kSc_c) r3 ?_
                rw [k_ev_sub, k_ev_c, r4, p4, show k_ev σ q.1.2 - 2 = k_ev σ q.1.2 - 1 - 1 by omega]
                exact kT8_up hcl t1 (Or.inr (by omega))
theorem k_otr_ok (h : kRS N σ S M) (hj : (j : Int) = k_ev σ s) {y : kE} (ho : k_otr S s y = true) : 128 ≤ (j : Int) - 128 * k_ev σ y ∨ (j : Int) - 128 * k_ev σ y < 0 := by
  rcases Bool.or_eq_true_iff.mp ho with o | o
  · have o := k_ge_ok h.2.1 h.2.2.1 o
    rw [k_ev_sub, k_ev_sub, k_ev_mul, k_ev_c] at o
    exact Or.inl (by omega)
  · have o := k_ge_ok h.2.1 h.2.2.1 o
    rw [k_ev_sub, k_ev_sub, k_ev_mul, k_ev_c] at o
    exact Or.inr (by omega)
theorem k_tt10_ok (h : kRS N σ S M) (hs : kSc S.1.length s) (hv : kSc S.1.length v) (ha : (a : Int) = k_ev σ c) (hj : (j : Int) = k_ev σ s) (hcl : M[a]? = some cl) (hjl : j < cl.2.length) (hw : kNum w (k_ev σ v)) (hq : q ∈ S.2.2.2) {y : kE} (sy : kSc S.1.length y) (old : kTab M 10 (k_ev σ y) (k_ev σ q.1.2) (k_ev σ q.2)) (mk : kMk N σ S (pm_put M a j cl w) q 10 (k_ev σ y)) : ∀ q' ∈ k_tt10 S c s v q y, kVw N σ S (pm_put M a j cl w) q' := by
  obtain ⟨-, s2, s3⟩ := h.2.2.2.2.2.2.2 q hq
  unfold k_tt10
  cases c1 : k_off S.1 c 451 451 with
  | true =>
    rw [cond_true]
    have o := kOff h ha c1
    exact mk.self h hq (kT10_off hcl old (Or.inl (by omega)))
  | false =>
    rw [cond_false]
    cases c2 : k_is c 451 with
    | false =>
      rw [cond_false]
      exact kNil
    | true =>
      rw [cond_true]
      have c3 := kIsa (z := 451) ha c2
      cases c4 : k_otr S s y with
      | true =>
        rw [cond_true]
        exact mk.self h hq (kT10_off hcl old (Or.inr (k_otr_ok h hj c4)))
      | false =>
        rw [cond_false]
        cases c5 : k_wq (k_nv S.1 v) (kc 0) with
        | false =>
          rw [cond_false]
          exact kNil
        | true =>
          rw [cond_true]
          rw [k_nvc h c5] at hw
          cases c6 : k_eqS S (k_sub s (k_mul 128 y)) q.1.2 with
          | true =>
            rw [cond_true]
            have c6 := k_eqv_ok h.2.1 h.2.2.1 c6
            rw [k_ev_sub, k_ev_mul] at c6
            refine mk.one (kSc_add s2 kSc_c) s3 ?_
            rw [k_up1_ev]
            exact kT10_new hcl hjl c3 hw old (by omega)
          | false =>
            rw [cond_false]
            exact mk.self h hq (kT10_z hcl hjl c3 hw old)
theorem k_tt9_ok (h : kRS N σ S M) (hs : kSc S.1.length s) (hv : kSc S.1.length v) (ha : (a : Int) = k_ev σ c) (hj : (j : Int) = k_ev σ s) (hcl : M[a]? = some cl) (hjl : j < cl.2.length) (hw : kNum w (k_ev σ v)) (hq : q ∈ S.2.2.2) {y : kE} (sy : kSc S.1.length y) {bit : Option kE} (hbit : ∀ b, bit = some b → 0 ≤ k_ev σ q.1.2 → k_ev σ q.1.2 ≤ 4095 → kBt (k_ev σ q.1.2).toNat (k_ev σ q.2) = k_ev σ b) (old : kTab M 9 (k_ev σ y) (k_ev σ q.1.2) (k_ev σ q.2)) (mk : kMk N σ S (pm_put M a j cl w) q 9 (k_ev σ y)) : ∀ q' ∈ k_tt9 S bit c s v q y, kVw N σ S (pm_put M a j cl w) q' := by
  obtain ⟨-, s2, s3⟩ := h.2.2.2.2.2.2.2 q hq
  unfold k_tt9
  cases c1 : k_off S.1 c 451 451 with
  | true =>
    rw [cond_true]
    have o := kOff h ha c1
    exact mk.self h hq (kT9_off hcl old (Or.inl (by omega)))
  | false =>
    rw [cond_false]
    cases c2 : k_is c 451 with
    | false =>
      rw [cond_false]
      exact kNil
    | true =>
      rw [cond_true]
      have c3 := kIsa (z := 451) ha c2
      cases c4 : k_otr S s y with
      | true =>
        rw [cond_true]
        exact mk.self h hq (kT9_off hcl old (Or.inr (k_otr_ok h hj c4)))
      | false =>
        rw [cond_false]
        cases bit with
        | none => exact kNil
        | some b =>
        dsimp only
        split
        · exact kNil
        · rename_i g hg
          cases c5 : (k_wq b (kc 1) && (k_eqS S (k_sub s (k_mul 128 y)) g && (k_fiS S 0 4095 q.1.2 && k_tt9a S c s v q g))) with
          | false =>
            rw [cond_false]
            exact kNil
          | true =>
            rw [cond_true]
            simp only [Bool.and_eq_true] at c5
            obtain ⟨d1, d2, d3, d4⟩ := c5
            have d2 := k_eqv_ok h.2.1 h.2.2.1 d2
            rw [k_ev_sub, k_ev_mul] at d2
            have d3 := k_fit_ok h.2.1 h.2.2.1 d3
            have hb := hbit b rfl d3.1 d3.2
            rw [k_wq_ok d1, k_ev_c] at hb
            obtain ⟨g1, g2⟩ := k_lk7_ok h (by omega) (by omega) hg
            rw [k_ev_c] at g2
            have g2 : k_ev σ g = k_ev σ q.1.2 / 32 := g2
            unfold k_tt9a at d4
            split at d4
            · cases d4
            · rename_i w0 hw0
              split at d4
              · cases d4
              · rename_i s1 hs1
                split at d4
                · cases d4
                · rename_i u hu
                  have d4 := k_eqv_ok h.2.1 h.2.2.1 d4
                  obtain ⟨-, e1⟩ := k_lk7_ok h (by omega) (by omega) hs1
                  obtain ⟨-, e2⟩ := k_lk7_ok h (by omega) (by omega) hu
                  rw [k_ev_sub, k_ev_mul, g2] at e1
                  rw [k_ev_add, k_ev_c] at e2
                  have e1 : k_ev σ s1 = ((1 : Int32) <<< (Int32.ofInt (k_ev σ q.1.2 - 32 * (k_ev σ q.1.2 / 32)) &&& 31)).toInt := e1
                  have e2 : k_ev σ u = (Int32.ofInt (k_ev σ w0 + 2147483648 - 2147483648) ||| Int32.ofInt (k_ev σ s1)).toInt := e2
                  rw [show k_ev σ w0 + 2147483648 - 2147483648 = k_ev σ w0 by omega, e1, Int32.ofInt_toInt] at e2
                  have x1 := k_find_int h hw0 (by omega)
                  have x2 : k_gi M 451 j = some (k_ev σ w0) := by
                    have := x1.2.2
                    rw [show (k_ev σ c).toNat = 451 by omega, show (k_ev σ s).toNat = j by omega] at this
                    exact this
                  refine mk.one (kSc_add s2 kSc_c) s3 ?_
                  rw [k_up1_ev]
                  exact kT9_new hcl hjl c3 (by rw [← e2, d4]; exact hw) x2 old (by omega) (by omega) (by omega) hb
theorem k_tt11_ok (h : kRS N σ S M) (hs : kSc S.1.length s) (hv : kSc S.1.length v) (ha : (a : Int) = k_ev σ c) (hj : (j : Int) = k_ev σ s) (hcl : M[a]? = some cl) (hjl : j < cl.2.length) (hw : kNum w (k_ev σ v)) (hq : q ∈ S.2.2.2) {y : kE} (sy : kSc S.1.length y) (old : kTab M 11 (k_ev σ y) (k_ev σ q.1.2) (k_ev σ q.2)) (mk : kMk N σ S (pm_put M a j cl w) q 11 (k_ev σ y)) : ∀ q' ∈ k_tt11 S c s q, kVw N σ S (pm_put M a j cl w) q' := by
  obtain ⟨-, s2, s3⟩ := h.2.2.2.2.2.2.2 q hq
  unfold k_tt11
  cases c2 : k_is c 451 with
  | true =>
    rw [cond_true]
    have c3 := kIsa (z := 451) ha c2
    cases c4 : k_geS S (k_sub s (k_mul 128 q.1.2)) with
    | true =>
      rw [cond_true]
      have c4 := k_ge_ok h.2.1 h.2.2.1 c4
      rw [k_ev_sub, k_ev_mul] at c4
      exact mk.self h hq (kT11_m hcl old c3 (by omega))
    | false =>
      rw [cond_false]
      exact kNil
  | false =>
    rw [cond_false]
    cases c5 : (k_off S.1 c 451 451 && ((k_off S.1 c 63 78 || k_geS S (k_sub c (k_add (kc 63) q.1.2))) && (k_off S.1 c 244 259 || k_geS S (k_sub c (k_add (kc 244) q.2))))) with
    | false =>
      rw [cond_false]
      exact kNil
    | true =>
      rw [cond_true]
      simp only [Bool.and_eq_true] at c5
      obtain ⟨d1, d2, d3⟩ := c5
      have o := kOff h ha d1
      refine mk.self h hq (kT11_x hcl old (by omega) ?_ ?_)
      · rcases Bool.or_eq_true_iff.mp d2 with d2 | d2
        · exact Or.inl (kOff h ha d2)
        · have d2 := k_ge_ok h.2.1 h.2.2.1 d2
          rw [k_ev_sub, k_ev_add, k_ev_c] at d2
          exact Or.inr (by omega)
      · rcases Bool.or_eq_true_iff.mp d3 with d3 | d3
        · exact Or.inl (kOff h ha d3)
        · have d3 := k_ge_ok h.2.1 h.2.2.1 d3
          rw [k_ev_sub, k_ev_add, k_ev_c] at d3
          exact Or.inr (by omega)
theorem k_tt12_ok (h : kRS N σ S M) (hs : kSc S.1.length s) (hv : kSc S.1.length v) (ha : (a : Int) = k_ev σ c) (hj : (j : Int) = k_ev σ s) (hcl : M[a]? = some cl) (hjl : j < cl.2.length) (hw : kNum w (k_ev σ v)) (hq : q ∈ S.2.2.2) {y : kE} (sy : kSc S.1.length y) (old : kTab M 12 (k_ev σ y) (k_ev σ q.1.2) (k_ev σ q.2)) (mk : kMk N σ S (pm_put M a j cl w) q 12 (k_ev σ y)) : ∀ q' ∈ k_tt12 S c q y, kVw N σ S (pm_put M a j cl w) q' := by
  obtain ⟨-, s2, s3⟩ := h.2.2.2.2.2.2.2 q hq
  unfold k_tt12
  split
  · rename_i t ht
    obtain ⟨t1, -, t2⟩ := k_trk_ok h sy ht
    cases c5 : (k_off S.1 c 451 451 && cond (zz t.1) (k_off S.1 c 63 78) (k_off S.1 c 244 259)) with
    | false =>
      rw [cond_false]
      exact kNil
    | true =>
      rw [cond_true]
      obtain ⟨d1, d2⟩ := Bool.and_eq_true_iff.mp c5
      have o := kOff h ha d1
      refine mk.self h hq (kT12_x hcl old (by omega) ?_)
      rw [zz_eq] at d2
      rcases t1 with t1 | t1
      · rw [t1, show decide ((0 : Int) = 0) = true from rfl, cond_true] at d2
        exact Or.inl ⟨by omega, kOff h ha d2⟩
      · rw [t1, show decide ((1 : Int) = 0) = false from rfl, cond_false] at d2
        exact Or.inr ⟨by omega, kOff h ha d2⟩
  · exact kNil
end KVT6
end
