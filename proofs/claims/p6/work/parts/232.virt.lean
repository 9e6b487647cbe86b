noncomputable section
/-! entries under negative cells: what a write, a call leaves of them -/
def k_vt1 (S : kS) (c s v : kE) (q : kH) : List kH := cond (k_off S.1 c 403 439) [q]
  (cond (k_ge S.1 S.2.1 (k_sub (k_sub s q.1.2) (kc 1)) || k_ge S.1 S.2.1 (k_sub (k_sub q.1.2 s) (kc 1))) [q]
  (cond (k_eqv S.1 S.2.1 s q.1.2 && (k_eqv S.1 S.2.1 (k_sub c (kc 403)) (k_sub (k_vp q.1.1) (kc 1)) && (k_eqv S.1 S.2.1 v (k_sub q.2 (k_sub c (kc 403))) && k_ge S.1 S.2.1 (k_sub (k_vp q.1.1) (kc 1))))) [q, ((k_add q.1.1 (kc 16), q.1.2), q.2)]
  (cond (k_ge S.1 S.2.1 (k_sub (k_sub (k_vp q.1.1) (kc 1)) (k_sub c (kc 403)))) [q] [])))
def k_vt2 (S : kS) (c s v : kE) (q : kH) : List kH := cond (k_off S.1 c 471 471) [q]
  (cond (k_is c 471) (cond (k_eqv S.1 S.2.1 (k_sub s q.1.2) (k_mul 41 (k_sub (k_vp q.1.1) (kc 1))) && (k_eqv S.1 S.2.1 v (k_sub q.2 (k_sub (k_vp q.1.1) (kc 1))) && k_ge S.1 S.2.1 (k_sub (k_vp q.1.1) (kc 1)))) [q, ((k_add q.1.1 (kc 16), q.1.2), q.2)]
  (cond (k_ge S.1 S.2.1 (k_sub (k_sub (k_mul 41 (k_vp q.1.1)) (kc 1)) (k_sub s q.1.2))) [q] [])) [])
def k_vt3 (S : kS) (c s v : kE) (q : kH) : List kH := cond (k_off S.1 c 461 461) [q]
  (cond (k_is c 461) (cond (k_eqv S.1 S.2.1 s q.1.2)
    (q :: cond (k_fit S.1 S.2.1 0 11 v && k_ge S.1 S.2.1 (k_sub (kc 198) q.2)) [((q.1.1, k_add q.1.2 (kc 1)), k_add q.2 (kc 1))]
      (cond (decide (k_nv S.1 v = kc 20) && k_ge S.1 S.2.1 (k_sub q.2 (kc 1))) [((q.1.1, k_add q.1.2 (kc 1)), q.2)]
      (cond (k_fit S.1 S.2.1 21 23 v && k_ge S.1 S.2.1 (k_sub q.2 (kc 2))) [((q.1.1, k_add q.1.2 (kc 1)), k_sub q.2 (kc 1))] [])))
    (cond (k_ge S.1 S.2.1 (k_sub s q.1.2)) [q] [])) [])
/-- lo, hi: what is counted -/
def k_vt4 (lo hi : Int) (S : kS) (c s v : kE) (q : kH) : List kH := cond (k_off S.1 c 462 462) [q]
  (cond (k_is c 462) (cond (k_eqv S.1 S.2.1 s q.1.2)
    (q :: cond (decide (k_nv S.1 v = kc 20)) [((q.1.1, k_add q.1.2 (kc 1)), q.2)]
      (cond (k_fit S.1 S.2.1 21 23 v) [((q.1.1, k_add q.1.2 (kc 1)), cond (decide (lo = 21)) (k_add q.2 (kc 1)) q.2)]
      (cond (decide (k_nv S.1 v = kc 24)) [((q.1.1, k_add q.1.2 (kc 1)), cond (decide (lo = 21)) q.2 (k_add q.2 (kc 1)))] [])))
    (cond (k_ge S.1 S.2.1 (k_sub s q.1.2)) [q] [])) [])
def k_noR (l : List Nat) (r : Nat) : Bool := l.all (fun z => !(Nat.beq z r))
def k_vt6L (S : kS) (s v : kE) (q : kH) : List kH := cond (k_ge S.1 S.2.1 (k_sub s (k_mul 12 q.1.2))) [q]
  (match k_rs S.1 12 s with
  | [6] => let l := k_dv 12 (k_sub s (kc 6))
    cond (k_eq (k_add (k_mul 12 l) (kc 6)) s) (match k_find (kc 453) (k_add (k_mul 12 l) (kc 1)) S.2.2.2 with
      | none => []
      | some e => (match k_find (kc 450) (k_add (k_mul 26 e) (kc 3)) S.2.2.2 with
        | none => []
        | some y => cond (k_ge S.1 S.2.1 (k_sub y v)) [q] [])) []
  | [8] => let l := k_dv 12 (k_sub s (kc 8))
    cond (k_eq (k_add (k_mul 12 l) (kc 8)) s && k_ge S.1 S.2.1 (k_sub (k_sub l (kc 1)) v)) [q] []
  | rs => cond (k_noR rs 1 && (k_noR rs 6 && k_noR rs 8)) [q] [])
def k_vt6V (S : kS) (s v : kE) (q : kH) : List kH := cond (k_noR (k_rs S.1 26 s) 3) [q] (cond (k_ge S.1 S.2.1 (k_sub s (k_mul 26 q.2)) && k_ge S.1 S.2.1 v) [q] [])
def k_vt6N (S : kS) (s v : kE) (q : kH) : List kH := cond (!(k_cst s)) []
  (cond (decide (s.1 = 5)) (cond (k_ge S.1 S.2.1 (k_sub v q.2)) [(q.1, v)] [])
  (cond (decide (s.1 = 7)) (cond (k_ge S.1 S.2.1 (k_sub q.1.2 v)) [((q.1.1, v), q.2)]
    (cond (k_eqv S.1 S.2.1 v (k_add q.1.2 (kc 1))) (match k_find (kc 453) (k_add (k_mul 12 q.1.2) (kc 1)) S.2.2.2 with
      | none => []
      | some e => (match k_find (kc 453) (k_add (k_mul 12 q.1.2) (kc 6)) S.2.2.2 with
        | none => []
        | some x => (match k_find (kc 453) (k_add (k_mul 12 q.1.2) (kc 8)) S.2.2.2 with
          | none => []
          | some z => cond (k_ge S.1 S.2.1 (k_sub (k_sub q.2 (kc 1)) e) && (k_ge S.1 S.2.1 (k_sub (kc 15) e) && (k_ge S.1 S.2.1 (k_mul (-1) x) && (k_ge S.1 S.2.1 e && k_ge S.1 S.2.1 (k_sub (k_sub q.1.2 (kc 1)) z))))) [((q.1.1, v), q.2)] []))) [])) [q]))
def k_vt6 (S : kS) (c s v : kE) (q : kH) : List kH := cond (k_is c 453) (k_vt6L S s v q) (cond (k_is c 450) (k_vt6V S s v q) (cond (k_is c 444) (k_vt6N S s v q)
  (cond (k_off S.1 c 453 453 && (k_off S.1 c 450 450 && k_off S.1 c 444 444)) [q] [])))
def k_rlw (c : kE) : Option kRw := cond (k_cst (k_vp c) && decide (0 ≤ (k_vp c).1)) kRel[(k_vp c).1.toNat]? none
theorem k_rlw_ok {σ : Nat → Int} {c : kE} {r : kRw} (h : k_rlw c = some r) : 0 ≤ k_ev σ (k_vp c) ∧ kRel[(k_ev σ (k_vp c)).toNat]? = some r := by
  unfold k_rlw at h
  obtain ⟨h1, h2⟩ := pm_cs h
  obtain ⟨a, b⟩ := Bool.and_eq_true_iff.mp h1
  rw [k_ev_const (σ := σ) a]
  exact ⟨of_decide_eq_true b, h2⟩
/-- the other row's place is known, and the same -/
def k_sm (S : kS) (u : Int × Int × Int) (x v : kE) : Bool := match k_find (kc u.1) (k_add (k_mul u.2.2 x) (kc u.2.1)) S.2.2.2 with
  | none => false
  | some y => k_eqv S.1 S.2.1 y v
def k_vt9x (S : kS) (n : Int) (q : kH) (x : kE) (same : Bool) : List kH := cond (same || k_ge S.1 S.2.1 (k_sub x q.1.2)) (q :: cond (same && (k_eqv S.1 S.2.1 x q.1.2 && k_ge S.1 S.2.1 (k_sub (kc (n - 1)) q.1.2))) [((q.1.1, k_add q.1.2 (kc 1)), q.2)] []) [((k_sub q.1.1 (kc 1), q.1.2), x)]
def k_vt10x (S : kS) (q : kH) (x : kE) (same : Bool) : List kH := cond same (cond (k_eqv S.1 S.2.1 x q.2) [((k_add q.1.1 (kc 1), q.1.2), kc 0)] [q]) (cond (k_eqv S.1 S.2.1 x q.2 || k_ge S.1 S.2.1 (k_sub x q.1.2)) [q] [])
def k_vt9s (ten : Bool) (S : kS) (n : Int) (t u : Int × Int × Int) (s v : kE) (q : kH) : List kH := cond (!(decide (1 ≤ t.2.2))) []
  (cond (k_off S.1 s t.2.1 (t.2.1 + t.2.2 * (n - 1)) || k_noR (k_rs S.1 t.2.2.toNat s) (t.2.1 % t.2.2).toNat) [q]
  (cond (k_eq (k_add (k_mul t.2.2 (k_dv t.2.2 (k_sub s (kc t.2.1)))) (kc t.2.1)) s)
    (cond ten (k_vt10x S q (k_dv t.2.2 (k_sub s (kc t.2.1))) (k_sm S u (k_dv t.2.2 (k_sub s (kc t.2.1))) v)) (k_vt9x S n q (k_dv t.2.2 (k_sub s (kc t.2.1))) (k_sm S u (k_dv t.2.2 (k_sub s (kc t.2.1))) v))) []))
def k_vt9 (ten : Bool) (S : kS) (c s v : kE) (q : kH) : List kH := match k_rlw q.1.1 with
  | none => []
  | some r => cond (k_off S.1 c r.1.1 r.1.1 && k_off S.1 c r.2.1.1 r.2.1.1) [q]
    (cond (decide (r.1.1 = r.2.1.1) || !(decide (0 ≤ r.1.1) && decide (0 ≤ r.2.1.1))) [] (cond (k_is c r.1.1) (k_vt9s ten S r.2.2 r.1 r.2.1 s v q) (cond (k_is c r.2.1.1) (k_vt9s ten S r.2.2 r.2.1 r.1 s v q) [])))
def k_vtr (S : kS) (c s v : kE) (q : kH) : List kH := cond (k_vok q.1.1) (match k_vi q.1.1 with
  | 1 => k_vt1 S c s v q
  | 2 => k_vt2 S c s v q
  | 3 => k_vt3 S c s v q
  | 4 => k_vt4 21 23 S c s v q
  | 5 => k_vt4 24 24 S c s v q
  | 6 => k_vt6 S c s v q
  | 7 => cond (k_off S.1 c 457 457) [q] []
  | 8 => cond (k_off S.1 c 477 477) [q] []
  | 9 => k_vt9 false S c s v q
  | 10 => k_vt9 true S c s v q
  | 11 => [q]
  | 12 => [q]
  | 13 => (match k_fdj q.1.1 with
    | some z => cond (decide (0 ≤ z.2.1.1) && k_off S.1 c z.2.1.1 z.2.1.1) [q] []
    | none => [])
  | 14 => [q]
  | 15 => k_vtx S c s v q
  | _ => []) []
section KVT
variable {N : kN} {σ : Nat → Int} {S : kS} {M : pM} {c s v : kE} {a j : Nat} {cl : pC} {w : Value} {q : kH} {i : Nat}
/-- what an entry that stays, or comes, must be -/
def kVq (N : kN) (σ : Nat → Int) (S : kS) (M : pM) (q' : kH) : Prop := (kSc S.1.length q'.1.1 ∧ kSc S.1.length q'.1.2 ∧ kSc S.1.length q'.2) ∧ kHas N M (k_ev σ q'.1.1) (k_ev σ q'.1.2) (k_ev σ q'.2)
theorem kHas.neg {M : pM} {c s v : Int} (hc : c < 0) (h : kPhi N M c s v) : kHas N M c s v := ⟨fun h0 => by omega, fun _ => h⟩
theorem kPh_pos {i : Nat} {p s v : Int} (h : kPh N i M p s v) : 1 ≤ i ∧ i ≤ 15 := by
  match i, h with
  | 0, h => exact h.elim
  | 1, _ => omega
  | 2, _ => omega
  | 3, _ => omega
  | 4, _ => omega
  | 5, _ => omega
  | 6, _ => omega
  | 7, _ => omega
  | 8, _ => omega
  | 9, _ => omega
  | 10, _ => omega
  | 11, _ => omega
  | 12, _ => omega
  | 13, _ => omega
  | 14, _ => omega
  | 15, _ => omega
  | i + 16, h => exact h.elim
theorem kPh_off {p z x : Int} (hcl : M[a]? = some cl) (hf : ¬ kFt i a) (h : kPh N i M p z x) : kPh N i (pm_put M a j cl w) p z x := h.fr fun b hb n => k_gi_put_ne hcl (fun e => hf (by rw [← e.1]; exact hb))
theorem kVq.same {M' : pM} (h : kRS N σ S M) (hq : q ∈ S.2.2.2) (hn : k_ev σ q.1.1 < 0) (hk : k_vok q.1.1 = true) (hp : kPh N (k_vi q.1.1) M' (k_ev σ (k_vp q.1.1)) (k_ev σ q.1.2) (k_ev σ q.2)) : kVq N σ S M' q := ⟨h.2.2.2.2.2.2.2 _ hq, kHas.neg hn (kPhi_of (k_vok_ev hk) (k_vi_lt _) hp)⟩
theorem kVq.of {M' : pM} {q' : kH} {i : Nat} {p : Int} (hs : kSc S.1.length q'.1.1 ∧ kSc S.1.length q'.1.2 ∧ kSc S.1.length q'.2) (hn : k_ev σ q'.1.1 < 0) (he : k_ev σ q'.1.1 = -((i : Int) + 16 * p)) (hi : i < 16) (hp : kPh N i M' p (k_ev σ q'.1.2) (k_ev σ q'.2)) : kVq N σ S M' q' := ⟨hs, kHas.neg hn (kPhi_of he hi hp)⟩
theorem kVq.now (h : kRS N σ S M) (hq : q ∈ S.2.2.2) (hn : k_ev σ q.1.1 < 0) (hk : k_vok q.1.1 = true) : kPh N (k_vi q.1.1) M (k_ev σ (k_vp q.1.1)) (k_ev σ q.1.2) (k_ev σ q.2) := kPhi_to (k_vok_ev hk) (k_vi_lt _) ((h.2.2.2.2.1 _ hq).2 hn)
theorem k_vt1_ok (h : kRS N σ S M) (hc : kSc S.1.length c) (hs : kSc S.1.length s) (hv : kSc S.1.length v) (ha : (a : Int) = k_ev σ c) (hj : (j : Int) = k_ev σ s) (hcl : M[a]? = some cl) (hjl : j < cl.2.length) (hw : kNum w (k_ev σ v)) (hq : q ∈ S.2.2.2) (hn : k_ev σ q.1.1 < 0) (hk : k_vok q.1.1 = true) (hi : k_vi q.1.1 = 1) : ∀ q' ∈ k_vt1 S c s v q, kVq N σ S (pm_put M a j cl w) q' := by
  have hp := kVq.now h hq hn hk
  rw [hi] at hp
  have hsc := h.2.2.2.2.2.2.2 _ hq
  have hev := k_vok_ev (σ := σ) hk
  rw [hi] at hev
  have stay : kPh N 1 (pm_put M a j cl w) (k_ev σ (k_vp q.1.1)) (k_ev σ q.1.2) (k_ev σ q.2) → ∀ q' ∈ [q], kVq N σ S (pm_put M a j cl w) q' := fun hP q' hq' => by
    rcases List.mem_singleton.mp hq' with rfl
    exact kVq.same h hq hn hk (by rw [hi]; exact hP)
  intro q' hq'
  unfold k_vt1 at hq'
  cases c1 : k_off S.1 c 403 439 with
  | true =>
    rw [c1, cond_true] at hq'
    have o := k_off_ok h.2.1 c1
    refine stay (kPh_off hcl (fun hf : 403 ≤ a ∧ a ≤ 439 => ?_) hp) q' hq'
    omega
  | false =>
    rw [c1, cond_false] at hq'
    cases c2 : (k_ge S.1 S.2.1 (k_sub (k_sub s q.1.2) (kc 1)) || k_ge S.1 S.2.1 (k_sub (k_sub q.1.2 s) (kc 1))) with
    | true =>
      rw [c2, cond_true] at hq'
      refine stay (fun r g1 g2 g3 g4 => ?_) q' hq'
      refine kInt_put_ne hcl (hp r g1 g2 g3 g4) (fun e => ?_)
      rcases Bool.or_eq_true_iff.mp c2 with c2 | c2
      · have := k_ge_ok h.2.1 h.2.2.1 c2
        rw [k_ev_sub, k_ev_sub, k_ev_c] at this
        omega
      · have := k_ge_ok h.2.1 h.2.2.1 c2
        rw [k_ev_sub, k_ev_sub, k_ev_c] at this
        omega
    | false =>
      rw [c2, cond_false] at hq'
      cases c3 : (k_eqv S.1 S.2.1 s q.1.2 && (k_eqv S.1 S.2.1 (k_sub c (kc 403)) (k_sub (k_vp q.1.1) (kc 1)) && (k_eqv S.1 S.2.1 v (k_sub q.2 (k_sub c (kc 403))) && k_ge S.1 S.2.1 (k_sub (k_vp q.1.1) (kc 1))))) with
      | true =>
        rw [c3, cond_true] at hq'
        simp only [Bool.and_eq_true] at c3
        have e1 := k_eqv_ok h.2.1 h.2.2.1 c3.1
        have e2 := k_eqv_ok h.2.1 h.2.2.1 c3.2.1
        have e3 := k_eqv_ok h.2.1 h.2.2.1 c3.2.2.1
        have e4 := k_ge_ok h.2.1 h.2.2.1 c3.2.2.2
        rw [k_ev_sub, k_ev_c] at e4
        rw [k_ev_sub, k_ev_sub, k_ev_c, k_ev_c] at e2
        rw [k_ev_sub, k_ev_sub, k_ev_c] at e3
        have old : ∀ r : Int, k_ev σ (k_vp q.1.1) ≤ r → r ≤ k_ev σ q.2 → 0 ≤ r → r ≤ 36 → kInt (pm_put M a j cl w) (403 + r) (k_ev σ q.1.2) (k_ev σ q.2 - r) := fun r g1 g2 g3 g4 => kInt_put_ne hcl (hp r g1 g2 g3 g4) (fun e => by omega)
        rcases List.mem_cons.mp hq' with rfl | hq'
        · exact stay old _ (List.mem_singleton.mpr rfl)
        · rcases List.mem_singleton.mp hq' with rfl
          refine kVq.of (i := 1) (p := k_ev σ (k_vp q.1.1) - 1) ⟨kSc_add hsc.1 kSc_c, hsc.2⟩ ?_ ?_ (by omega) (fun r g1 g2 g3 g4 => ?_)
          · show k_ev σ (k_add q.1.1 (kc 16)) < 0
            rw [k_ev_add, k_ev_c]
            omega
          · show k_ev σ (k_add q.1.1 (kc 16)) = _
            rw [k_ev_add, k_ev_c]
            omega
          · show kInt (pm_put M a j cl w) (403 + r) (k_ev σ q.1.2) (k_ev σ q.2 - r)
            by_cases hr : r = k_ev σ (k_vp q.1.1) - 1
            · exact kInt_put hcl hjl (by rw [show k_ev σ q.2 - r = k_ev σ v by omega]; exact hw) (by omega) (by omega)
            · exact old r (by omega) g2 g3 g4
      | false =>
        rw [c3, cond_false] at hq'
        cases c4 : k_ge S.1 S.2.1 (k_sub (k_sub (k_vp q.1.1) (kc 1)) (k_sub c (kc 403))) with
        | true =>
          rw [c4, cond_true] at hq'
          have := k_ge_ok h.2.1 h.2.2.1 c4
          rw [k_ev_sub, k_ev_sub, k_ev_sub, k_ev_c, k_ev_c] at this
          exact stay (fun r g1 g2 g3 g4 => kInt_put_ne hcl (hp r g1 g2 g3 g4) (fun e => by omega)) q' hq'
        | false =>
          rw [c4, cond_false] at hq'
          cases hq'
theorem k_vt2_ok (h : kRS N σ S M) (hc : kSc S.1.length c) (hs : kSc S.1.length s) (hv : kSc S.1.length v) (ha : (a : Int) = k_ev σ c) (hj : (j : Int) = k_ev σ s) (hcl : M[a]? = some cl) (hjl : j < cl.2.length) (hw : kNum w (k_ev σ v)) (hq : q ∈ S.2.2.2) (hn : k_ev σ q.1.1 < 0) (hk : k_vok q.1.1 = true) (hi : k_vi q.1.1 = 2) : ∀ q' ∈ k_vt2 S c s v q, kVq N σ S (pm_put M a j cl w) q' := by
  have hp := kVq.now h hq hn hk
  rw [hi] at hp
  have hsc := h.2.2.2.2.2.2.2 _ hq
  have hev := k_vok_ev (σ := σ) hk
  rw [hi] at hev
  have stay : kPh N 2 (pm_put M a j cl w) (k_ev σ (k_vp q.1.1)) (k_ev σ q.1.2) (k_ev σ q.2) → ∀ q' ∈ [q], kVq N σ S (pm_put M a j cl w) q' := fun hP q' hq' => by
    rcases List.mem_singleton.mp hq' with rfl
    exact kVq.same h hq hn hk (by rw [hi]; exact hP)
  intro q' hq'
  unfold k_vt2 at hq'
  cases c1 : k_off S.1 c 471 471 with
  | true =>
    rw [c1, cond_true] at hq'
    have o := k_off_ok h.2.1 c1
    refine stay (kPh_off hcl (fun hf : a = 471 => ?_) hp) q' hq'
    omega
  | false =>
    rw [c1, cond_false] at hq'
    cases c2 : k_is c 471 with
    | false =>
      rw [c2, cond_false] at hq'
      cases hq'
    | true =>
      rw [c2, cond_true] at hq'
      have ec := k_is_ev (σ := σ) c2
      cases c3 : (k_eqv S.1 S.2.1 (k_sub s q.1.2) (k_mul 41 (k_sub (k_vp q.1.1) (kc 1))) && (k_eqv S.1 S.2.1 v (k_sub q.2 (k_sub (k_vp q.1.1) (kc 1))) && k_ge S.1 S.2.1 (k_sub (k_vp q.1.1) (kc 1)))) with
      | true =>
        rw [c3, cond_true] at hq'
        simp only [Bool.and_eq_true] at c3
        have e1 := k_eqv_ok h.2.1 h.2.2.1 c3.1
        have e3 := k_eqv_ok h.2.1 h.2.2.1 c3.2.1
        have e4 := k_ge_ok h.2.1 h.2.2.1 c3.2.2
        rw [k_ev_sub, k_ev_c] at e4
        rw [k_ev_sub, k_ev_mul, k_ev_sub, k_ev_c] at e1
        rw [k_ev_sub, k_ev_sub, k_ev_c] at e3
        have old : ∀ r : Int, k_ev σ (k_vp q.1.1) ≤ r → r ≤ k_ev σ q.2 → kInt (pm_put M a j cl w) 471 (41 * r + k_ev σ q.1.2) (k_ev σ q.2 - r) := fun r g1 g2 => kInt_put_ne hcl (hp r g1 g2) (fun e => by omega)
        rcases List.mem_cons.mp hq' with rfl | hq'
        · exact stay old _ (List.mem_singleton.mpr rfl)
        · rcases List.mem_singleton.mp hq' with rfl
          refine kVq.of (i := 2) (p := k_ev σ (k_vp q.1.1) - 1) ⟨kSc_add hsc.1 kSc_c, hsc.2⟩ ?_ ?_ (by omega) (fun r g1 g2 => ?_)
          · show k_ev σ (k_add q.1.1 (kc 16)) < 0
            rw [k_ev_add, k_ev_c]
            omega
          · show k_ev σ (k_add q.1.1 (kc 16)) = _
            rw [k_ev_add, k_ev_c]
            omega
          · show kInt (pm_put M a j cl w) 471 (41 * r + k_ev σ q.1.2) (k_ev σ q.2 - r)
            by_cases hr : r = k_ev σ (k_vp q.1.1) - 1
            · exact kInt_put hcl hjl (by rw [show k_ev σ q.2 - r = k_ev σ v by omega]; exact hw) (by omega) (by omega)
            · exact old r (by omega) g2
      | false =>
        rw [c3, cond_false] at hq'
        cases c4 : k_ge S.1 S.2.1 (k_sub (k_sub (k_mul 41 (k_vp q.1.1)) (kc 1)) (k_sub s q.1.2)) with
        | true =>
          rw [c4, cond_true] at hq'
          have := k_ge_ok h.2.1 h.2.2.1 c4
          rw [k_ev_sub, k_ev_sub, k_ev_mul, k_ev_sub, k_ev_c] at this
          exact stay (fun r g1 g2 => kInt_put_ne hcl (hp r g1 g2) (fun e => by omega)) q' hq'
        | false =>
          rw [c4, cond_false] at hq'
          cases hq'
theorem k_vt3_ok (h : kRS N σ S M) (hc : kSc S.1.length c) (hs : kSc S.1.length s) (hv : kSc S.1.length v) (ha : (a : Int) = k_ev σ c) (hj : (j : Int) = k_ev σ s) (hcl : M[a]? = some cl) (hjl : j < cl.2.length) (hw : kNum w (k_ev σ v)) (hq : q ∈ S.2.2.2) (hn : k_ev σ q.1.1 < 0) (hk : k_vok q.1.1 = true) (hi : k_vi q.1.1 = 3) : ∀ q' ∈ k_vt3 S c s v q, kVq N σ S (pm_put M a j cl w) q' := by
  have hp := kVq.now h hq hn hk
  rw [hi] at hp
  have hsc := h.2.2.2.2.2.2.2 _ hq
  have hev := k_vok_ev (σ := σ) hk
  rw [hi] at hev
  have stay : kPh N 3 (pm_put M a j cl w) (k_ev σ (k_vp q.1.1)) (k_ev σ q.1.2) (k_ev σ q.2) → ∀ q' ∈ [q], kVq N σ S (pm_put M a j cl w) q' := fun hP q' hq' => by
    rcases List.mem_singleton.mp hq' with rfl
    exact kVq.same h hq hn hk (by rw [hi]; exact hP)
  have come : ∀ (s' v' : kE), kSc S.1.length s' → kSc S.1.length v' → kPh N 3 (pm_put M a j cl w) (k_ev σ (k_vp q.1.1)) (k_ev σ s') (k_ev σ v') → kVq N σ S (pm_put M a j cl w) ((q.1.1, s'), v') := fun s' v' g1 g2 g3 => kVq.of (i := 3) ⟨hsc.1, g1, g2⟩ hn hev (by omega) g3
  intro q' hq'
  unfold k_vt3 at hq'
  cases c1 : k_off S.1 c 461 461 with
  | true =>
    rw [c1, cond_true] at hq'
    have o := k_off_ok h.2.1 c1
    refine stay (kPh_off hcl (fun hf : a = 461 => ?_) hp) q' hq'
    omega
  | false =>
    rw [c1, cond_false] at hq'
    cases c2 : k_is c 461 with
    | false =>
      rw [c2, cond_false] at hq'
      cases hq'
    | true =>
      rw [c2, cond_true] at hq'
      have ec := k_is_ev (σ := σ) c2
      have ea : a = 461 := by omega
      obtain ⟨t, k, hk1, hk2⟩ := hp
      have keep : k ≤ j → kZi (pm_put M a j cl w) t = some (k, k_ev σ q.2) := fun hkj => kZi.fr hk2 fun n (hn : n < k) => k_gi_put_ne hcl (fun e => by omega)
      cases c3 : k_eqv S.1 S.2.1 s q.1.2 with
      | false =>
        rw [c3, cond_false] at hq'
        cases c4 : k_ge S.1 S.2.1 (k_sub s q.1.2) with
        | false =>
          rw [c4, cond_false] at hq'
          cases hq'
        | true =>
          rw [c4, cond_true] at hq'
          have := k_ge_ok h.2.1 h.2.2.1 c4
          rw [k_ev_sub] at this
          exact stay ⟨t, k, hk1, keep (by omega)⟩ q' hq'
      | true =>
        rw [c3, cond_true] at hq'
        have e1 := k_eqv_ok h.2.1 h.2.2.1 c3
        have ej : j = k := by omega
        rcases List.mem_cons.mp hq' with rfl | hq'
        · exact stay ⟨t, k, hk1, keep (by omega)⟩ _ (List.mem_singleton.mpr rfl)
        · have hgi : k_gi (pm_put M a j cl w) 461 k = some (k_ev σ v) := by
            rw [← ea, ← ej]
            exact k_gi_put hcl hjl hw
          have nxt : ∀ (g : Int), kZs (pm_put M a j cl w) (k, k_ev σ q.2) = some (k + 1, g) → kZi (pm_put M a j cl w) (t + 1) = some (k + 1, g) := fun g hg => by
            show (kZi (pm_put M a j cl w) t).bind (kZs (pm_put M a j cl w)) = _
            rw [keep (by omega)]
            exact hg
          cases c5 : (k_fit S.1 S.2.1 0 11 v && k_ge S.1 S.2.1 (k_sub (kc 198) q.2)) with
          | true =>
            rw [c5, cond_true] at hq'
            rcases List.mem_singleton.mp hq' with rfl
            simp only [Bool.and_eq_true] at c5
            have f1 := k_fit_ok h.2.1 h.2.2.1 c5.1
            have f2 := k_ge_ok h.2.1 h.2.2.1 c5.2
            rw [k_ev_sub, k_ev_c] at f2
            refine come _ _ (kSc_add hsc.2.1 kSc_c) (kSc_add hsc.2.2 kSc_c) ⟨t + 1, k + 1, ?_, ?_⟩
            · rw [k_ev_add, k_ev_c]
              omega
            · rw [k_ev_add, k_ev_c]
              refine nxt _ ?_
              unfold kZs
              rw [hgi]
              exact if_pos ⟨f1.1, f1.2, by show k_ev σ q.2 ≤ 198; omega⟩
          | false =>
            rw [c5, cond_false] at hq'
            cases c6 : (decide (k_nv S.1 v = kc 20) && k_ge S.1 S.2.1 (k_sub q.2 (kc 1))) with
            | true =>
              rw [c6, cond_true] at hq'
              rcases List.mem_singleton.mp hq' with rfl
              simp only [Bool.and_eq_true] at c6
              have f1 := k_nv_ok (e := v) h.2.1
              rw [of_decide_eq_true c6.1, k_ev_c] at f1
              have f2 := k_ge_ok h.2.1 h.2.2.1 c6.2
              rw [k_ev_sub, k_ev_c] at f2
              refine come _ _ (kSc_add hsc.2.1 kSc_c) hsc.2.2 ⟨t + 1, k + 1, ?_, ?_⟩
              · rw [k_ev_add, k_ev_c]
                omega
              · refine nxt _ ?_
                unfold kZs
                rw [hgi]
                exact (if_neg (fun e => by omega)).trans (if_pos ⟨by omega, by show 1 ≤ k_ev σ q.2; omega⟩)
            | false =>
              rw [c6, cond_false] at hq'
              cases c7 : (k_fit S.1 S.2.1 21 23 v && k_ge S.1 S.2.1 (k_sub q.2 (kc 2))) with
              | true =>
                rw [c7, cond_true] at hq'
                rcases List.mem_singleton.mp hq' with rfl
                simp only [Bool.and_eq_true] at c7
                have f1 := k_fit_ok h.2.1 h.2.2.1 c7.1
                have f2 := k_ge_ok h.2.1 h.2.2.1 c7.2
                rw [k_ev_sub, k_ev_c] at f2
                refine come _ _ (kSc_add hsc.2.1 kSc_c) (kSc_sub hsc.2.2 kSc_c) ⟨t + 1, k + 1, ?_, ?_⟩
                · rw [k_ev_add, k_ev_c]
                  omega
                · rw [k_ev_sub, k_ev_c]
                  refine nxt _ ?_
                  unfold kZs
                  rw [hgi]
                  exact (if_neg (fun e => by omega)).trans ((if_neg (fun e => by omega)).trans (if_pos ⟨f1.1, f1.2, by show 2 ≤ k_ev σ q.2; omega⟩))
              | false =>
                rw [c7, cond_false] at hq'
                cases hq'
theorem k_vt4_ok (h : kRS N σ S M) (hc : kSc S.1.length c) (hs : kSc S.1.length s) (hv : kSc S.1.length v) (ha : (a : Int) = k_ev σ c) (hj : (j : Int) = k_ev σ s) (hcl : M[a]? = some cl) (hjl : j < cl.2.length) (hw : kNum w (k_ev σ v)) (hq : q ∈ S.2.2.2) (hn : k_ev σ q.1.1 < 0) (hk : k_vok q.1.1 = true) (hi : k_vi q.1.1 = 4) : ∀ q' ∈ k_vt4 21 23 S c s v q, kVq N σ S (pm_put M a j cl w) q' := by
  have hp := kVq.now h hq hn hk
  rw [hi] at hp
  have hsc := h.2.2.2.2.2.2.2 _ hq
  have hev := k_vok_ev (σ := σ) hk
  rw [hi] at hev
  have stay : kPh N 4 (pm_put M a j cl w) (k_ev σ (k_vp q.1.1)) (k_ev σ q.1.2) (k_ev σ q.2) → ∀ q' ∈ [q], kVq N σ S (pm_put M a j cl w) q' := fun hP q' hq' => by
    rcases List.mem_singleton.mp hq' with rfl
    exact kVq.same h hq hn hk (by rw [hi]; exact hP)
  have come : ∀ (s' v' : kE), kSc S.1.length s' → kSc S.1.length v' → kPh N 4 (pm_put M a j cl w) (k_ev σ (k_vp q.1.1)) (k_ev σ s') (k_ev σ v') → kVq N σ S (pm_put M a j cl w) ((q.1.1, s'), v') := fun s' v' g1 g2 g3 => kVq.of (i := 4) ⟨hsc.1, g1, g2⟩ hn hev (by omega) g3
  intro q' hq'
  unfold k_vt4 at hq'
  cases c1 : k_off S.1 c 462 462 with
  | true =>
    rw [c1, cond_true] at hq'
    have o := k_off_ok h.2.1 c1
    refine stay (kPh_off hcl (fun hf : a = 462 => ?_) hp) q' hq'
    omega
  | false =>
    rw [c1, cond_false] at hq'
    cases c2 : k_is c 462 with
    | false =>
      rw [c2, cond_false] at hq'
      cases hq'
    | true =>
      rw [c2, cond_true] at hq'
      have ec := k_is_ev (σ := σ) c2
      have ea : a = 462 := by omega
      obtain ⟨k, hk1, hk2⟩ := hp
      have keep : k ≤ j → kWt (pm_put M a j cl w) 21 23 k (k_ev σ q.2) := fun hkj => hk2.fr fun n (hn : n < k) => k_gi_put_ne hcl (fun e => by omega)
      cases c3 : k_eqv S.1 S.2.1 s q.1.2 with
      | false =>
        rw [c3, cond_false] at hq'
        cases c4 : k_ge S.1 S.2.1 (k_sub s q.1.2) with
        | false =>
          rw [c4, cond_false] at hq'
          cases hq'
        | true =>
          rw [c4, cond_true] at hq'
          have := k_ge_ok h.2.1 h.2.2.1 c4
          rw [k_ev_sub] at this
          exact stay ⟨k, hk1, keep (by omega)⟩ q' hq'
      | true =>
        rw [c3, cond_true] at hq'
        have e1 := k_eqv_ok h.2.1 h.2.2.1 c3
        have ej : j = k := by omega
        rcases List.mem_cons.mp hq' with rfl | hq'
        · exact stay ⟨k, hk1, keep (by omega)⟩ _ (List.mem_singleton.mpr rfl)
        · have hgi : k_gi (pm_put M a j cl w) 462 k = some (k_ev σ v) := by
            rw [← ea, ← ej]
            exact k_gi_put hcl hjl hw
          have hs1 : ((k + 1 : Nat) : Int) = k_ev σ (k_add q.1.2 (kc 1)) := by
            rw [k_ev_add, k_ev_c]
            omega
          cases c5 : decide (k_nv S.1 v = kc 20) with
          | true =>
            rw [c5, cond_true] at hq'
            rcases List.mem_singleton.mp hq' with rfl
            have f1 := k_nv_ok (e := v) h.2.1
            rw [of_decide_eq_true c5, k_ev_c] at f1
            exact come _ _ (kSc_add hsc.2.1 kSc_c) hsc.2.2 ⟨k + 1, hs1, k_ev σ v, hgi, by omega, Or.inr ⟨by omega, keep (by omega)⟩⟩
          | false =>
            rw [c5, cond_false] at hq'
            cases c6 : k_fit S.1 S.2.1 21 23 v with
            | true =>
              rw [c6, cond_true] at hq'
              rcases List.mem_singleton.mp hq' with rfl
              have f1 := k_fit_ok h.2.1 h.2.2.1 c6
              exact come _ _ (kSc_add hsc.2.1 kSc_c) (kSc_add hsc.2.2 kSc_c) ⟨k + 1, hs1, k_ev σ v, hgi, by omega, Or.inl ⟨by omega, by omega, by
                show kWt _ 21 23 k (k_ev σ (k_add q.2 (kc 1)) - 1)
                rw [k_ev_add, k_ev_c, Int.add_sub_cancel]
                exact keep (by omega)⟩⟩
            | false =>
              rw [c6, cond_false] at hq'
              cases c7 : decide (k_nv S.1 v = kc 24) with
              | true =>
                rw [c7, cond_true] at hq'
                rcases List.mem_singleton.mp hq' with rfl
                have f1 := k_nv_ok (e := v) h.2.1
                rw [of_decide_eq_true c7, k_ev_c] at f1
                exact come _ _ (kSc_add hsc.2.1 kSc_c) hsc.2.2 ⟨k + 1, hs1, k_ev σ v, hgi, by omega, Or.inr ⟨by omega, keep (by omega)⟩⟩
              | false =>
                rw [c7, cond_false] at hq'
                cases hq'
theorem k_vt5_ok (h : kRS N σ S M) (hc : kSc S.1.length c) (hs : kSc S.1.length s) (hv : kSc S.1.length v) (ha : (a : Int) = k_ev σ c) (hj : (j : Int) = k_ev σ s) (hcl : M[a]? = some cl) (hjl : j < cl.2.length) (hw : kNum w (k_ev σ v)) (hq : q ∈ S.2.2.2) (hn : k_ev σ q.1.1 < 0) (hk : k_vok q.1.1 = true) (hi : k_vi q.1.1 = 5) : ∀ q' ∈ k_vt4 24 24 S c s v q, kVq N σ S (pm_put M a j cl w) q' := by
  have hp := kVq.now h hq hn hk
  rw [hi] at hp
  have hsc := h.2.2.2.2.2.2.2 _ hq
  have hev := k_vok_ev (σ := σ) hk
  rw [hi] at hev
  have stay : kPh N 5 (pm_put M a j cl w) (k_ev σ (k_vp q.1.1)) (k_ev σ q.1.2) (k_ev σ q.2) → ∀ q' ∈ [q], kVq N σ S (pm_put M a j cl w) q' := fun hP q' hq' => by
    rcases List.mem_singleton.mp hq' with rfl
    exact kVq.same h hq hn hk (by rw [hi]; exact hP)
  have come : ∀ (s' v' : kE), kSc S.1.length s' → kSc S.1.length v' → kPh N 5 (pm_put M a j cl w) (k_ev σ (k_vp q.1.1)) (k_ev σ s') (k_ev σ v') → kVq N σ S (pm_put M a j cl w) ((q.1.1, s'), v') := fun s' v' g1 g2 g3 => kVq.of (i := 5) ⟨hsc.1, g1, g2⟩ hn hev (by omega) g3
  intro q' hq'
  unfold k_vt4 at hq'
  cases c1 : k_off S.1 c 462 462 with
  | true =>
    rw [c1, cond_true] at hq'
    have o := k_off_ok h.2.1 c1
    refine stay (kPh_off hcl (fun hf : a = 462 => ?_) hp) q' hq'
    omega
  | false =>
    rw [c1, cond_false] at hq'
    cases c2 : k_is c 462 with
    | false =>
      rw [c2, cond_false] at hq'
      cases hq'
    | true =>
      rw [c2, cond_true] at hq'
      have ec := k_is_ev (σ := σ) c2
      have ea : a = 462 := by omega
      obtain ⟨k, hk1, hk2⟩ := hp
      have keep : k ≤ j → kWt (pm_put M a j cl w) 24 24 k (k_ev σ q.2) := fun hkj => hk2.fr fun n (hn : n < k) => k_gi_put_ne hcl (fun e => by omega)
      cases c3 : k_eqv S.1 S.2.1 s q.1.2 with
      | false =>
        rw [c3, cond_false] at hq'
        cases c4 : k_ge S.1 S.2.1 (k_sub s q.1.2) with
        | false =>
          rw [c4, cond_false] at hq'
          cases hq'
        | true =>
          rw [c4, cond_true] at hq'
          have := k_ge_ok h.2.1 h.2.2.1 c4
          rw [k_ev_sub] at this
          exact stay ⟨k, hk1, keep (by omega)⟩ q' hq'
      | true =>
        rw [c3, cond_true] at hq'
        have e1 := k_eqv_ok h.2.1 h.2.2.1 c3
        have ej : j = k := by omega
        rcases List.mem_cons.mp hq' with rfl | hq'
        · exact stay ⟨k, hk1, keep (by omega)⟩ _ (List.mem_singleton.mpr rfl)
        · have hgi : k_gi (pm_put M a j cl w) 462 k = some (k_ev σ v) := by
            rw [← ea, ← ej]
            exact k_gi_put hcl hjl hw
          have hs1 : ((k + 1 : Nat) : Int) = k_ev σ (k_add q.1.2 (kc 1)) := by
            rw [k_ev_add, k_ev_c]
            omega
          cases c5 : decide (k_nv S.1 v = kc 20) with
          | true =>
            rw [c5, cond_true] at hq'
            rcases List.mem_singleton.mp hq' with rfl
            have f1 := k_nv_ok (e := v) h.2.1
            rw [of_decide_eq_true c5, k_ev_c] at f1
            exact come _ _ (kSc_add hsc.2.1 kSc_c) hsc.2.2 ⟨k + 1, hs1, k_ev σ v, hgi, by omega, Or.inr ⟨by omega, keep (by omega)⟩⟩
          | false =>
            rw [c5, cond_false] at hq'
            cases c6 : k_fit S.1 S.2.1 21 23 v with
            | true =>
              rw [c6, cond_true] at hq'
              rcases List.mem_singleton.mp hq' with rfl
              have f1 := k_fit_ok h.2.1 h.2.2.1 c6
              exact come _ _ (kSc_add hsc.2.1 kSc_c) hsc.2.2 ⟨k + 1, hs1, k_ev σ v, hgi, by omega, Or.inr ⟨by omega, keep (by omega)⟩⟩
            | false =>
              rw [c6, cond_false] at hq'
              cases c7 : decide (k_nv S.1 v = kc 24) with
              | true =>
                rw [c7, cond_true] at hq'
                rcases List.mem_singleton.mp hq' with rfl
                have f1 := k_nv_ok (e := v) h.2.1
                rw [of_decide_eq_true c7, k_ev_c] at f1
                exact come _ _ (kSc_add hsc.2.1 kSc_c) (kSc_add hsc.2.2 kSc_c) ⟨k + 1, hs1, k_ev σ v, hgi, by omega, Or.inl ⟨by omega, by omega, by
                show kWt _ 24 24 k (k_ev σ (k_add q.2 (kc 1)) - 1)
                rw [k_ev_add, k_ev_c, Int.add_sub_cancel]
                exact keep (by omega)⟩⟩
              | false =>
                rw [c7, cond_false] at hq'
                cases hq'
theorem k_noR_ok {l : List Nat} {r z : Nat} (h : k_noR l r = true) (hz : z ∈ l) : z ≠ r := fun e => by
  have := List.all_eq_true.mp h z hz
  rw [e, Nat.beq_refl] at this
  cases this
theorem kSx_put {p z : Int} (hcl : M[a]? = some cl) (h1 : ¬ (a = 453 ∧ (j % 12 = 1 ∨ j % 12 = 6 ∨ j % 12 = 8))) (h2 : ¬ (a = 450 ∧ j % 26 = 3)) (h : kSx M 453 0 450 0 p z) : kSx (pm_put M a j cl w) 453 0 450 0 p z := by
  refine ⟨fun l hl hl2 => ?_, fun k hk hk2 => ?_⟩
  · obtain ⟨e, x, y, z8, a1, a2, a3, a4, a5, a6, a7, a8⟩ := h.1 l hl hl2
    exact ⟨e, x, y, z8, kInt_put_ne hcl a1 (fun e => by omega), a2, a3, kInt_put_ne hcl a4 (fun e => by omega), kInt_put_ne hcl a5 (fun e => by omega), a6, kInt_put_ne hcl a7 (fun e => by omega), a8⟩
  · obtain ⟨y, a1, a2⟩ := h.2 k hk hk2
    exact ⟨y, kInt_put_ne hcl a1 (fun e => by omega), a2⟩
theorem k_vt6_ok (h : kRS N σ S M) (hc : kSc S.1.length c) (hs : kSc S.1.length s) (hv : kSc S.1.length v) (ha : (a : Int) = k_ev σ c) (hj : (j : Int) = k_ev σ s) (hcl : M[a]? = some cl) (hjl : j < cl.2.length) (hw : kNum w (k_ev σ v)) (hq : q ∈ S.2.2.2) (hn : k_ev σ q.1.1 < 0) (hk : k_vok q.1.1 = true) (hi : k_vi q.1.1 = 6) : ∀ q' ∈ k_vt6 S c s v q, kVq N σ S (pm_put M a j cl w) q' := by
  have hp := kVq.now h hq hn hk
  rw [hi] at hp
  have hsc := h.2.2.2.2.2.2.2 _ hq
  have hev := k_vok_ev (σ := σ) hk
  rw [hi] at hev
  have stay : kPh N 6 (pm_put M a j cl w) (k_ev σ (k_vp q.1.1)) (k_ev σ q.1.2) (k_ev σ q.2) → ∀ q' ∈ [q], kVq N σ S (pm_put M a j cl w) q' := fun hP q' hq' => by
    rcases List.mem_singleton.mp hq' with rfl
    exact kVq.same h hq hn hk (by rw [hi]; exact hP)
  have come : ∀ (s' v' : kE), kSc S.1.length s' → kSc S.1.length v' → kPh N 6 (pm_put M a j cl w) (k_ev σ (k_vp q.1.1)) (k_ev σ s') (k_ev σ v') → kVq N σ S (pm_put M a j cl w) ((q.1.1, s'), v') := fun s' v' g1 g2 g3 => kVq.of (i := 6) ⟨hsc.1, g1, g2⟩ hn hev (by omega) g3
  intro q' hq'
  have hp : kSx M 453 0 450 0 (k_ev σ q.1.2) (k_ev σ q.2) := hp
  unfold k_vt6 at hq'
  cases c1 : k_is c 453 with
  | true =>
    rw [c1, cond_true] at hq'
    have ec := k_is_ev (σ := σ) c1
    have ea : a = 453 := by omega
    unfold k_vt6L at hq'
    cases c2 : k_ge S.1 S.2.1 (k_sub s (k_mul 12 q.1.2)) with
    | true =>
      rw [c2, cond_true] at hq'
      have e2 := k_ge_ok h.2.1 h.2.2.1 c2
      rw [k_ev_sub, k_ev_mul] at e2
      refine stay ⟨fun l hl hl2 => ?_, fun k hk hk2 => ?_⟩ q' hq'
      · obtain ⟨e, x, y, z8, a1, a2, a3, a4, a5, a6, a7, a8⟩ := hp.1 l hl hl2
        exact ⟨e, x, y, z8, kInt_put_ne hcl a1 (fun e => by omega), a2, a3, kInt_put_ne hcl a4 (fun e => by omega), kInt_put_ne hcl a5 (fun e => by omega), a6, kInt_put_ne hcl a7 (fun e => by omega), a8⟩
      · obtain ⟨y, a1, a2⟩ := hp.2 k hk hk2
        exact ⟨y, kInt_put_ne hcl a1 (fun e => by omega), a2⟩
    | false =>
      rw [c2, cond_false] at hq'
      have hrs := k_rs_ok (p := 12) h.2.1 (by omega) hj
      split at hq'
      · rename_i hr
        rw [hr] at hrs
        have hrs := List.mem_singleton.mp hrs
        simp only at hq'
        cases c3 : k_eq (k_add (k_mul 12 (k_dv 12 (k_sub s (kc 6)))) (kc 6)) s with
        | false =>
          rw [c3, cond_false] at hq'
          cases hq'
        | true =>
          rw [c3, cond_true] at hq'
          have e3 := k_eq_ok (σ := σ) c3
          generalize k_dv 12 (k_sub s (kc 6)) = l0 at e3 hq'
          rw [k_ev_add, k_ev_mul, k_ev_c] at e3
          split at hq'
          · cases hq'
          · rename_i e0 he0
            split at hq'
            · cases hq'
            · rename_i y0 hy0
              cases c4 : k_ge S.1 S.2.1 (k_sub y0 v) with
              | false =>
                rw [c4, cond_false] at hq'
                cases hq'
              | true =>
                rw [c4, cond_true] at hq'
                have e4 := k_ge_ok h.2.1 h.2.2.1 c4
                rw [k_ev_sub] at e4
                have i1 := k_find_int h he0 (by rw [k_ev_c]; omega)
                have i2 := k_find_int h hy0 (by rw [k_ev_c]; omega)
                rw [k_ev_c, k_ev_add, k_ev_mul, k_ev_c] at i1 i2
                refine stay ⟨fun l hl hl2 => ?_, fun k hk hk2 => ?_⟩ q' hq'
                · obtain ⟨e, x, y, z8, a1, a2, a3, a4, a5, a6, a7, a8⟩ := hp.1 l hl hl2
                  by_cases hll : l = k_ev σ l0
                  · subst hll
                    have ee : e = k_ev σ e0 := by
                      rw [Int.zero_add] at a1
                      exact a1.uq i1
                    subst ee
                    rw [Int.zero_add] at a5
                    exact ⟨_, k_ev σ v, k_ev σ y0, z8, kInt_put_ne hcl a1 (fun e => by omega), a2, a3, kInt_put hcl hjl hw (by omega) (by omega), by rw [Int.zero_add]; exact kInt_put_ne hcl i2 (fun e => by omega), by omega, kInt_put_ne hcl a7 (fun e => by omega), a8⟩
                  · exact ⟨e, x, y, z8, kInt_put_ne hcl a1 (fun e => by omega), a2, a3, kInt_put_ne hcl a4 (fun e => by omega), kInt_put_ne hcl a5 (fun e => by omega), a6, kInt_put_ne hcl a7 (fun e => by omega), a8⟩
                · obtain ⟨y, a1, a2⟩ := hp.2 k hk hk2
                  exact ⟨y, kInt_put_ne hcl a1 (fun e => by omega), a2⟩
      · rename_i hr
        rw [hr] at hrs
        have hrs := List.mem_singleton.mp hrs
        simp only at hq'
        cases c3 : (k_eq (k_add (k_mul 12 (k_dv 12 (k_sub s (kc 8)))) (kc 8)) s && k_ge S.1 S.2.1 (k_sub (k_sub (k_dv 12 (k_sub s (kc 8))) (kc 1)) v)) with
        | false =>
          rw [c3, cond_false] at hq'
          cases hq'
        | true =>
          rw [c3, cond_true] at hq'
          obtain ⟨d1, d2⟩ := Bool.and_eq_true_iff.mp c3
          have e3 := k_eq_ok (σ := σ) d1
          have e4 := k_ge_ok h.2.1 h.2.2.1 d2
          generalize k_dv 12 (k_sub s (kc 8)) = l0 at e3 e4
          rw [k_ev_add, k_ev_mul, k_ev_c] at e3
          rw [k_ev_sub, k_ev_sub, k_ev_c] at e4
          refine stay ⟨fun l hl hl2 => ?_, fun k hk hk2 => ?_⟩ q' hq'
          · obtain ⟨e, x, y, z8, a1, a2, a3, a4, a5, a6, a7, a8⟩ := hp.1 l hl hl2
            by_cases hll : l = k_ev σ l0
            · subst hll
              exact ⟨e, x, y, k_ev σ v, kInt_put_ne hcl a1 (fun e => by omega), a2, a3, kInt_put_ne hcl a4 (fun e => by omega), kInt_put_ne hcl a5 (fun e => by omega), a6, kInt_put hcl hjl hw (by omega) (by omega), by omega⟩
            · exact ⟨e, x, y, z8, kInt_put_ne hcl a1 (fun e => by omega), a2, a3, kInt_put_ne hcl a4 (fun e => by omega), kInt_put_ne hcl a5 (fun e => by omega), a6, kInt_put_ne hcl a7 (fun e => by omega), a8⟩
          · obtain ⟨y, a1, a2⟩ := hp.2 k hk hk2
            exact ⟨y, kInt_put_ne hcl a1 (fun e => by omega), a2⟩
      · cases c3 : (k_noR (k_rs S.1 12 s) 1 && (k_noR (k_rs S.1 12 s) 6 && k_noR (k_rs S.1 12 s) 8)) with
        | false =>
          rw [c3, cond_false] at hq'
          cases hq'
        | true =>
          rw [c3, cond_true] at hq'
          obtain ⟨f1, f2⟩ := Bool.and_eq_true_iff.mp c3
          obtain ⟨f2, f3⟩ := Bool.and_eq_true_iff.mp f2
          have f1 := k_noR_ok f1 hrs
          have f2 := k_noR_ok f2 hrs
          have f3 := k_noR_ok f3 hrs
          exact stay (kSx_put hcl (by omega) (by omega) hp) q' hq'
  | false =>
    rw [c1, cond_false] at hq'
    cases c2 : k_is c 450 with
    | true =>
      rw [c2, cond_true] at hq'
      have ec := k_is_ev (σ := σ) c2
      have ea : a = 450 := by omega
      unfold k_vt6V at hq'
      have hrs := k_rs_ok (p := 26) h.2.1 (by omega) hj
      cases c3 : k_noR (k_rs S.1 26 s) 3 with
      | true =>
        rw [c3, cond_true] at hq'
        have f1 := k_noR_ok c3 hrs
        exact stay (kSx_put hcl (by omega) (by omega) hp) q' hq'
      | false =>
        rw [c3, cond_false] at hq'
        cases c4 : (k_ge S.1 S.2.1 (k_sub s (k_mul 26 q.2)) && k_ge S.1 S.2.1 v) with
        | false =>
          rw [c4, cond_false] at hq'
          cases hq'
        | true =>
          rw [c4, cond_true] at hq'
          obtain ⟨f1, f2⟩ := Bool.and_eq_true_iff.mp c4
          have f1 := k_ge_ok h.2.1 h.2.2.1 f1
          have f2 := k_ge_ok h.2.1 h.2.2.1 f2
          rw [k_ev_sub, k_ev_mul] at f1
          refine stay ⟨fun l hl hl2 => ?_, fun k hk hk2 => ?_⟩ q' hq'
          · obtain ⟨e, x, y, z8, a1, a2, a3, a4, a5, a6, a7, a8⟩ := hp.1 l hl hl2
            exact ⟨e, x, y, z8, kInt_put_ne hcl a1 (fun e => by omega), a2, a3, kInt_put_ne hcl a4 (fun e => by omega), kInt_put_ne hcl a5 (fun e => by omega), a6, kInt_put_ne hcl a7 (fun e => by omega), a8⟩
          · obtain ⟨y, a1, a2⟩ := hp.2 k hk hk2
            by_cases hjk : (j : Int) = 0 + (26 * k + 3)
            · exact ⟨k_ev σ v, kInt_put hcl hjl hw (by omega) (by omega), f2⟩
            · exact ⟨y, kInt_put_ne hcl a1 (fun e => by omega), a2⟩
    | false =>
      rw [c2, cond_false] at hq'
      cases c3 : k_is c 444 with
      | false =>
        rw [c3, cond_false] at hq'
        cases c4 : (k_off S.1 c 453 453 && (k_off S.1 c 450 450 && k_off S.1 c 444 444)) with
        | false =>
          rw [c4, cond_false] at hq'
          cases hq'
        | true =>
          rw [c4, cond_true] at hq'
          simp only [Bool.and_eq_true] at c4
          have f1 := k_off_ok h.2.1 c4.1
          have f2 := k_off_ok h.2.1 c4.2.1
          exact stay (kSx_put hcl (by omega) (by omega) hp) q' hq'
      | true =>
        rw [c3, cond_true] at hq'
        have ec := k_is_ev (σ := σ) c3
        have hp2 : kSx (pm_put M a j cl w) 453 0 450 0 (k_ev σ q.1.2) (k_ev σ q.2) := kSx_put hcl (by omega) (by omega) hp
        unfold k_vt6N at hq'
        cases d0 : !(k_cst s) with
        | true =>
          rw [d0, cond_true] at hq'
          cases hq'
        | false =>
          rw [d0, cond_false] at hq'
          cases d1 : decide (s.1 = 5) with
          | true =>
            rw [d1, cond_true] at hq'
            cases d2 : k_ge S.1 S.2.1 (k_sub v q.2) with
            | false =>
              rw [d2, cond_false] at hq'
              cases hq'
            | true =>
              rw [d2, cond_true] at hq'
              rcases List.mem_singleton.mp hq' with rfl
              have f1 := k_ge_ok h.2.1 h.2.2.1 d2
              rw [k_ev_sub] at f1
              refine come _ _ hsc.2.1 hv ⟨fun l hl hl2 => ?_, hp2.2⟩
              obtain ⟨e, x, y, z8, a1, a2, a3, a4, a5, a6, a7, a8⟩ := hp2.1 l hl hl2
              exact ⟨e, x, y, z8, a1, a2, by omega, a4, a5, a6, a7, a8⟩
          | false =>
            rw [d1, cond_false] at hq'
            cases d2 : decide (s.1 = 7) with
            | false =>
              rw [d2, cond_false] at hq'
              exact stay hp2 q' hq'
            | true =>
              rw [d2, cond_true] at hq'
              cases d3 : k_ge S.1 S.2.1 (k_sub q.1.2 v) with
              | true =>
                rw [d3, cond_true] at hq'
                rcases List.mem_singleton.mp hq' with rfl
                have f1 := k_ge_ok h.2.1 h.2.2.1 d3
                rw [k_ev_sub] at f1
                exact come _ _ hv hsc.2.2 ⟨fun l hl hl2 => hp2.1 l hl (by omega), hp2.2⟩
              | false =>
                rw [d3, cond_false] at hq'
                cases d4 : k_eqv S.1 S.2.1 v (k_add q.1.2 (kc 1)) with
                | false =>
                  rw [d4, cond_false] at hq'
                  cases hq'
                | true =>
                  rw [d4, cond_true] at hq'
                  have e4 := k_eqv_ok h.2.1 h.2.2.1 d4
                  rw [k_ev_add, k_ev_c] at e4
                  split at hq'
                  · cases hq'
                  · rename_i e0 he0
                    split at hq'
                    · cases hq'
                    · rename_i x0 hx0
                      split at hq'
                      · cases hq'
                      · rename_i z0 hz0
                        cases d5 : (k_ge S.1 S.2.1 (k_sub (k_sub q.2 (kc 1)) e0) && (k_ge S.1 S.2.1 (k_sub (kc 15) e0) && (k_ge S.1 S.2.1 (k_mul (-1) x0) && (k_ge S.1 S.2.1 e0 && k_ge S.1 S.2.1 (k_sub (k_sub q.1.2 (kc 1)) z0))))) with
                        | false =>
                          rw [d5, cond_false] at hq'
                          cases hq'
                        | true =>
                          rw [d5, cond_true] at hq'
                          rcases List.mem_singleton.mp hq' with rfl
                          simp only [Bool.and_eq_true] at d5
                          have f1 := k_ge_ok h.2.1 h.2.2.1 d5.1
                          have f2 := k_ge_ok h.2.1 h.2.2.1 d5.2.1
                          have f3 := k_ge_ok h.2.1 h.2.2.1 d5.2.2.1
                          have f4 := k_ge_ok h.2.1 h.2.2.1 d5.2.2.2.1
                          have f5 := k_ge_ok h.2.1 h.2.2.1 d5.2.2.2.2
                          rw [k_ev_sub, k_ev_sub, k_ev_c] at f1 f5
                          rw [k_ev_sub, k_ev_c] at f2
                          rw [k_ev_mul] at f3
                          have i1 := k_find_int h he0 (by rw [k_ev_c]; omega)
                          have i2 := k_find_int h hx0 (by rw [k_ev_c]; omega)
                          have i3 := k_find_int h hz0 (by rw [k_ev_c]; omega)
                          rw [k_ev_c, k_ev_add, k_ev_mul, k_ev_c] at i1 i2 i3
                          refine come _ _ hv hsc.2.2 ⟨fun l hl hl2 => ?_, hp2.2⟩
                          by_cases hll : l = k_ev σ q.1.2
                          · subst hll
                            obtain ⟨y, a1, a2⟩ := hp2.2 (k_ev σ e0) f4 (by omega)
                            exact ⟨k_ev σ e0, k_ev σ x0, y, k_ev σ z0, by rw [Int.zero_add]; exact kInt_put_ne hcl i1 (fun e => by omega), f4, by omega, by rw [Int.zero_add]; exact kInt_put_ne hcl i2 (fun e => by omega), a1, by omega, by rw [Int.zero_add]; exact kInt_put_ne hcl i3 (fun e => by omega), by omega⟩
                          · exact hp2.1 l hl (by omega)
theorem kPq_ne {t u : Int × Int × Int} {x : Int} (hcl : M[a]? = some cl) (hu : u.1 ≠ (a : Int)) (hne : kSl t x ≠ (j : Int)) (h : kPq M t u x) : kPq (pm_put M a j cl w) t u x := by
  obtain ⟨y, e, f⟩ := h
  exact ⟨y, kInt_put_ne hcl e (fun g => hne g.2), kInt_put_ne hcl f (fun g => hu g.1)⟩
theorem kPq_eq {t u : Int × Int × Int} {x y : Int} (hcl : M[a]? = some cl) (hjl : j < cl.2.length) (hw : kNum w y) (ht : t.1 = (a : Int)) (hu : u.1 ≠ (a : Int)) (he : kSl t x = (j : Int)) (hf : kInt M u.1 (kSl u x) y) : kPq (pm_put M a j cl w) t u x := ⟨y, kInt_put hcl hjl hw ht he, kInt_put_ne hcl hf (fun g => hu g.1)⟩
theorem k_vt9s_ok {ten : Bool} {t u : Int × Int × Int} {n : Int} (h : kRS N σ S M) (hs : kSc S.1.length s) (hj : (j : Int) = k_ev σ s) (hcl : M[a]? = some cl) (hjl : j < cl.2.length) (hw : kNum w (k_ev σ v)) (hq : q ∈ S.2.2.2) (hn : k_ev σ q.1.1 < 0) (hk : k_vok q.1.1 = true) (hi : k_vi q.1.1 = cond ten 10 9) (hp0 : 0 ≤ k_ev σ (k_vp q.1.1)) (ht : t.1 = (a : Int)) (hu : u.1 ≠ (a : Int)) (hu0 : 0 ≤ u.1) (hz : k_ev σ q.1.2 ≤ n)
    (hold : ∀ i : Int, 0 ≤ i → i < k_ev σ q.1.2 → (ten = true → i ≠ k_ev σ q.2) → kPq M t u i)
    (mk : ∀ (z : Int) (b : Int → Prop), z ≤ n → (∀ i : Int, 0 ≤ i → i < z → b i → kPq (pm_put M a j cl w) t u i) → kRl (pm_put M a j cl w) (k_ev σ (k_vp q.1.1)) z b) : ∀ q' ∈ k_vt9s ten S n t u s v q, kVq N σ S (pm_put M a j cl w) q' := by
  have hsc := h.2.2.2.2.2.2.2 _ hq
  have hev := k_vok_ev (σ := σ) hk
  rw [hi] at hev
  have ne : ∀ i : Int, kSl t i ≠ (j : Int) → kPq M t u i → kPq (pm_put M a j cl w) t u i := fun i g => kPq_ne hcl hu g
  have stay : (∀ i : Int, 0 ≤ i → i < k_ev σ q.1.2 → (ten = true → i ≠ k_ev σ q.2) → kPq (pm_put M a j cl w) t u i) → kVq N σ S (pm_put M a j cl w) q := fun g => by
    refine kVq.same h hq hn hk ?_
    rw [hi]
    cases ten with
    | true => exact mk _ _ hz (fun i a1 a2 a3 => g i a1 a2 (fun _ => a3))
    | false => exact mk _ _ hz (fun i a1 a2 _ => g i a1 a2 (fun e => by cases e))
  intro q' hq'
  unfold k_vt9s at hq'
  cases c0 : decide (1 ≤ t.2.2) with
  | false =>
    rw [c0] at hq'
    cases hq'
  | true =>
    rw [c0, Bool.not_true, cond_false] at hq'
    have p0 : 1 ≤ t.2.2 := of_decide_eq_true c0
    cases c1 : (k_off S.1 s t.2.1 (t.2.1 + t.2.2 * (n - 1)) || k_noR (k_rs S.1 t.2.2.toNat s) (t.2.1 % t.2.2).toNat) with
    | true =>
      rw [c1, cond_true] at hq'
      rcases List.mem_singleton.mp hq' with rfl
      refine stay (fun i a1 a2 a3 => ne i (fun e => ?_) (hold i a1 a2 a3))
      unfold kSl at e
      rcases Bool.or_eq_true_iff.mp c1 with c1 | c1
      · have o := k_off_ok h.2.1 c1
        have m1 : t.2.2 * 0 ≤ t.2.2 * i := Int.mul_le_mul_of_nonneg_left a1 (by omega)
        have m2 : t.2.2 * i ≤ t.2.2 * (n - 1) := Int.mul_le_mul_of_nonneg_left (by omega) (by omega)
        rw [Int.mul_zero] at m1
        omega
      · have hr := k_rs_ok (p := t.2.2.toNat) h.2.1 (by omega) hj
        have e2 : (j : Int) % t.2.2 = t.2.1 % t.2.2 := by rw [← e, Int.add_mul_emod_self_left]
        have e3 : ((j % t.2.2.toNat : Nat) : Int) = (j : Int) % t.2.2 := by rw [Int.natCast_emod, Int.toNat_of_nonneg (by omega)]
        exact k_noR_ok c1 hr (by rw [← e2, ← e3]; exact (Int.toNat_natCast _).symm)
    | false =>
      rw [c1, cond_false] at hq'
      cases c2 : k_eq (k_add (k_mul t.2.2 (k_dv t.2.2 (k_sub s (kc t.2.1)))) (kc t.2.1)) s with
      | false =>
        rw [c2, cond_false] at hq'
        cases hq'
      | true =>
        rw [c2, cond_true] at hq'
        have e := k_eq_ok (σ := σ) c2
        have sx : kSc S.1.length (k_dv t.2.2 (k_sub s (kc t.2.1))) := k_dv_sc (kSc_sub hs kSc_c)
        generalize k_dv t.2.2 (k_sub s (kc t.2.1)) = x at e hq' sx
        rw [k_ev_add, k_ev_mul, k_ev_c] at e
        have own : kSl t (k_ev σ x) = (j : Int) := by
          unfold kSl
          omega
        have oth : ∀ i : Int, i ≠ k_ev σ x → kSl t i ≠ (j : Int) := fun i hne e' => hne (by
          unfold kSl at own e'
          have e4 : t.2.2 * i = t.2.2 * k_ev σ x := by omega
          exact Int.eq_of_mul_eq_mul_left (by omega) e4)
        have smx : k_sm S u x v = true → kPq (pm_put M a j cl w) t u (k_ev σ x) := fun hm => by
          unfold k_sm at hm
          split at hm
          · cases hm
          · rename_i y hy
            have ey := k_eqv_ok h.2.1 h.2.2.1 hm
            have i1 := k_find_int h hy (by rw [k_ev_c]; exact hu0)
            rw [k_ev_c, k_ev_add, k_ev_mul, k_ev_c, ey, Int.add_comm] at i1
            exact kPq_eq hcl hjl hw ht hu own i1
        cases ten with
        | true =>
          rw [cond_true] at hq'
          unfold k_vt10x at hq'
          cases hm : k_sm S u x v with
          | true =>
            rw [hm, cond_true] at hq'
            have pw := smx hm
            cases hx : k_eqv S.1 S.2.1 x q.2 with
            | true =>
              rw [hx, cond_true] at hq'
              rcases List.mem_singleton.mp hq' with rfl
              have ex := k_eqv_ok h.2.1 h.2.2.1 hx
              refine kVq.of (i := 9) (p := k_ev σ (k_vp q.1.1)) ⟨kSc_add hsc.1 kSc_c, hsc.2.1, kSc_c⟩ ?_ ?_ (by omega) (mk _ _ hz (fun i a1 a2 _ => ?_))
              · show k_ev σ (k_add q.1.1 (kc 1)) < 0
                rw [k_ev_add, k_ev_c]
                simp only [cond_true] at hev
                omega
              · show k_ev σ (k_add q.1.1 (kc 1)) = _
                rw [k_ev_add, k_ev_c]
                simp only [cond_true] at hev
                omega
              · by_cases g : i = k_ev σ x
                · rw [g]
                  exact pw
                · exact ne i (oth i g) (hold i a1 a2 (fun _ => by rw [← ex]; exact g))
            | false =>
              rw [hx, cond_false] at hq'
              rcases List.mem_singleton.mp hq' with rfl
              refine stay (fun i a1 a2 a3 => ?_)
              by_cases g : i = k_ev σ x
              · rw [g]
                exact pw
              · exact ne i (oth i g) (hold i a1 a2 a3)
          | false =>
            rw [hm, cond_false] at hq'
            cases hx : (k_eqv S.1 S.2.1 x q.2 || k_ge S.1 S.2.1 (k_sub x q.1.2)) with
            | false =>
              rw [hx, cond_false] at hq'
              cases hq'
            | true =>
              rw [hx, cond_true] at hq'
              rcases List.mem_singleton.mp hq' with rfl
              refine stay (fun i a1 a2 a3 => ne i (oth i (fun g => ?_)) (hold i a1 a2 a3))
              rcases Bool.or_eq_true_iff.mp hx with hx | hx
              · have ex := k_eqv_ok h.2.1 h.2.2.1 hx
                exact a3 rfl (g.trans ex)
              · have ex := k_ge_ok h.2.1 h.2.2.1 hx
                rw [k_ev_sub] at ex
                omega
        | false =>
          rw [cond_false] at hq'
          unfold k_vt9x at hq'
          have hold : ∀ i : Int, 0 ≤ i → i < k_ev σ q.1.2 → kPq M t u i := fun i a1 a2 => hold i a1 a2 (fun e => by cases e)
          have stay : (∀ i : Int, 0 ≤ i → i < k_ev σ q.1.2 → kPq (pm_put M a j cl w) t u i) → kVq N σ S (pm_put M a j cl w) q := fun g => stay (fun i a1 a2 _ => g i a1 a2)
          simp only [cond_false] at hev
          cases hx : (k_sm S u x v || k_ge S.1 S.2.1 (k_sub x q.1.2)) with
          | false =>
            rw [hx, cond_false] at hq'
            rcases List.mem_singleton.mp hq' with rfl
            refine kVq.of (i := 10) (p := k_ev σ (k_vp q.1.1)) ⟨kSc_sub hsc.1 kSc_c, hsc.2.1, sx⟩ ?_ ?_ (by omega) (mk _ _ hz (fun i a1 a2 a3 => ne i (oth i a3) (hold i a1 a2)))
            · show k_ev σ (k_sub q.1.1 (kc 1)) < 0
              rw [k_ev_sub, k_ev_c]
              omega
            · show k_ev σ (k_sub q.1.1 (kc 1)) = _
              rw [k_ev_sub, k_ev_c]
              omega
          | true =>
            rw [hx, cond_true] at hq'
            have keep : kVq N σ S (pm_put M a j cl w) q := by
              refine stay (fun i a1 a2 => ?_)
              by_cases g : i = k_ev σ x
              · rcases Bool.or_eq_true_iff.mp hx with hm | hx
                · rw [g]
                  exact smx hm
                · have ex := k_ge_ok h.2.1 h.2.2.1 hx
                  rw [k_ev_sub] at ex
                  omega
              · exact ne i (oth i g) (hold i a1 a2)
            rcases List.mem_cons.mp hq' with rfl | hq'
            · exact keep
            · cases hy : (k_sm S u x v && (k_eqv S.1 S.2.1 x q.1.2 && k_ge S.1 S.2.1 (k_sub (kc (n - 1)) q.1.2))) with
              | false =>
                rw [hy, cond_false] at hq'
                cases hq'
              | true =>
                rw [hy, cond_true] at hq'
                rcases List.mem_singleton.mp hq' with rfl
                simp only [Bool.and_eq_true] at hy
                obtain ⟨hm, y1, y2⟩ := hy
                have y1 := k_eqv_ok h.2.1 h.2.2.1 y1
                have y2 := k_ge_ok h.2.1 h.2.2.1 y2
                rw [k_ev_sub, k_ev_c] at y2
                refine kVq.of (i := 9) (p := k_ev σ (k_vp q.1.1)) ⟨hsc.1, kSc_add hsc.2.1 kSc_c, hsc.2.2⟩ hn hev (by omega) (mk _ _ ?_ (fun i a1 a2 _ => ?_))
                · show k_ev σ (k_add q.1.2 (kc 1)) ≤ n
                  rw [k_ev_add, k_ev_c]
                  omega
                · have a2 : i < k_ev σ (k_add q.1.2 (kc 1)) := a2
                  rw [k_ev_add, k_ev_c] at a2
                  by_cases g : i = k_ev σ x
                  · rw [g]
                    exact smx hm
                  · exact ne i (oth i g) (hold i a1 (by omega))
theorem k_vt9_ok {ten : Bool} (h : kRS N σ S M) (hs : kSc S.1.length s) (ha : (a : Int) = k_ev σ c) (hj : (j : Int) = k_ev σ s) (hcl : M[a]? = some cl) (hjl : j < cl.2.length) (hw : kNum w (k_ev σ v)) (hq : q ∈ S.2.2.2) (hn : k_ev σ q.1.1 < 0) (hk : k_vok q.1.1 = true) (hi : k_vi q.1.1 = cond ten 10 9) : ∀ q' ∈ k_vt9 ten S c s v q, kVq N σ S (pm_put M a j cl w) q' := by
  have hp := kVq.now h hq hn hk
  rw [hi] at hp
  have hp : kRl M (k_ev σ (k_vp q.1.1)) (k_ev σ q.1.2) (fun i => ten = true → i ≠ k_ev σ q.2) := by
    cases ten with
    | true =>
      obtain ⟨r, a1, a2, a3, a4⟩ := hp
      exact ⟨r, a1, a2, a3, fun i b1 b2 b3 => a4 i b1 b2 (b3 rfl)⟩
    | false =>
      obtain ⟨r, a1, a2, a3, a4⟩ := hp
      exact ⟨r, a1, a2, a3, fun i b1 b2 _ => a4 i b1 b2 trivial⟩
  intro q' hq'
  unfold k_vt9 at hq'
  split at hq'
  · cases hq'
  · rename_i r hr
    obtain ⟨p0, p1⟩ := k_rlw_ok (σ := σ) hr
    obtain ⟨r', a1, a2, a3, a4⟩ := hp
    rw [p1] at a2
    cases a2
    cases c0 : (k_off S.1 c r.1.1 r.1.1 && k_off S.1 c r.2.1.1 r.2.1.1) with
    | true =>
      rw [c0, cond_true] at hq'
      rcases List.mem_singleton.mp hq' with rfl
      obtain ⟨o1, o2⟩ := Bool.and_eq_true_iff.mp c0
      have o1 := k_off_ok h.2.1 o1
      have o2 := k_off_ok h.2.1 o2
      have go : ∀ i : Int, kPq M r.1 r.2.1 i → kPq (pm_put M a j cl w) r.1 r.2.1 i := fun i g => by
        obtain ⟨y, e, f⟩ := g
        exact ⟨y, kInt_put_ne hcl e (fun g => by omega), kInt_put_ne hcl f (fun g => by omega)⟩
      refine kVq.same h hq hn hk ?_
      rw [hi]
      cases ten with
      | true => exact ⟨r, p0, p1, a3, fun i b1 b2 b3 => go i (a4 i b1 b2 (fun _ => b3))⟩
      | false => exact ⟨r, p0, p1, a3, fun i b1 b2 _ => go i (a4 i b1 b2 (fun e => by cases e))⟩
    | false =>
      rw [c0, cond_false] at hq'
      cases c1 : (decide (r.1.1 = r.2.1.1) || !(decide (0 ≤ r.1.1) && decide (0 ≤ r.2.1.1))) with
      | true =>
        rw [c1, cond_true] at hq'
        cases hq'
      | false =>
        rw [c1, cond_false] at hq'
        simp only [Bool.or_eq_false_iff, decide_eq_false_iff_not, Bool.not_eq_false', Bool.and_eq_true, decide_eq_true_eq] at c1
        obtain ⟨n1, n2, n3⟩ := c1
        cases c2 : k_is c r.1.1 with
        | true =>
          rw [c2, cond_true] at hq'
          have e2 := k_is_ev (σ := σ) c2
          exact k_vt9s_ok h hs hj hcl hjl hw hq hn hk hi p0 (by omega) (by omega) n3 a3 a4 (fun z b hz hb => ⟨r, p0, p1, hz, hb⟩) q' hq'
        | false =>
          rw [c2, cond_false] at hq'
          cases c3 : k_is c r.2.1.1 with
          | true =>
            rw [c3, cond_true] at hq'
            have e3 := k_is_ev (σ := σ) c3
            exact k_vt9s_ok h hs hj hcl hjl hw hq hn hk hi p0 (by omega) (by omega) n2 a3 (fun i b1 b2 b3 => (a4 i b1 b2 b3).symm) (fun z b hz hb => ⟨r, p0, p1, hz, fun i b1 b2 b3 => (hb i b1 b2 b3).symm⟩) q' hq'
          | false =>
            rw [c3, cond_false] at hq'
            cases hq'
/-- a fold over other rows stays -/
theorem kFp.keep {M' : pM} {c : kE} {z : Int × kFo} {s v : Int} (hz : k_fdj c = some z) (hs : ∀ n : Nat, k_gi M' z.2.1.1.toNat n = k_gi M z.2.1.1.toNat n) (h : kFp M (k_ev σ (k_vp c)) s v) : kFp M' (k_ev σ (k_vp c)) s v := by
  obtain ⟨a1, a2, a3⟩ := k_fdj_ok (σ := σ) hz
  obtain ⟨F, f1, k, f2, f3⟩ := h
  rw [a2] at f1
  cases f1
  exact ⟨z.2, a2, k, f2, (kFv.fr hs k).trans f3⟩
theorem k_vtr_ok (h : kRS N σ S M) (hc : kSc S.1.length c) (hs : kSc S.1.length s) (hv : kSc S.1.length v) (ha : (a : Int) = k_ev σ c) (hj : (j : Int) = k_ev σ s) (hcl : M[a]? = some cl) (hjl : j < cl.2.length) (hw : kNum w (k_ev σ v)) (hq : q ∈ S.2.2.2) (hn : k_ev σ q.1.1 < 0) : ∀ q' ∈ k_vtr S c s v q, (kSc S.1.length q'.1.1 ∧ kSc S.1.length q'.1.2 ∧ kSc S.1.length q'.2) ∧ kHas N (pm_put M a j cl w) (k_ev σ q'.1.1) (k_ev σ q'.1.2) (k_ev σ q'.2) := by
  intro q' hq'
  unfold k_vtr at hq'
  cases hk : k_vok q.1.1 with
  | false =>
    rw [hk, cond_false] at hq'
    cases hq'
  | true =>
    rw [hk, cond_true] at hq'
    have hp := kVq.now h hq hn hk
    split at hq'
    · rename_i hi
      exact k_vt1_ok h hc hs hv ha hj hcl hjl hw hq hn hk hi q' hq'
    · rename_i hi
      exact k_vt2_ok h hc hs hv ha hj hcl hjl hw hq hn hk hi q' hq'
    · rename_i hi
      exact k_vt3_ok h hc hs hv ha hj hcl hjl hw hq hn hk hi q' hq'
    · rename_i hi
      exact k_vt4_ok h hc hs hv ha hj hcl hjl hw hq hn hk hi q' hq'
    · rename_i hi
      exact k_vt5_ok h hc hs hv ha hj hcl hjl hw hq hn hk hi q' hq'
    · rename_i hi
      exact k_vt6_ok h hc hs hv ha hj hcl hjl hw hq hn hk hi q' hq'
    · rename_i hi
      cases c1 : k_off S.1 c 457 457 with
      | false =>
        rw [c1, cond_false] at hq'
        cases hq'
      | true =>
        rw [c1, cond_true] at hq'
        rcases List.mem_singleton.mp hq' with rfl
        have o := k_off_ok h.2.1 c1
        exact kVq.same h hq hn hk (kPh_off hcl (by rw [hi]; exact fun hf : a = 457 => by omega) hp)
    · rename_i hi
      cases c1 : k_off S.1 c 477 477 with
      | false =>
        rw [c1, cond_false] at hq'
        cases hq'
      | true =>
        rw [c1, cond_true] at hq'
        rcases List.mem_singleton.mp hq' with rfl
        have o := k_off_ok h.2.1 c1
        exact kVq.same h hq hn hk (kPh_off hcl (by rw [hi]; exact fun hf : a = 477 => by omega) hp)
    · rename_i hi
      exact k_vt9_ok (ten := false) h hs ha hj hcl hjl hw hq hn hk hi q' hq'
    · rename_i hi
      exact k_vt9_ok (ten := true) h hs ha hj hcl hjl hw hq hn hk hi q' hq'
    · rename_i hi
      rcases List.mem_singleton.mp hq' with rfl
      rw [hi] at hp
      exact kVq.same h hq hn hk (by rw [hi]; exact hp)
    · rename_i hi
      rcases List.mem_singleton.mp hq' with rfl
      rw [hi] at hp
      exact kVq.same h hq hn hk (by rw [hi]; exact hp)
    · rename_i hi
      split at hq'
      · rename_i z hz
        cases c1 : (decide (0 ≤ z.2.1.1) && k_off S.1 c z.2.1.1 z.2.1.1) with
        | false =>
          rw [c1, cond_false] at hq'
          cases hq'
        | true =>
          rw [c1, cond_true] at hq'
          rcases List.mem_singleton.mp hq' with rfl
          obtain ⟨c0, c1⟩ := Bool.and_eq_true_iff.mp c1
          have c0 := of_decide_eq_true c0
          have o := k_off_ok h.2.1 c1
          rw [hi] at hp
          refine kVq.same h hq hn hk ?_
          rw [hi]
          exact kFp.keep (M := M) hz (fun n => k_gi_put_ne hcl (fun e => by omega)) hp
      · cases hq'
    · rename_i hi
      rcases List.mem_singleton.mp hq' with rfl
      rw [hi] at hp
      exact kVq.same h hq hn hk (by rw [hi]; exact hp)
    · exact k_vtx_ok h ha hj hcl hjl hw hq hn q' hq'
    · cases hq'
end KVT
/-- a call leaves what none of its changes touches -/
def k_mof (mods : List kMd) (lo hi : Nat) : Bool := mods.all (fun m => Nat.blt m.1.2 lo || Nat.blt hi m.1.1)
def k_mnm (m : kMd) (z : Nat) : Bool := Nat.blt z m.2.1 || Nat.blt m.2.2 z
def k_msl (m : kMd) (t : Int × Int × Int) (n : Int) : Bool := (decide ((m.1.2 : Int) < t.1) || decide (t.1 < (m.1.1 : Int))) || (decide ((m.2.2 : Int) < t.2.1) || decide (t.2.1 + t.2.2 * (n - 1) < (m.2.1 : Int)))
def k_vk9 (mods : List kMd) (c : kE) : Bool := match k_rlw c with
  | none => false
  | some r => (decide (0 ≤ r.1.2.2) && decide (0 ≤ r.2.1.2.2)) && mods.all (fun m => k_msl m r.1 r.2.2 && k_msl m r.2.1 r.2.2)
def k_vkx (mods : List kMd) (c : kE) : Bool := match k_ts c with
  | none => false
  | some z => cond (Nat.blt z.1 4) (k_mof mods 460 460 && mods.all (fun m => (Nat.blt m.1.2 443 || Nat.blt 443 m.1.1) || k_mnm m 17)) (cond (Nat.beq z.1 4) true (cond (Nat.beq z.1 5) (k_mof mods 460 460 && k_mof mods 364 364) (cond (Nat.beq z.1 6) (k_mof mods 364 364) false)))
def k_vkp (S : kS) (mods : List kMd) (q : kH) : Bool := k_vok q.1.1 && (match k_vi q.1.1 with
  | 1 => k_mof mods 403 439
  | 2 => k_mof mods 471 471
  | 3 => k_mof mods 461 461
  | 4 => k_mof mods 462 462
  | 5 => k_mof mods 462 462
  | 6 => k_mof mods 453 453 && (k_mof mods 450 450 && mods.all (fun m => (Nat.blt m.1.2 444 || Nat.blt 444 m.1.1) || (k_mnm m 5 && k_mnm m 7)))
  | 7 => k_mof mods 457 457
  | 8 => k_mof mods 477 477
  | 9 => k_vk9 mods q.1.1
  | 10 => k_vk9 mods q.1.1
  | 11 => true
  | 12 => true
  | 13 => (match k_fdj q.1.1 with
    | some z => decide (0 ≤ z.2.1.1) && k_mof mods z.2.1.1.toNat z.2.1.1.toNat
    | none => false)
  | 14 => true
  | 15 => k_vkx mods q.1.1
  | _ => false)
theorem k_gi_same {M M' : pM} {mods : List kMd} {a : Nat} (hm : kSame mods M M') (ha : ∀ m ∈ mods, ¬ (m.1.1 ≤ a ∧ a ≤ m.1.2)) (n : Nat) : k_gi M' a n = k_gi M a n := by
  unfold k_gi
  cases hc : M[a]? with
  | none =>
    have : M'[a]? = none := by
      rw [List.getElem?_eq_none_iff] at hc ⊢
      rw [hm.1]
      exact hc
    rw [this]
  | some cl =>
    obtain ⟨c', e1, -, -, e4⟩ := hm.2 a cl hc
    rw [e1]
    dsimp only
    rw [e4 n (fun q hq hr => ha q hq ⟨hr.1, hr.2.1⟩)]
theorem k_mof_ok {mods : List kMd} {lo hi a : Nat} (h : k_mof mods lo hi = true) (h1 : lo ≤ a) (h2 : a ≤ hi) : ∀ m ∈ mods, ¬ (m.1.1 ≤ a ∧ a ≤ m.1.2) := fun m hm hc => by
  have := List.all_eq_true.mp h m hm
  rcases Bool.or_eq_true_iff.mp this with h3 | h3
  · have := pm_blt h3
    omega
  · have := pm_blt h3
    omega
theorem k_gi_at1 {M M' : pM} {mods : List kMd} {a n : Nat} (hm : kSame mods M M') (ha : ∀ m ∈ mods, ¬ kInR m a n) : k_gi M' a n = k_gi M a n := by
  unfold k_gi
  cases hc : M[a]? with
  | none =>
    have : M'[a]? = none := by
      rw [List.getElem?_eq_none_iff] at hc ⊢
      rw [hm.1]
      exact hc
    rw [this]
  | some cl =>
    obtain ⟨c', e1, -, -, e4⟩ := hm.2 a cl hc
    rw [e1]
    dsimp only
    rw [e4 n (fun q hq hr => ha q hq hr)]
theorem k_msl_ok {M M' : pM} {mods : List kMd} {t : Int × Int × Int} {n i x : Int} (hm : kSame mods M M') (ht : 0 ≤ t.2.2) (h : ∀ m ∈ mods, k_msl m t n = true) (h0 : 0 ≤ i) (h1 : i < n) (hx : kInt M t.1 (kSl t i) x) : kInt M' t.1 (kSl t i) x := by
  refine ⟨hx.1, hx.2.1, ?_⟩
  rw [k_gi_at1 hm (fun m hmm hr => ?_)]
  · exact hx.2.2
  · have g := h m hmm
    have g1 := hx.1
    have g2 := hx.2.1
    obtain ⟨r1, r2, r3, r4⟩ := hr
    unfold k_msl at g
    simp only [Bool.or_eq_true, decide_eq_true_eq] at g
    have m1 : t.2.2 * 0 ≤ t.2.2 * i := Int.mul_le_mul_of_nonneg_left h0 ht
    have m2 : t.2.2 * i ≤ t.2.2 * (n - 1) := Int.mul_le_mul_of_nonneg_left (by omega) ht
    rw [Int.mul_zero] at m1
    unfold kSl at r3 r4 g2
    omega
theorem k_vk9_ok {M M' : pM} {mods : List kMd} {σ : Nat → Int} {c : kE} {z : Int} {b : Int → Prop} (hm : kSame mods M M') (hk : k_vk9 mods c = true) (h : kRl M (k_ev σ (k_vp c)) z b) : kRl M' (k_ev σ (k_vp c)) z b := by
  unfold k_vk9 at hk
  split at hk
  · cases hk
  · rename_i r hr
    obtain ⟨p0, p1⟩ := k_rlw_ok (σ := σ) hr
    obtain ⟨r', a1, a2, a3, a4⟩ := h
    rw [p1] at a2
    cases a2
    simp only [Bool.and_eq_true, decide_eq_true_eq] at hk
    obtain ⟨⟨k1, k2⟩, k3⟩ := hk
    refine ⟨r, p0, p1, a3, fun i b1 b2 b3 => ?_⟩
    obtain ⟨x, e, f⟩ := a4 i b1 b2 b3
    exact ⟨x, k_msl_ok hm k1 (fun m hmm => (Bool.and_eq_true_iff.mp (List.all_eq_true.mp k3 m hmm)).1) b1 (Int.lt_of_lt_of_le b2 a3) e, k_msl_ok hm k2 (fun m hmm => (Bool.and_eq_true_iff.mp (List.all_eq_true.mp k3 m hmm)).2) b1 (Int.lt_of_lt_of_le b2 a3) f⟩
theorem k_vkx_ok {N : kN} {σ : Nat → Int} {M M' : pM} {mods : List kMd} {c : kE} {s v : Int} (hm : kSame mods M M') (hn : k_ev σ c < 0) (hk : k_vkx mods c = true) (hh : kHas N M (k_ev σ c) s v) : kHas N M' (k_ev σ c) s v := by
  unfold k_vkx at hk
  split at hk
  · cases hk
  · rename_i z hz
    obtain ⟨-, t2, -⟩ := k_ts_ok (σ := σ) hz
    refine (k_t15 hz hn).mpr (((k_t15 hz hn).mp hh).fr (fun hc => ?_) (fun hc => ?_) (fun hc => ?_))
    · have k1 : k_mof mods 460 460 = true := by
        cases d4 : Nat.blt z.1 4 with
        | true =>
          rw [d4, cond_true] at hk
          exact (Bool.and_eq_true_iff.mp hk).1
        | false =>
          have e5 : z.1 = 5 := by
            rcases hc with hc | hc
            · rw [show Nat.blt z.1 4 = true from Nat.ble_eq_true_of_le (by omega)] at d4
              cases d4
            · omega
          rw [d4, cond_false, e5] at hk
          exact (Bool.and_eq_true_iff.mp hk).1
      exact fun n => k_gi_same hm (k_mof_ok k1 (Nat.le_refl _) (Nat.le_refl _)) n
    · rw [show Nat.blt z.1 4 = true from Nat.ble_eq_true_of_le (by omega), cond_true] at hk
      refine k_gi_at1 hm fun m hmm hr => ?_
      have g := List.all_eq_true.mp (Bool.and_eq_true_iff.mp hk).2 m hmm
      obtain ⟨r1, r2, r3, r4⟩ := hr
      unfold k_mnm at g
      simp only [Bool.or_eq_true] at g
      rcases g with (g | g) | (g | g)
      · have := pm_blt g
        omega
      · have := pm_blt g
        omega
      · have := pm_blt g
        omega
      · have := pm_blt g
        omega
    · have k1 : k_mof mods 364 364 = true := by
        rcases hc with hc | hc
        · rw [show z.1 = 5 by omega] at hk
          exact (Bool.and_eq_true_iff.mp hk).2
        · rw [show z.1 = 6 by omega] at hk
          exact hk
      exact fun n => k_gi_same hm (k_mof_ok k1 (Nat.le_refl _) (Nat.le_refl _)) n
theorem k_vkp_ok {N : kN} {σ : Nat → Int} {S : kS} {M M' : pM} {mods : List kMd} {q : kH} (h : kRS N σ S M) (hm : kSame mods M M') (hq : q ∈ S.2.2.2) (hn : k_ev σ q.1.1 < 0) (hk : k_vkp S mods q = true) : kHas N M' (k_ev σ q.1.1) (k_ev σ q.1.2) (k_ev σ q.2) := by
  unfold k_vkp at hk
  obtain ⟨h0, hk⟩ := Bool.and_eq_true_iff.mp hk
  have hp := kVq.now h hq hn h0
  by_cases h9 : k_vi q.1.1 = 9
  · rw [h9] at hk hp
    exact kHas.neg hn (kPhi_of (i := 9) (by rw [← h9]; exact k_vok_ev h0) (by omega) (k_vk9_ok (b := fun _ => True) hm hk hp))
  by_cases h10 : k_vi q.1.1 = 10
  · rw [h10] at hk hp
    exact kHas.neg hn (kPhi_of (i := 10) (by rw [← h10]; exact k_vok_ev h0) (by omega) (k_vk9_ok (b := fun i => i ≠ k_ev σ q.2) hm hk hp))
  by_cases h11 : k_vi q.1.1 = 11
  · rw [h11] at hp
    exact kHas.neg hn (kPhi_of (i := 11) (by rw [← h11]; exact k_vok_ev h0) (by omega) hp)
  by_cases h12 : k_vi q.1.1 = 12
  · rw [h12] at hp
    exact kHas.neg hn (kPhi_of (i := 12) (by rw [← h12]; exact k_vok_ev h0) (by omega) hp)
  by_cases h14 : k_vi q.1.1 = 14
  · rw [h14] at hp
    exact kHas.neg hn (kPhi_of (i := 14) (by rw [← h14]; exact k_vok_ev h0) (by omega) hp)
  by_cases h15 : k_vi q.1.1 = 15
  · rw [h15] at hk
    exact k_vkx_ok hm hn hk (h.2.2.2.2.1 _ hq)
  by_cases h13 : k_vi q.1.1 = 13
  · rw [h13] at hk hp
    simp only at hk
    split at hk
    · rename_i z hz
      obtain ⟨k0, k1⟩ := Bool.and_eq_true_iff.mp hk
      exact kHas.neg hn (kPhi_of (i := 13) (by rw [← h13]; exact k_vok_ev h0) (by omega) (kFp.keep (M := M) hz (fun n => k_gi_same hm (k_mof_ok k1 (Nat.le_refl _) (Nat.le_refl _)) n) hp))
    · cases hk
  refine kHas.neg hn (kPhi_of (k_vok_ev h0) (k_vi_lt _) (hp.fr fun a ha n => k_gi_same hm ?_ n))
  split at hk
  · rename_i hi
    rw [hi] at ha
    exact k_mof_ok hk ha.1 ha.2
  · rename_i hi
    rw [hi] at ha
    exact k_mof_ok hk (Nat.le_of_eq ha.symm) (Nat.le_of_eq ha)
  · rename_i hi
    rw [hi] at ha
    exact k_mof_ok hk (Nat.le_of_eq ha.symm) (Nat.le_of_eq ha)
  · rename_i hi
    rw [hi] at ha
    exact k_mof_ok hk (Nat.le_of_eq ha.symm) (Nat.le_of_eq ha)
  · rename_i hi
    rw [hi] at ha
    exact k_mof_ok hk (Nat.le_of_eq ha.symm) (Nat.le_of_eq ha)
  · rename_i hi
    rw [hi] at ha
    obtain ⟨k1, k2⟩ := Bool.and_eq_true_iff.mp hk
    obtain ⟨k2, -⟩ := Bool.and_eq_true_iff.mp k2
    have ha : a = 453 ∨ a = 450 := ha
    rcases ha with rfl | rfl
    · exact k_mof_ok k1 (Nat.le_refl _) (Nat.le_refl _)
    · exact k_mof_ok k2 (Nat.le_refl _) (Nat.le_refl _)
  · rename_i hi
    rw [hi] at ha
    exact k_mof_ok hk (Nat.le_of_eq ha.symm) (Nat.le_of_eq ha)
  · rename_i hi
    rw [hi] at ha
    exact k_mof_ok hk (Nat.le_of_eq ha.symm) (Nat.le_of_eq ha)
  · rename_i hi
    exact absurd hi h9
  · rename_i hi
    exact absurd hi h10
  · rename_i hi
    exact absurd hi h11
  · rename_i hi
    exact absurd hi h12
  · rename_i hi
    exact absurd hi h13
  · rename_i hi
    exact absurd hi h14
  · rename_i hi
    exact absurd hi h15
  · cases hk
end
