noncomputable section
/-! versions of forms: entries looked up, what a write leaves -/
/-- which, form, day -/
def k_v7 (S : kS) (c : kE) : Option (Nat × kE × kE) := match k_ts c with
  | none => none
  | some z => cond (Nat.beq z.1 7) (match k_spl S z.2 8 with
    | none => none
    | some r => cond (k_cst r.2 && Nat.blt r.2.1.toNat 6) (cond (Nat.beq r.2.1.toNat 4) (match k_spl S r.1 8 with
      | none => none
      | some p => some (4, p.2, p.1)) (some (r.2.1.toNat, kc 0, kc 0))) none) none
def k_l7 (S : kS) : List (kH × (Nat × kE × kE)) := S.2.2.2.filterMap (fun q => cond (decide (q.1.1.1 < 0) && decide (k_hi S.1 q.1.1 < 0)) (match k_v7 S q.1.1 with
  | some z => some (q, z)
  | none => none) none)
def k_day (S : kS) : Option kE := k_find (kc 444) (kc 0) S.2.2.2
def k_lst (S : kS) (d n : kE) : List (kE × kE) := (k_l7 S).filterMap (fun r => cond (Nat.beq r.2.1 4 && (k_eqS S r.1.1.2 n && k_eqS S r.2.2.2 d)) (some (r.2.2.1, r.1.2)) none)
def k_cfv (S : kS) (V : Int) (j : kE) : Option kE := match k_find (kc V) j S.2.2.2 with
  | some v => some v
  | none => k_fqs S (kc V) j S.2.2.2
def k_c7 (S : kS) (b : Bool) (n : kE) (o : Int) : Option kE := k_cfv S (cond b 477 450) (k_add (k_mul 26 n) (kc (cond b (300 + o) o)))
def k_ul (S : kS) (u y : kE) : Bool := cond (k_eqS S u y) (k_geS S y) (k_wq (k_nv S.1 u) (kc (-3)) && k_wq (k_nv S.1 y) (kc (-1)))
def k_pe1 (S : kS) (w : kE) : Option (Nat × kE) := match k_spl S w 4 with
  | some r => cond (k_cst r.2 && decide (0 < r.2.1)) (some (r.2.1.toNat, r.1)) none
  | none => none
def k_pe2 (S : kS) (v : kE) : List (kE × kE) → Option (Nat × kE)
  | [] => none
  | r :: t => cond (k_eqS S v (k_add (kc 1) (k_mul 4 r.1))) (some (1, r.1)) (cond (k_eqS S v (k_add (kc 2) (k_mul 4 r.1))) (some (2, r.1)) (cond (k_eqS S v (k_add (kc 3) (k_mul 4 r.1))) (some (3, r.1)) (k_pe2 S v t)))
/-- a state of 5 -/
def k_pen (S : kS) (v n : kE) : Option (Nat × kE) := cond (k_wq (k_nv S.1 v) (kc 0)) (some (0, kc 0)) (match k_pe1 S (k_nv S.1 v) with
  | some r => some r
  | none => (match k_day S with
    | some d => k_pe2 S v (k_lst S d n)
    | none => none))
def k_o7x (S : kS) (c : kE) (b : Bool) : Bool := cond b (k_off S.1 c 199 199 && (k_off S.1 c 240 240 && k_off S.1 c 241 241)) (k_off S.1 c 18 18 && (k_off S.1 c 59 59 && k_off S.1 c 60 60))
def k_o7v (S : kS) (c s : kE) : Bool := k_off S.1 c 450 450 || (k_off S.1 s 0 415 || (k_rs S.1 26 s).all (fun z => !(Nat.beq z 0 || (Nat.beq z 7 || Nat.beq z 8))))
def k_o7d (S : kS) (c s : kE) : Bool := k_off S.1 c 444 444 || k_off S.1 s 0 0
/-- a write beside all that t speaks of -/
def k_o7 (S : kS) (c s : kE) (t : Nat) : Bool := cond (Nat.beq t 0 || Nat.beq t 5) (k_o7x S c false && (k_o7v S c s && k_o7d S c s)) (cond (Nat.beq t 1) (k_o7x S c true && k_off S.1 c 477 477) (cond (Nat.beq t 2) (k_o7x S c true && k_o7v S c s) (cond (Nat.beq t 3) (k_o7x S c false && k_off S.1 c 477 477) (Nat.beq t 4 && k_o7v S c s))))
/-- a row's end: which row -/
def k_r8 (s : kE) : kE := k_dv 26 (k_sub s (kc 8))
def k_r8k (s : kE) : Bool := k_eq (k_add (k_mul 26 (k_r8 s)) (kc 8)) s
def k_inv (S : kS) (n : kE) : Bool := (k_l7 S).any (fun r => (Nat.beq r.2.1 0 || Nat.beq r.2.1 5) && k_eqS S r.1.1.2 n)
def k_t74 (S : kS) (c s v : kE) (q : kH) (d : kE) : List kH := cond (k_is c 450) (cond (k_geS S (k_sub s (k_mul 26 q.1.2))) [q] (cond (k_r8k s && (k_eqS S (k_r8 s) q.2 && (k_eqS S d v && (k_geS S (k_r8 s) && (k_geS S v && k_inv S q.1.2))))) [((q.1.1, q.1.2), kc (-1))] [])) []
def k_gro (S : kS) (b : Bool) (n v : kE) : Bool := match k_c7 S (!b) n 0 with
  | none => false
  | some p0 => (match k_c7 S (!b) n 7 with
    | none => false
    | some p7 => (match k_c7 S (!b) n 8 with
      | none => false
      | some p8 => (match k_cfv S (cond b 199 18) n with
        | none => false
        | some r0 => (match k_cfv S (cond b 240 59) n with
          | none => false
          | some r7 => k_eqS S p0 r0 && (k_eqS S p7 r7 && k_ul S v p8)))))
/-- b: the kept class's rows -/
def k_isx (c : kE) (b : Bool) : Bool := cond b (k_is c 199 || (k_is c 240 || k_is c 241)) (k_is c 18 || (k_is c 59 || k_is c 60))
def k_t7g (S : kS) (c s v : kE) (q : kH) (b : Bool) : List kH := cond (k_isx c b && k_geS S (k_sub s q.1.2)) (cond (k_is c (cond b 241 60) && (k_eqS S s q.1.2 && (k_geS S (k_sub (kc 15) q.1.2) && k_gro S b q.1.2 v))) [q, ((q.1.1, k_add q.1.2 (kc 1)), q.2)] [q]) []
def k_no1 (S : kS) (l : List (kE × kE)) : Option (kE × kE) := l.find? (fun r => k_wq (k_nv S.1 r.2) (kc (-1)))
def k_me (g : Int) (f n : kE) : kH := ((kc (-767), n), k_add (kc g) (k_mul 4 f))
def k_t70 (S : kS) (c s v : kE) (q : kH) (d : kE) : List kH := cond (k_is c 444) (cond (k_wq (k_nv S.1 s) (kc 0) && k_geS S (k_sub v d)) [q] []) (cond (k_isx c false) (match cond (k_is c 60 && k_eqS S v d) ((k_lst S d q.1.2).find? (fun r => k_eqS S r.2 s && k_geS S r.2)) none with
  | some r => [k_me 2 r.1 q.1.2]
  | none => (match k_no1 S (k_lst S d q.1.2) with
    | some r => cond (k_eqS S s q.1.2 && k_geS S (k_sub (kc 15) q.1.2)) [k_me 3 r.1 q.1.2] []
    | none => [])) [])
def k_rwn (S : kS) (n f d : kE) : Bool := match k_cfv S 18 n with
  | none => false
  | some r0 => (match k_cfv S 59 n with
    | none => false
    | some r7 => k_eqS S r0 f && k_eqS S r7 d)
def k_cn7 (S : kS) (n f d : kE) : Bool := match k_c7 S false n 0 with
  | none => false
  | some x => (match k_c7 S false n 7 with
    | none => false
    | some y => k_eqS S x f && k_eqS S y d)
def k_t75 (S : kS) (c s v : kE) (q : kH) (d : kE) (g : Nat) (f : kE) : List kH := cond (Nat.beq g 0) [] (cond (k_isx c false)
  (cond (Nat.beq g 1 || !(k_eqS S s q.1.2 && k_geS S (k_sub (kc 15) q.1.2))) [] (cond (k_is c 60 && (k_wq (k_nv S.1 v) (kc (-3)) && k_rwn S q.1.2 f d)) [k_me 1 f q.1.2] [k_me 3 f q.1.2]))
  (cond (k_is c 450 && !(Nat.beq g 3)) (cond (k_r8k s && (k_eqS S v d && (k_geS S (k_r8 s) && (k_lst S d q.1.2).any (fun r => k_eqS S r.1 f && k_eqS S r.2 (k_r8 s))))) [q]
    (cond (Nat.beq g 1 && (k_geS S (k_sub (kc 15) q.1.2) && (k_geS S (k_sub s (k_mul 26 q.1.2)) && k_geS S (k_sub (k_add (k_mul 26 q.1.2) (kc 25)) s)))) (cond (k_eq s (k_add (k_mul 26 q.1.2) (kc 8)) && (k_wq (k_nv S.1 v) (kc (-1)) && ((k_lst S d q.1.2).any (fun r => k_eqS S r.1 f && k_wq (k_nv S.1 r.2) (kc (-1))) && k_cn7 S q.1.2 f d))) [((kc (-127), k_add q.1.2 (kc 1)), kc 0)] [q]) [])) []))
def k_t7 (S : kS) (c s v : kE) (q : kH) (z : Nat × kE × kE) : List kH := cond (k_o7 S c s z.1) [q] (cond (Nat.beq z.1 4) (k_t74 S c s v q z.2.2) (cond (Nat.beq z.1 2 || Nat.beq z.1 3) (k_t7g S c s v q (Nat.beq z.1 2)) (cond (Nat.beq z.1 0 || Nat.beq z.1 5) (match k_day S with
  | none => []
  | some d => cond (k_geS S d) (cond (Nat.beq z.1 0) (k_t70 S c s v q d) (match k_pen S q.2 q.1.2 with
    | none => []
    | some p => k_t75 S c s v q d p.1 p.2)) []) [])))
def k_vty (S : kS) (c s v : kE) (q : kH) : List kH := match k_v7 S q.1.1 with
  | some z => k_t7 S c s v q z
  | none => k_vtx S c s v q
section KVR
variable {N : kN} {σ : Nat → Int} {S : kS} {M : pM}
theorem k_v7_ok (h : kRS N σ S M) {c : kE} {z : Nat × kE × kE} (hc : kSc S.1.length c) (hn : k_ev σ c < 0) (hz : k_v7 S c = some z) : (kSc S.1.length z.2.1 ∧ kSc S.1.length z.2.2) ∧ ∀ (M' : pM) (s v : Int), kHas N M' (k_ev σ c) s v ↔ kFmt M' z.1 (k_ev σ z.2.1) (k_ev σ z.2.2) s v := by
  unfold k_v7 at hz
  split at hz
  · cases hz
  · rename_i y hy
    obtain ⟨b7, hz⟩ := pm_cs hz
    have b7 := pm_beq b7
    split at hz
    · cases hz
    · rename_i r hr
      obtain ⟨cr, hz⟩ := pm_cs hz
      obtain ⟨cr, c6⟩ := Bool.and_eq_true_iff.mp cr
      have c6 := pm_blt c6
      obtain ⟨r1, r2, r3, r4, r5⟩ := k_spl_ok h (k_ts_sc hc hy) hr
      obtain ⟨-, t2, t3⟩ := k_ts_ok (σ := σ) hy
      rw [k_ev_const (σ := σ) cr] at r1 r2 r3
      have base : ∀ (M' : pM) (s v : Int), kHas N M' (k_ev σ c) s v ↔ kFmt M' r.2.1.toNat (k_ev σ r.1 % 8) (k_ev σ r.1 / 8) s v := fun M' s v => by
        rw [k_t15 hy hn, kPtx_7 (t2.trans b7)]
        unfold kFms
        rw [t3, r1, show (8 * k_ev σ r.1 + r.2.1) % 8 = r.2.1 by omega, show (8 * k_ev σ r.1 + r.2.1) / 8 = k_ev σ r.1 by omega, show decide (6 ≤ r.2.1) = false from decide_eq_false (by omega), cond_false]
      cases d4 : Nat.beq r.2.1.toNat 4 with
      | true =>
        rw [d4, cond_true] at hz
        have d4 := pm_beq d4
        rw [d4] at base
        split at hz
        · cases hz
        · rename_i p hp
          cases hz
          obtain ⟨p1, p2, p3, p4, p5⟩ := k_spl_ok h r4 hp
          refine ⟨⟨p5, p4⟩, fun M' s v => ?_⟩
          have b := base M' s v
          rw [p1, show (8 * k_ev σ p.1 + k_ev σ p.2) % 8 = k_ev σ p.2 by omega, show (8 * k_ev σ p.1 + k_ev σ p.2) / 8 = k_ev σ p.1 by omega] at b
          exact b
      | false =>
        rw [d4, cond_false] at hz
        cases hz
        have ne : r.2.1.toNat ≠ 4 := fun e => by
          rw [e] at d4
          exact absurd d4 (by decide)
        exact ⟨⟨kSc_c, kSc_c⟩, fun M' s v => (base M' s v).trans ⟨kFmt.irr ne, kFmt.irr ne⟩⟩
theorem k_l7_ok (h : kRS N σ S M) {r : kH × (Nat × kE × kE)} (hr : r ∈ k_l7 S) : r.1 ∈ S.2.2.2 ∧ (kSc S.1.length r.1.1.1 ∧ kSc S.1.length r.1.1.2 ∧ kSc S.1.length r.1.2) ∧ (kSc S.1.length r.2.2.1 ∧ kSc S.1.length r.2.2.2) ∧ kFmt M r.2.1 (k_ev σ r.2.2.1) (k_ev σ r.2.2.2) (k_ev σ r.1.1.2) (k_ev σ r.1.2) := by
  unfold k_l7 at hr
  obtain ⟨q, hq, hr⟩ := List.mem_filterMap.mp hr
  obtain ⟨h1, hr⟩ := pm_cs hr
  have hn : k_ev σ q.1.1 < 0 := by
    have := k_hi_ge h.2.1 q.1.1
    have := of_decide_eq_true (Bool.and_eq_true_iff.mp h1).2
    omega
  split at hr
  · rename_i z hz
    cases hr
    have sc := h.2.2.2.2.2.2.2 q hq
    obtain ⟨a1, a2⟩ := k_v7_ok h sc.1 hn hz
    exact ⟨hq, sc, a1, (a2 M _ _).mp (h.2.2.2.2.1 q hq)⟩
  · cases hr
theorem k_l7_v7 {r : kH × (Nat × kE × kE)} (hr : r ∈ k_l7 S) : k_v7 S r.1.1.1 = some r.2 := by
  unfold k_l7 at hr
  obtain ⟨q, hq, hr⟩ := List.mem_filterMap.mp hr
  obtain ⟨-, hr⟩ := pm_cs hr
  split at hr
  · rename_i z hz
    cases hr
    exact hz
  · cases hr
theorem k_day_ok (h : kRS N σ S M) {d : kE} (hd : k_day S = some d) : kSc S.1.length d ∧ k_gi M 444 0 = some (k_ev σ d) := by
  have hd : k_find (kc 444) (kc 0) S.2.2.2 = some d := hd
  have a := k_find_int h hd (by rw [k_ev_c]; omega)
  rw [k_ev_c, k_ev_c] at a
  exact ⟨k_find_sc h hd, a.2.2⟩
theorem k_lst_ok (h : kRS N σ S M) {d n : kE} {r : kE × kE} (hr : r ∈ k_lst S d n) : (kSc S.1.length r.1 ∧ kSc S.1.length r.2) ∧ ∃ k : Nat, (k : Int) = k_ev σ n ∧ k ≤ 16 ∧ kVla M (k_ev σ r.1) (k_ev σ d) k = k_ev σ r.2 := by
  unfold k_lst at hr
  obtain ⟨q, hq, hr⟩ := List.mem_filterMap.mp hr
  obtain ⟨h1, hr⟩ := pm_cs hr
  cases hr
  simp only [Bool.and_eq_true] at h1
  obtain ⟨h1, h2, h3⟩ := h1
  obtain ⟨-, sc, s2, hh⟩ := k_l7_ok h hq
  have h1 := pm_beq h1
  have h2 := k_eqv_ok h.2.1 h.2.2.1 h2
  have h3 := k_eqv_ok h.2.1 h.2.2.1 h3
  rw [h1, h3, h2] at hh
  exact ⟨⟨s2.1, sc.2.2⟩, hh⟩
theorem k_cfv_ok (h : kRS N σ S M) {V : Int} {j v : kE} (hV : 0 ≤ V) (hv : k_cfv S V j = some v) : kSc S.1.length v ∧ kInt M V (k_ev σ j) (k_ev σ v) := by
  unfold k_cfv at hv
  split at hv
  · rename_i y hy
    cases hv
    have a := k_find_int h hy (by rw [k_ev_c]; exact hV)
    rw [k_ev_c] at a
    exact ⟨k_find_sc h hy, a⟩
  · obtain ⟨q, hq, e1, e2, e3⟩ := k_fqs_ok h.2.1 h.2.2.1 _ hv
    subst e3
    have a := h.2.2.2.2.1 q hq
    rw [e1, e2, k_ev_c] at a
    exact ⟨(h.2.2.2.2.2.2.2 q hq).2.2, a.int hV⟩
theorem k_c7_ok (h : kRS N σ S M) {b : Bool} {n v : kE} {o k : Nat} (hk : (k : Int) = k_ev σ n) (hv : k_c7 S b n (o : Int) = some v) : k_gi M (cond b 477 450) (cond b 300 0 + (26 * k + o)) = some (k_ev σ v) := by
  unfold k_c7 at hv
  cases b with
  | true =>
    have hv : k_cfv S 477 (k_add (k_mul 26 n) (kc (300 + (o : Int)))) = some v := hv
    have a := (k_cfv_ok h (by omega) hv).2.2.2
    rw [k_ev_add, k_ev_mul, k_ev_c, ← hk, show (26 * (k : Int) + (300 + (o : Int))).toNat = 300 + (26 * k + o) by omega] at a
    exact a
  | false =>
    have hv : k_cfv S 450 (k_add (k_mul 26 n) (kc (o : Int))) = some v := hv
    have a := (k_cfv_ok h (by omega) hv).2.2.2
    rw [k_ev_add, k_ev_mul, k_ev_c, ← hk, show (26 * (k : Int) + (o : Int)).toNat = 0 + (26 * k + o) by omega] at a
    exact a
theorem k_ul_ok (h : kRS N σ S M) {u y : kE} (hu : k_ul S u y = true) : (k_ev σ u = k_ev σ y ∧ 0 ≤ k_ev σ u) ∨ (k_ev σ u = -3 ∧ k_ev σ y = -1) := by
  unfold k_ul at hu
  cases e : k_eqS S u y with
  | true =>
    rw [e, cond_true] at hu
    have e := k_eqv_ok h.2.1 h.2.2.1 e
    have g := k_ge_ok h.2.1 h.2.2.1 hu
    exact Or.inl ⟨e, by omega⟩
  | false =>
    rw [e, cond_false] at hu
    obtain ⟨a, b⟩ := Bool.and_eq_true_iff.mp hu
    have a1 := k_nv_ok (e := u) h.2.1
    have b1 := k_nv_ok (e := y) h.2.1
    rw [k_wq_ok a, k_ev_c] at a1
    rw [k_wq_ok b, k_ev_c] at b1
    exact Or.inr ⟨a1.symm, b1.symm⟩
/-- a word that is a number -/
theorem k_nvc (h : kRS N σ S M) {v : kE} {x : Int} (hv : k_wq (k_nv S.1 v) (kc x) = true) : k_ev σ v = x := by
  have a1 := k_nv_ok (e := v) h.2.1
  rw [k_wq_ok hv, k_ev_c] at a1
  exact a1.symm
theorem k_pe2_ok (h : kRS N σ S M) {v : kE} {p : Nat × kE} : ∀ l : List (kE × kE), (∀ r ∈ l, kSc S.1.length r.1) → k_pe2 S v l = some p → (1 ≤ p.1 ∧ p.1 ≤ 3) ∧ kSc S.1.length p.2 ∧ k_ev σ v = (p.1 : Int) + 4 * k_ev σ p.2
  | [], _, hp => by cases hp
  | r :: t, hl, hp => by
    unfold k_pe2 at hp
    have sc := hl r List.mem_cons_self
    have fin : ∀ {g : Nat}, 1 ≤ g → g ≤ 3 → k_eqS S v (k_add (kc (g : Int)) (k_mul 4 r.1)) = true → (1 ≤ g ∧ g ≤ 3) ∧ kSc S.1.length r.1 ∧ k_ev σ v = (g : Int) + 4 * k_ev σ r.1 := fun {g} g1 g3 e => by
      have e := k_eqv_ok h.2.1 h.2.2.1 e
      rw [k_ev_add, k_ev_c, k_ev_mul] at e
      exact ⟨⟨g1, g3⟩, sc, e⟩
    cases e1 : k_eqS S v (k_add (kc 1) (k_mul 4 r.1)) with
    | true =>
      rw [e1, cond_true] at hp
      cases hp
      exact fin (g := 1) (by omega) (by omega) e1
    | false =>
      rw [e1, cond_false] at hp
      cases e2 : k_eqS S v (k_add (kc 2) (k_mul 4 r.1)) with
      | true =>
        rw [e2, cond_true] at hp
        cases hp
        exact fin (g := 2) (by omega) (by omega) e2
      | false =>
        rw [e2, cond_false] at hp
        cases e3 : k_eqS S v (k_add (kc 3) (k_mul 4 r.1)) with
        | true =>
          rw [e3, cond_true] at hp
          cases hp
          exact fin (g := 3) (by omega) (by omega) e3
        | false =>
          rw [e3, cond_false] at hp
          exact k_pe2_ok h t (fun r hr => hl r (List.mem_cons_of_mem _ hr)) hp
theorem k_pen_ok (h : kRS N σ S M) {v n : kE} {p : Nat × kE} (hv : kSc S.1.length v) (hp : k_pen S v n = some p) : (p.1 = 0 ∧ k_ev σ v = 0) ∨ ((1 ≤ p.1 ∧ p.1 ≤ 3) ∧ kSc S.1.length p.2 ∧ k_ev σ v = (p.1 : Int) + 4 * k_ev σ p.2) := by
  unfold k_pen at hp
  cases e0 : k_wq (k_nv S.1 v) (kc 0) with
  | true =>
    rw [e0, cond_true] at hp
    cases hp
    exact Or.inl ⟨rfl, k_nvc h e0⟩
  | false =>
    rw [e0, cond_false] at hp
    refine Or.inr ?_
    split at hp
    · rename_i r hr
      cases hp
      unfold k_pe1 at hr
      split at hr
      · rename_i y hy
        obtain ⟨g, hr⟩ := pm_cs hr
        cases hr
        obtain ⟨y1, y2, y3, y4, y5⟩ := k_spl_ok h (k_nv_sc hv) hy
        obtain ⟨g1, g2⟩ := Bool.and_eq_true_iff.mp g
        have g2 := of_decide_eq_true g2
        rw [k_ev_const (σ := σ) g1] at y1 y2 y3
        rw [k_nv_ok h.2.1] at y1
        refine ⟨⟨?_, ?_⟩, y4, ?_⟩
        · show 1 ≤ y.2.1.toNat
          omega
        · show y.2.1.toNat ≤ 3
          omega
        · show k_ev σ v = (y.2.1.toNat : Int) + 4 * k_ev σ y.1
          omega
      · cases hr
    · split at hp
      · rename_i d hd
        exact k_pe2_ok h _ (fun r hr => (k_lst_ok h hr).1.1) hp
      · cases hp
theorem k_inv_ok (h : kRS N σ S M) {n : kE} (hi : k_inv S n = true) : ∃ t, kViv M 450 0 (k_ev σ n) t := by
  obtain ⟨r, hr, hi⟩ := List.any_eq_true.mp hi
  obtain ⟨i1, i2⟩ := Bool.and_eq_true_iff.mp hi
  have i2 := k_eqv_ok h.2.1 h.2.2.1 i2
  obtain ⟨-, -, -, hh⟩ := k_l7_ok h hr
  rcases Bool.or_eq_true_iff.mp i1 with i1 | i1
  · have i1 := pm_beq i1
    rw [i1, i2] at hh
    obtain ⟨-, t, -, hv⟩ := hh
    exact ⟨t, hv⟩
  · have i1 := pm_beq i1
    rw [i1, i2] at hh
    rcases hh with ⟨-, -, t, -, hv⟩ | ⟨g, f, t, k, -, hk, -, -, hv, -⟩
    · exact ⟨t, hv⟩
    · exact ⟨t, by rw [← hk]; exact hv⟩
theorem kHas_f0 {M : pM} {s v : Int} (h : kVfs M kXn 450 0 444 s) : kHas N M (-127) s v := by
  refine ⟨fun h0 => by omega, fun _ => kPhi_of (i := 15) (p := 7) (by omega) (by omega) ?_⟩
  show kPtx M 7 s v
  refine (kPtx_7 (by decide)).mpr ?_
  show kFmt M ((7 / 8 : Int) % 8).toNat ((7 / 8 : Int) / 8 % 8) ((7 / 8 : Int) / 8 / 8) s v
  rw [show ((7 / 8 : Int) % 8).toNat = 0 by decide]
  exact h
theorem kHas_f1 {M : pM} {s v : Int} (h : kVfs M kXk 477 300 477 s) : kHas N M (-255) s v := by
  refine ⟨fun h0 => by omega, fun _ => kPhi_of (i := 15) (p := 15) (by omega) (by omega) ?_⟩
  show kPtx M 15 s v
  refine (kPtx_7 (by decide)).mpr ?_
  show kFmt M ((15 / 8 : Int) % 8).toNat ((15 / 8 : Int) / 8 % 8) ((15 / 8 : Int) / 8 / 8) s v
  rw [show ((15 / 8 : Int) % 8).toNat = 1 by decide]
  exact h
theorem kHas_f5 {M : pM} {s v : Int} (h : kVpe M s v) : kHas N M (-767) s v := by
  refine ⟨fun h0 => by omega, fun _ => kPhi_of (i := 15) (p := 47) (by omega) (by omega) ?_⟩
  show kPtx M 47 s v
  refine (kPtx_7 (by decide)).mpr ?_
  show kFmt M ((47 / 8 : Int) % 8).toNat ((47 / 8 : Int) / 8 % 8) ((47 / 8 : Int) / 8 / 8) s v
  rw [show ((47 / 8 : Int) % 8).toNat = 5 by decide]
  exact h
end KVR
/-! what a write leaves is so -/
section KVW
variable {N : kN} {σ : Nat → Int} {S : kS} {M : pM} {c s v : kE} {a j : Nat} {cl : pC} {w : Value} {q : kH}
theorem k_o7x_ok (h : kRS N σ S M) (ha : (a : Int) = k_ev σ c) (hcl : M[a]? = some cl) {b : Bool} (ho : k_o7x S c b = true) : ∀ i : Nat, k_gi (pm_put M a j cl w) (cond b 199 18) i = k_gi M (cond b 199 18) i ∧ k_gi (pm_put M a j cl w) (cond b 240 59) i = k_gi M (cond b 240 59) i ∧ k_gi (pm_put M a j cl w) (cond b 241 60) i = k_gi M (cond b 241 60) i := fun i => by
  cases b with
  | true =>
    have ho : (k_off S.1 c 199 199 && (k_off S.1 c 240 240 && k_off S.1 c 241 241)) = true := ho
    simp only [Bool.and_eq_true] at ho
    obtain ⟨o1, o2, o3⟩ := ho
    have o1 := k_off_ok h.2.1 o1
    have o2 := k_off_ok h.2.1 o2
    have o3 := k_off_ok h.2.1 o3
    exact ⟨k_gi_put_ne (b := 199) hcl (by omega), k_gi_put_ne (b := 240) hcl (by omega), k_gi_put_ne (b := 241) hcl (by omega)⟩
  | false =>
    have ho : (k_off S.1 c 18 18 && (k_off S.1 c 59 59 && k_off S.1 c 60 60)) = true := ho
    simp only [Bool.and_eq_true] at ho
    obtain ⟨o1, o2, o3⟩ := ho
    have o1 := k_off_ok h.2.1 o1
    have o2 := k_off_ok h.2.1 o2
    have o3 := k_off_ok h.2.1 o3
    exact ⟨k_gi_put_ne (b := 18) hcl (by omega), k_gi_put_ne (b := 59) hcl (by omega), k_gi_put_ne (b := 60) hcl (by omega)⟩
theorem k_o7v_ok (h : kRS N σ S M) (ha : (a : Int) = k_ev σ c) (hj : (j : Int) = k_ev σ s) (hcl : M[a]? = some cl) (ho : k_o7v S c s = true) : kAgV M (pm_put M a j cl w) 450 0 := fun i hi => by
  have key : ∀ o : Nat, (o = 0 ∨ o = 7 ∨ o = 8) → ¬ (450 = a ∧ 0 + (26 * i + o) = j) := fun o h3 hh => by
    unfold k_o7v at ho
    rcases Bool.or_eq_true_iff.mp ho with ho | ho
    · have := k_off_ok h.2.1 ho
      omega
    · rcases Bool.or_eq_true_iff.mp ho with ho | ho
      · have := k_off_ok h.2.1 ho
        omega
      · have hm := List.all_eq_true.mp ho _ (k_rs_ok h.2.1 (by omega) hj)
        have e : j % 26 = o := by omega
        rw [e] at hm
        rcases h3 with rfl | rfl | rfl <;> exact absurd hm (by decide)
  exact ⟨k_gi_put_ne hcl (key 0 (by omega)), k_gi_put_ne hcl (key 7 (by omega)), k_gi_put_ne hcl (key 8 (by omega))⟩
theorem k_o7d_ok (h : kRS N σ S M) (ha : (a : Int) = k_ev σ c) (hj : (j : Int) = k_ev σ s) (hcl : M[a]? = some cl) (ho : k_o7d S c s = true) : k_gi (pm_put M a j cl w) 444 0 = k_gi M 444 0 := by
  refine k_gi_put_ne hcl fun hh => ?_
  unfold k_o7d at ho
  rcases Bool.or_eq_true_iff.mp ho with ho | ho
  · have := k_off_ok h.2.1 ho
    omega
  · have := k_off_ok h.2.1 ho
    omega
theorem k_o7_ok (h : kRS N σ S M) (ha : (a : Int) = k_ev σ c) (hj : (j : Int) = k_ev σ s) (hcl : M[a]? = some cl) {t : Nat} {f d x y : Int} (ho : k_o7 S c s t = true) (hf : kFmt M t f d x y) : kFmt (pm_put M a j cl w) t f d x y := by
  have k477 : k_off S.1 c 477 477 = true → ∀ i : Nat, k_gi (pm_put M a j cl w) 477 i = k_gi M 477 i := fun o i => by
    have := k_off_ok h.2.1 o
    exact k_gi_put_ne hcl (by omega)
  match t, ho, hf with
  | 0, ho, hf =>
    have ho : (k_o7x S c false && (k_o7v S c s && k_o7d S c s)) = true := ho
    simp only [Bool.and_eq_true] at ho
    exact hf.ag (fun _ => k_o7v_ok h ha hj hcl ho.2.1) (fun e => by omega) (fun _ => k_o7x_ok (b := false) h ha hcl ho.1) (fun e => by omega) (fun _ => k_o7d_ok h ha hj hcl ho.2.2) (fun e => by omega)
  | 1, ho, hf =>
    have ho : (k_o7x S c true && k_off S.1 c 477 477) = true := ho
    simp only [Bool.and_eq_true] at ho
    exact hf.ag (fun e => by omega) (fun _ i _ => ⟨k477 ho.2 _, k477 ho.2 _, k477 ho.2 _⟩) (fun e => by omega) (fun _ => k_o7x_ok (b := true) h ha hcl ho.1) (fun e => by omega) (fun _ => k477 ho.2 0)
  | 2, ho, hf =>
    have ho : (k_o7x S c true && k_o7v S c s) = true := ho
    simp only [Bool.and_eq_true] at ho
    exact hf.ag (fun _ => k_o7v_ok h ha hj hcl ho.2) (fun e => by omega) (fun e => by omega) (fun _ => k_o7x_ok (b := true) h ha hcl ho.1) (fun e => by omega) (fun e => by omega)
  | 3, ho, hf =>
    have ho : (k_o7x S c false && k_off S.1 c 477 477) = true := ho
    simp only [Bool.and_eq_true] at ho
    exact hf.ag (fun e => by omega) (fun _ i _ => ⟨k477 ho.2 _, k477 ho.2 _, k477 ho.2 _⟩) (fun _ => k_o7x_ok (b := false) h ha hcl ho.1) (fun e => by omega) (fun e => by omega) (fun e => by omega)
  | 4, ho, hf =>
    have ho : k_o7v S c s = true := ho
    exact hf.ag (fun _ => k_o7v_ok h ha hj hcl ho) (fun e => by omega) (fun e => by omega) (fun e => by omega) (fun e => by omega) (fun e => by omega)
  | 5, ho, hf =>
    have ho : (k_o7x S c false && (k_o7v S c s && k_o7d S c s)) = true := ho
    simp only [Bool.and_eq_true] at ho
    exact hf.ag (fun _ => k_o7v_ok h ha hj hcl ho.2.1) (fun e => by omega) (fun _ => k_o7x_ok (b := false) h ha hcl ho.1) (fun e => by omega) (fun _ => k_o7d_ok h ha hj hcl ho.2.2) (fun e => by omega)
  | _ + 6, _, hf => exact hf.elim
/-- a row's end written -/
theorem k_ren_ok (h : kRS N σ S M) (ha : a = 450) (hj : (j : Int) = k_ev σ s) (hcl : M[a]? = some cl) (hjl : j < cl.2.length) (hw : kNum w (k_ev σ v)) (hk : k_r8k s = true) (h0 : 0 ≤ k_ev σ (k_r8 s)) : kVend M (pm_put M a j cl w) (k_ev σ (k_r8 s)).toNat (k_ev σ v) := by
  subst ha
  have e := k_eq_ok (σ := σ) hk
  rw [k_ev_add, k_ev_mul, k_ev_c] at e
  have ej : j = 0 + (26 * (k_ev σ (k_r8 s)).toNat + 8) := by omega
  refine ⟨?_, fun i hi => k_gi_put_ne hcl (by omega), fun i => k_gi_put_ne hcl (by omega), fun i => k_gi_put_ne hcl (by omega)⟩
  rw [← ej]
  exact k_gi_put hcl hjl hw
theorem k_t74_ok (h : kRS N σ S M) (ha : (a : Int) = k_ev σ c) (hj : (j : Int) = k_ev σ s) (hcl : M[a]? = some cl) (hjl : j < cl.2.length) (hw : kNum w (k_ev σ v)) (hq : q ∈ S.2.2.2) {f : Int} {d : kE} (hf : kFmt M 4 f (k_ev σ d) (k_ev σ q.1.2) (k_ev σ q.2)) : ∀ q' ∈ k_t74 S c s v q d, q'.1 = q.1 ∧ kSc S.1.length q'.2 ∧ kFmt (pm_put M a j cl w) 4 f (k_ev σ d) (k_ev σ q'.1.2) (k_ev σ q'.2) := by
  have sc := h.2.2.2.2.2.2.2 q hq
  intro q' hq'
  unfold k_t74 at hq'
  cases c1 : k_is c 450 with
  | false =>
    rw [c1, cond_false] at hq'
    cases hq'
  | true =>
    rw [c1, cond_true] at hq'
    have c1 := k_is_ev (σ := σ) c1
    have ea : a = 450 := by omega
    obtain ⟨k, hk, h16, hl⟩ := hf
    cases c2 : k_geS S (k_sub s (k_mul 26 q.1.2)) with
    | true =>
      rw [c2, cond_true] at hq'
      rcases List.mem_singleton.mp hq' with rfl
      have c2 := k_ge_ok h.2.1 h.2.2.1 c2
      rw [k_ev_sub, k_ev_mul] at c2
      refine ⟨rfl, sc.2.2, k, hk, h16, ?_⟩
      have hv : ∀ i : Nat, i < k → k_gi (pm_put M a j cl w) 450 (0 + (26 * i + 0)) = k_gi M 450 (0 + (26 * i + 0)) ∧ k_gi (pm_put M a j cl w) 450 (0 + (26 * i + 7)) = k_gi M 450 (0 + (26 * i + 7)) ∧ k_gi (pm_put M a j cl w) 450 (0 + (26 * i + 8)) = k_gi M 450 (0 + (26 * i + 8)) := fun i hi => ⟨k_gi_put_ne hcl (by omega), k_gi_put_ne hcl (by omega), k_gi_put_ne hcl (by omega)⟩
      rw [kVla.ot hv k (Nat.le_refl _)]
      exact hl
    | false =>
      rw [c2, cond_false] at hq'
      cases c3 : (k_r8k s && (k_eqS S (k_r8 s) q.2 && (k_eqS S d v && (k_geS S (k_r8 s) && (k_geS S v && k_inv S q.1.2))))) with
      | false =>
        rw [c3, cond_false] at hq'
        cases hq'
      | true =>
        rw [c3, cond_true] at hq'
        rcases List.mem_singleton.mp hq' with rfl
        simp only [Bool.and_eq_true] at c3
        obtain ⟨d1, d2, d3, d4, d5, d6⟩ := c3
        have d2 := k_eqv_ok h.2.1 h.2.2.1 d2
        have d3 := k_eqv_ok h.2.1 h.2.2.1 d3
        have d4 := k_ge_ok h.2.1 h.2.2.1 d4
        obtain ⟨t, hi⟩ := k_inv_ok h d6
        have ve := k_ren_ok h ea hj hcl hjl hw d1 d4
        have d5 := k_ge_ok h.2.1 h.2.2.1 d5
        refine ⟨rfl, kSc_c, k, hk, h16, ?_⟩
        show kVla (pm_put M a j cl w) f (k_ev σ d) k = k_ev σ (kc (-1))
        rw [d3, k_ev_c]
        rw [d3, ← d2, ← Int.toNat_of_nonneg d4] at hl
        rw [← hk] at hi
        exact ve.la d5 hi (Int.le_refl _) hl
theorem k_gro_ok (h : kRS N σ S M) {b : Bool} {n v : kE} {k : Nat} (hk : (k : Int) = k_ev σ n) (hg : k_gro S b n v = true) : ∃ f a y : Int, k_gi M (cond b 199 18) k = some f ∧ k_gi M (cond b 450 477) (cond b 0 300 + (26 * k + 0)) = some f ∧ k_gi M (cond b 240 59) k = some a ∧ k_gi M (cond b 450 477) (cond b 0 300 + (26 * k + 7)) = some a ∧ k_gi M (cond b 450 477) (cond b 0 300 + (26 * k + 8)) = some y ∧ ((k_ev σ v = y ∧ 0 ≤ k_ev σ v) ∨ (k_ev σ v = -3 ∧ y = -1)) := by
  unfold k_gro at hg
  split at hg
  · cases hg
  · rename_i p0 h0
    split at hg
    · cases hg
    · rename_i p7 h7
      split at hg
      · cases hg
      · rename_i p8 h8
        split at hg
        · cases hg
        · rename_i r0 g0
          split at hg
          · cases hg
          · rename_i r7 g7
            simp only [Bool.and_eq_true] at hg
            obtain ⟨e0, e7, e8⟩ := hg
            have e0 := k_eqv_ok h.2.1 h.2.2.1 e0
            have e7 := k_eqv_ok h.2.1 h.2.2.1 e7
            have e8 := k_ul_ok h e8
            have c0 := k_c7_ok (o := 0) h hk h0
            have c7 := k_c7_ok (o := 7) h hk h7
            have c8 := k_c7_ok (o := 8) h hk h8
            cases b with
            | true =>
              have x0 := (k_cfv_ok h (V := 199) (by omega) g0).2.2.2
              have x7 := (k_cfv_ok h (V := 240) (by omega) g7).2.2.2
              rw [← hk, Int.toNat_natCast, ← e0] at x0
              rw [← hk, Int.toNat_natCast, ← e7] at x7
              exact ⟨_, _, _, x0, c0, x7, c7, c8, e8⟩
            | false =>
              have x0 := (k_cfv_ok h (V := 18) (by omega) g0).2.2.2
              have x7 := (k_cfv_ok h (V := 59) (by omega) g7).2.2.2
              rw [← hk, Int.toNat_natCast, ← e0] at x0
              rw [← hk, Int.toNat_natCast, ← e7] at x7
              exact ⟨_, _, _, x0, c0, x7, c7, c8, e8⟩
theorem k_isx_ok {b : Bool} {c : kE} (ha : (a : Int) = k_ev σ c) (hx : k_isx c b = true) : a = cond b 199 18 ∨ a = cond b 240 59 ∨ a = cond b 241 60 := by
  cases b with
  | true =>
    have hx : (k_is c 199 || (k_is c 240 || k_is c 241)) = true := hx
    simp only [Bool.or_eq_true] at hx
    show a = 199 ∨ a = 240 ∨ a = 241
    rcases hx with hx | hx | hx
    · have := k_is_ev (σ := σ) hx
      omega
    · have := k_is_ev (σ := σ) hx
      omega
    · have := k_is_ev (σ := σ) hx
      omega
  | false =>
    have hx : (k_is c 18 || (k_is c 59 || k_is c 60)) = true := hx
    simp only [Bool.or_eq_true] at hx
    show a = 18 ∨ a = 59 ∨ a = 60
    rcases hx with hx | hx | hx
    · have := k_is_ev (σ := σ) hx
      omega
    · have := k_is_ev (σ := σ) hx
      omega
    · have := k_is_ev (σ := σ) hx
      omega
/-- rows that grow alike: 2 (b), 3 -/
def kGrw (M : pM) (b : Bool) (x : Int) : Prop := ∀ i : Nat, i < 16 → (i : Int) < x → kVeq M (cond b kXk kXn) (cond b 450 477) (cond b 0 300) (-1) 0 i
theorem k_t7g_ok (h : kRS N σ S M) (ha : (a : Int) = k_ev σ c) (hj : (j : Int) = k_ev σ s) (hcl : M[a]? = some cl) (hjl : j < cl.2.length) (hw : kNum w (k_ev σ v)) (hq : q ∈ S.2.2.2) {b : Bool} (hf : kGrw M b (k_ev σ q.1.2)) : ∀ q' ∈ k_t7g S c s v q b, q'.1.1 = q.1.1 ∧ kSc S.1.length q'.1.2 ∧ q'.2 = q.2 ∧ kGrw (pm_put M a j cl w) b (k_ev σ q'.1.2) := by
  have sc := h.2.2.2.2.2.2.2 q hq
  intro q' hq'
  unfold k_t7g at hq'
  cases c1 : (k_isx c b && k_geS S (k_sub s q.1.2)) with
  | false =>
    rw [c1, cond_false] at hq'
    cases hq'
  | true =>
    rw [c1, cond_true] at hq'
    obtain ⟨x1, x2⟩ := Bool.and_eq_true_iff.mp c1
    have x1 := k_isx_ok ha x1
    have x2 := k_ge_ok h.2.1 h.2.2.1 x2
    rw [k_ev_sub] at x2
    have ne : ∀ {y i : Nat}, ¬ (y = a ∧ i = j) → k_gi (pm_put M a j cl w) y i = k_gi M y i := fun hne => k_gi_put_ne hcl hne
    have keep : kGrw (pm_put M a j cl w) b (k_ev σ q.1.2) := fun i hi hs => by
      refine (hf i hi hs).ag ?_ ?_
      · cases b with
        | true => exact ⟨ne (y := 199) (by omega), ne (y := 240) (by omega), ne (y := 241) (by omega)⟩
        | false => exact ⟨ne (y := 18) (by omega), ne (y := 59) (by omega), ne (y := 60) (by omega)⟩
      · cases b with
        | true =>
          have x1 : a = 199 ∨ a = 240 ∨ a = 241 := x1
          exact ⟨ne (y := 450) (by omega), ne (y := 450) (by omega), ne (y := 450) (by omega)⟩
        | false =>
          have x1 : a = 18 ∨ a = 59 ∨ a = 60 := x1
          exact ⟨ne (y := 477) (by omega), ne (y := 477) (by omega), ne (y := 477) (by omega)⟩
    cases c2 : (k_is c (cond b 241 60) && (k_eqS S s q.1.2 && (k_geS S (k_sub (kc 15) q.1.2) && k_gro S b q.1.2 v))) with
    | false =>
      rw [c2, cond_false] at hq'
      rcases List.mem_singleton.mp hq' with rfl
      exact ⟨rfl, sc.2.1, rfl, keep⟩
    | true =>
      rw [c2, cond_true] at hq'
      rcases List.mem_cons.mp hq' with rfl | hq'
      · exact ⟨rfl, sc.2.1, rfl, keep⟩
      · rcases List.mem_singleton.mp hq' with rfl
        simp only [Bool.and_eq_true] at c2
        obtain ⟨y1, y2, y3, y4⟩ := c2
        have y1 := k_is_ev (σ := σ) y1
        have y2 := k_eqv_ok h.2.1 h.2.2.1 y2
        have y3 := k_ge_ok h.2.1 h.2.2.1 y3
        rw [k_ev_sub, k_ev_c] at y3
        have hk : (j : Int) = k_ev σ q.1.2 := by omega
        refine ⟨rfl, kSc_add sc.2.1 kSc_c, rfl, fun i hi hs => ?_⟩
        have hs : (i : Int) < k_ev σ (k_add q.1.2 (kc 1)) := hs
        rw [k_ev_add, k_ev_c] at hs
        by_cases e : i = j
        · subst e
          obtain ⟨f, y, u, g1, g2, g3, g4, g5, g6⟩ := k_gro_ok h hk y4
          have eq : k_gi (pm_put M a i cl w) a i = some (k_ev σ v) := k_gi_put hcl hjl hw
          have dn : decide ((i : Int) = -1) = false := decide_eq_false (by omega)
          cases b with
          | true =>
            have y1 : k_ev σ c = 241 := y1
            have ea : a = 241 := by omega
            subst ea
            exact ⟨f, y, k_ev σ v, u, (ne (y := 199) (by omega)).trans g1, (ne (y := 450) (by omega)).trans g2, (ne (y := 240) (by omega)).trans g3, (ne (y := 450) (by omega)).trans g4, eq, (ne (y := 450) (by omega)).trans g5, by rw [dn, cond_false]; exact g6⟩
          | false =>
            have y1 : k_ev σ c = 60 := y1
            have ea : a = 60 := by omega
            subst ea
            exact ⟨f, y, k_ev σ v, u, (ne (y := 18) (by omega)).trans g1, (ne (y := 477) (by omega)).trans g2, (ne (y := 59) (by omega)).trans g3, (ne (y := 477) (by omega)).trans g4, eq, (ne (y := 477) (by omega)).trans g5, by rw [dn, cond_false]; exact g6⟩
        · exact keep i hi (by omega)
theorem k_no1_ok (h : kRS N σ S M) {l : List (kE × kE)} {r : kE × kE} (hr : k_no1 S l = some r) : r ∈ l ∧ k_ev σ r.2 = -1 := by
  unfold k_no1 at hr
  have p := List.find?_some hr
  have p : k_wq (k_nv S.1 r.2) (kc (-1)) = true := p
  exact ⟨List.mem_of_find?_eq_some hr, k_nvc h p⟩
theorem k_me_ok {M' : pM} {g : Int} {f n : kE} (sf : kSc S.1.length f) (sn : kSc S.1.length n) (hp : kVpe M' (k_ev σ n) (g + 4 * k_ev σ f)) : (kSc S.1.length (k_me g f n).1.1 ∧ kSc S.1.length (k_me g f n).1.2 ∧ kSc S.1.length (k_me g f n).2) ∧ kHas N M' (k_ev σ (k_me g f n).1.1) (k_ev σ (k_me g f n).1.2) (k_ev σ (k_me g f n).2) := by
  refine ⟨⟨kSc_c, sn, kSc_add kSc_c (kSc_mul sf)⟩, ?_⟩
  show kHas N M' (k_ev σ (kc (-767))) (k_ev σ n) (k_ev σ (k_add (kc g) (k_mul 4 f)))
  rw [k_ev_c, k_ev_add, k_ev_c, k_ev_mul]
  exact kHas_f5 hp
theorem kVpe.of {M' : pM} {g f t n : Int} {k : Nat} (hk : (k : Int) = n) (hp : kVpd M' g f t k) : kVpe M' n (g + 4 * f) := Or.inr ⟨g, f, t, k, rfl, hk, hp⟩
theorem k_t70_ok (h : kRS N σ S M) (ha : (a : Int) = k_ev σ c) (hj : (j : Int) = k_ev σ s) (hcl : M[a]? = some cl) (hjl : j < cl.2.length) (hw : kNum w (k_ev σ v)) (hq : q ∈ S.2.2.2) (hn : k_ev σ q.1.1 < 0) (hF : ∀ (M' : pM) (x y : Int), kHas N M' (k_ev σ q.1.1) x y ↔ kVfs M' kXn 450 0 444 x) {d : kE} (hd : k_day S = some d) (h0 : 0 ≤ k_ev σ d) : ∀ q' ∈ k_t70 S c s v q d, (kSc S.1.length q'.1.1 ∧ kSc S.1.length q'.1.2 ∧ kSc S.1.length q'.2) ∧ kHas N (pm_put M a j cl w) (k_ev σ q'.1.1) (k_ev σ q'.1.2) (k_ev σ q'.2) := by
  have sc := h.2.2.2.2.2.2.2 q hq
  have old := (hF M _ _).mp (h.2.2.2.2.1 q hq)
  have ne : ∀ {y i : Nat}, ¬ (y = a ∧ i = j) → k_gi (pm_put M a j cl w) y i = k_gi M y i := fun hne => k_gi_put_ne hcl hne
  have eq : k_gi (pm_put M a j cl w) a j = some (k_ev σ v) := k_gi_put hcl hjl hw
  obtain ⟨sd, td⟩ := k_day_ok h hd
  intro q' hq'
  unfold k_t70 at hq'
  cases c1 : k_is c 444 with
  | true =>
    rw [c1, cond_true] at hq'
    have c1 := k_is_ev (σ := σ) c1
    have ea : a = 444 := by omega
    subst ea
    cases c2 : (k_wq (k_nv S.1 s) (kc 0) && k_geS S (k_sub v d)) with
    | false =>
      rw [c2, cond_false] at hq'
      cases hq'
    | true =>
      rw [c2, cond_true] at hq'
      rcases List.mem_singleton.mp hq' with rfl
      obtain ⟨x1, x2⟩ := Bool.and_eq_true_iff.mp c2
      have x1 := k_nvc h x1
      have x2 := k_ge_ok h.2.1 h.2.2.1 x2
      rw [k_ev_sub] at x2
      have ej : j = 0 := by omega
      subst ej
      refine ⟨sc, (hF _ _ _).mpr ?_⟩
      obtain ⟨o1, t, o2, o3⟩ := old
      rw [td] at o2
      cases o2
      have av : kAgV M (pm_put M 444 0 cl w) 450 0 := fun i _ => ⟨ne (y := 450) (by omega), ne (y := 450) (by omega), ne (y := 450) (by omega)⟩
      exact ⟨fun i hi => (o1 i hi).ag ⟨ne (y := 18) (by omega), ne (y := 59) (by omega), ne (y := 60) (by omega)⟩ (av i hi), k_ev σ v, eq, (o3.ag av).day (by omega)⟩
  | false =>
    rw [c1, cond_false] at hq'
    cases c2 : k_isx c false with
    | false =>
      rw [c2, cond_false] at hq'
      cases hq'
    | true =>
      rw [c2, cond_true] at hq'
      have c2 : a = 18 ∨ a = 59 ∨ a = 60 := k_isx_ok (b := false) ha c2
      split at hq'
      · rename_i r hr
        obtain ⟨x1, hr⟩ := pm_cs hr
        rcases List.mem_singleton.mp hq' with rfl
        obtain ⟨x1, x2⟩ := Bool.and_eq_true_iff.mp x1
        have x1 := k_is_ev (σ := σ) x1
        have x2 := k_eqv_ok h.2.1 h.2.2.1 x2
        have hm := List.mem_of_find?_eq_some hr
        have pf := List.find?_some hr
        have pf : (k_eqS S r.2 s && k_geS S r.2) = true := pf
        obtain ⟨y1, y2⟩ := Bool.and_eq_true_iff.mp pf
        have y1 := k_eqv_ok h.2.1 h.2.2.1 y1
        have y2 := k_ge_ok h.2.1 h.2.2.1 y2
        obtain ⟨⟨s1, s2⟩, k, hk, h16, hl⟩ := k_lst_ok h hm
        have ea : a = 60 := by omega
        subst ea
        rw [y1, ← hj] at hl
        refine k_me_ok s1 sc.2.1 (kVpe.of hk (old.pdx (a := j) hk td h0 hl ?_ (fun i hi => ne (y := 60) (by omega)) (fun y i hy => ne (by omega))))
        rw [← x2]
        exact eq
      · split at hq'
        · rename_i r hr
          obtain ⟨hm, y1⟩ := k_no1_ok h hr
          obtain ⟨⟨s1, s2⟩, k, hk, h16, hl⟩ := k_lst_ok h hm
          cases c3 : (k_eqS S s q.1.2 && k_geS S (k_sub (kc 15) q.1.2)) with
          | false =>
            rw [c3, cond_false] at hq'
            cases hq'
          | true =>
            rw [c3, cond_true] at hq'
            rcases List.mem_singleton.mp hq' with rfl
            obtain ⟨x1, x2⟩ := Bool.and_eq_true_iff.mp c3
            have x1 := k_eqv_ok h.2.1 h.2.2.1 x1
            have ek : k = j := by omega
            subst ek
            rw [y1] at hl
            exact k_me_ok s1 sc.2.1 (kVpe.of hk ((old.pd hk td h0 hl).any (Or.inl rfl) (fun i hi => ⟨ne (y := 18) (by omega), ne (y := 59) (by omega), ne (y := 60) (by omega)⟩) (fun i _ => ⟨ne (y := 450) (by omega), ne (y := 450) (by omega), ne (y := 450) (by omega)⟩) (ne (y := 444) (by omega))))
        · cases hq'
theorem k_rwn_ok (h : kRS N σ S M) {n f d : kE} {k : Nat} (hk : (k : Int) = k_ev σ n) (hr : k_rwn S n f d = true) : k_gi M 18 k = some (k_ev σ f) ∧ k_gi M 59 k = some (k_ev σ d) := by
  unfold k_rwn at hr
  split at hr
  · cases hr
  · rename_i r0 h0
    split at hr
    · cases hr
    · rename_i r7 h7
      obtain ⟨e0, e7⟩ := Bool.and_eq_true_iff.mp hr
      have e0 := k_eqv_ok h.2.1 h.2.2.1 e0
      have e7 := k_eqv_ok h.2.1 h.2.2.1 e7
      have x0 := (k_cfv_ok h (V := 18) (by omega) h0).2.2.2
      have x7 := (k_cfv_ok h (V := 59) (by omega) h7).2.2.2
      rw [← hk, Int.toNat_natCast, e0] at x0
      rw [← hk, Int.toNat_natCast, e7] at x7
      exact ⟨x0, x7⟩
theorem k_cn7_ok (h : kRS N σ S M) {n f d : kE} {k : Nat} (hk : (k : Int) = k_ev σ n) (hr : k_cn7 S n f d = true) : k_gi M 450 (0 + (26 * k + 0)) = some (k_ev σ f) ∧ k_gi M 450 (0 + (26 * k + 7)) = some (k_ev σ d) := by
  unfold k_cn7 at hr
  split at hr
  · cases hr
  · rename_i r0 h0
    split at hr
    · cases hr
    · rename_i r7 h7
      obtain ⟨e0, e7⟩ := Bool.and_eq_true_iff.mp hr
      have e0 := k_eqv_ok h.2.1 h.2.2.1 e0
      have e7 := k_eqv_ok h.2.1 h.2.2.1 e7
      have x0 : k_gi M 450 (0 + (26 * k + 0)) = some (k_ev σ r0) := k_c7_ok (o := 0) (b := false) h hk h0
      have x7 : k_gi M 450 (0 + (26 * k + 7)) = some (k_ev σ r7) := k_c7_ok (o := 7) (b := false) h hk h7
      rw [e0] at x0
      rw [e7] at x7
      exact ⟨x0, x7⟩
theorem k_t75_ok (h : kRS N σ S M) (ha : (a : Int) = k_ev σ c) (hj : (j : Int) = k_ev σ s) (hcl : M[a]? = some cl) (hjl : j < cl.2.length) (hw : kNum w (k_ev σ v)) (hq : q ∈ S.2.2.2) (hF : ∀ (M' : pM) (x y : Int), kHas N M' (k_ev σ q.1.1) x y ↔ kVpe M' x y) {d : kE} (hd : k_day S = some d) {g : Nat} {f : kE} (hp : (g = 0 ∧ k_ev σ q.2 = 0) ∨ ((1 ≤ g ∧ g ≤ 3) ∧ kSc S.1.length f ∧ k_ev σ q.2 = (g : Int) + 4 * k_ev σ f)) : ∀ q' ∈ k_t75 S c s v q d g f, (kSc S.1.length q'.1.1 ∧ kSc S.1.length q'.1.2 ∧ kSc S.1.length q'.2) ∧ kHas N (pm_put M a j cl w) (k_ev σ q'.1.1) (k_ev σ q'.1.2) (k_ev σ q'.2) := by
  have sc := h.2.2.2.2.2.2.2 q hq
  have old := (hF M _ _).mp (h.2.2.2.2.1 q hq)
  have ne : ∀ {y i : Nat}, ¬ (y = a ∧ i = j) → k_gi (pm_put M a j cl w) y i = k_gi M y i := fun hne => k_gi_put_ne hcl hne
  have eq : k_gi (pm_put M a j cl w) a j = some (k_ev σ v) := k_gi_put hcl hjl hw
  obtain ⟨sd, td⟩ := k_day_ok h hd
  intro q' hq'
  unfold k_t75 at hq'
  cases c0 : Nat.beq g 0 with
  | true =>
    rw [c0, cond_true] at hq'
    cases hq'
  | false =>
    rw [c0, cond_false] at hq'
    have g0 : g ≠ 0 := fun e => by
      rw [e] at c0
      exact absurd c0 (by decide)
    obtain ⟨⟨g1, g3⟩, sf, ev⟩ := hp.resolve_left (fun e => g0 e.1)
    rw [ev] at old
    obtain ⟨t, k, hk, pd⟩ := kVpe.pd old (by omega) (by omega)
    have ht : t = k_ev σ d := by
      have e := pd.1
      rw [td] at e
      exact (Option.some.inj e).symm
    subst ht
    cases c1 : k_isx c false with
    | true =>
      rw [c1, cond_true] at hq'
      have c1 : a = 18 ∨ a = 59 ∨ a = 60 := k_isx_ok (b := false) ha c1
      cases c2 : (Nat.beq g 1 || !(k_eqS S s q.1.2 && k_geS S (k_sub (kc 15) q.1.2))) with
      | true =>
        rw [c2, cond_true] at hq'
        cases hq'
      | false =>
        rw [c2, cond_false] at hq'
        obtain ⟨x1, x2⟩ := Bool.or_eq_false_iff.mp c2
        have x2 : (k_eqS S s q.1.2 && k_geS S (k_sub (kc 15) q.1.2)) = true := by
          cases e : (k_eqS S s q.1.2 && k_geS S (k_sub (kc 15) q.1.2)) with
          | true => rfl
          | false =>
            rw [e] at x2
            cases x2
        have ng : g ≠ 1 := fun e => by
          rw [e] at x1
          exact absurd x1 (by decide)
        obtain ⟨x2, x3⟩ := Bool.and_eq_true_iff.mp x2
        have x2 := k_eqv_ok h.2.1 h.2.2.1 x2
        have ek : k = j := by omega
        subst ek
        have p3 : kVpd (pm_put M a k cl w) 3 (k_ev σ f) (k_ev σ d) k := pd.any (by omega) (fun i hi => ⟨ne (y := 18) (by omega), ne (y := 59) (by omega), ne (y := 60) (by omega)⟩) (fun i _ => ⟨ne (y := 450) (by omega), ne (y := 450) (by omega), ne (y := 450) (by omega)⟩) (ne (y := 444) (by omega))
        cases c3 : (k_is c 60 && (k_wq (k_nv S.1 v) (kc (-3)) && k_rwn S q.1.2 f d)) with
        | false =>
          rw [c3, cond_false] at hq'
          rcases List.mem_singleton.mp hq' with rfl
          exact k_me_ok sf sc.2.1 (kVpe.of hk p3)
        | true =>
          rw [c3, cond_true] at hq'
          rcases List.mem_singleton.mp hq' with rfl
          simp only [Bool.and_eq_true] at c3
          obtain ⟨y1, y2, y3⟩ := c3
          have y1 := k_is_ev (σ := σ) y1
          have y2 := k_nvc h y2
          obtain ⟨z1, z2⟩ := k_rwn_ok h hk y3
          have ea : a = 60 := by omega
          subst ea
          rw [y2] at eq
          exact k_me_ok sf sc.2.1 (kVpe.of hk (p3.row ((ne (y := 18) (by omega)).trans z1) ((ne (y := 59) (by omega)).trans z2) eq))
    | false =>
      rw [c1, cond_false] at hq'
      cases c2 : (k_is c 450 && !(Nat.beq g 3)) with
      | false =>
        rw [c2, cond_false] at hq'
        cases hq'
      | true =>
        rw [c2, cond_true] at hq'
        obtain ⟨x1, x2⟩ := Bool.and_eq_true_iff.mp c2
        have x1 := k_is_ev (σ := σ) x1
        have ea : a = 450 := by omega
        subst ea
        have no : ∀ y i : Nat, y ≠ 450 → k_gi (pm_put M 450 j cl w) y i = k_gi M y i := fun y i hy => ne (by omega)
        have stay : kVpd (pm_put M 450 j cl w) (g : Int) (k_ev σ f) (k_ev σ d) k → ∀ q' ∈ [q], (kSc S.1.length q'.1.1 ∧ kSc S.1.length q'.1.2 ∧ kSc S.1.length q'.2) ∧ kHas N (pm_put M 450 j cl w) (k_ev σ q'.1.1) (k_ev σ q'.1.2) (k_ev σ q'.2) := fun hp' q' hq' => by
          rcases List.mem_singleton.mp hq' with rfl
          refine ⟨sc, (hF _ _ _).mpr ?_⟩
          rw [ev]
          exact kVpe.of hk hp'
        cases c3 : (k_r8k s && (k_eqS S v d && (k_geS S (k_r8 s) && (k_lst S d q.1.2).any (fun r => k_eqS S r.1 f && k_eqS S r.2 (k_r8 s))))) with
        | true =>
          rw [c3, cond_true] at hq'
          simp only [Bool.and_eq_true] at c3
          obtain ⟨y1, y2, y3, y4⟩ := c3
          have y2 := k_eqv_ok h.2.1 h.2.2.1 y2
          have y3 := k_ge_ok h.2.1 h.2.2.1 y3
          obtain ⟨r, hr, y4⟩ := List.any_eq_true.mp y4
          obtain ⟨z1, z2⟩ := Bool.and_eq_true_iff.mp y4
          have z1 := k_eqv_ok h.2.1 h.2.2.1 z1
          have z2 := k_eqv_ok h.2.1 h.2.2.1 z2
          obtain ⟨-, k', hk', h16, hl⟩ := k_lst_ok h hr
          have ek : k' = k := by omega
          subst ek
          rw [z1, z2, ← Int.toNat_of_nonneg y3] at hl
          have ve := k_ren_ok h rfl hj hcl hjl hw y1 y3
          rw [y2] at ve
          exact stay (pd.clo hl ve no) q' hq'
        | false =>
          rw [c3, cond_false] at hq'
          cases c4 : (Nat.beq g 1 && (k_geS S (k_sub (kc 15) q.1.2) && (k_geS S (k_sub s (k_mul 26 q.1.2)) && k_geS S (k_sub (k_add (k_mul 26 q.1.2) (kc 25)) s)))) with
          | false =>
            rw [c4, cond_false] at hq'
            cases hq'
          | true =>
            rw [c4, cond_true] at hq'
            simp only [Bool.and_eq_true] at c4
            obtain ⟨y1, y2, y3, y4⟩ := c4
            have y1 := pm_beq y1
            have y2 := k_ge_ok h.2.1 h.2.2.1 y2
            have y3 := k_ge_ok h.2.1 h.2.2.1 y3
            have y4 := k_ge_ok h.2.1 h.2.2.1 y4
            rw [k_ev_sub, k_ev_c] at y2
            rw [k_ev_sub, k_ev_mul] at y3
            rw [k_ev_sub, k_ev_add, k_ev_mul, k_ev_c] at y4
            subst y1
            have pd0 : kVpd M 1 (k_ev σ f) (k_ev σ d) k := pd
            have pd1 : kVpd (pm_put M 450 j cl w) 1 (k_ev σ f) (k_ev σ d) k := kVpd.ot pd0 no (fun i hi => ⟨ne (y := 450) (by omega), ne (y := 450) (by omega), ne (y := 450) (by omega)⟩)
            cases c5 : (k_eq s (k_add (k_mul 26 q.1.2) (kc 8)) && (k_wq (k_nv S.1 v) (kc (-1)) && ((k_lst S d q.1.2).any (fun r => k_eqS S r.1 f && k_wq (k_nv S.1 r.2) (kc (-1))) && k_cn7 S q.1.2 f d))) with
            | false =>
              rw [c5, cond_false] at hq'
              exact stay pd1 q' hq'
            | true =>
              rw [c5, cond_true] at hq'
              rcases List.mem_singleton.mp hq' with rfl
              simp only [Bool.and_eq_true] at c5
              obtain ⟨z1, z2, z3, z4⟩ := c5
              have z1 := k_eq_ok (σ := σ) z1
              rw [k_ev_add, k_ev_mul, k_ev_c] at z1
              have z2 := k_nvc h z2
              obtain ⟨r, hr, z3⟩ := List.any_eq_true.mp z3
              obtain ⟨u1, u2⟩ := Bool.and_eq_true_iff.mp z3
              have u1 := k_eqv_ok h.2.1 h.2.2.1 u1
              have u2 := k_nvc h u2
              obtain ⟨-, k', hk', h16, hl⟩ := k_lst_ok h hr
              have ek : k' = k := by omega
              subst ek
              rw [u1, u2] at hl
              obtain ⟨v0, v7⟩ := k_cn7_ok h hk z4
              have ej : j = 0 + (26 * k' + 8) := by omega
              rw [z2] at eq
              have hl' : kVla (pm_put M 450 j cl w) (k_ev σ f) (k_ev σ d) k' = -1 := by
                have hv : ∀ i : Nat, i < k' → k_gi (pm_put M 450 j cl w) 450 (0 + (26 * i + 0)) = k_gi M 450 (0 + (26 * i + 0)) ∧ k_gi (pm_put M 450 j cl w) 450 (0 + (26 * i + 7)) = k_gi M 450 (0 + (26 * i + 7)) ∧ k_gi (pm_put M 450 j cl w) 450 (0 + (26 * i + 8)) = k_gi M 450 (0 + (26 * i + 8)) := fun i hi => ⟨ne (y := 450) (by omega), ne (y := 450) (by omega), ne (y := 450) (by omega)⟩
                rw [kVla.ot hv k' (Nat.le_refl _)]
                exact hl
              refine ⟨⟨kSc_c, kSc_add sc.2.1 kSc_c, kSc_c⟩, ?_⟩
              show kHas N _ (k_ev σ (kc (-127))) (k_ev σ (k_add q.1.2 (kc 1))) (k_ev σ (kc 0))
              rw [k_ev_c, k_ev_add, k_ev_c, ← hk]
              refine kHas_f0 (kVpd.new pd1 (by omega) hl' ((ne (y := 450) (by omega)).trans v0) ((ne (y := 450) (by omega)).trans v7) ?_)
              rw [← ej]
              exact eq
theorem k_vty_ok (h : kRS N σ S M) (ha : (a : Int) = k_ev σ c) (hj : (j : Int) = k_ev σ s) (hcl : M[a]? = some cl) (hjl : j < cl.2.length) (hw : kNum w (k_ev σ v)) (hq : q ∈ S.2.2.2) (hn : k_ev σ q.1.1 < 0) : ∀ q' ∈ k_vty S c s v q, (kSc S.1.length q'.1.1 ∧ kSc S.1.length q'.1.2 ∧ kSc S.1.length q'.2) ∧ kHas N (pm_put M a j cl w) (k_ev σ q'.1.1) (k_ev σ q'.1.2) (k_ev σ q'.2) := by
  have sc := h.2.2.2.2.2.2.2 q hq
  intro q' hq'
  unfold k_vty at hq'
  split at hq'
  · rename_i z hz
    obtain ⟨⟨s1, s2⟩, hF⟩ := k_v7_ok h sc.1 hn hz
    have old := (hF M _ _).mp (h.2.2.2.2.1 q hq)
    unfold k_t7 at hq'
    cases c0 : k_o7 S c s z.1 with
    | true =>
      rw [c0, cond_true] at hq'
      rcases List.mem_singleton.mp hq' with rfl
      exact ⟨sc, (hF _ _ _).mpr (k_o7_ok h ha hj hcl c0 old)⟩
    | false =>
      rw [c0, cond_false] at hq'
      cases c4 : Nat.beq z.1 4 with
      | true =>
        rw [c4, cond_true] at hq'
        have c4 := pm_beq c4
        rw [c4] at old hF
        obtain ⟨e1, e2, e3⟩ := k_t74_ok h ha hj hcl hjl hw hq old q' hq'
        rw [e1]
        exact ⟨⟨sc.1, sc.2.1, e2⟩, (hF _ _ _).mpr (by rw [← e1]; exact e3)⟩
      | false =>
        rw [c4, cond_false] at hq'
        cases c23 : (Nat.beq z.1 2 || Nat.beq z.1 3) with
        | true =>
          rw [c23, cond_true] at hq'
          have hG : ∀ (M' : pM) (x y : Int), kHas N M' (k_ev σ q.1.1) x y ↔ kGrw M' (Nat.beq z.1 2) x := fun M' x y => by
            rw [hF]
            rcases Bool.or_eq_true_iff.mp c23 with e | e
            · rw [pm_beq e]
              exact Iff.rfl
            · rw [pm_beq e]
              exact Iff.rfl
          obtain ⟨e1, e2, e3, e4⟩ := k_t7g_ok h ha hj hcl hjl hw hq ((hG _ _ _).mp (h.2.2.2.2.1 q hq)) q' hq'
          rw [e1, e3]
          exact ⟨⟨sc.1, e2, sc.2.2⟩, (hG _ _ _).mpr e4⟩
        | false =>
          rw [c23, cond_false] at hq'
          cases c05 : (Nat.beq z.1 0 || Nat.beq z.1 5) with
          | false =>
            rw [c05, cond_false] at hq'
            cases hq'
          | true =>
            rw [c05, cond_true] at hq'
            split at hq'
            · cases hq'
            · rename_i d hd
              cases g0 : k_geS S d with
              | false =>
                rw [g0, cond_false] at hq'
                cases hq'
              | true =>
                rw [g0, cond_true] at hq'
                have g0 := k_ge_ok h.2.1 h.2.2.1 g0
                cases e0 : Nat.beq z.1 0 with
                | true =>
                  rw [e0, cond_true] at hq'
                  have e0 := pm_beq e0
                  rw [e0] at hF
                  exact k_t70_ok h ha hj hcl hjl hw hq hn (fun M' x y => hF M' x y) hd g0 q' hq'
                | false =>
                  rw [e0, cond_false] at hq'
                  have e5 : z.1 = 5 := by
                    rw [e0, Bool.false_or] at c05
                    exact pm_beq c05
                  rw [e5] at hF
                  split at hq'
                  · cases hq'
                  · rename_i p hp
                    exact k_t75_ok h ha hj hcl hjl hw hq (fun M' x y => hF M' x y) hd (k_pen_ok h sc.2.2 hp) q' hq'
  · exact k_vtx_ok h ha hj hcl hjl hw hq hn q' hq'
end KVW
end
