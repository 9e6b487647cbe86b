noncomputable section
/-! the tape's text: what follows from what is known -/
abbrev kGo : Type := Bool × kE × kE × List kE
def k_fitc (S : kS) (i : Nat) (k w : kE) : Bool := cond (Nat.beq i 0) (k_geS S (k_sub w k) && k_geS S (k_sub (kc 400) w)) (k_fiS S (-1) 549755813888 w)
/-- bytes: what comes at a place -/
def k_ch1 (S : kS) (i : Nat) (k : kE) (ws : List kE) : Option kGo := match k_rl S i ws k with
  | none => none
  | some r => cond (Nat.beq r.1 0) (match r.2 with
      | w :: _ => cond (k_fitc S i k w) (some (true, w, w, [])) none
      | [] => none)
    (cond (Nat.beq r.1 1) (match k_tmk S i r.2 with
      | none => none
      | some c => some (false, c, k_add k (kc 1), r.2)) none)
/-- the token behind -/
def k_nx2 (S : kS) (k : kE) : Option kE := match k_ete S k with
  | none => none
  | some e => k_tl S 0 [kc 0] e
/-- the parse: an end (what it says, the fault alone), or the state at the token behind (cell, place, words, what comes besides) -/
abbrev kG2 : Type := (kE × kE) ⊕ (kE × kE × List kE × kE)
def k_lf2 (S : kS) (k a : kE) (r : Nat × List kE) : Option kG2 := cond (Nat.beq r.1 0) (match r.2 with
    | w :: _ => cond (k_fiS S 0 401 w) (some (.inl (k_add (k_add a (k_lww r.2 1)) w, w))) none
    | [] => none)
  (cond (Nat.beq r.1 1) (match k_nx2 S k with
    | none => none
    | some k2 => match k_tmk S 2 (r.2.take 9) with
      | none => none
      | some c => some (.inr (c, k2, r.2.take 9, k_add a (k_lww r.2 9)))) none)
/-- a rule, or what follows besides -/
def k_rd2 (S : kS) (ws : List kE) (k : kE) : Option (Nat × List kE) := match k_rlm S ws k with
  | some r => some r
  | none => k_der S ws k
/-- the states at one place with what came before, and what comes then -/
def k_ch2 (S : kS) (k : kE) : Nat → List kE → kE → List (List kE × kE) × Option kG2
  | 0, ws, a => ([(ws, a)], none)
  | f + 1, ws, a => match k_rd2 S ws k with
    | none => ([(ws, a)], none)
    | some r => cond (Nat.beq r.1 2) ((ws, a) :: (k_ch2 S k f (r.2.take 9) (k_add a (k_lww r.2 9))).1, (k_ch2 S k f (r.2.take 9) (k_add a (k_lww r.2 9))).2) ([(ws, a)], k_lf2 S k a r)
section KTA
variable {N : kN} {σ : Nat → Int} {S : kS} {M : pM}
/-- what one says of a value -/
def kGoP (N : kN) (σ : Nat → Int) (S : kS) (M : pM) (i p : Nat) (x : Int) (g : kGo) : Prop := cond g.1 (kSc S.1.length g.2.1 ∧ k_ev σ g.2.1 = x) (kSc S.1.length g.2.1 ∧ kSc S.1.length g.2.2.1 ∧ (∀ w ∈ g.2.2.2, kSc S.1.length w) ∧ k_ev σ g.2.1 < 0 ∧ (∀ s v : Int, kHas N M (k_ev σ g.2.1) s v ↔ kEn M i (g.2.2.2.map (k_ev σ)) s v) ∧ ((p + 1 : Nat) : Int) = k_ev σ g.2.2.1 ∧ x = kTV (kTt M) i (g.2.2.2.map (k_ev σ)) (p + 1))
theorem k_nx2_ok (h : kRS N σ S M) {k k2 : kE} {p : Nat} (hp4 : p ≤ 400) (hp : (p : Int) = k_ev σ k) (hz : k_nx2 S k = some k2) : kSc S.1.length k2 ∧ ((kMn (kTt M) p : Nat) : Int) = k_ev σ k2 := by
  unfold k_nx2 at hz
  split at hz
  · cases hz
  · rename_i e he
    obtain ⟨e1, e2⟩ := k_ete_ok h hp he
    obtain ⟨a1, a2⟩ := k_tl_ok h (by omega) k_1sc hz
    rw [k_1ev] at a2
    refine ⟨a1, ?_⟩
    have r := (kBv_pl (T := kTt M) (p := p) [1] hp4).1
    have hq : ((k_ev σ e).toNat : Int) = k_ev σ e := Int.toNat_of_nonneg (by omega)
    have a2 : kBv (kTt M) true [0] (k_ev σ e).toNat = k_ev σ k2 := a2.to (by omega) hq
    have r2 : (k_ev σ e).toNat ≤ 400 := by
      have := (kBv_pl (T := kTt M) (p := p) [1] hp4).2
      omega
    have r3 := (kBv_pl (T := kTt M) (p := (k_ev σ e).toNat) [0] r2).1
    unfold kMn
    rw [← e2, a2]
    exact Int.toNat_of_nonneg (by omega)
theorem k_ch1_ok (h : kRS N σ S M) {i : Nat} {k : kE} {p : Nat} (hi : i < 2) (hp4 : p ≤ 400) (hk : kSc S.1.length k) (hp : (p : Int) = k_ev σ k) {ws : List kE} (hs : ∀ w ∈ ws, kSc S.1.length w) {g : kGo} (hg : k_ch1 S i k ws = some g) : kGoP N σ S M i p (kTV (kTt M) i (ws.map (k_ev σ)) p) g := by
  unfold k_ch1 at hg
  split at hg
  · cases hg
  · rename_i r hr
    obtain ⟨b1, b2⟩ := k_rl_ok h hs hk hp hr
    cases c0 : Nat.beq r.1 0 with
    | true =>
      rw [c0, cond_true] at hg
      have c0 := pm_beq c0
      split at hg
      · rename_i w t hw
        obtain ⟨g1, hg⟩ := pm_cs hg
        cases hg
        refine ⟨b1 w (by rw [hw]; exact List.mem_cons_self), ?_⟩
        rw [kTV_0 hp4 (by rw [b2]; exact c0), b2, hw]
        show k_ev σ w = kTc i p (k_ev σ w)
        unfold k_fitc at g1
        unfold kTc
        cases d0 : Nat.beq i 0 with
        | true =>
          rw [d0, cond_true] at g1
          rw [cond_true]
          obtain ⟨g1, g2⟩ := Bool.and_eq_true_iff.mp g1
          have g1 := k_ge_ok h.2.1 h.2.2.1 g1
          have g2 := k_ge_ok h.2.1 h.2.2.1 g2
          rw [k_ev_sub] at g1
          rw [k_ev_sub, k_ev_c] at g2
          rw [kClp_eq (by omega) (by omega)]
        | false =>
          rw [d0, cond_false] at g1
          rw [cond_false]
          have g1 := k_fit_ok h.2.1 h.2.2.1 g1
          rw [kClp_eq g1.1 g1.2]
      · cases hg
    | false =>
      rw [c0, cond_false] at hg
      obtain ⟨c1, hg⟩ := pm_cs hg
      have c1 := pm_beq c1
      split at hg
      · cases hg
      · rename_i c hc
        cases hg
        obtain ⟨m1, m2, m3⟩ := k_tmk_ok h (by omega) b1 hc
        have e := kTV_1 (T := kTt M) (i := i) (ws := ws.map (k_ev σ)) (p := p) hp4 (by rw [b2]; exact c1)
        rw [b2] at e
        exact ⟨m1, kSc_add hk kSc_c, b1, m2, m3, by show ((p + 1 : Nat) : Int) = k_ev σ (k_add k (kc 1)); rw [k_ev_add, k_ev_c]; omega, e⟩
theorem k_tk9 (l : List kE) : (l.take 9).map (k_ev σ) = (l.map (k_ev σ)).take 9 := List.map_take ..
/-- a rule or what follows besides: a step of the parse -/
theorem k_rd2_ok (h : kRS N σ S M) {ws : List kE} {k : kE} {p : Nat} {r : Nat × List kE} (hp4 : p ≤ 400) (hs : ∀ w ∈ ws, kSc S.1.length w) (hk : kSc S.1.length k) (hp : (p : Int) = k_ev σ k) (hr : k_rd2 S ws k = some r) : (∀ w ∈ r.2, kSc S.1.length w) ∧ kSt2 (kTt M) (ws.map (k_ev σ)) p (r.1, r.2.map (k_ev σ)) := by
  unfold k_rd2 at hr
  split at hr
  · rename_i q hq
    cases hr
    obtain ⟨b1, b2⟩ := k_rlm_ok h hp4 hs hk hp hq
    refine ⟨b1, ?_⟩
    rw [← b2]
    exact kSt2_ms _ _ _
  · exact k_der_ok h hp4 hs hk hp hr
/-- what an end, what a state behind says of a state -/
def kG2P (N : kN) (σ : Nat → Int) (S : kS) (M : pM) (p : Nat) (ws0 : List Int) : kG2 → Prop
  | .inl q => kSc S.1.length q.1 ∧ kSc S.1.length q.2 ∧ (0 ≤ k_ev σ q.2 ∧ k_ev σ q.2 ≤ 401) ∧ ∀ v, kMw (kTt M) ws0 p v ↔ v = k_ev σ q.1
  | .inr q => kSc S.1.length q.1 ∧ kSc S.1.length q.2.1 ∧ (∀ w ∈ q.2.2.1, kSc S.1.length w) ∧ kSc S.1.length q.2.2.2 ∧ k_ev σ q.1 < 0 ∧ (∀ s v : Int, kHas N M (k_ev σ q.1) s v ↔ kEn M 2 (q.2.2.1.map (k_ev σ)) s v) ∧ ((kMn (kTt M) p : Nat) : Int) = k_ev σ q.2.1 ∧ ∀ v, kMw (kTt M) ws0 p v ↔ kMw (kTt M) (q.2.2.1.map (k_ev σ)) (kMn (kTt M) p) (v - k_ev σ q.2.2.2)
theorem k_lf2_ok (h : kRS N σ S M) {ws : List kE} {ws0 : List Int} {k a : kE} {p : Nat} {r : Nat × List kE} (hp4 : p ≤ 400) (hp : (p : Int) = k_ev σ k) (ha : kSc S.1.length a) (h0 : ∀ v, kMw (kTt M) ws0 p v ↔ kMw (kTt M) (ws.map (k_ev σ)) p (v - k_ev σ a)) (b1 : ∀ w ∈ r.2, kSc S.1.length w) (b2 : kSt2 (kTt M) (ws.map (k_ev σ)) p (r.1, r.2.map (k_ev σ))) {g : kG2} (hg : k_lf2 S k a r = some g) : kG2P N σ S M p ws0 g := by
  unfold k_lf2 at hg
  cases c0 : Nat.beq r.1 0 with
  | true =>
    rw [c0, cond_true] at hg
    split at hg
    · rename_i w t hw
      obtain ⟨g1, hg⟩ := pm_cs hg
      cases hg
      have g1 := k_fit_ok h.2.1 h.2.2.1 g1
      have wm : w ∈ r.2 := by
        rw [hw]
        exact List.mem_cons_self
      have e0 : (r.2.map (k_ev σ)).getD 0 0 = k_ev σ w := by
        rw [hw]
        rfl
      refine ⟨kSc_add (kSc_add ha (k_lw_sc b1 1)) (b1 w wm), b1 w wm, g1, fun v => ?_⟩
      have b3 : ∀ v, kMw (kTt M) (ws.map (k_ev σ)) p v ↔ v = kClp 0 401 ((r.2.map (k_ev σ)).getD 0 0) + (r.2.map (k_ev σ)).getD 1 0 := b2.1 (pm_beq c0)
      rw [h0 v, b3, e0, kClp_eq g1.1 g1.2]
      show v - k_ev σ a = k_ev σ w + (r.2.map (k_ev σ)).getD 1 0 ↔ v = k_ev σ (k_add (k_add a (k_lww r.2 1)) w)
      rw [k_ev_add, k_ev_add, k_lw_ev]
      constructor
      · intro hv
        omega
      · intro hv
        omega
    · cases hg
  | false =>
    rw [c0, cond_false] at hg
    obtain ⟨c1, hg⟩ := pm_cs hg
    split at hg
    · cases hg
    · rename_i k2 hk2
      split at hg
      · cases hg
      · rename_i c hc
        cases hg
        have bs : ∀ w ∈ r.2.take 9, kSc S.1.length w := fun w hw => b1 w (List.mem_of_mem_take hw)
        obtain ⟨m1, m2, m3⟩ := k_tmk_ok h (by omega) bs hc
        obtain ⟨n1, n2⟩ := k_nx2_ok h hp4 hp hk2
        refine ⟨m1, n1, bs, kSc_add ha (k_lw_sc b1 9), m2, m3, n2, fun v => ?_⟩
        have b3 : ∀ v, kMw (kTt M) (ws.map (k_ev σ)) p v ↔ kMw (kTt M) ((r.2.map (k_ev σ)).take 9) (kMn (kTt M) p) (v - (r.2.map (k_ev σ)).getD 9 0) := b2.2.1 (pm_beq c1)
        rw [h0 v, b3]
        show _ ↔ kMw (kTt M) ((r.2.take 9).map (k_ev σ)) (kMn (kTt M) p) (v - k_ev σ (k_add a (k_lww r.2 9)))
        rw [k_tk9, k_ev_add, k_lw_ev, show v - (k_ev σ a + (r.2.map (k_ev σ)).getD 9 0) = v - k_ev σ a - (r.2.map (k_ev σ)).getD 9 0 by omega]
theorem k_ch2_ok (h : kRS N σ S M) {ws0 : List Int} {k : kE} {p : Nat} (hp4 : p ≤ 400) (hk : kSc S.1.length k) (hp : (p : Int) = k_ev σ k) : ∀ (f : Nat) (ws : List kE) (a : kE), (∀ w ∈ ws, kSc S.1.length w) → kSc S.1.length a → (∀ v, kMw (kTt M) ws0 p v ↔ kMw (kTt M) (ws.map (k_ev σ)) p (v - k_ev σ a)) →
    (∀ q ∈ (k_ch2 S k f ws a).1, (∀ w ∈ q.1, kSc S.1.length w) ∧ kSc S.1.length q.2 ∧ ∀ v, kMw (kTt M) ws0 p v ↔ kMw (kTt M) (q.1.map (k_ev σ)) p (v - k_ev σ q.2)) ∧ ∀ g, (k_ch2 S k f ws a).2 = some g → kG2P N σ S M p ws0 g
  | 0, ws, a, hs, ha, h0 => by
    refine ⟨fun q hq => ?_, fun g hg => by cases hg⟩
    rcases List.mem_singleton.mp hq with rfl
    exact ⟨hs, ha, h0⟩
  | f + 1, ws, a, hs, ha, h0 => by
    unfold k_ch2
    split
    · refine ⟨fun q hq => ?_, fun g hg => by cases hg⟩
      rcases List.mem_singleton.mp hq with rfl
      exact ⟨hs, ha, h0⟩
    · rename_i r hr
      obtain ⟨b1, b2⟩ := k_rd2_ok h hp4 hs hk hp hr
      cases c2 : Nat.beq r.1 2 with
      | true =>
        rw [cond_true]
        have b3 : ∀ v, kMw (kTt M) (ws.map (k_ev σ)) p v ↔ kMw (kTt M) ((r.2.map (k_ev σ)).take 9) p (v - (r.2.map (k_ev σ)).getD 9 0) := b2.2.2 (pm_beq c2)
        obtain ⟨i1, i2⟩ := k_ch2_ok h hp4 hk hp f (r.2.take 9) (k_add a (k_lww r.2 9)) (fun w hw => b1 w (List.mem_of_mem_take hw)) (kSc_add ha (k_lw_sc b1 9)) (fun v => by
          rw [h0 v, b3, k_tk9, k_ev_add, k_lw_ev, show v - (k_ev σ a + (r.2.map (k_ev σ)).getD 9 0) = v - k_ev σ a - (r.2.map (k_ev σ)).getD 9 0 by omega])
        refine ⟨fun q hq => ?_, i2⟩
        rcases List.mem_cons.mp hq with rfl | hq
        · exact ⟨hs, ha, h0⟩
        · exact i1 q hq
      | false =>
        rw [cond_false]
        refine ⟨fun q hq => ?_, fun g hg => k_lf2_ok h hp4 hp ha h0 b1 b2 hg⟩
        rcases List.mem_singleton.mp hq with rfl
        exact ⟨hs, ha, h0⟩
/-- a state and what is told of it, from its own entry -/
def k_c2s (S : kS) (ws : List kE) (k : kE) : List (List kE × kE) × Option kG2 := k_ch2 S k 14 ws (kc 0)
theorem k_c2s_ok (h : kRS N σ S M) {ws : List kE} {k : kE} {p : Nat} (hp4 : p ≤ 400) (hk : kSc S.1.length k) (hp : (p : Int) = k_ev σ k) (hs : ∀ w ∈ ws, kSc S.1.length w) :
    (∀ q ∈ (k_c2s S ws k).1, (∀ w ∈ q.1, kSc S.1.length w) ∧ kSc S.1.length q.2 ∧ ∀ v, kMw (kTt M) (ws.map (k_ev σ)) p v ↔ kMw (kTt M) (q.1.map (k_ev σ)) p (v - k_ev σ q.2)) ∧ ∀ g, (k_c2s S ws k).2 = some g → kG2P N σ S M p (ws.map (k_ev σ)) g := k_ch2_ok h hp4 hk hp 14 ws (kc 0) hs kSc_c (fun v => by rw [k_ev_c, Int.sub_zero])
/-- names for the state's words -/
def k_nme (i : Nat) (w : kE) : kH := ((kc (-14), kc (i : Int)), w)
def k_nmb (S : kS) (a : Nat) (o : Option kE) (n : Nat) : List kH := (List.range n).filterMap (fun j => match k_bit S o j with
  | some b => some (k_nme (a + j) b)
  | none => none)
def k_nmo (q : kH) : Bool := !(k_wq q.1.1 (kc (-14)) && (k_cst q.1.2 && (decide (20 ≤ q.1.2.1) && decide (q.1.2.1 < 60))))
def k_nmz (a : Nat) (ws : List kE) : List kH := ws.zipIdx.map (fun q => k_nme (a + q.2) q.1)
def k_lft (S : kS) (K : List kH → List kH) : kS := Prod.rec (motive := fun _ => kS) (fun b r => Prod.rec (motive := fun _ => kS) (fun F r => Prod.rec (motive := fun _ => kS) (fun G C => (b, F, G, K C)) r) r) S
theorem k_lft_eq (S : kS) (K : List kH → List kH) : k_lft S K = (S.1, S.2.1, S.2.2.1, K S.2.2.2) := rfl
def k_nmd (S : kS) (ws : List kE) : kS := k_lft S (fun C => k_nmz 26 (ws.drop 6) ++ (k_nmz 20 (ws.take 6) ++ (k_nmb S 30 ws[3]? 7 ++ (k_nmb S 40 ws[4]? 6 ++ (k_nmb S 50 ws[5]? 4 ++ C.filter k_nmo)))))
theorem kHas_14 {c s v : Int} (hc : c = -14) : kHas N M c s v := by
  subst hc
  exact ⟨fun h0 => by omega, fun _ => kPhi_of (i := 14) (p := 0) (by omega) (by omega) trivial⟩
/-- entries more, entries fewer -/
theorem kRS_ent (h : kRS N σ S M) {l : List kH} (hl : ∀ q ∈ l, q ∈ S.2.2.2 ∨ ((kSc S.1.length q.1.1 ∧ kSc S.1.length q.1.2 ∧ kSc S.1.length q.2) ∧ kHas N M (k_ev σ q.1.1) (k_ev σ q.1.2) (k_ev σ q.2))) : kRS N σ (S.1, S.2.1, S.2.2.1, l) M := by
  obtain ⟨g0, gb, gf, gn, gc, gs⟩ := h
  refine ⟨g0, gb, gf, gn, fun e he => ?_, gs.1, gs.2.1, fun e he => ?_⟩
  · rcases hl e he with h1 | h1
    · exact gc e h1
    · exact h1.2
  · rcases hl e he with h1 | h1
    · exact gs.2.2 e h1
    · exact h1.1
theorem k_nmb_ok (h : kRS N σ S M) {ws : List kE} {a j n : Nat} (hs : ∀ w ∈ ws, kSc S.1.length w) : ∀ q ∈ k_nmb S a ws[j]? n, (kSc S.1.length q.1.1 ∧ kSc S.1.length q.1.2 ∧ kSc S.1.length q.2) ∧ kHas N M (k_ev σ q.1.1) (k_ev σ q.1.2) (k_ev σ q.2) := by
  intro q hq
  obtain ⟨i, -, hi⟩ := List.mem_filterMap.mp hq
  split at hi
  · rename_i b hb
    cases hi
    exact ⟨⟨kSc_c, kSc_c, (k_bit_ok h hs hb).1⟩, kHas_14 (k_ev_c _ _)⟩
  · cases hi
theorem k_nmz_ok {a : Nat} {ws : List kE} (hs : ∀ w ∈ ws, kSc S.1.length w) : ∀ q ∈ k_nmz a ws, (kSc S.1.length q.1.1 ∧ kSc S.1.length q.1.2 ∧ kSc S.1.length q.2) ∧ kHas N M (k_ev σ q.1.1) (k_ev σ q.1.2) (k_ev σ q.2) := by
  intro q hq
  obtain ⟨z, hz, rfl⟩ := List.mem_map.mp hq
  exact ⟨⟨kSc_c, kSc_c, hs _ (List.mem_of_getElem? (List.mem_zipIdx_iff_getElem?.mp hz))⟩, kHas_14 (k_ev_c _ _)⟩
theorem k_nmd_ok (h : kRS N σ S M) {ws : List kE} (hs : ∀ w ∈ ws, kSc S.1.length w) : kRS N σ (k_nmd S ws) M := by
  unfold k_nmd
  rw [k_lft_eq]
  refine kRS_ent h fun q hq => ?_
  rcases List.mem_append.mp hq with hq | hq
  · exact Or.inr (k_nmz_ok (fun w hw => hs w (List.mem_of_mem_drop hw)) q hq)
  · rcases List.mem_append.mp hq with hq | hq
    · exact Or.inr (k_nmz_ok (fun w hw => hs w (List.mem_of_mem_take hw)) q hq)
    · rcases List.mem_append.mp hq with hq | hq
      · exact Or.inr (k_nmb_ok h hs q hq)
      · rcases List.mem_append.mp hq with hq | hq
        · exact Or.inr (k_nmb_ok h hs q hq)
        · rcases List.mem_append.mp hq with hq | hq
          · exact Or.inr (k_nmb_ok h hs q hq)
          · exact Or.inl (List.mem_filter.mp hq).1
/-- what was said of the elder token goes -/
def k_fg1 (q z : kH) : Bool := !((k_wq z.1.1 q.1.1 && k_wq z.1.2 q.1.2) || (k_wq z.1.2 q.1.2 && (match k_ts z.1.1 with
  | some y => Nat.blt y.1 2
  | none => false)))
def k_ptg (S : kS) (q n : kH) : kS := k_lft S (fun C => n :: C.filter (k_fg1 q))
def k_ptn (S : kS) (n : kH) : kS := k_lft S (fun C => n :: C)
theorem k_ptn_ok (h : kRS N σ S M) {n : kH} (hn : (kSc S.1.length n.1.1 ∧ kSc S.1.length n.1.2 ∧ kSc S.1.length n.2) ∧ kHas N M (k_ev σ n.1.1) (k_ev σ n.1.2) (k_ev σ n.2)) : kRS N σ (k_ptn S n) M := kRS_ent h fun z hz => by
  rcases List.mem_cons.mp hz with rfl | hz
  · exact Or.inr hn
  · exact Or.inl hz
def k_iso {α : Type} (o : Option α) : Bool := match o with
  | some _ => true
  | none => false
/-- a step that is sound -/
def kStp (N : kN) (σ : Nat → Int) (S : kS) (M : pM) (o : Option kS) : Prop := ∃ T, o = some T ∧ T.1.length = S.1.length ∧ kRS N σ T M
/-- one that may bring unknowns -/
def kStq (N : kN) (σ : Nat → Int) (S : kS) (M : pM) (o : Option kS) : Prop := ∃ T τ, o = some T ∧ kAgr S.1.length σ τ ∧ S.1.length ≤ T.1.length ∧ kRS N τ T M
theorem kStp.up {o : Option kS} (h : kStp N σ S M o) : kStq N σ S M o := by
  obtain ⟨T, h1, h2, h3⟩ := h
  exact ⟨T, σ, h1, fun _ _ => rfl, by omega, h3⟩
theorem kStp.tr {T : kS} {o : Option kS} (hl : T.1.length = S.1.length) (h : kStp N σ T M o) : kStp N σ S M o := by
  obtain ⟨U, u1, u2, u3⟩ := h
  exact ⟨U, u1, u2.trans hl, u3⟩
theorem kStq.tr {T : kS} {τ : Nat → Int} {o : Option kS} (ha : kAgr S.1.length σ τ) (hl : S.1.length ≤ T.1.length) (h : kStq N τ T M o) : kStq N σ S M o := by
  obtain ⟨U, υ, u1, u2, u3, u4⟩ := h
  exact ⟨U, υ, u1, fun a ha' => (u2 a (by omega)).trans (ha a ha'), by omega, u4⟩
/-- bytes: an entry's next -/
def k_stbA (S : kS) (i : Nat) (q : kH) (g : kGo) : Option kS := cond g.1 (k_cnF S .eq (k_sub q.2 g.2.1))
  ((cond (Nat.beq i 0 && k_geS S (k_sub (kc 399) q.1.2)) (k_asF S (k_sub q.2 g.2.2.1)) (some S)).map (fun T => k_ptn T ((g.2.1, g.2.2.1), q.2)))
/-- the parse's -/
def k_stbB (S : kS) (q : kH) (g : kG2) : Option kS := match g with
  | .inl e => k_cnF S .eq (k_sub q.2 e.1)
  | .inr r => some (k_nmd (k_ptg S q ((r.1, r.2.1), k_sub q.2 r.2.2.2)) r.2.2.1)
def k_stq (S : kS) (q : kH) : Option (Option kS) := match k_tde S q.1.1 with
  | none => none
  | some z => cond (k_geS S q.1.2 && k_geS S (k_sub (kc 400) q.1.2)) (cond (Nat.blt z.1 2) (match k_ch1 S z.1 q.1.2 z.2 with
      | none => none
      | some g => some (k_stbA S z.1 q g))
    (match (k_c2s S z.2 q.1.2).2 with
      | none => none
      | some g => some (k_stbB S q g))) none
theorem k_stbA_ok (h : kRS N σ S M) {i : Nat} {q : kH} {g : kGo} {p : Nat} {ws : List kE} (hi : i < 2) (hq : q ∈ S.2.2.2) (hp4 : p ≤ 400) (hp : (p : Int) = k_ev σ q.1.2) (hv : kTV (kTt M) i (ws.map (k_ev σ)) p = k_ev σ q.2) (hg : kGoP N σ S M i p (kTV (kTt M) i (ws.map (k_ev σ)) p) g) : kStp N σ S M (k_stbA S i q g) := by
  obtain ⟨s1, s2, s3⟩ := h.2.2.2.2.2.2.2 q hq
  unfold k_stbA
  unfold kGoP at hg
  cases c1 : g.1 with
  | true =>
    rw [c1, cond_true] at hg
    rw [cond_true]
    exact k_cnF_ok (c := .eq) h (kSc_sub s3 hg.1) (by show k_ev σ (k_sub q.2 g.2.1) = 0; rw [k_ev_sub, hg.2, hv]; omega)
  | false =>
    rw [c1, cond_false] at hg
    rw [cond_false]
    obtain ⟨g1, g2, g3, g4, g5, g6, g7⟩ := hg
    have hn : kHas N M (k_ev σ g.2.1) (k_ev σ g.2.2.1) (k_ev σ q.2) := (g5 _ _).mpr ⟨p + 1, g6, (kTW_lt hi).mpr (by rw [← g7, hv])⟩
    have key : ∀ T : kS, T.1.length = S.1.length → kRS N σ T M → kStp N σ S M ((some T).map (fun T => k_ptn T ((g.2.1, g.2.2.1), q.2))) := fun T t1 t2 =>
      ⟨_, rfl, t1, k_ptn_ok t2 ⟨by rw [t1]; exact ⟨g1, g2, s3⟩, hn⟩⟩
    cases c3 : (Nat.beq i 0 && k_geS S (k_sub (kc 399) q.1.2)) with
    | false =>
      rw [cond_false]
      exact key S rfl h
    | true =>
      rw [cond_true]
      obtain ⟨d1, d2⟩ := Bool.and_eq_true_iff.mp c3
      have d1 := pm_beq d1
      have d2 := k_ge_ok h.2.1 h.2.2.1 d2
      rw [k_ev_sub, k_ev_c] at d2
      have r := (kTV_rg (T := kTt M) (i := i) (ws := g.2.2.2.map (k_ev σ)) (p := p + 1) (by omega)).1
      rw [d1] at r g7 hv
      have r : ((p + 1 : Nat) : Int) ≤ kTV (kTt M) 0 (g.2.2.2.map (k_ev σ)) (p + 1) := r
      obtain ⟨T, t1, t2, t3⟩ := k_asF_ok h (e := k_sub q.2 g.2.2.1) (kSc_sub s3 g2) (by rw [k_ev_sub]; omega)
      rw [t1]
      exact key T t2 t3
theorem k_stbB_ok (h : kRS N σ S M) {q : kH} {g : kG2} {p : Nat} {ws0 : List Int} (hq : q ∈ S.2.2.2) (hv : kMw (kTt M) ws0 p (k_ev σ q.2)) (hg : kG2P N σ S M p ws0 g) : kStp N σ S M (k_stbB S q g) := by
  obtain ⟨s1, s2, s3⟩ := h.2.2.2.2.2.2.2 q hq
  match g, hg with
  | .inl e, hg =>
    obtain ⟨g1, -, -, g4⟩ := hg
    have := (g4 _).mp hv
    exact k_cnF_ok (c := .eq) h (kSc_sub s3 g1) (by show k_ev σ (k_sub q.2 e.1) = 0; rw [k_ev_sub]; omega)
  | .inr r, hg =>
    obtain ⟨g1, g2, g3, g4, g5, g6, g7, g8⟩ := hg
    have hn : kHas N M (k_ev σ r.1) (k_ev σ r.2.1) (k_ev σ (k_sub q.2 r.2.2.2)) := (g6 _ _).mpr ⟨kMn (kTt M) p, g7, by rw [k_ev_sub]; exact kTW_2.mpr ((g8 _).mp hv)⟩
    have r1 : kRS N σ (k_ptg S q ((r.1, r.2.1), k_sub q.2 r.2.2.2)) M := kRS_ent h fun z hz => by
      rcases List.mem_cons.mp hz with rfl | hz
      · exact Or.inr ⟨⟨g1, g2, kSc_sub s3 g4⟩, hn⟩
      · exact Or.inl (List.mem_filter.mp hz).1
    exact ⟨_, rfl, rfl, k_nmd_ok r1 g3⟩
theorem k_stq_ok (h : kRS N σ S M) {q : kH} {o : Option kS} (hq : q ∈ S.2.2.2) (ho : k_stq S q = some o) : kStp N σ S M o := by
  obtain ⟨s1, s2, s3⟩ := h.2.2.2.2.2.2.2 q hq
  unfold k_stq at ho
  split at ho
  · cases ho
  · rename_i z hz
    obtain ⟨a1, a2, a3, a4⟩ := k_tde_ok h s1 hz
    obtain ⟨c1, ho⟩ := pm_cs ho
    obtain ⟨c1, c2⟩ := Bool.and_eq_true_iff.mp c1
    have c1 := k_ge_ok h.2.1 h.2.2.1 c1
    have c2 := k_ge_ok h.2.1 h.2.2.1 c2
    rw [k_ev_sub, k_ev_c] at c2
    have hp : ((k_ev σ q.1.2).toNat : Int) = k_ev σ q.1.2 := Int.toNat_of_nonneg c1
    have hp4 : (k_ev σ q.1.2).toNat ≤ 400 := by omega
    have hE := (a4 _ _).mp (h.2.2.2.2.1 q hq)
    cases ci : Nat.blt z.1 2 with
    | true =>
      rw [ci, cond_true] at ho
      have ci := pm_blt ci
      split at ho
      · cases ho
      · rename_i g hg
        cases ho
        exact k_stbA_ok h ci hq hp4 hp (hE.to ci hp) (k_ch1_ok h ci hp4 s2 hp a2 hg)
    | false =>
      rw [ci, cond_false] at ho
      have i2 : z.1 = 2 := by
        have : ¬ z.1 < 2 := fun hl => by
          rw [show Nat.blt z.1 2 = true from Nat.ble_eq_true_of_le hl] at ci
          cases ci
        omega
      split at ho
      · cases ho
      · rename_i g hg
        cases ho
        have hv := hE.tw hp
        rw [i2] at hv
        exact k_stbB_ok h hq (kTW_2.mp hv) ((k_c2s_ok h hp4 s2 hp a2).2 g hg)
end KTA
end
noncomputable section
section KTB
variable {N : kN} {σ : Nat → Int} {S : kS} {M : pM}
/-- one place, two words -/
def k_s03 (S : kS) (q : kH) : Bool := match k_ts q.1.1 with
  | some z => Nat.blt z.1 2 && decide (k_hi S.1 q.1.1 < 0)
  | none => false
theorem k_s03_uq (h : kRS N σ S M) {q r : kH} (hq : q ∈ S.2.2.2) (hr : r ∈ S.2.2.2) (h3 : k_s03 S q = true) (e1 : r.1.1 = q.1.1) (e2 : k_ev σ q.1.2 = k_ev σ r.1.2) : k_ev σ q.2 = k_ev σ r.2 := by
  unfold k_s03 at h3
  split at h3
  · rename_i z hz
    obtain ⟨c1, c2⟩ := Bool.and_eq_true_iff.mp h3
    have c1 := pm_blt c1
    have hn : k_ev σ q.1.1 < 0 := by
      have := k_hi_ge h.2.1 q.1.1
      have := of_decide_eq_true c2
      omega
    have a := (k_t15 hz hn).mp (h.2.2.2.2.1 q hq)
    have b := h.2.2.2.2.1 r hr
    rw [e1] at b
    have b := (k_t15 hz hn).mp b
    obtain ⟨-, t2, -⟩ := k_ts_ok (σ := σ) hz
    rw [← e2] at b
    rw [kPtx_at t2 (by omega)] at a b
    exact kEn.uq (M := M) c1 a b
  · cases h3
theorem k_fpw_len : ∀ (rs : List Int) (Q : kE) (l : List kE), k_fpw S rs Q = some l → l.length = rs.length + 1
  | [], _, l, h => by
    cases h
    rfl
  | r :: t, Q, l, h => by
    unfold k_fpw at h
    split at h
    · cases h
    · rename_i z hz
      split at h
      · cases h
      · rename_i l' hl'
        cases h
        show l'.length + 1 = t.length + 1 + 1
        rw [k_fpw_len t _ _ hl']
theorem k_tde_len {c : kE} {z : Nat × List kE} (h : k_tde S c = some z) : z.2.length = (kTrd z.1).length + 1 := by
  rw [k_tde_eq] at h
  unfold k_tdx at h
  split at h
  · cases h
  · obtain ⟨-, h⟩ := pm_cs h
    split at h
    · cases h
    · rename_i l hl
      cases h
      show (l.map (k_nv S.1)).length = _
      rw [List.length_map, k_fpw_len _ _ _ hl]
theorem k_tde_4 {c : kE} {m e : kE} {r : List kE} (h : k_tde S c = some (1, m :: e :: r)) : r.length = 2 := by
  have := k_tde_len h
  have this : r.length + 1 + 1 = 3 + 1 := this
  omega
/-- numbers by kind and length -/
def k_nb1 (S : kS) (z : Nat) (t k e : kE) (u : kE) : Option (Option kS) :=
  match (cond (k_nzw S (k_sub t (kc 2)) || k_geS S (k_sub (k_sub e k) (kc 4))) (some (kc (-1))) (cond (k_eqS S t (kc 2) && k_geS S (k_sub (kc 3) (k_sub e k))) (k_tl S 1 [kc 1, e, kc 0, kc 0] k) none)) with
  | some w => cond (Nat.beq z 0 && k_eqS S u w) none (some (k_cnF S .eq (k_sub u w)))
  | none => none
def k_nb2 (S : kS) (z : Nat) (t k e : kE) : Option (Option kS) := match k_tl S 1 [kc 1, e, kc 0, kc 0] k with
  | none => none
  | some v => cond (k_eqS S t (kc 2)) (cond (cond (Nat.beq z 0) (k_geS S v) (Nat.beq z 3)) (cond (Nat.beq z 0 && k_geS S (k_sub (kc 999) v)) none (some (k_asF S (k_sub (kc 999) v)))) (some (k_asF S v))) none
def k_nbq (S : kS) (z : Nat) (q : kH) : Option (Option kS) := match k_tde S q.1.1 with
  | some (1, m :: e :: _) => cond (k_wq m (kc 4) && (k_geS S q.1.2 && k_geS S (k_sub (kc 400) q.1.2))) (match k_tl S 1 [kc 0, kc 0, kc 0, kc 0] q.1.2 with
    | none => none
    | some t => match cond (Nat.ble z 1) (k_nb1 S z t q.1.2 e q.2) none with
      | some r => some r
      | none => k_nb2 S z t q.1.2 e) none
  | _ => none
theorem k_kind (h : kRS N σ S M) {t k : kE} {p : Nat} (hp : (p : Int) = k_ev σ k) (hp4 : p ≤ 400) (ht : k_tl S 1 [kc 0, kc 0, kc 0, kc 0] k = some t) : kSc S.1.length t ∧ k_ev σ t = kBv (kTt M) false [0, 0, 0, 0] p := by
  obtain ⟨b1, b2⟩ := k_tl1_ok h hp kSc_c ht
  rw [k_ev_c] at b2
  exact ⟨b1, b2⟩
theorem k_nb1_ok (h : kRS N σ S M) {z : Nat} {t k e u : kE} {p : Nat} {o : Option kS} {c d : Int} (hp : (p : Int) = k_ev σ k) (hp4 : p ≤ 400) (hk : kSc S.1.length k) (he : kSc S.1.length e) (hu : kSc S.1.length u) (ht : kSc S.1.length t ∧ k_ev σ t = kBv (kTt M) false [0, 0, 0, 0] p) (hv : k_ev σ u = kBv (kTt M) false [4, k_ev σ e, c, d] p) (ho : k_nb1 S z t k e u = some o) : kStp N σ S M o := by
  have kd := kT_kind (T := kTt M) (b := 0) (c := 0) (d := 0) hp4
  rw [← ht.2] at kd
  unfold k_nb1 at ho
  split at ho
  · rename_i w hw
    have key : kSc S.1.length w ∧ k_ev σ u = k_ev σ w := by
      cases c1 : (k_nzw S (k_sub t (kc 2)) || k_geS S (k_sub (k_sub e k) (kc 4))) with
      | true =>
        rw [c1, cond_true] at hw
        cases hw
        refine ⟨kSc_c, ?_⟩
        rw [hv, k_ev_c]
        refine kT_no hp4 ?_
        rcases Bool.or_eq_true_iff.mp c1 with c1 | c1
        · have := k_nzw_ok h c1
          rw [k_ev_sub, k_ev_c] at this
          left
          omega
        · have := k_ge_ok h.2.1 h.2.2.1 c1
          rw [k_ev_sub, k_ev_sub, k_ev_c] at this
          right
          omega
      | false =>
        rw [c1, cond_false] at hw
        obtain ⟨c2, hw⟩ := pm_cs hw
        obtain ⟨c2, c3⟩ := Bool.and_eq_true_iff.mp c2
        have c2 := k_eqv_ok h.2.1 h.2.2.1 c2
        have c3 := k_ge_ok h.2.1 h.2.2.1 c3
        rw [k_ev_c] at c2
        rw [k_ev_sub, k_ev_sub, k_ev_c] at c3
        obtain ⟨b1, b2⟩ := k_tl1_ok h hp he hw
        refine ⟨b1, ?_⟩
        rw [hv, b2]
        exact kT_n3 hp4 (by omega) (by omega)
    cases c4 : (Nat.beq z 0 && k_eqS S u w) with
    | true =>
      rw [c4, cond_true] at ho
      cases ho
    | false =>
      rw [c4, cond_false] at ho
      cases ho
      exact k_cnF_ok (c := .eq) h (kSc_sub hu key.1) (by show k_ev σ (k_sub u w) = 0; rw [k_ev_sub, key.2]; omega)
  · cases ho
theorem k_nb2_ok (h : kRS N σ S M) {z : Nat} {t k e : kE} {p : Nat} {o : Option kS} (hp : (p : Int) = k_ev σ k) (hp4 : p ≤ 400) (he : kSc S.1.length e) (ht : kSc S.1.length t ∧ k_ev σ t = kBv (kTt M) false [0, 0, 0, 0] p) (ho : k_nb2 S z t k e = some o) : kStp N σ S M o := by
  have kd := kT_kind (T := kTt M) (b := 0) (c := 0) (d := 0) hp4
  rw [← ht.2] at kd
  unfold k_nb2 at ho
  split at ho
  · cases ho
  · rename_i v hv
    obtain ⟨b1, b2⟩ := k_tl1_ok h hp he hv
    obtain ⟨c1, ho⟩ := pm_cs ho
    have c1 := k_eqv_ok h.2.1 h.2.2.1 c1
    rw [k_ev_c] at c1
    have r := kT_nr (T := kTt M) (p := p) (e := k_ev σ e) (c := 0) (d := 0) hp4 (by omega)
    rw [← b2] at r
    cases c2 : cond (Nat.beq z 0) (k_geS S v) (Nat.beq z 3) with
    | true =>
      rw [c2, cond_true] at ho
      cases c3 : (Nat.beq z 0 && k_geS S (k_sub (kc 999) v)) with
      | true =>
        rw [c3, cond_true] at ho
        cases ho
      | false =>
        rw [c3, cond_false] at ho
        cases ho
        exact k_asF_ok h (kSc_sub kSc_c b1) (by rw [k_ev_sub, k_ev_c]; omega)
    | false =>
      rw [c2, cond_false] at ho
      cases ho
      exact k_asF_ok h b1 r.1
theorem k_nbq_ok (h : kRS N σ S M) {z : Nat} {q : kH} {o : Option kS} (hq : q ∈ S.2.2.2) (ho : k_nbq S z q = some o) : kStp N σ S M o := by
  obtain ⟨s1, s2, s3⟩ := h.2.2.2.2.2.2.2 q hq
  unfold k_nbq at ho
  split at ho
  · rename_i m e r hz
    obtain ⟨a1, a2, a3, a4⟩ := k_tde_ok h s1 hz
    obtain ⟨c1, ho⟩ := pm_cs ho
    simp only [Bool.and_eq_true] at c1
    obtain ⟨c0, c1, c2⟩ := c1
    have c0 := k_wq_ok c0
    have c1 := k_ge_ok h.2.1 h.2.2.1 c1
    have c2 := k_ge_ok h.2.1 h.2.2.1 c2
    rw [k_ev_sub, k_ev_c] at c2
    have hp : ((k_ev σ q.1.2).toNat : Int) = k_ev σ q.1.2 := Int.toNat_of_nonneg c1
    have hv := ((a4 _ _).mp (h.2.2.2.2.1 q hq)).to (show (1 : Nat) < 2 by omega) hp
    have he : kSc S.1.length e := a2 e (List.mem_cons_of_mem _ List.mem_cons_self)
    have hv : kBv (kTt M) false ((m :: e :: r).map (k_ev σ)) (k_ev σ q.1.2).toNat = k_ev σ q.2 := hv
    rw [c0] at hv
    have hv4 : ∃ c d : Int, k_ev σ q.2 = kBv (kTt M) false [4, k_ev σ e, c, d] (k_ev σ q.1.2).toNat := by
      have hl : r.length = 2 := k_tde_4 hz
      clear hz
      cases r with
      | nil => exact absurd hl (by decide)
      | cons c r =>
        cases r with
        | nil =>
          simp only [List.length_cons, List.length_nil] at hl
          omega
        | cons d r =>
          cases r with
          | nil =>
            refine ⟨k_ev σ c, k_ev σ d, ?_⟩
            rw [← hv]
            show kBv (kTt M) false [k_ev σ (kc 4), k_ev σ e, k_ev σ c, k_ev σ d] _ = _
            rw [k_ev_c]
          | cons x r =>
            simp only [List.length_cons] at hl
            omega
    obtain ⟨c, d, hv4⟩ := hv4
    split at ho
    · cases ho
    · rename_i t ht
      have kt := k_kind h hp (by omega) ht
      split at ho
      · rename_i x hx
        cases ho
        obtain ⟨-, hx⟩ := pm_cs hx
        exact k_nb1_ok h hp (by omega) s2 he s3 kt hv4 hx
      · exact k_nb2_ok h hp (by omega) he kt ho
  · cases ho
end KTB
end
