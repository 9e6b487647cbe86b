noncomputable section
/-! the tape's text: what follows from what is known -/
abbrev kGo : Type := Bool × kE × kE × List kE
def k_fitc (S : kS) (i : Nat) (k w : kE) : Bool := cond (Nat.beq i 0) (k_geS S (k_sub w k) && k_geS S (k_sub (kc 400) w)) (k_fiS S (-1) (cond (Nat.beq i 1) 549755813888 400) w)
def k_nxk (S : kS) (i : Nat) (k : kE) : Option kE := cond (Nat.blt i 2) (some (k_add k (kc 1))) (match k_ete S k with
  | none => none
  | some e => k_tl S 0 [kc 0] e)
/-- the states at one place, and what comes then -/
def k_chz (S : kS) (i : Nat) (k : kE) : Nat → List kE → List (List kE) × Option kGo
  | 0, ws => ([ws], none)
  | f + 1, ws => match k_rl S i ws k with
    | none => ([ws], none)
    | some r => cond (Nat.beq r.1 0) ([ws], match r.2 with
        | w :: _ => cond (k_fitc S i k w) (some (true, w, w, [])) none
        | [] => none)
      (cond (Nat.beq r.1 2) (cond (Nat.beq i 2) (ws :: (k_chz S i k f r.2).1, (k_chz S i k f r.2).2) ([ws], none))
        ([ws], cond (Nat.beq r.1 1) (match k_nxk S i k with
          | none => none
          | some k2 => match k_tmk S i r.2 with
            | none => none
            | some c => some (false, c, k2, r.2)) none))
section KTA
variable {N : kN} {σ : Nat → Int} {S : kS} {M : pM}
/-- what one says of a value -/
def kGoP (N : kN) (σ : Nat → Int) (S : kS) (M : pM) (i p : Nat) (x : Int) (g : kGo) : Prop := cond g.1 (kSc S.1.length g.2.1 ∧ k_ev σ g.2.1 = x) (kSc S.1.length g.2.1 ∧ kSc S.1.length g.2.2.1 ∧ (∀ w ∈ g.2.2.2, kSc S.1.length w) ∧ k_ev σ g.2.1 < 0 ∧ (∀ s v : Int, kHas N M (k_ev σ g.2.1) s v ↔ kEn M i (g.2.2.2.map (k_ev σ)) s v) ∧ ∃ p2 : Nat, (p2 : Int) = k_ev σ g.2.2.1 ∧ (i = 0 → p2 = p + 1) ∧ x = kTV (kTt M) i (g.2.2.2.map (k_ev σ)) p2)
theorem k_nxk_ok (h : kRS N σ S M) {i : Nat} {k k2 : kE} {p : Nat} (hp4 : p ≤ 400) (hk : kSc S.1.length k) (hp : (p : Int) = k_ev σ k) (hz : k_nxk S i k = some k2) : kSc S.1.length k2 ∧ ((cond (Nat.blt i 2) (p + 1) (kMn (kTt M) p) : Nat) : Int) = k_ev σ k2 := by
  unfold k_nxk at hz
  cases c1 : Nat.blt i 2 with
  | true =>
    rw [c1, cond_true] at hz
    rw [cond_true]
    cases hz
    refine ⟨kSc_add hk kSc_c, ?_⟩
    rw [k_ev_add, k_ev_c]
    omega
  | false =>
    rw [c1, cond_false] at hz
    rw [cond_false]
    split at hz
    · cases hz
    · rename_i e he
      obtain ⟨e1, e2⟩ := k_ete_ok h hp he
      obtain ⟨a1, a2⟩ := k_tl_ok h (by omega) k_1sc hz
      rw [k_1ev] at a2
      refine ⟨a1, ?_⟩
      have r := (kBv_pl (T := kTt M) (p := p) [1] hp4).1
      have hq : ((k_ev σ e).toNat : Int) = k_ev σ e := Int.toNat_of_nonneg (by omega)
      have a2 : kBv (kTt M) true [0] (k_ev σ e).toNat = k_ev σ k2 := a2.to hq
      have r2 : (k_ev σ e).toNat ≤ 400 := by
        have := (kBv_pl (T := kTt M) (p := p) [1] hp4).2
        omega
      have r3 := (kBv_pl (T := kTt M) (p := (k_ev σ e).toNat) [0] r2).1
      unfold kMn
      rw [← e2, a2]
      exact Int.toNat_of_nonneg (by omega)
theorem k_chz_ok (h : kRS N σ S M) {i : Nat} {k : kE} {p : Nat} (hi : i < 3) (hp4 : p ≤ 400) (hk : kSc S.1.length k) (hp : (p : Int) = k_ev σ k) : ∀ (f : Nat) (ws : List kE), (∀ w ∈ ws, kSc S.1.length w) → (∀ u ∈ (k_chz S i k f ws).1, kTV (kTt M) i (u.map (k_ev σ)) p = kTV (kTt M) i (ws.map (k_ev σ)) p) ∧ ∀ g, (k_chz S i k f ws).2 = some g → kGoP N σ S M i p (kTV (kTt M) i (ws.map (k_ev σ)) p) g
  | 0, ws, hs => ⟨fun u hu => by rw [List.mem_singleton.mp hu], fun g hg => by cases hg⟩
  | f + 1, ws, hs => by
    have self : ∀ u ∈ [ws], kTV (kTt M) i (u.map (k_ev σ)) p = kTV (kTt M) i (ws.map (k_ev σ)) p := fun u hu => by rw [List.mem_singleton.mp hu]
    cases hr : k_rl S i ws k with
    | none =>
      have e : k_chz S i k (f + 1) ws = ([ws], none) := by
        rw [k_chz]
        rw [hr]
      rw [e]
      exact ⟨self, fun g hg => by cases hg⟩
    | some r =>
      have e : k_chz S i k (f + 1) ws = cond (Nat.beq r.1 0) ([ws], match r.2 with
          | w :: _ => cond (k_fitc S i k w) (some (true, w, w, [])) none
          | [] => none)
        (cond (Nat.beq r.1 2) (cond (Nat.beq i 2) (ws :: (k_chz S i k f r.2).1, (k_chz S i k f r.2).2) ([ws], none))
          ([ws], cond (Nat.beq r.1 1) (match k_nxk S i k with
            | none => none
            | some k2 => match k_tmk S i r.2 with
              | none => none
              | some c => some (false, c, k2, r.2)) none)) := by
        rw [k_chz]
        rw [hr]
      rw [e]
      clear e
      obtain ⟨b1, b2⟩ := k_rl_ok h hp4 hs hk hp hr
      cases c0 : Nat.beq r.1 0 with
      | true =>
        rw [cond_true]
        refine ⟨self, fun g hg => ?_⟩
        have c0 := pm_beq c0
        have hg : (match r.2 with
          | w :: _ => cond (k_fitc S i k w) (some (true, w, w, [])) none
          | [] => none) = some g := hg
        split at hg
        · rename_i w t hw
          obtain ⟨g1, hg⟩ := pm_cs hg
          cases hg
          refine ⟨b1 w (by rw [hw]; exact List.mem_cons_self), ?_⟩
          rw [kTV_0 hp4 (by rw [b2]; exact c0), b2, hw]
          show k_ev σ w = kTc i p (k_ev σ w)
          unfold k_fitc at g1
          unfold kTc
          cases d0 : Nat.beq i 0 with
          | true =>
            rw [d0, cond_true] at g1
            rw [cond_true]
            obtain ⟨g1, g2⟩ := Bool.and_eq_true_iff.mp g1
            have g1 := k_ge_ok h.2.1 h.2.2.1 g1
            have g2 := k_ge_ok h.2.1 h.2.2.1 g2
            rw [k_ev_sub] at g1
            rw [k_ev_sub, k_ev_c] at g2
            rw [kClp_eq (by omega) (by omega)]
          | false =>
            rw [d0, cond_false] at g1
            rw [cond_false]
            have g1 := k_fit_ok h.2.1 h.2.2.1 g1
            cases d1 : Nat.beq i 1 with
            | true =>
              rw [d1, cond_true] at g1
              rw [cond_true, kClp_eq g1.1 g1.2]
            | false =>
              rw [d1, cond_false] at g1
              rw [cond_false, kClp_eq g1.1 g1.2]
        · cases hg
      | false =>
        rw [cond_false]
        cases c2 : Nat.beq r.1 2 with
        | true =>
          rw [cond_true]
          have c2 := pm_beq c2
          cases d2 : Nat.beq i 2 with
          | false =>
            rw [cond_false]
            exact ⟨self, fun g hg => by cases hg⟩
          | true =>
            rw [cond_true]
            have d2 := pm_beq d2
            subst d2
            have e := kTV_2 (T := kTt M) (ws := ws.map (k_ev σ)) (p := p) (by rw [b2]; exact c2)
            rw [b2] at e
            have e : kTV (kTt M) 2 (ws.map (k_ev σ)) p = kTV (kTt M) 2 (r.2.map (k_ev σ)) p := e
            obtain ⟨i1, i2⟩ := k_chz_ok h hi hp4 hk hp f r.2 b1
            refine ⟨fun u hu => ?_, fun g hg => ?_⟩
            · rcases List.mem_cons.mp hu with rfl | hu
              · rfl
              · rw [e]
                exact i1 u hu
            · rw [e]
              exact i2 g hg
        | false =>
          rw [cond_false]
          refine ⟨self, fun g hg => ?_⟩
          have hg : cond (Nat.beq r.1 1) (match k_nxk S i k with
            | none => none
            | some k2 => match k_tmk S i r.2 with
              | none => none
              | some c => some (false, c, k2, r.2)) none = some g := hg
          obtain ⟨c1, hg⟩ := pm_cs hg
          have c1 := pm_beq c1
          split at hg
          · cases hg
          · rename_i k2 hk2
            split at hg
            · cases hg
            · rename_i c hc
              cases hg
              obtain ⟨n1, n2⟩ := k_nxk_ok h hp4 hk hp hk2
              obtain ⟨m1, m2, m3⟩ := k_tmk_ok h hi b1 hc
              have e := kTV_1 (T := kTt M) (i := i) (ws := ws.map (k_ev σ)) (p := p) hp4 (by rw [b2]; exact c1)
              rw [b2] at e
              exact ⟨m1, n1, b1, m2, m3, _, n2, fun i0 => by subst i0; rfl, e⟩
/-- names for the state's words -/
def k_nme (i : Nat) (w : kE) : kH := ((kc (-14), kc (i : Int)), w)
def k_nmb (S : kS) (a : Nat) (o : Option kE) (n : Nat) : List kH := (List.range n).filterMap (fun j => match k_bit S o j with
  | some b => some (k_nme (a + j) b)
  | none => none)
def k_nmo (q : kH) : Bool := !(k_wq q.1.1 (kc (-14)) && (k_cst q.1.2 && (decide (20 ≤ q.1.2.1) && decide (q.1.2.1 < 60))))
def k_lft (S : kS) (K : List kH → List kH) : kS := Prod.rec (motive := fun _ => kS) (fun b r => Prod.rec (motive := fun _ => kS) (fun F r => Prod.rec (motive := fun _ => kS) (fun G C => (b, F, G, K C)) r) r) S
theorem k_lft_eq (S : kS) (K : List kH → List kH) : k_lft S K = (S.1, S.2.1, S.2.2.1, K S.2.2.2) := rfl
def k_nmd (S : kS) (ws : List kE) : kS := k_lft S (fun C => (ws.zipIdx.map (fun q => k_nme (20 + q.2) q.1)) ++ (k_nmb S 30 ws[3]? 7 ++ (k_nmb S 40 ws[4]? 6 ++ (k_nmb S 50 ws[5]? 4 ++ C.filter k_nmo))))
theorem kHas_14 {c s v : Int} (hc : c = -14) : kHas N M c s v := by
  subst hc
  exact ⟨fun h0 => by omega, fun _ => kPhi_of (i := 14) (p := 0) (by omega) (by omega) trivial⟩
/-- entries more, entries fewer -/
theorem kRS_ent (h : kRS N σ S M) {l : List kH} (hl : ∀ q ∈ l, q ∈ S.2.2.2 ∨ ((kSc S.1.length q.1.1 ∧ kSc S.1.length q.1.2 ∧ kSc S.1.length q.2) ∧ kHas N M (k_ev σ q.1.1) (k_ev σ q.1.2) (k_ev σ q.2))) : kRS N σ (S.1, S.2.1, S.2.2.1, l) M := by
  obtain ⟨g0, gb, gf, gn, gc, gs⟩ := h
  refine ⟨g0, gb, gf, gn, fun e he => ?_, gs.1, gs.2.1, fun e he => ?_⟩
  · rcases hl e he with h1 | h1
    · exact gc e h1
    · exact h1.2
  · rcases hl e he with h1 | h1
    · exact gs.2.2 e h1
    · exact h1.1
theorem k_nmb_ok (h : kRS N σ S M) {ws : List kE} {a j n : Nat} (hs : ∀ w ∈ ws, kSc S.1.length w) : ∀ q ∈ k_nmb S a ws[j]? n, (kSc S.1.length q.1.1 ∧ kSc S.1.length q.1.2 ∧ kSc S.1.length q.2) ∧ kHas N M (k_ev σ q.1.1) (k_ev σ q.1.2) (k_ev σ q.2) := by
  intro q hq
  obtain ⟨i, -, hi⟩ := List.mem_filterMap.mp hq
  split at hi
  · rename_i b hb
    cases hi
    exact ⟨⟨kSc_c, kSc_c, (k_bit_ok h hs hb).1⟩, kHas_14 (k_ev_c _ _)⟩
  · cases hi
theorem k_nmd_ok (h : kRS N σ S M) {ws : List kE} (hs : ∀ w ∈ ws, kSc S.1.length w) : kRS N σ (k_nmd S ws) M := by
  unfold k_nmd
  rw [k_lft_eq]
  refine kRS_ent h fun q hq => ?_
  rcases List.mem_append.mp hq with hq | hq
  · obtain ⟨z, hz, rfl⟩ := List.mem_map.mp hq
    exact Or.inr ⟨⟨kSc_c, kSc_c, hs _ (List.mem_of_getElem? (List.mem_zipIdx_iff_getElem?.mp hz))⟩, kHas_14 (k_ev_c _ _)⟩
  · rcases List.mem_append.mp hq with hq | hq
    · exact Or.inr (k_nmb_ok h hs q hq)
    · rcases List.mem_append.mp hq with hq | hq
      · exact Or.inr (k_nmb_ok h hs q hq)
      · rcases List.mem_append.mp hq with hq | hq
        · exact Or.inr (k_nmb_ok h hs q hq)
        · exact Or.inl (List.mem_filter.mp hq).1
/-- what was said of the elder token goes -/
def k_fg1 (q z : kH) : Bool := !((k_wq z.1.1 q.1.1 && k_wq z.1.2 q.1.2) || (k_wq z.1.2 q.1.2 && (match k_ts z.1.1 with
  | some y => Nat.blt y.1 2
  | none => false)))
def k_ptg (S : kS) (q n : kH) : kS := k_lft S (fun C => n :: C.filter (k_fg1 q))
def k_ptn (S : kS) (n : kH) : kS := k_lft S (fun C => n :: C)
/-- one entry: is it worth a look; what it gives: none, no more; none inside: it can't be -/
def k_told (S : kS) (i : Nat) (ws : List kE) (k : kE) : Bool := Nat.beq i 2 || ((Nat.beq i 1 && (match ws with
    | w :: _ => k_wq w (kc 2) || k_wq w (kc 3)
    | [] => false)) || ((match k_btl S k S.2.2.2 with
    | some _ => true
    | none => false) || (match k_nwd S with
    | some n => k_gsS S (k_sub k n)
    | none => false)))
def k_iso {α : Type} (o : Option α) : Bool := match o with
  | some _ => true
  | none => false
def k_stA (S : kS) (z i : Nat) (q : kH) (g : kGo) : Option (Option kS) := cond g.1 (cond (Nat.beq z 0 && k_eqS S g.2.1 q.2) none (some (k_cnF S .eq (k_sub q.2 g.2.1))))
  (cond (Nat.beq z 0 && (Nat.blt i 2 && k_iso (k_look S g.2.1 g.2.2.1))) none (some ((cond (Nat.beq i 0 && k_geS S (k_sub (kc 399) q.1.2)) (k_asF S (k_sub q.2 g.2.2.1)) (some S)).map (fun T => cond (Nat.beq i 2) (k_nmd (k_ptg T q ((g.2.1, g.2.2.1), q.2)) g.2.2.2) (k_ptn T ((g.2.1, g.2.2.1), q.2))))))
def k_stq (S : kS) (z0 : Nat) (only : Bool) (q : kH) : Option (Option kS) := match k_tde S q.1.1 with
  | none => none
  | some z => cond ((!only || Nat.beq z.1 0) && ((k_geS S q.1.2 && k_geS S (k_sub (kc 400) q.1.2)) && (!(Nat.beq z0 0) || k_told S z.1 z.2 q.1.2))) (match (k_chz S z.1 q.1.2 6 z.2).2 with
    | none => none
    | some g => k_stA S z0 z.1 q g) none
/-- a step that is sound -/
def kStp (N : kN) (σ : Nat → Int) (S : kS) (M : pM) (o : Option kS) : Prop := ∃ T, o = some T ∧ T.1.length = S.1.length ∧ kRS N σ T M
theorem k_stA_ok (h : kRS N σ S M) {z i : Nat} {q : kH} {g : kGo} {p : Nat} {ws : List kE} {o : Option kS} (hq : q ∈ S.2.2.2) (hp4 : p ≤ 400) (hp : (p : Int) = k_ev σ q.1.2) (hv : kTV (kTt M) i (ws.map (k_ev σ)) p = k_ev σ q.2) (hg : kGoP N σ S M i p (kTV (kTt M) i (ws.map (k_ev σ)) p) g) (ho : k_stA S z i q g = some o) : kStp N σ S M o := by
  obtain ⟨s1, s2, s3⟩ := h.2.2.2.2.2.2.2 q hq
  unfold k_stA at ho
  unfold kGoP at hg
  cases c1 : g.1 with
  | true =>
    rw [c1, cond_true] at ho hg
    cases c2 : (Nat.beq z 0 && k_eqS S g.2.1 q.2) with
    | true =>
      rw [c2, cond_true] at ho
      cases ho
    | false =>
      rw [c2, cond_false] at ho
      cases ho
      exact k_cnF_ok (c := .eq) h (kSc_sub s3 hg.1) (by show k_ev σ (k_sub q.2 g.2.1) = 0; rw [k_ev_sub, hg.2, hv]; omega)
  | false =>
    rw [c1, cond_false] at ho hg
    obtain ⟨g1, g2, g3, g4, g5, p2, g6, g8, g7⟩ := hg
    cases c2 : (Nat.beq z 0 && (Nat.blt i 2 && k_iso (k_look S g.2.1 g.2.2.1))) with
    | true =>
      rw [c2, cond_true] at ho
      cases ho
    | false =>
      rw [c2, cond_false] at ho
      cases ho
      have hn : kHas N M (k_ev σ g.2.1) (k_ev σ g.2.2.1) (k_ev σ q.2) := (g5 _ _).mpr ⟨p2, g6, by rw [← g7, hv]⟩
      have key : ∀ T : kS, T.1.length = S.1.length → kRS N σ T M → kStp N σ S M (some (cond (Nat.beq i 2) (k_nmd (k_ptg T q ((g.2.1, g.2.2.1), q.2)) g.2.2.2) (k_ptn T ((g.2.1, g.2.2.1), q.2)))) := fun T t1 t2 => by
        have sc : (kSc T.1.length g.2.1 ∧ kSc T.1.length g.2.2.1 ∧ kSc T.1.length q.2) := by rw [t1]; exact ⟨g1, g2, s3⟩
        cases Nat.beq i 2 with
        | true =>
          have r : kRS N σ (k_ptg T q ((g.2.1, g.2.2.1), q.2)) M := kRS_ent t2 fun z hz => by
            rcases List.mem_cons.mp hz with rfl | hz
            · exact Or.inr ⟨sc, hn⟩
            · exact Or.inl (List.mem_filter.mp hz).1
          exact ⟨_, rfl, t1, k_nmd_ok r (fun w hw => by show kSc T.1.length w; rw [t1]; exact g3 w hw)⟩
        | false =>
          exact ⟨_, rfl, t1, kRS_ent t2 fun z hz => by
            rcases List.mem_cons.mp hz with rfl | hz
            · exact Or.inr ⟨sc, hn⟩
            · exact Or.inl hz⟩
      cases c3 : (Nat.beq i 0 && k_geS S (k_sub (kc 399) q.1.2)) with
      | false => exact key S rfl h
      | true =>
        obtain ⟨d1, d2⟩ := Bool.and_eq_true_iff.mp c3
        have d1 := pm_beq d1
        have d2 := k_ge_ok h.2.1 h.2.2.1 d2
        rw [k_ev_sub, k_ev_c] at d2
        have hp2 : p2 = p + 1 := g8 d1
        have r := (kTV_rg (T := kTt M) (i := i) (ws := g.2.2.2.map (k_ev σ)) (p := p2) (by omega)).1
        rw [d1] at r
        have r : (p2 : Int) ≤ kTV (kTt M) 0 (g.2.2.2.map (k_ev σ)) p2 := r
        rw [d1] at g7 hv
        obtain ⟨T, t1, t2, t3⟩ := k_asF_ok h (e := k_sub q.2 g.2.2.1) (kSc_sub s3 g2) (by rw [k_ev_sub]; omega)
        rw [cond_true, t1]
        exact key T t2 t3
theorem k_stq_ok (h : kRS N σ S M) {z0 : Nat} {only : Bool} {q : kH} {o : Option kS} (hq : q ∈ S.2.2.2) (ho : k_stq S z0 only q = some o) : kStp N σ S M o := by
  obtain ⟨s1, s2, s3⟩ := h.2.2.2.2.2.2.2 q hq
  unfold k_stq at ho
  split at ho
  · cases ho
  · rename_i z hz
    obtain ⟨a1, a2, a3, a4⟩ := k_tde_ok h s1 hz
    obtain ⟨c1, ho⟩ := pm_cs ho
    simp only [Bool.and_eq_true] at c1
    obtain ⟨-, ⟨c1, c2⟩, -⟩ := c1
    have c1 := k_ge_ok h.2.1 h.2.2.1 c1
    have c2 := k_ge_ok h.2.1 h.2.2.1 c2
    rw [k_ev_sub, k_ev_c] at c2
    have hp : ((k_ev σ q.1.2).toNat : Int) = k_ev σ q.1.2 := Int.toNat_of_nonneg c1
    have hv := ((a4 _ _).mp (h.2.2.2.2.1 q hq)).to hp
    split at ho
    · cases ho
    · rename_i g hg
      have hG := (k_chz_ok h a1 (p := (k_ev σ q.1.2).toNat) (by omega) s2 hp 6 z.2 a2).2 g hg
      exact k_stA_ok h hq (by omega) hp hv hG ho
/-- the first entry that gives more -/
def k_fst1 (S : kS) (only : Bool) (l : List kH) : Option (Option kS) := lfo (fun q => k_stq S 0 only q) l
theorem k_fst1_ok (h : kRS N σ S M) {only : Bool} {o : Option kS} : ∀ l : List kH, (∀ q ∈ l, q ∈ S.2.2.2) → k_fst1 S only l = some o → kStp N σ S M o
  | [], _, ho => by cases ho
  | q :: t, hl, ho => by
    unfold k_fst1 at ho
    rw [lfo_cons] at ho
    split at ho
    · rename_i r hr
      cases ho
      exact k_stq_ok h (hl q List.mem_cons_self) hr
    · exact k_fst1_ok h t (fun q hq => hl q (List.mem_cons_of_mem _ hq)) ho
theorem kStp.tr {T : kS} {o : Option kS} (hl : T.1.length = S.1.length) (h : kStp N σ T M o) : kStp N σ S M o := by
  obtain ⟨U, u1, u2, u3⟩ := h
  exact ⟨U, u1, u2.trans hl, u3⟩
def k_avl (only : Bool) (f : Nat) (S : kS) : Option kS := Nat.rec (motive := fun _ => kS → Option kS) (fun S => some S) (fun _ ih S => match k_fst1 S only S.2.2.2 with
    | none => some S
    | some none => none
    | some (some T) => ih T) f S
theorem k_avl_succ (only : Bool) (f : Nat) (S : kS) : k_avl only (f + 1) S = match k_fst1 S only S.2.2.2 with
    | none => some S
    | some none => none
    | some (some T) => k_avl only f T := rfl
theorem k_avl_ok {only : Bool} : ∀ (f : Nat) (S : kS), kRS N σ S M → kStp N σ S M (k_avl only f S)
  | 0, S, h => ⟨S, rfl, rfl, h⟩
  | f + 1, S, h => by
    rw [k_avl_succ]
    split
    · exact ⟨S, rfl, rfl, h⟩
    · rename_i hn
      obtain ⟨T, t1, -, -⟩ := k_fst1_ok h _ (fun _ hq => hq) hn
      cases t1
    · rename_i T hT
      obtain ⟨U, t1, t2, t3⟩ := k_fst1_ok h _ (fun _ hq => hq) hT
      cases t1
      exact (k_avl_ok f T t3).tr t2
end KTA
end
noncomputable section
section KTB
variable {N : kN} {σ : Nat → Int} {S : kS} {M : pM}
/-- one place, two words -/
def k_s03 (S : kS) (q : kH) : Bool := match k_ts q.1.1 with
  | some z => Nat.blt z.1 4 && decide (k_hi S.1 q.1.1 < 0)
  | none => false
def k_pr2 (S : kS) (q : kH) (l : List kH) : Option kE := lfb (fun r => k_wq r.1.1 q.1.1 && (!(k_wq r.1.2 q.1.2 && k_wq r.2 q.2) && (k_eqS S q.1.2 r.1.2 && !(k_eqS S q.2 r.2)))) (fun r => k_sub q.2 r.2) l
def k_prs (S : kS) (l : List kH) : Option kE := List.rec (motive := fun _ => Option kE) none (fun q t ih => match k_pr2 S q t with
    | some e => some e
    | none => ih) l
theorem k_prs_cons (S : kS) (q : kH) (t : List kH) : k_prs S (q :: t) = match k_pr2 S q t with
    | some e => some e
    | none => k_prs S t := rfl
theorem k_s03_uq (h : kRS N σ S M) {q r : kH} (hq : q ∈ S.2.2.2) (hr : r ∈ S.2.2.2) (h3 : k_s03 S q = true) (e1 : r.1.1 = q.1.1) (e2 : k_ev σ q.1.2 = k_ev σ r.1.2) : k_ev σ q.2 = k_ev σ r.2 := by
  unfold k_s03 at h3
  split at h3
  · rename_i z hz
    obtain ⟨c1, c2⟩ := Bool.and_eq_true_iff.mp h3
    have c1 := pm_blt c1
    have hn : k_ev σ q.1.1 < 0 := by
      have := k_hi_ge h.2.1 q.1.1
      have := of_decide_eq_true c2
      omega
    have a := (k_t15 hz hn).mp (h.2.2.2.2.1 q hq)
    have b := h.2.2.2.2.1 r hr
    rw [e1] at b
    have b := (k_t15 hz hn).mp b
    obtain ⟨-, t2, -⟩ := k_ts_ok (σ := σ) hz
    rw [← e2] at b
    by_cases h33 : z.1 < 3
    · rw [kPtx_at t2 h33] at a b
      exact kEn.uq (M := M) a b
    · have z3 : z.1 = 3 := by omega
      rw [z3] at t2
      exact ((kPtx_3 t2).mp a).symm.trans ((kPtx_3 t2).mp b)
  · cases h3
theorem k_pr2_ok (h : kRS N σ S M) {q : kH} (hq : q ∈ S.2.2.2) (h3 : k_s03 S q = true) {e : kE} : ∀ l : List kH, (∀ r ∈ l, r ∈ S.2.2.2) → k_pr2 S q l = some e → kSc S.1.length e ∧ k_ev σ e = 0
  | [], _, he => by cases he
  | r :: t, hl, he => by
    unfold k_pr2 at he
    rw [lfb_cons] at he
    cases c : (k_wq r.1.1 q.1.1 && (!(k_wq r.1.2 q.1.2 && k_wq r.2 q.2) && (k_eqS S q.1.2 r.1.2 && !(k_eqS S q.2 r.2)))) with
    | true =>
      rw [c, cond_true] at he
      cases he
      simp only [Bool.and_eq_true] at c
      have hr := hl r List.mem_cons_self
      have u := k_s03_uq h hq hr h3 (k_wq_ok c.1) (k_eqv_ok h.2.1 h.2.2.1 c.2.2.1)
      refine ⟨kSc_sub (h.2.2.2.2.2.2.2 q hq).2.2 (h.2.2.2.2.2.2.2 r hr).2.2, ?_⟩
      rw [k_ev_sub]
      omega
    | false =>
      rw [c, cond_false] at he
      exact k_pr2_ok h hq h3 t (fun r hr => hl r (List.mem_cons_of_mem _ hr)) he
theorem k_prs_ok (h : kRS N σ S M) {e : kE} : ∀ l : List kH, (∀ r ∈ l, r ∈ S.2.2.2 ∧ k_s03 S r = true) → k_prs S l = some e → kSc S.1.length e ∧ k_ev σ e = 0
  | [], _, he => by cases he
  | q :: t, hl, he => by
    rw [k_prs_cons] at he
    split at he
    · rename_i x hx
      cases he
      obtain ⟨h1, h2⟩ := hl q List.mem_cons_self
      exact k_pr2_ok h h1 h2 t (fun r hr => (hl r (List.mem_cons_of_mem _ hr)).1) hx
    · exact k_prs_ok h t (fun r hr => hl r (List.mem_cons_of_mem _ hr)) he
theorem k_fpw_len : ∀ (rs : List Int) (Q : kE) (l : List kE), k_fpw S rs Q = some l → l.length = rs.length + 1
  | [], _, l, h => by
    cases h
    rfl
  | r :: t, Q, l, h => by
    unfold k_fpw at h
    split at h
    · cases h
    · rename_i z hz
      split at h
      · cases h
      · rename_i l' hl'
        cases h
        show l'.length + 1 = t.length + 1 + 1
        rw [k_fpw_len t _ _ hl']
theorem k_tde_len {c : kE} {z : Nat × List kE} (h : k_tde S c = some z) : z.2.length = (kTrd z.1).length + 1 := by
  rw [k_tde_eq] at h
  unfold k_tdx at h
  split at h
  · cases h
  · obtain ⟨-, h⟩ := pm_cs h
    split at h
    · cases h
    · rename_i l hl
      cases h
      show (l.map (k_nv S.1)).length = _
      rw [List.length_map, k_fpw_len _ _ _ hl]
theorem k_tde_4 {c : kE} {m e : kE} {r : List kE} (h : k_tde S c = some (1, m :: e :: r)) : r.length = 2 := by
  have := k_tde_len h
  have this : r.length + 1 + 1 = 3 + 1 := this
  omega
/-- numbers by kind and length -/
def k_nb1 (S : kS) (z : Nat) (t k e : kE) (u : kE) : Option (Option kS) :=
  match (cond (k_nzw S (k_sub t (kc 2)) || k_geS S (k_sub (k_sub e k) (kc 4))) (some (kc (-1))) (cond (k_eqS S t (kc 2) && k_geS S (k_sub (kc 3) (k_sub e k))) (k_tl S 1 [kc 1, e, kc 0, kc 0] k) none)) with
  | some w => cond (Nat.beq z 0 && k_eqS S u w) none (some (k_cnF S .eq (k_sub u w)))
  | none => none
def k_nb2 (S : kS) (z : Nat) (t k e : kE) : Option (Option kS) := match k_tl S 1 [kc 1, e, kc 0, kc 0] k with
  | none => none
  | some v => cond (k_eqS S t (kc 2)) (cond (cond (Nat.beq z 0) (k_geS S v) (Nat.beq z 3)) (cond (Nat.beq z 0 && k_geS S (k_sub (kc 999) v)) none (some (k_asF S (k_sub (kc 999) v)))) (some (k_asF S v))) none
def k_nbq (S : kS) (z : Nat) (q : kH) : Option (Option kS) := match k_tde S q.1.1 with
  | some (1, m :: e :: _) => cond (k_wq m (kc 4) && (k_geS S q.1.2 && k_geS S (k_sub (kc 400) q.1.2))) (match k_tl S 1 [kc 0, kc 0, kc 0, kc 0] q.1.2 with
    | none => none
    | some t => match cond (Nat.ble z 1) (k_nb1 S z t q.1.2 e q.2) none with
      | some r => some r
      | none => k_nb2 S z t q.1.2 e) none
  | _ => none
theorem k_kind (h : kRS N σ S M) {t k : kE} {p : Nat} (hp : (p : Int) = k_ev σ k) (hp4 : p ≤ 400) (ht : k_tl S 1 [kc 0, kc 0, kc 0, kc 0] k = some t) : kSc S.1.length t ∧ k_ev σ t = kBv (kTt M) false [0, 0, 0, 0] p := by
  obtain ⟨b1, b2⟩ := k_tl1_ok h hp kSc_c ht
  rw [k_ev_c] at b2
  exact ⟨b1, b2⟩
theorem k_nb1_ok (h : kRS N σ S M) {z : Nat} {t k e u : kE} {p : Nat} {o : Option kS} {c d : Int} (hp : (p : Int) = k_ev σ k) (hp4 : p ≤ 400) (hk : kSc S.1.length k) (he : kSc S.1.length e) (hu : kSc S.1.length u) (ht : kSc S.1.length t ∧ k_ev σ t = kBv (kTt M) false [0, 0, 0, 0] p) (hv : k_ev σ u = kBv (kTt M) false [4, k_ev σ e, c, d] p) (ho : k_nb1 S z t k e u = some o) : kStp N σ S M o := by
  have kd := kT_kind (T := kTt M) (b := 0) (c := 0) (d := 0) hp4
  rw [← ht.2] at kd
  unfold k_nb1 at ho
  split at ho
  · rename_i w hw
    have key : kSc S.1.length w ∧ k_ev σ u = k_ev σ w := by
      cases c1 : (k_nzw S (k_sub t (kc 2)) || k_geS S (k_sub (k_sub e k) (kc 4))) with
      | true =>
        rw [c1, cond_true] at hw
        cases hw
        refine ⟨kSc_c, ?_⟩
        rw [hv, k_ev_c]
        refine kT_no hp4 ?_
        rcases Bool.or_eq_true_iff.mp c1 with c1 | c1
        · have := k_nzw_ok h c1
          rw [k_ev_sub, k_ev_c] at this
          left
          omega
        · have := k_ge_ok h.2.1 h.2.2.1 c1
          rw [k_ev_sub, k_ev_sub, k_ev_c] at this
          right
          omega
      | false =>
        rw [c1, cond_false] at hw
        obtain ⟨c2, hw⟩ := pm_cs hw
        obtain ⟨c2, c3⟩ := Bool.and_eq_true_iff.mp c2
        have c2 := k_eqv_ok h.2.1 h.2.2.1 c2
        have c3 := k_ge_ok h.2.1 h.2.2.1 c3
        rw [k_ev_c] at c2
        rw [k_ev_sub, k_ev_sub, k_ev_c] at c3
        obtain ⟨b1, b2⟩ := k_tl1_ok h hp he hw
        refine ⟨b1, ?_⟩
        rw [hv, b2]
        exact kT_n3 hp4 (by omega) (by omega)
    cases c4 : (Nat.beq z 0 && k_eqS S u w) with
    | true =>
      rw [c4, cond_true] at ho
      cases ho
    | false =>
      rw [c4, cond_false] at ho
      cases ho
      exact k_cnF_ok (c := .eq) h (kSc_sub hu key.1) (by show k_ev σ (k_sub u w) = 0; rw [k_ev_sub, key.2]; omega)
  · cases ho
theorem k_nb2_ok (h : kRS N σ S M) {z : Nat} {t k e : kE} {p : Nat} {o : Option kS} (hp : (p : Int) = k_ev σ k) (hp4 : p ≤ 400) (he : kSc S.1.length e) (ht : kSc S.1.length t ∧ k_ev σ t = kBv (kTt M) false [0, 0, 0, 0] p) (ho : k_nb2 S z t k e = some o) : kStp N σ S M o := by
  have kd := kT_kind (T := kTt M) (b := 0) (c := 0) (d := 0) hp4
  rw [← ht.2] at kd
  unfold k_nb2 at ho
  split at ho
  · cases ho
  · rename_i v hv
    obtain ⟨b1, b2⟩ := k_tl1_ok h hp he hv
    obtain ⟨c1, ho⟩ := pm_cs ho
    have c1 := k_eqv_ok h.2.1 h.2.2.1 c1
    rw [k_ev_c] at c1
    have r := kT_nr (T := kTt M) (p := p) (e := k_ev σ e) (c := 0) (d := 0) hp4 (by omega)
    rw [← b2] at r
    cases c2 : cond (Nat.beq z 0) (k_geS S v) (Nat.beq z 3) with
    | true =>
      rw [c2, cond_true] at ho
      cases c3 : (Nat.beq z 0 && k_geS S (k_sub (kc 999) v)) with
      | true =>
        rw [c3, cond_true] at ho
        cases ho
      | false =>
        rw [c3, cond_false] at ho
        cases ho
        exact k_asF_ok h (kSc_sub kSc_c b1) (by rw [k_ev_sub, k_ev_c]; omega)
    | false =>
      rw [c2, cond_false] at ho
      cases ho
      exact k_asF_ok h b1 r.1
theorem k_nbq_ok (h : kRS N σ S M) {z : Nat} {q : kH} {o : Option kS} (hq : q ∈ S.2.2.2) (ho : k_nbq S z q = some o) : kStp N σ S M o := by
  obtain ⟨s1, s2, s3⟩ := h.2.2.2.2.2.2.2 q hq
  unfold k_nbq at ho
  split at ho
  · rename_i m e r hz
    obtain ⟨a1, a2, a3, a4⟩ := k_tde_ok h s1 hz
    obtain ⟨c1, ho⟩ := pm_cs ho
    simp only [Bool.and_eq_true] at c1
    obtain ⟨c0, c1, c2⟩ := c1
    have c0 := k_wq_ok c0
    have c1 := k_ge_ok h.2.1 h.2.2.1 c1
    have c2 := k_ge_ok h.2.1 h.2.2.1 c2
    rw [k_ev_sub, k_ev_c] at c2
    have hp : ((k_ev σ q.1.2).toNat : Int) = k_ev σ q.1.2 := Int.toNat_of_nonneg c1
    have hv := ((a4 _ _).mp (h.2.2.2.2.1 q hq)).to hp
    have he : kSc S.1.length e := a2 e (List.mem_cons_of_mem _ List.mem_cons_self)
    have hv : kBv (kTt M) false ((m :: e :: r).map (k_ev σ)) (k_ev σ q.1.2).toNat = k_ev σ q.2 := hv
    rw [c0] at hv
    have hv4 : ∃ c d : Int, k_ev σ q.2 = kBv (kTt M) false [4, k_ev σ e, c, d] (k_ev σ q.1.2).toNat := by
      have hl : r.length = 2 := k_tde_4 hz
      clear hz
      cases r with
      | nil => exact absurd hl (by decide)
      | cons c r =>
        cases r with
        | nil =>
          simp only [List.length_cons, List.length_nil] at hl
          omega
        | cons d r =>
          cases r with
          | nil =>
            refine ⟨k_ev σ c, k_ev σ d, ?_⟩
            rw [← hv]
            show kBv (kTt M) false [k_ev σ (kc 4), k_ev σ e, k_ev σ c, k_ev σ d] _ = _
            rw [k_ev_c]
          | cons x r =>
            simp only [List.length_cons] at hl
            omega
    obtain ⟨c, d, hv4⟩ := hv4
    split at ho
    · cases ho
    · rename_i t ht
      have kt := k_kind h hp (by omega) ht
      split at ho
      · rename_i x hx
        cases ho
        obtain ⟨-, hx⟩ := pm_cs hx
        exact k_nb1_ok h hp (by omega) s2 he s3 kt hv4 hx
      · exact k_nb2_ok h hp (by omega) he kt ho
  · cases ho
end KTB
end
