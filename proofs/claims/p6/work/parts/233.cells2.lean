noncomputable section
/-- a write of a number; kd: 0 an int, 1 a long -/
def k_far (b : kB) (c s : kE) (q : kH) : Bool := (decide (k_hi b c < k_lo b q.1.1) || decide (k_hi b q.1.1 < k_lo b c)) || (decide (0 < k_lo b (k_sub s q.1.2)) || decide (k_hi b (k_sub s q.1.2) < 0))
def k_rect (S : kS) (mods : List kMd) (c s : kE) : Bool := mods.any (fun m => k_fit S.1 S.2.1 (m.1.1 : Int) (m.1.2 : Int) c && k_fit S.1 S.2.1 (m.2.1 : Int) (m.2.2 : Int) s)
def k_wk (S : kS) (g : kSg) (rel v : kE) (kd r : Nat) : Bool := match g.2.2.2[r]? with
  | some q => k_fit S.1 S.2.1 q.2.1 q.2.2 v && cond (Nat.beq kd 0) (Nat.beq q.1 0 || (Nat.beq q.1 4 && (match k_qw g r rel with
    | some w => k_ge S.1 S.2.1 (k_sub (k_sub w (kc 1)) v)
    | none => false))) (Nat.beq q.1 1)
  | none => false
def k_left (S : kS) (c s v : kE) (q : kH) : List kH := cond (decide (k_hi S.1 q.1.1 < 0)) (k_vtr S c s v q) (cond (decide (0 ≤ k_lo S.1 q.1.1) && k_far S.1 c s q) [q] [])
def k_wro (mods : List kMd) (S : kS) (c s : kE) (d : kDe) (v : kE) (kd : Nat) : Option kS := match k_sgf S s d.2.2 with
  | none => none
  | some g => cond (k_rect S mods c s && (k_rs S.1 g.2.2.1 (k_sub s (kc (g.1 : Int)))).all (k_wk S g (k_sub s (kc (g.1 : Int))) v kd)) (some (S.1, S.2.1, S.2.2.1, ((c, s), v) :: S.2.2.2.flatMap (k_left S c s v))) none
theorem k_rect_ok {N : kN} {σ : Nat → Int} {S : kS} {M : pM} {mods : List kMd} {c s : kE} {a j : Nat} (h : kRS N σ S M) (ha : (a : Int) = k_ev σ c) (hj : (j : Int) = k_ev σ s) (hr : k_rect S mods c s = true) : ∃ m ∈ mods, kInR m a j := by
  obtain ⟨m, hm, h1⟩ := List.any_eq_true.mp hr
  obtain ⟨h1, h2⟩ := Bool.and_eq_true_iff.mp h1
  have h1 := k_fit_ok h.2.1 h.2.2.1 h1
  have h2 := k_fit_ok h.2.1 h.2.2.1 h2
  refine ⟨m, hm, ?_⟩
  unfold kInR
  omega
theorem k_far_ok {σ : Nat → Int} {b : kB} {c s : kE} {q : kH} (hb : kBd σ b) (h : k_far b c s q = true) : ¬ (k_ev σ q.1.1 = k_ev σ c ∧ k_ev σ q.1.2 = k_ev σ s) := by
  rintro ⟨h1, h2⟩
  unfold k_far at h
  simp only [Bool.or_eq_true, decide_eq_true_eq] at h
  have a1 := k_lo_le hb c
  have a2 := k_hi_ge hb c
  have a3 := k_lo_le hb q.1.1
  have a4 := k_hi_ge hb q.1.1
  have a5 := k_lo_le hb (k_sub s q.1.2)
  have a6 := k_hi_ge hb (k_sub s q.1.2)
  rw [k_ev_sub] at a5 a6
  omega
theorem kMem_put {D : kDD} {M : pM} {a j : Nat} {q : pC} {w : Value} (hM : kMem D M) (hq : M[a]? = some q) (hw : ∀ d, (k_dg D (a)) = some d → k_djs d.2.2 = true → kTy d.1 w ∧ kOk d j w) : kMem D (pm_put M a j q w) := by
  refine ⟨by unfold pm_put; rw [List.length_set]; exact hM.1, fun b d hd => ?_⟩
  have hal : a < M.length := (List.getElem?_eq_some_iff.mp hq).1
  by_cases hb : b = a
  · subst hb
    obtain ⟨q', e1, e2⟩ := hM.2 _ d hd
    rw [hq] at e1
    cases e1
    refine ⟨(q.1, q.2.set j w), by unfold pm_put; rw [List.getElem?_set_self hal], e2.1, by rw [List.length_set]; exact e2.2.1, e2.2.2.1, fun i v hv => ?_⟩
    by_cases hi : i = j
    · subst hi
      have hl : i < q.2.length := by
        have := (List.getElem?_eq_some_iff.mp hv).1
        rwa [List.length_set] at this
      rw [List.getElem?_set_self hl] at hv
      cases hv
      exact hw d hd e2.2.2.1
    · rw [List.getElem?_set_ne (Ne.symm hi)] at hv
      exact e2.2.2.2 i v hv
  · obtain ⟨q', e1, e2⟩ := hM.2 b d hd
    exact ⟨q', by unfold pm_put; rw [List.getElem?_set_ne (Ne.symm hb)]; exact e1, e2⟩
theorem kSame_put {M : pM} {a j : Nat} {q : pC} {w : Value} {mods : List kMd} (hq : M[a]? = some q) (hm : ∃ m ∈ mods, kInR m a j) : kSame mods M (pm_put M a j q w) := by
  have hal : a < M.length := (List.getElem?_eq_some_iff.mp hq).1
  refine ⟨by unfold pm_put; rw [List.length_set], fun b c hc => ?_⟩
  by_cases hb : b = a
  · subst hb
    rw [hq] at hc
    cases hc
    refine ⟨(q.1, q.2.set j w), by unfold pm_put; rw [List.getElem?_set_self hal], rfl, List.length_set, fun i hi => ?_⟩
    have : i ≠ j := by
      rintro rfl
      obtain ⟨m, h1, h2⟩ := hm
      exact hi m h1 h2
    show (q.2.set j w)[i]? = _
    rw [List.getElem?_set_ne (Ne.symm this)]
  · exact ⟨c, by unfold pm_put; rw [List.getElem?_set_ne (Ne.symm hb)]; exact hc, rfl, rfl, fun _ _ => rfl⟩
theorem kHas_put {N : kN} {M : pM} {a j : Nat} {q : pC} {w : Value} {c s v : Int} (hq : M[a]? = some q) (h : kHas N M c s v) (h0 : 0 ≤ c) (hne : ¬ (c = (a : Int) ∧ s = (j : Int))) : kHas N (pm_put M a j q w) c s v := by
  refine ⟨fun _ => ?_, fun hl => by omega⟩
  have hal : a < M.length := (List.getElem?_eq_some_iff.mp hq).1
  obtain ⟨a', j', q', x, e1, e2, e3, e4, e5⟩ := h.1 h0
  by_cases ha : a' = a
  · subst ha
    rw [hq] at e3
    cases e3
    have hj : j' ≠ j := fun e => hne ⟨e1.symm, by rw [← e2, e]⟩
    exact ⟨a', j', (q.1, q.2.set j w), x, e1, e2, by unfold pm_put; rw [List.getElem?_set_self hal], by show (q.2.set j w)[j']? = _; rw [List.getElem?_set_ne (Ne.symm hj)]; exact e4, e5⟩
  · exact ⟨a', j', q', x, e1, e2, by unfold pm_put; rw [List.getElem?_set_ne (Ne.symm ha)]; exact e3, e4, e5⟩
theorem k_wk_ok {N : kN} {σ : Nat → Int} {S : kS} {M : pM} {g : kSg} {rel v : kE} {kd i : Nat} {w : Value} (h : kRS N σ S M) (hi : (i : Int) = k_ev σ rel) (hw : kNum w (k_ev σ v)) (hkd : (kd = 0 ∧ ∃ y : Int32, w = .int y) ∨ (kd = 1 ∧ ∃ y : Int64, w = .long y)) (hk : k_wk S g rel v kd (i % g.2.2.1) = true) : ∃ q, g.2.2.2[i % g.2.2.1]? = some q ∧ kOkQ q i (i / g.2.2.1) w := by
  unfold k_wk at hk
  split at hk
  · rename_i q hq
    refine ⟨q, hq, ?_⟩
    obtain ⟨h1, h2⟩ := Bool.and_eq_true_iff.mp hk
    have h1 := k_fit_ok h.2.1 h.2.2.1 h1
    obtain ⟨k, lo, hi⟩ := q
    have h1 : lo ≤ k_ev σ v ∧ k_ev σ v ≤ hi := h1
    rcases hkd with ⟨rfl, y, rfl⟩ | ⟨rfl, y, rfl⟩
    · have hy : y.toInt = k_ev σ v := by
        rcases hw with ⟨z, e1, e2⟩ | ⟨z, e1, -⟩
        · cases e1; exact e2
        · cases e1
      have h2 : (Nat.beq k 0 || (Nat.beq k 4 && (match k_qw g (i % g.2.2.1) rel with
          | some w => k_ge S.1 S.2.1 (k_sub (k_sub w (kc 1)) v)
          | none => false))) = true := h2
      rcases Bool.or_eq_true_iff.mp h2 with h2 | h2
      · have h2 : k = 0 := pm_beq h2
        subst h2
        exact ⟨y, rfl, by omega, by omega⟩
      · obtain ⟨h2, h3⟩ := Bool.and_eq_true_iff.mp h2
        have h2 : k = 4 := pm_beq h2
        subst h2
        split at h3
        · rename_i qw hqw
          have h3 := k_ge_ok h.2.1 h.2.2.1 h3
          rw [k_ev_sub, k_ev_sub, k_ev_c] at h3
          have := (k_qw_ok ‹_› hqw).1
          refine ⟨y, rfl, by show lo ≤ _; omega, by show _ ≤ hi; omega, ?_⟩
          omega
        · cases h3
    · have hy : y.toInt = k_ev σ v := by
        rcases hw with ⟨z, e1, -⟩ | ⟨z, e1, e2⟩
        · cases e1
        · cases e1; exact e2
      have h2 : Nat.beq k 1 = true := h2
      have h2 : k = 1 := pm_beq h2
      subst h2
      exact ⟨y, rfl, by omega, by omega⟩
  · cases hk
theorem k_left_ok {N : kN} {σ : Nat → Int} {S : kS} {M : pM} {c s v : kE} {a j : Nat} {cl : pC} {w : Value} (h : kRS N σ S M) (hc : kSc S.1.length c) (hs : kSc S.1.length s) (hv : kSc S.1.length v) (ha : (a : Int) = k_ev σ c) (hj : (j : Int) = k_ev σ s) (hcl : M[a]? = some cl) (hjl : j < cl.2.length) (hw : kNum w (k_ev σ v)) : ∀ q' ∈ S.2.2.2.flatMap (k_left S c s v), (kSc S.1.length q'.1.1 ∧ kSc S.1.length q'.1.2 ∧ kSc S.1.length q'.2) ∧ kHas N (pm_put M a j cl w) (k_ev σ q'.1.1) (k_ev σ q'.1.2) (k_ev σ q'.2) := by
  intro q' hq'
  obtain ⟨q, hq, hq'⟩ := List.mem_flatMap.mp hq'
  unfold k_left at hq'
  have a1 := k_lo_le h.2.1 q.1.1
  have a2 := k_hi_ge h.2.1 q.1.1
  cases h1 : decide (k_hi S.1 q.1.1 < 0) with
  | true =>
    rw [h1, cond_true] at hq'
    have h1 := of_decide_eq_true h1
    exact k_vtr_ok h hc hs hv ha hj hcl hjl hw hq (by omega) q' hq'
  | false =>
    rw [h1, cond_false] at hq'
    cases h2 : (decide (0 ≤ k_lo S.1 q.1.1) && k_far S.1 c s q) with
    | false =>
      rw [h2, cond_false] at hq'
      cases hq'
    | true =>
      rw [h2, cond_true] at hq'
      obtain rfl := List.mem_singleton.mp hq'
      obtain ⟨h2, h3⟩ := Bool.and_eq_true_iff.mp h2
      have h2 := of_decide_eq_true h2
      exact ⟨h.2.2.2.2.2.2.2 _ hq, kHas_put hcl (h.2.2.2.2.1 _ hq) (by omega) (fun hx => k_far_ok h.2.1 h3 ⟨by rw [hx.1, ha], by rw [hx.2, hj]⟩)⟩
theorem k_wro_ok {D : kDD} {N : kN} {σ : Nat → Int} {S T : kS} {M : pM} {mods : List kMd} {c s v : kE} {d : kDe} {a j kd : Nat} {q : pC} {w : Value} (h : kRS N σ S M) (hM : kMem D M) (hc : kSc S.1.length c) (hs : kSc S.1.length s) (hv : kSc S.1.length v) (ha : (a : Int) = k_ev σ c) (hj : (j : Int) = k_ev σ s) (hq : M[a]? = some q) (hd : (k_dg D (a)) = some d) (hjl : j < q.2.length) (hty : kTy d.1 w) (hw : kNum w (k_ev σ v)) (hkd : (kd = 0 ∧ ∃ y : Int32, w = .int y) ∨ (kd = 1 ∧ ∃ y : Int64, w = .long y))
    (hr : k_wro mods S c s d v kd = some T) : T.1.length = S.1.length ∧ kRS N σ T (pm_put M a j q w) ∧ kMem D (pm_put M a j q w) ∧ kSame mods M (pm_put M a j q w) := by
  unfold k_wro at hr
  split at hr
  · cases hr
  · rename_i g hg
    obtain ⟨h1, hr⟩ := pm_cs hr
    cases hr
    obtain ⟨g1, g2, g3, g4⟩ := k_sgf_ok h hj hg
    obtain ⟨h1, h2⟩ := Bool.and_eq_true_iff.mp h1
    have hal : a < M.length := (List.getElem?_eq_some_iff.mp hq).1
    have hrel : ((j - g.1 : Nat) : Int) = k_ev σ (k_sub s (kc (g.1 : Int))) := by
      rw [k_ev_sub, k_ev_c, ← hj]
      omega
    have hres := List.all_eq_true.mp h2 _ (k_rs_ok h.2.1 g2 hrel)
    have hokg : kOkG g j w := k_wk_ok h hrel hw hkd hres
    have hleft := k_left_ok h hc hs hv ha hj hq hjl hw
    have hkeep := h
    obtain ⟨g0, gb, gf, gn, gc, gs⟩ := h
    refine ⟨rfl, ⟨g0, gb, gf, gn, fun e he => ?_, gs.1, gs.2.1, fun e he => ?_⟩, kMem_put hM hq (fun d' hd' hdj => ?_), kSame_put hq (k_rect_ok hkeep ha hj h1)⟩
    · rcases List.mem_cons.mp he with rfl | he
      · refine ⟨fun _ => ⟨a, j, (q.1, q.2.set j w), w, ha, hj, by unfold pm_put; rw [List.getElem?_set_self hal], by show (q.2.set j _)[j]? = _; rw [List.getElem?_set_self hjl], hw⟩, fun hl => ?_⟩
        have hl : k_ev σ c < 0 := hl
        omega
      · exact (hleft e he).2
    · rcases List.mem_cons.mp he with rfl | he
      · exact ⟨hc, hs, hv⟩
      · exact (hleft e he).1
    · rw [hd] at hd'
      cases hd'
      refine ⟨hty, fun g' hg' b1 b2 => ?_⟩
      rw [k_djs_ok hdj g' hg' g g1 b1 b2 g3 g4]
      exact hokg
end
