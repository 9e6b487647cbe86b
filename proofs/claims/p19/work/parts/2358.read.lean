noncomputable section
/-! tables and functions: what a read tells -/
theorem kTms_le (g : Nat) : ∀ (f n : Nat) (L : Int), 0 ≤ L → L < 16 ^ n → kTms g f L ≤ (n : Int)
  | 0, n, _, _, _ => by
    show (0 : Int) ≤ (n : Int)
    omega
  | f + 1, 0, L, h0, h1 => by
    have : L = 0 := by
      have : (16 : Int) ^ 0 = 1 := rfl
      omega
    subst this
    rw [kTms_z]
    omega
  | f + 1, n + 1, L, h0, h1 => by
    have b := kTms_le g f n (L / 16) (by omega) (by rw [Int.pow_succ] at h1; generalize (16 : Int) ^ n = q at h1 ⊢; omega)
    show cond (decide (L % 16 = (g : Int) + 1)) 1 0 + kTms g f (L / 16) ≤ ((n + 1 : Nat) : Int)
    cases decide (L % 16 = (g : Int) + 1) with
    | false =>
      rw [cond_false]
      omega
    | true =>
      rw [cond_true]
      omega
section KRD
variable {N : kN} {σ : Nat → Int} {S : kS} {M : pM} {c j : kE} {a i : Nat} {q : pC} {L : List (kE × kS)}
theorem kGot.to {τ : Nat → Int} {G : List (kE × kS)} {e : kE} {U : kS} {x : Int} (hin : (e, U) ∈ G) (ag : kAgr S.1.length σ τ) (hl : S.1.length ≤ U.1.length) (hU : kRS N τ U M) (he : k_ev τ e = x) (hs : kSc U.1.length e) : kGot N S.1.length σ M G x := ⟨_, hin, τ, ag, hl, hU, he, hs⟩
/-- 464: a value of the reference's -/
def k_r8e (S : kS) (j : kE) (q : kH) : Option (kE × kE) := match k_ttq S 8 q with
  | none => none
  | some y => cond (k_geS S y) (match k_pdg S q.2 with
    | none => none
    | some d => cond (k_eqS S j (k_sub q.1.2 (kc 1))) (some (y, d.1)) (match k_pdg S d.2 with
      | none => none
      | some e => cond (k_eqS S j (k_sub q.1.2 (kc 2))) (some (y, e.1)) none)) none
theorem k_r8e_ok (h : kRS N σ S M) {q : kH} {r : kE × kE} (hq : q ∈ S.2.2.2) (hj : (i : Int) = k_ev σ j) (hr : k_r8e S j q = some r) : (kSc S.1.length r.1 ∧ kSc S.1.length r.2) ∧ 0 ≤ k_ev σ r.1 ∧ k_gi M 464 i = some (kBt (k_ev σ r.1).toNat (k_ev σ r.2)) := by
  obtain ⟨-, s2, s3⟩ := h.2.2.2.2.2.2.2 q hq
  unfold k_r8e at hr
  split at hr
  · cases hr
  · rename_i y hy
    obtain ⟨sy, t0, t1⟩ := k_ttq_ok h hq hy
    obtain ⟨y0, hr⟩ := pm_cs hr
    have y0 := k_ge_ok h.2.1 h.2.2.1 y0
    split at hr
    · cases hr
    · rename_i d hd
      obtain ⟨⟨d1, d2⟩, d3, d4⟩ := k_pdg_ok h s3 hd
      have e0 : ∀ P : Int, kDg P 0 = P % kBg := fun P => by
        unfold kDg
        rw [Int.pow_zero, Int.ediv_one]
      cases c1 : k_eqS S j (k_sub q.1.2 (kc 1)) with
      | true =>
        rw [c1, cond_true] at hr
        cases hr
        have c1 := k_eqv_ok h.2.1 h.2.2.1 c1
        rw [k_ev_sub, k_ev_c] at c1
        refine ⟨⟨sy, d1⟩, y0, ?_⟩
        have t := t1 i (by omega)
        rw [show (k_ev σ q.1.2).toNat - 1 - i = 0 by omega, e0, ← d2] at t
        exact t
      | false =>
        rw [c1, cond_false] at hr
        split at hr
        · cases hr
        · rename_i e he
          obtain ⟨⟨e1, e2⟩, -, -⟩ := k_pdg_ok h d3 he
          obtain ⟨c2, hr⟩ := pm_cs hr
          cases hr
          have c2 := k_eqv_ok h.2.1 h.2.2.1 c2
          rw [k_ev_sub, k_ev_c] at c2
          refine ⟨⟨sy, e1⟩, y0, ?_⟩
          have t := t1 i (by omega)
          rw [show (k_ev σ q.1.2).toNat - 1 - i = 0 + 1 by omega, ← kDg_dv, e0, ← d4, ← e2] at t
          exact t
def k_r8v (S : kS) (c j : kE) : Option (List (kE × kS)) := match lfo (k_r8e S j) S.2.2.2 with
  | none => none
  | some r => some [((k_mem S (k_ff7 1 r.1) r.2 0 1).1, k_put (k_mem S (k_ff7 1 r.1) r.2 0 1).2 ((c, j), (k_mem S (k_ff7 1 r.1) r.2 0 1).1))]
theorem k_r8v_ok (h : kRS N σ S M) (hc : kSc S.1.length c) (hs : kSc S.1.length j) (ha : (a : Int) = k_ev σ c) (ha2 : a = 464) (hj : (i : Int) = k_ev σ j) (hq : M[a]? = some q) (hr : k_r8v S c j = some L) : kRdd N σ S M q i L := by
  unfold k_r8v at hr
  split at hr
  · cases hr
  · rename_i r hr2
    cases hr
    obtain ⟨p, hp, hr2⟩ := lfo_in hr2
    obtain ⟨⟨r1, r2⟩, r3, r4⟩ := k_r8e_ok h hp hj hr2
    subst ha2
    obtain ⟨w, w1, w2⟩ := k_gi_at r4 hq
    have b := kBt_01 (k_ev σ r.1).toNat (k_ev σ r.2)
    obtain ⟨τ, t1, t2, t3, t4, t5⟩ := k_me7_ok (z := 1) (u := r.1) (k := r.2) (lo := 0) (hi := 1) h r1 r2 (by omega) (by omega) r3 (by show 0 ≤ kBt (k_ev σ r.1).toNat (k_ev σ r.2); omega) (by show kBt (k_ev σ r.1).toNat (k_ev σ r.2) ≤ 1; omega)
    have t4 : k_ev τ (k_mem S (k_ff7 1 r.1) r.2 0 1).1 = kBt (k_ev σ r.1).toNat (k_ev σ r.2) := t4
    refine ⟨w, _, w1, w2, _, List.mem_singleton.mpr rfl, τ, t1, t2, kRS_put t3 ⟨hc.mono t2, hs.mono t2, t5⟩ ?_, t4, t5⟩
    show kHas N M (k_ev τ c) (k_ev τ j) (k_ev τ (k_mem S (k_ff7 1 r.1) r.2 0 1).1)
    rw [t4, k_ev_agree t1 hs, k_ev_agree t1 hc]
    exact kHas_at ha hj hq w1 w2
/-- 388: how often a list of twelve has a fact -/
def k_r3v (S : kS) (c j : kE) : Option (List (kE × kS)) := cond (k_fiS S 0 11 j && lany (fun q => match k_ttq S 3 q with
  | some _ => decide (0 ≤ k_lo S.1 q.2) && decide (k_hi S.1 q.2 < kPw 48)
  | none => false) S.2.2.2) (some [((k_new S 0 12).1, k_put (k_new S 0 12).2 ((c, j), (k_new S 0 12).1))]) none
theorem k_r3v_ok (h : kRS N σ S M) (hc : kSc S.1.length c) (hs : kSc S.1.length j) (ha : (a : Int) = k_ev σ c) (ha2 : a = 388) (hj : (i : Int) = k_ev σ j) (hq : M[a]? = some q) (hr : k_r3v S c j = some L) : kRdd N σ S M q i L := by
  unfold k_r3v at hr
  obtain ⟨g, hr⟩ := pm_cs hr
  cases hr
  obtain ⟨g1, g2⟩ := Bool.and_eq_true_iff.mp g
  have g1 := k_fit_ok h.2.1 h.2.2.1 g1
  rw [lany_eq] at g2
  obtain ⟨p, hp, g2⟩ := List.any_eq_true.mp g2
  split at g2
  · rename_i y hy
    obtain ⟨-, T⟩ := k_ttq_ok h hp hy
    have T : k_gi M 388 i = some (kTms i 14 (k_ev σ p.2)) := T i (by omega)
    obtain ⟨g3, g4⟩ := Bool.and_eq_true_iff.mp g2
    have g3 := of_decide_eq_true g3
    have g4 := of_decide_eq_true g4
    have l1 := k_lo_le h.2.1 p.2
    have l2 := k_hi_ge h.2.1 p.2
    have hpw : kPw 48 = (16 : Int) ^ 12 := rfl
    have b1 := kTms_nn i 14 (k_ev σ p.2)
    have b2 := kTms_le i 14 12 (k_ev σ p.2) (by omega) (by rw [← hpw]; omega)
    subst ha2
    obtain ⟨w, w1, w2⟩ := k_gi_at T hq
    obtain ⟨τ, t1, t2, t3, t4, t5⟩ := k_new_ok h (lo := 0) (hi := 12) b1 b2
    refine ⟨w, _, w1, w2, _, List.mem_singleton.mpr rfl, τ, t1, t2, kRS_put t3 ⟨hc.mono t2, hs.mono t2, t5⟩ ?_, t4, t5⟩
    show kHas N M (k_ev τ c) (k_ev τ j) (k_ev τ (k_new S 0 12).1)
    rw [t4, k_ev_agree t1 hs, k_ev_agree t1 hc]
    exact kHas_at ha hj hq w1 w2
  · cases g2
/-- 462: a sign that waits -/
def k_wm1 (x : Nat) (q : kH) (T : kS) : kS := match k_ttq T 5 q with
  | none => T
  | some _ => (match k_pdg T q.2 with
    | none => T
    | some d => (match k_pdg T d.2 with
      | none => T
      | some e => (k_mem T (k_fop (cond (Nat.beq x 22) 5 4) e.1) (cond (Nat.beq x 23) (k_sub (kc (kPw 4096 - 1)) d.1) d.1) 0 (kPw 4096 - 1)).2))
def k_wmm (x : Nat) : List kH → kS → kS
  | [], T => T
  | q :: t, T => k_wmm x t (k_wm1 x q T)
theorem k_wm1_ok {T : kS} (h : kRS N σ T M) (x : Nat) {q : kH} (sq : kSc T.1.length q.2) : ∃ τ, kAgr T.1.length σ τ ∧ T.1.length ≤ (k_wm1 x q T).1.length ∧ kRS N τ (k_wm1 x q T) M := by
  unfold k_wm1
  split
  · exact ⟨σ, fun _ _ => rfl, Nat.le_refl _, h⟩
  · split
    · exact ⟨σ, fun _ _ => rfl, Nat.le_refl _, h⟩
    · rename_i d hd
      obtain ⟨⟨d1, d2⟩, d3, d4⟩ := k_pdg_ok h sq hd
      split
      · exact ⟨σ, fun _ _ => rfl, Nat.le_refl _, h⟩
      · rename_i e he
        obtain ⟨⟨e1, e2⟩, -, -⟩ := k_pdg_ok h d3 he
        have m1 := kPm (k_ev σ q.2)
        have m2 := kPm (k_ev σ d.2)
        rw [← d2] at m1
        rw [← e2] at m2
        have hb := kPw_bg
        have hk : kSc T.1.length (cond (Nat.beq x 23) (k_sub (kc (kPw 4096 - 1)) d.1) d.1) ∧ 0 ≤ k_ev σ (cond (Nat.beq x 23) (k_sub (kc (kPw 4096 - 1)) d.1) d.1) ∧ k_ev σ (cond (Nat.beq x 23) (k_sub (kc (kPw 4096 - 1)) d.1) d.1) < kBg := by
          cases Nat.beq x 23 with
          | true =>
            rw [cond_true, k_ev_sub, k_ev_c, hb]
            exact ⟨kSc_sub kSc_c d1, by omega, by omega⟩
          | false =>
            rw [cond_false]
            exact ⟨d1, m1.1, m1.2⟩
        generalize cond (Nat.beq x 23) (k_sub (kc (kPw 4096 - 1)) d.1) d.1 = k at hk ⊢
        cases c2 : Nat.beq x 22 with
        | true =>
          rw [cond_true]
          obtain ⟨r1, r2⟩ := kOr_rg m2.1 m2.2 hk.2.1 hk.2.2
          obtain ⟨τ, t1, t2, t3, -, -⟩ := k_mef_ok (o := 5) (x := e.1) (k := k) (lo := 0) (hi := kPw 4096 - 1) h e1 hk.1 (by omega) (by omega) m2.1 r1 (by rw [hb]; show kOr (k_ev σ e.1) (k_ev σ k) ≤ kBg - 1; omega)
          exact ⟨τ, t1, t2, t3⟩
        | false =>
          rw [cond_false]
          obtain ⟨r1, r2⟩ := kAnd_rg (b := k_ev σ k) m2.1 m2.2
          obtain ⟨τ, t1, t2, t3, -, -⟩ := k_mef_ok (o := 4) (x := e.1) (k := k) (lo := 0) (hi := kPw 4096 - 1) h e1 hk.1 (by omega) (by omega) m2.1 r1 (by rw [hb]; show kAnd (k_ev σ e.1) (k_ev σ k) ≤ kBg - 1; omega)
          exact ⟨τ, t1, t2, t3⟩
theorem k_wmm_ok (x : Nat) : ∀ (l : List kH) (σ : Nat → Int) (T : kS), kRS N σ T M → (∀ q ∈ l, kSc T.1.length q.2) → ∃ τ, kAgr T.1.length σ τ ∧ T.1.length ≤ (k_wmm x l T).1.length ∧ kRS N τ (k_wmm x l T) M
  | [], σ, T, h, _ => ⟨σ, fun _ _ => rfl, Nat.le_refl _, h⟩
  | q :: t, σ, T, h, hl => by
    obtain ⟨τ, t1, t2, t3⟩ := k_wm1_ok h x (hl q List.mem_cons_self)
    obtain ⟨υ, u1, u2, u3⟩ := k_wmm_ok x t τ (k_wm1 x q T) t3 (fun r hr => (hl r (List.mem_cons_of_mem _ hr)).mono t2)
    exact ⟨υ, fun b hb => (u1 b (Nat.lt_of_lt_of_le hb t2)).trans (t1 b hb), Nat.le_trans t2 u2, u3⟩
def k_wy0 (T : kS) (j w : kE) : Option kS := cond (k_wq (k_nv T.1 j) (kc 0)) (k_cn T .eq w) (some T)
def k_wy1 (o : Option kS) (a b j w : kE) : Option kS := match o with
  | none => none
  | some T => (match k_asm3 T a b j with
    | none => none
    | some U => k_wy0 U j w)
def k_wyx (x : Nat) (T : kS) : kS := cond (Nat.ble 21 x && Nat.ble x 23) (k_wmm x T.2.2.2 T) T
def k_way (o : Option kS) (c j w a b : kE) (x : Nat) : List (kE × kS) := match k_wy1 o a b j w with
  | none => []
  | some T => [(kc (x : Int), k_put (k_put (k_put (k_put (k_wyx x T) ((kc (-5), j), b)) ((kc (-4), j), a)) ((kc (-7039), j), w)) ((c, j), kc (x : Int)))]
theorem k_way_ok {A O W : kE} {k x : Nat} {v : Value} {o : Option kS} (h : kRS N σ S M) (ho : ∃ T, o = some T ∧ T.1.length = S.1.length ∧ kRS N σ T M) (hc : kSc S.1.length c) (hs : kSc S.1.length j) (sw : kSc S.1.length W) (sa : kSc S.1.length A) (so : kSc S.1.length O) (ha : (a : Int) = k_ev σ c) (hj : (k : Int) = k_ev σ j) (hq : M[a]? = some q) (h1 : kWt M 21 23 k (k_ev σ A)) (h2 : kWt M 24 24 k (k_ev σ O)) (h3 : kWs M k = some (k_ev σ W)) (hv : q.2[k]? = some v) (hn : kNum v (x : Int)) : kGot N S.1.length σ M (k_way o c j W A O x) (x : Int) := by
  obtain ⟨T, rfl, l1, hT⟩ := ho
  have r := kWt_rng h1 h2
  rw [← l1] at hc hs sw sa so
  obtain ⟨U, z1, z2, z3⟩ := k_asm3_ok hT sa so hs r.1 r.2.1 (by omega)
  have hV : ∃ V, k_wy0 U j W = some V ∧ V.1.length = U.1.length ∧ kRS N σ V M := by
    unfold k_wy0
    cases c1 : k_wq (k_nv U.1 j) (kc 0) with
    | false => exact ⟨U, rfl, rfl, z3⟩
    | true =>
      rw [cond_true]
      have e := k_nv_ok (e := j) z3.2.1
      rw [k_wq_ok c1, k_ev_c] at e
      have k0 : k = 0 := by omega
      rw [k0] at h3
      have h3 := Option.some.inj h3
      exact k_cn_ok (c := .eq) z3 (by rw [z2]; exact sw) (show k_ev σ W = 0 from h3.symm)
  obtain ⟨V, v1, v2, v3⟩ := hV
  have hX : ∃ τ, kAgr V.1.length σ τ ∧ V.1.length ≤ (k_wyx x V).1.length ∧ kRS N τ (k_wyx x V) M := by
    unfold k_wyx
    cases (Nat.ble 21 x && Nat.ble x 23) with
    | false => exact ⟨σ, fun _ _ => rfl, Nat.le_refl _, v3⟩
    | true => exact k_wmm_ok x V.2.2.2 σ V v3 (fun p hp => (v3.2.2.2.2.2.2.2 p hp).2.2)
  obtain ⟨τ, t1, t2, t3⟩ := hX
  have lV : V.1.length = T.1.length := v2.trans z2
  have l2 : T.1.length ≤ (k_wyx x V).1.length := by omega
  have ag : kAgr T.1.length σ τ := fun b hb => t1 b (by omega)
  unfold k_way k_wy1
  dsimp only
  rw [z1]
  dsimp only
  rw [v1]
  refine ⟨_, List.mem_singleton.mpr rfl, τ, fun b hb => ag b (by omega), by show S.1.length ≤ (k_wyx x V).1.length; omega, kRS_put (kRS_put (kRS_put (kRS_put t3 ⟨kSc_c, hs.mono l2, so.mono l2⟩ ?_) ⟨kSc_c, hs.mono l2, sa.mono l2⟩ ?_) ⟨kSc_c, hs.mono l2, sw.mono l2⟩ ?_) ⟨hc.mono l2, hs.mono l2, kSc_c⟩ ?_, k_ev_c _ _, kSc_c⟩
  · show kHas N M (k_ev τ (kc (-5))) (k_ev τ j) (k_ev τ O)
    rw [k_ev_c, k_ev_agree ag hs, k_ev_agree ag so]
    exact kHas_5 h2 hj
  · show kHas N M (k_ev τ (kc (-4))) (k_ev τ j) (k_ev τ A)
    rw [k_ev_c, k_ev_agree ag hs, k_ev_agree ag sa]
    exact kHas_4 h1 hj
  · show kHas N M (k_ev τ (kc (-7039))) (k_ev τ j) (k_ev τ W)
    rw [k_ev_c, k_ev_agree ag hs, k_ev_agree ag sw]
    exact (k_tth (k := 6) (y := 0) (by omega) (by omega) (by omega)).mpr ⟨k, hj, h3⟩
  · show kHas N M (k_ev τ c) (k_ev τ j) (k_ev τ (kc (x : Int)))
    rw [k_ev_c, k_ev_agree ag hs, k_ev_agree ag hc]
    exact kHas_at ha hj hq hv hn
def k_r6w (S : kS) (j : kE) (q : kH) : Option kE := match k_ttq S 6 q with
  | some _ => cond (k_eqS S q.1.2 (k_add j (kc 1))) (some q.2) none
  | none => none
def k_r6l (S : kS) (c j W A O : kE) (r : kE × kE) : List (kE × kS) := k_way (k_cn S .eq (k_sub r.2 (kc 2))) c j r.1 (k_sub A (kc 1)) O 21 ++ (k_way (k_cn S .eq (k_sub r.2 (kc 3))) c j r.1 (k_sub A (kc 1)) O 22 ++ (k_way (k_cn S .eq (k_sub r.2 (kc 4))) c j r.1 (k_sub A (kc 1)) O 23 ++ (k_way (k_cn S .eq (k_sub r.2 (kc 5))) c j r.1 A (k_sub O (kc 1)) 24 ++ (k_way (k_cn S .eq (k_sub r.2 (kc 1))) c j r.1 A O 20 ++ k_way (k_cn S .ne (k_sub r.2 (kc 1))) c j (k_add (k_mul 8 W) (kc 1)) A O 20))))
def k_r6v (S : kS) (c j : kE) : Option (List (kE × kS)) := match lfo (k_r6w S j) S.2.2.2 with
  | none => none
  | some W => (match k_spl S W 8 with
    | none => none
    | some r => (match S.2.2.2.find? (fun q => k_is q.1.1 (-4) && k_eqv S.1 S.2.1 q.1.2 (k_add j (kc 1))) with
      | none => none
      | some A => (match S.2.2.2.find? (fun q => k_is q.1.1 (-5) && k_eqv S.1 S.2.1 q.1.2 (k_add j (kc 1))) with
        | none => none
        | some O => some (k_r6l S c j W A.2 O.2 r))))
theorem k_r6v_ok (h : kRS N σ S M) (hc : kSc S.1.length c) (hs : kSc S.1.length j) (ha : (a : Int) = k_ev σ c) (ha2 : a = 462) (hj : (i : Int) = k_ev σ j) (hq : M[a]? = some q) (hr : k_r6v S c j = some L) : kRdd N σ S M q i L := by
  unfold k_r6v at hr
  split at hr
  · cases hr
  · rename_i W hW
    split at hr
    · cases hr
    · rename_i r hrs
      split at hr
      · cases hr
      · rename_i A hA
        split at hr
        · cases hr
        · rename_i O hO
          cases hr
          obtain ⟨p, hp, hW⟩ := lfo_in hW
          obtain ⟨-, -, sp⟩ := h.2.2.2.2.2.2.2 p hp
          unfold k_r6w at hW
          split at hW
          · rename_i y hy
            obtain ⟨g, hW⟩ := pm_cs hW
            cases hW
            have g := k_eqv_ok h.2.1 h.2.2.1 g
            rw [k_ev_add, k_ev_c] at g
            obtain ⟨-, k0, e0, w0⟩ := k_ttq_ok h hp hy
            have : k0 = i + 1 := by omega
            subst this
            obtain ⟨r1, r2, r3, r4, r5⟩ := k_spl_ok h sp hrs
            have hin1 := List.mem_of_find?_eq_some hA
            have hin2 := List.mem_of_find?_eq_some hO
            have f1 := List.find?_some hA
            have f2 := List.find?_some hO
            obtain ⟨f1, f3⟩ := Bool.and_eq_true_iff.mp f1
            obtain ⟨f2, f4⟩ := Bool.and_eq_true_iff.mp f2
            have e3 := k_eqv_ok h.2.1 h.2.2.1 f3
            have e4 := k_eqv_ok h.2.1 h.2.2.1 f4
            rw [k_ev_add, k_ev_c] at e3 e4
            have g1 := h.2.2.2.2.1 _ hin1
            have g2 := h.2.2.2.2.1 _ hin2
            rw [k_is_ev (σ := σ) f1] at g1
            rw [k_is_ev (σ := σ) f2] at g2
            obtain ⟨k1, a1, a2⟩ : ∃ k : Nat, (k : Int) = k_ev σ A.1.2 ∧ kWt M 21 23 k (k_ev σ A.2) := kPhi_to (i := 4) (p := 0) rfl (by omega) (g1.2 (by omega))
            obtain ⟨k2, b1, b2⟩ : ∃ k : Nat, (k : Int) = k_ev σ O.1.2 ∧ kWt M 24 24 k (k_ev σ O.2) := kPhi_to (i := 5) (p := 0) rfl (by omega) (g2.2 (by omega))
            have : k1 = i + 1 := by omega
            subst this
            have : k2 = i + 1 := by omega
            subst this
            have sA := (h.2.2.2.2.2.2.2 _ hin1).2.2
            have sO := (h.2.2.2.2.2.2.2 _ hin2).2.2
            obtain ⟨V, x, w1, w2, w3⟩ := kWs_to w0
            obtain ⟨x', x1, x2, x3⟩ := a2
            rw [w2] at x1
            cases x1
            obtain ⟨y', y1, y2, y3⟩ := b2
            rw [w2] at y1
            cases y1
            have nn := (kWs_rg w1).1
            have k11 := kWs_1 i w1 1
            have k11 : ¬ (V % 8 = 1 ∧ V / 8 % 8 = 1) := k11.1
            subst ha2
            obtain ⟨v, v1, v2⟩ := k_gi_at w2 hq
            refine ⟨v, x, v1, v2, ?_⟩
            have cneq : ∀ {t : Int}, k_ev σ r.2 = t → ∃ T, k_cn S .eq (k_sub r.2 (kc t)) = some T ∧ T.1.length = S.1.length ∧ kRS N σ T M := fun e => k_cn_ok (c := .eq) h (kSc_sub r5 kSc_c) (by show k_ev σ (k_sub r.2 (kc _)) = 0; rw [k_ev_sub, k_ev_c]; omega)
            unfold k_r6l
            rcases w3 with ⟨p1, p2, p3⟩ | ⟨p1, p2, p3⟩ | ⟨p1, p2, p3⟩
            · have eV : V = k_ev σ r.1 := by omega
              have ed : k_ev σ r.2 = x - 19 := by omega
              by_cases c24 : x = 24
              · have x4 : kWt M 21 23 i (k_ev σ A.2) := by
                  rcases x3 with ⟨u1, u2, u3⟩ | ⟨u1, u3⟩
                  · omega
                  · exact u3
                have y4 : kWt M 24 24 i (k_ev σ O.2 - 1) := by
                  rcases y3 with ⟨u1, u2, u3⟩ | ⟨u1, u3⟩
                  · exact u3
                  · omega
                subst c24
                refine kGot.app (L := k_way (k_cn S .eq (k_sub r.2 (kc 5))) c j r.1 A.2 (k_sub O.2 (kc 1)) 24) ?_ fun z hz => List.mem_append_right _ (List.mem_append_right _ (List.mem_append_right _ (List.mem_append_left _ hz)))
                exact k_way_ok (x := 24) h (cneq (by omega)) hc hs r4 sA (kSc_sub sO kSc_c) ha hj hq x4 (by rw [k_ev_sub, k_ev_c]; exact y4) (by rw [← eV]; exact w1) v1 v2
              · have x4 : kWt M 21 23 i (k_ev σ A.2 - 1) := by
                  rcases x3 with ⟨u1, u2, u3⟩ | ⟨u1, u3⟩
                  · exact u3
                  · omega
                have y4 : kWt M 24 24 i (k_ev σ O.2) := by
                  rcases y3 with ⟨u1, u2, u3⟩ | ⟨u1, u3⟩
                  · omega
                  · exact u3
                have hx : x = 21 ∨ x = 22 ∨ x = 23 := by omega
                rcases hx with hx | hx | hx
                · subst hx
                  refine kGot.app (L := k_way (k_cn S .eq (k_sub r.2 (kc 2))) c j r.1 (k_sub A.2 (kc 1)) O.2 21) ?_ fun z hz => List.mem_append_left _ hz
                  exact k_way_ok (x := 21) h (cneq (by omega)) hc hs r4 (kSc_sub sA kSc_c) sO ha hj hq (by rw [k_ev_sub, k_ev_c]; exact x4) y4 (by rw [← eV]; exact w1) v1 v2
                · subst hx
                  refine kGot.app (L := k_way (k_cn S .eq (k_sub r.2 (kc 3))) c j r.1 (k_sub A.2 (kc 1)) O.2 22) ?_ fun z hz => List.mem_append_right _ (List.mem_append_left _ hz)
                  exact k_way_ok (x := 22) h (cneq (by omega)) hc hs r4 (kSc_sub sA kSc_c) sO ha hj hq (by rw [k_ev_sub, k_ev_c]; exact x4) y4 (by rw [← eV]; exact w1) v1 v2
                · subst hx
                  refine kGot.app (L := k_way (k_cn S .eq (k_sub r.2 (kc 4))) c j r.1 (k_sub A.2 (kc 1)) O.2 23) ?_ fun z hz => List.mem_append_right _ (List.mem_append_right _ (List.mem_append_left _ hz))
                  exact k_way_ok (x := 23) h (cneq (by omega)) hc hs r4 (kSc_sub sA kSc_c) sO ha hj hq (by rw [k_ev_sub, k_ev_c]; exact x4) y4 (by rw [← eV]; exact w1) v1 v2
            · have x4 : kWt M 21 23 i (k_ev σ A.2) := by
                rcases x3 with ⟨u1, u2, u3⟩ | ⟨u1, u3⟩
                · omega
                · exact u3
              have y4 : kWt M 24 24 i (k_ev σ O.2) := by
                rcases y3 with ⟨u1, u2, u3⟩ | ⟨u1, u3⟩
                · omega
                · exact u3
              subst p1
              refine kGot.app (L := k_way (k_cn S .ne (k_sub r.2 (kc 1))) c j (k_add (k_mul 8 p.2) (kc 1)) A.2 O.2 20) ?_ fun z hz => List.mem_append_right _ (List.mem_append_right _ (List.mem_append_right _ (List.mem_append_right _ (List.mem_append_right _ hz))))
              exact k_way_ok (x := 20) h (k_cn_ok (c := .ne) h (kSc_sub r5 kSc_c) (by show k_ev σ (k_sub r.2 (kc 1)) ≠ 0; rw [k_ev_sub, k_ev_c]; omega)) hc hs (kSc_add (kSc_mul sp) kSc_c) sA sO ha hj hq x4 y4 (by rw [k_ev_add, k_ev_mul, k_ev_c, show 8 * k_ev σ p.2 + 1 = V by omega]; exact w1) v1 v2
            · have x4 : kWt M 21 23 i (k_ev σ A.2) := by
                rcases x3 with ⟨u1, u2, u3⟩ | ⟨u1, u3⟩
                · omega
                · exact u3
              have y4 : kWt M 24 24 i (k_ev σ O.2) := by
                rcases y3 with ⟨u1, u2, u3⟩ | ⟨u1, u3⟩
                · omega
                · exact u3
              subst p1
              refine kGot.app (L := k_way (k_cn S .eq (k_sub r.2 (kc 1))) c j r.1 A.2 O.2 20) ?_ fun z hz => List.mem_append_right _ (List.mem_append_right _ (List.mem_append_right _ (List.mem_append_right _ (List.mem_append_left _ hz))))
              exact k_way_ok (x := 20) h (cneq (by omega)) hc hs r4 sA sO ha hj hq x4 y4 (by rw [show k_ev σ r.1 = V by omega]; exact w1) v1 v2
          · cases hW
/-- 461: a sign within a list -/
def k_r7b (S : kS) (j y : kE) (r : kH) : Bool := match k_ttq S 7 r with
  | some y2 => k_eqS S y2 y && k_geS S (k_sub (k_sub r.1.2 (kc 1)) j)
  | none => false
def k_r7a (S : kS) (j : kE) (q : kH) : Option (kH × kE) := match k_ttq S 7 q with
  | some y => cond (k_eqS S q.1.2 j && lany (k_r7b S j y) S.2.2.2) (some (q, y)) none
  | none => none
def k_r7v (S : kS) (c j : kE) : Option (List (kE × kS)) := match lfo (k_r7a S j) S.2.2.2 with
  | none => none
  | some p => some [((k_new S 0 11).1, k_put (k_put (k_new S 0 11).2 ((p.1.1.1, k_add j (kc 1)), k_add (k_mul 16 p.1.2) (k_add (k_new S 0 11).1 (kc 1)))) ((c, j), (k_new S 0 11).1))]
theorem k_r7v_ok (h : kRS N σ S M) (hc : kSc S.1.length c) (hs : kSc S.1.length j) (ha : (a : Int) = k_ev σ c) (ha2 : a = 461) (hj : (i : Int) = k_ev σ j) (hq : M[a]? = some q) (hr : k_r7v S c j = some L) : kRdd N σ S M q i L := by
  unfold k_r7v at hr
  split at hr
  · cases hr
  · rename_i p hp
    cases hr
    obtain ⟨p0, hp0, hp⟩ := lfo_in hp
    unfold k_r7a at hp
    split at hp
    · rename_i y hy
      obtain ⟨g, hp⟩ := pm_cs hp
      cases hp
      obtain ⟨g1, g2⟩ := Bool.and_eq_true_iff.mp g
      have g1 := k_eqv_ok h.2.1 h.2.2.1 g1
      rw [lany_eq] at g2
      obtain ⟨r, hr, g2⟩ := List.any_eq_true.mp g2
      unfold k_r7b at g2
      split at g2
      · rename_i y2 hy2
        obtain ⟨g3, g4⟩ := Bool.and_eq_true_iff.mp g2
        have g3 := k_eqv_ok h.2.1 h.2.2.1 g3
        have g4 := k_ge_ok h.2.1 h.2.2.1 g4
        rw [k_ev_sub, k_ev_sub, k_ev_c] at g4
        obtain ⟨s1, s2, s3⟩ := h.2.2.2.2.2.2.2 p0 hp0
        obtain ⟨sy, z, n, z1, z2, z3⟩ := k_ttq_ok h hp0 hy
        obtain ⟨-, z', n', z1', z2', z3'⟩ := k_ttq_ok h hr hy2
        have ez : z' = z := by omega
        subst ez
        have ei : i = z' + n := by omega
        obtain ⟨d, ed⟩ : ∃ d, n' = (n + 1) + d := ⟨n' - (n + 1), by omega⟩
        rw [ed] at z3'
        obtain ⟨K, hK⟩ := kLs_dn z3'
        obtain ⟨K0, x, e1, e2, e3, e4, e5⟩ := kLs_to hK
        rw [z3] at e1
        cases e1
        rw [← ei] at e2
        subst ha2
        obtain ⟨w, w1, w2⟩ := k_gi_at e2 hq
        obtain ⟨τ, t1, t2, t3, t4, t5⟩ := k_new_ok h (lo := 0) (hi := 11) e3 e4
        have H := h.2.2.2.2.1 p0 hp0
        have hT : ∀ s v : Int, kHas N M (k_ev σ p0.1.1) s v ↔ kTab M 7 (k_ev σ y) s v := by
          unfold k_ttq at hy
          obtain ⟨-, hy⟩ := pm_cs hy
          split at hy
          · rename_i zz hzz
            obtain ⟨g7, hy⟩ := pm_cs hy
            cases hy
            unfold k_tab at hzz
            obtain ⟨gn, hzz⟩ := pm_cs hzz
            obtain ⟨-, F⟩ := k_tev_ok h s1 (k_neg_hi h gn) hzz
            rw [pm_beq g7] at F
            exact fun s v => F M s v
          · cases hy
        refine ⟨w, x, w1, w2, _, List.mem_singleton.mpr rfl, τ, t1, t2, kRS_put (kRS_put t3 ⟨s1.mono t2, kSc_add (hs.mono t2) kSc_c, kSc_add (kSc_mul (s3.mono t2)) (kSc_add t5 kSc_c)⟩ ?_) ⟨hc.mono t2, hs.mono t2, t5⟩ ?_, t4, t5⟩
        · show kHas N M (k_ev τ p0.1.1) (k_ev τ (k_add j (kc 1))) (k_ev τ (k_add (k_mul 16 p0.2) (k_add (k_new S 0 11).1 (kc 1))))
          rw [k_ev_add, k_ev_add, k_ev_add, k_ev_mul, k_ev_c, t4, k_ev_agree t1 s1, k_ev_agree t1 hs, k_ev_agree t1 s3]
          refine (hT _ _).mpr ⟨z', n + 1, z1, by omega, ?_⟩
          rw [← e5]
          exact hK
        · show kHas N M (k_ev τ c) (k_ev τ j) (k_ev τ (k_new S 0 11).1)
          rw [t4, k_ev_agree t1 hs, k_ev_agree t1 hc]
          exact kHas_at ha hj hq w1 w2
      · cases g2
    · cases hp
end KRD
end
