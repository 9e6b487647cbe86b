noncomputable section
section KMN
variable {E : pM} {N : kN} {D : kDD} {X : List kDe} {env : List (List kCt)} {inl : Nat → Bool} {po : kPo} {loops : kLt} {gh : List kE} {H : List (Nat × Nat)}
theorem kRL.nil {n : Nat} {σ : Nat → Int} {ls : pL} : kRL E n σ [] ls := fun i q h => by cases h
theorem k_gh_agr {n : Nat} {σ τ : Nat → Int} (h : kAgr n σ τ) (hg : ∀ g ∈ gh, kSc n g) : gh.map (k_ev τ) = gh.map (k_ev σ) := List.map_congr_left fun g hg' => k_ev_agree h (hg g hg')
set_option maxHeartbeats 4000000 in
theorem k_exe_ok (hD : D.1 ≤ pmX) (hX : kExt X N E) (d0 : Nat) (r0 : Int) (M0 : pM) (p : List Int) (hwf : ∀ ct ∈ env.flatten, k_wfK ct.1 = true) (hlw : ∀ k ∈ k_flt loops, k_wfK k = true)
    (hmain : ∀ ct ∈ env.flatten, ∀ d, d < d0 → kHold E N D d ct.1 ct.2.1)
    (hloop : ∀ k ∈ k_flt loops, ∀ (d : Nat) (σ : Nat → Int) (M : pM) (cs : List cF), d + cs.length ≤ d0 + 1 → kRS N σ k.1 M → kMem D M → kRNs E k.1.1.length σ k.2.1 cs → kSame po.1 M0 M → k.2.2.2.2.1.map (k_ev σ) = p → k_ev σ k.2.2.1 ≤ (d : Int) → k_ev σ k.2.2.2.1 < r0 → 0 ≤ k_ev σ k.2.2.2.1 → kSem E (kPost E N D po p M0) d cs M) :
    ∀ (f pn : Nat) (dc rk : kE) (first : Bool) (S : kS) (fs : List kFr) (σ : Nat → Int) (M : pM) (cs : List cF) (d : Nat), k_exe D X env inl H po loops gh f pn dc rk first S fs = true → kRS N σ S M → kMem D M → kRFs E S.1.length σ fs cs → kSame po.1 M0 M → (∀ g ∈ gh, kSc S.1.length g) → gh.map (k_ev σ) = p → kSc S.1.length dc → k_ev σ dc ≤ (d : Int) → d + cs.length ≤ d0 + 1 → kSc S.1.length rk → k_ev σ rk = r0 → kSem E (kPost E N D po p M0) d cs M := by
  intro f
  induction f with
  | zero => intro pn dc rk first S fs σ M cs d h; cases h
  | succ f ih =>
    intro pn dc rk first S fs σ M cs d h hS hM hfs hsm hgs hgp sdc hdc hd0 srk hrk
    match fs, cs, hfs with
    | [], _, _ => cases h
    | g :: rest, c :: crest, hfs =>
      unfold k_exe at h
      simp only at h
      cases hh : (!first && (k_lps loops g.2.2.1).any (fun k => k_here k.2.1 (g :: rest))) with
      | true =>
        rw [hh, cond_true] at h
        obtain ⟨T, a1, a2, a3⟩ := k_adx_ok hS H pn f
        rw [a1] at h
        dsimp only at h
        rw [← a2] at hfs hgs sdc srk
        clear hS
        have hS := a3
        rcases Bool.or_eq_true_iff.mp h with h | h
        case inr => exact (k_dead_ok hS.2.1 hS.2.2.1 h).elim
        obtain ⟨k, hin, hk⟩ := List.any_eq_true.mp h
        have hin := k_lps_in (k_pck_in hin)
        obtain ⟨-, hk⟩ := Bool.and_eq_true_iff.mp hk
        obtain ⟨-, hk⟩ := Bool.and_eq_true_iff.mp hk
        unfold k_jmpc at hk
        rw [k_prB_eq] at hk
        simp only [Bool.and_eq_true] at hk
        obtain ⟨hm, h0, h1, h2, h3⟩ := hk
        have hw := hlw k hin
        obtain ⟨τ, t1, t2, t3, m1, m2⟩ := k_mt_ok hD hM hw hS hfs hm
        unfold k_wfK at hw
        simp only [Bool.and_eq_true] at hw
        obtain ⟨w1, w2, w3, w4, w5, w6, w7⟩ := hw
        have h0 := k_fg_ok t3.2.1 t3.2.2.1 (fun w hw' => k_wfe_ok (List.all_eq_true.mp w6 w hw')) h0
        have h1 := k_ge_ok t3.2.1 t3.2.2.1 h1
        have h2 := k_ge_ok t3.2.1 t3.2.2.1 h2
        have h3 := k_ge_ok t3.2.1 t3.2.2.1 h3
        rw [k_ev_sub, k_sb_ev (k_wfe_ok w3), k_ev_agree t1 sdc] at h1
        rw [k_sb_ev (k_wfe_ok w4)] at h2
        rw [k_ev_sub, k_ev_sub, k_ev_c, k_sb_ev (k_wfe_ok w4), k_ev_agree t1 srk] at h3
        exact hloop k hin d _ M _ hd0 m1 hM m2 hsm (by rw [h0, k_gh_agr t1 hgs]; exact hgp) (by omega) (by omega) h2
      | false =>
        rw [hh, cond_false] at h
        cases hcq : Nat.beq (k_hnk H pn f) 8
        case true =>
          rw [hcq, cond_true, k_fcS_eq] at h
          obtain ⟨k, hin, hk⟩ := List.any_eq_true.mp h
          have hin := k_lps_in (k_pck_in hin)
          obtain ⟨-, hk⟩ := Bool.and_eq_true_iff.mp hk
          obtain ⟨-, hk⟩ := Bool.and_eq_true_iff.mp hk
          unfold k_jmpc at hk
          rw [k_prB_eq] at hk
          simp only [Bool.and_eq_true] at hk
          obtain ⟨hm, h0, h1, h2, h3⟩ := hk
          have hw := hlw k hin
          have hfs' : kRFs E (k_nma S).1.length σ (g :: rest) (c :: crest) := hfs
          have sdc' : kSc (k_nma S).1.length dc := sdc
          have srk' : kSc (k_nma S).1.length rk := srk
          have hgs' : ∀ g ∈ gh, kSc (k_nma S).1.length g := hgs
          obtain ⟨τ, t1, t2, t3, m1, m2⟩ := k_mt_ok hD hM hw (k_nma_ok hS) hfs' hm
          unfold k_wfK at hw
          simp only [Bool.and_eq_true] at hw
          obtain ⟨w1, w2, w3, w4, w5, w6, w7⟩ := hw
          have h0 := k_fg_ok t3.2.1 t3.2.2.1 (fun w hw' => k_wfe_ok (List.all_eq_true.mp w6 w hw')) h0
          have h1 := k_ge_ok t3.2.1 t3.2.2.1 h1
          have h2 := k_ge_ok t3.2.1 t3.2.2.1 h2
          have h3 := k_ge_ok t3.2.1 t3.2.2.1 h3
          rw [k_ev_sub, k_sb_ev (k_wfe_ok w3), k_ev_agree t1 sdc'] at h1
          rw [k_sb_ev (k_wfe_ok w4)] at h2
          rw [k_ev_sub, k_ev_sub, k_ev_c, k_sb_ev (k_wfe_ok w4), k_ev_agree t1 srk'] at h3
          exact hloop k hin d _ M _ hd0 m1 hM m2 hsm (by rw [h0, k_gh_agr t1 hgs']; exact hgp) (by omega) (by omega) h2
        rw [hcq, cond_false] at h
        obtain ⟨⟨g1, g2, g3, g4, g5⟩, g6⟩ := hfs
        obtain ⟨cme, cpc, cls, cst⟩ := c
        have g2 : cme = g.2.1 := g2
        have g3 : cpc = g.2.2.1 := g3
        subst g2
        subst g3
        split at h
        · cases h
        · rename_i q hq
          show kLp E d g.2.1 g.2.2.1 cls cst M _
          split at h
          · rename_i j hj
            simp only [Bool.and_eq_true] at h
            obtain ⟨h3, h⟩ := h
            split at h
            · rename_i z hz
              obtain ⟨r, M', k1, k2, k3, k4, k5, k6⟩ := k_cp_ok (E := E) (pc := g.2.2.1) (ls := cls) hD hS hM g5 hz
              refine kLp.inl hq hj h3 k1 ?_
              rw [← k2] at g4 k6 g6 hgs sdc srk
              exact ih _ _ _ _ _ _ σ M' ((g.2.1, g.2.2.1 + 3, cls, r) :: crest) d h k3 k4 ⟨⟨g1, rfl, rfl, g4, k6⟩, g6⟩ (hsm.tr k5) hgs hgp sdc hdc (by simpa using hd0) srk hrk
            · split at h
              · cases h
              · rename_i z hz
                simp only [Bool.and_eq_true] at h
                obtain ⟨hcat, h⟩ := h
                obtain ⟨as, rs, hc1, hc2, hc3, hc4⟩ := k_cl_ok (pc := g.2.2.1) (ls := cls) hD hX hS hM g5 hz
                refine kLp.inr hq hj h3 hc1 ?_
                have hcat' : Nat.ble (pm_cat as) z.2.1.2.2.2.1 = true := by rw [k_cat_ok hc3]; exact hcat
                have hfr : kRF E S.1.length σ (z.1, z.2.1, 0, k_args 0 z.2.2.1, []) (z.2.1, 0, lv_args 0 as, []) := ⟨hc2, rfl, rfl, k_args_ok 0 hc3, trivial⟩
                cases hin : inl z.1 with
                | true =>
                  rw [hin, cond_true] at h
                  obtain ⟨h1, h⟩ := Bool.and_eq_true_iff.mp h
                  have h1 := k_ge_ok hS.2.1 hS.2.2.1 h1
                  rw [k_ev_sub, k_ev_c] at h1
                  obtain ⟨d', rfl⟩ : ∃ d', d = d' + 1 := ⟨d - 1, by omega⟩
                  refine kRun.body hc2 hcat' ?_
                  have := ih _ _ _ _ _ _ σ M ((z.2.1, 0, lv_args 0 as, []) :: (g.2.1, g.2.2.1, cls, rs) :: crest) d' h hS hM ⟨hfr, ⟨g1, rfl, rfl, g4, hc4⟩, g6⟩ hsm hgs hgp (kSc_sub sdc kSc_c) (by rw [k_ev_sub, k_ev_c]; omega) (by simp only [List.length_cons] at hd0 ⊢; omega) srk hrk
                  exact this
                | false =>
                  rw [hin, cond_false] at h
                  obtain ⟨T, a1, a2, a3⟩ := k_adx_ok hS H pn f
                  rw [a1] at h
                  dsimp only at h
                  rw [← a2] at hfr hc4 g4 g6 hgs sdc srk
                  clear hc3 g5
                  clear hS
                  have hS := a3
                  split at h
                  · cases h
                  · rename_i r hr
                    unfold k_env at hr
                    obtain ⟨ct, hmem, hct⟩ := List.exists_of_findSome?_eq_some hr
                    have hmem := k_en_in (k_pck_in hmem)
                    obtain ⟨-, hct⟩ := pm_cs hct
                    rw [k_callc_eq] at hct
                    obtain ⟨htry, hct⟩ := pm_cs hct
                    cases hct
                    simp only [Bool.and_eq_true] at htry
                    obtain ⟨hm, h1, h2, h4⟩ := htry
                    have hw := hwf ct hmem
                    obtain ⟨τ, t1, t2, t3, m1, m2⟩ := k_mt_ok (E := E) (fs := [(z.1, z.2.1, 0, k_args 0 z.2.2.1, [])]) (cs := [(z.2.1, 0, lv_args 0 as, [])]) hD hM hw hS ⟨hfr, trivial⟩ hm
                    unfold k_wfK at hw
                    simp only [Bool.and_eq_true] at hw
                    obtain ⟨w1, w2, w3, w4, w5, w6, w7⟩ := hw
                    have h1 := k_ge_ok t3.2.1 t3.2.2.1 h1
                    have h2 := k_ge_ok t3.2.1 t3.2.2.1 h2
                    rw [k_ev_sub, k_ev_sub, k_ev_c, k_sb_ev (k_wfe_ok w3), k_ev_agree t1 sdc] at h1
                    rw [k_ev_sub, k_ev_c, k_ev_agree t1 sdc] at h2
                    obtain ⟨d', rfl⟩ : ∃ d', d = d' + 1 := ⟨d - 1, by omega⟩
                    have hb := hmain ct hmem d' (by simp only [List.length_cons] at hd0; omega) _ M M [(z.2.1, 0, lv_args 0 as, [])] m1 hM m2 kSame.rf (by omega)
                    refine (kRun.body hc2 hcat' hb).mono (fun v M' hv => ?_)
                    obtain ⟨hM', hs', al, hal, τ0, hp0, hr0, hv0⟩ := hv
                    obtain ⟨pn2, hall⟩ := k_al1_ok h al hal
                    split at hall
                    · cases hall
                    · rename_i G hG
                      have hS' := k_drop_ok t3 hs'
                      obtain ⟨z2, hz2, τ', u1, u2, u3, u4⟩ := k_aft_ok hS' (fun g' hg' => k_wfe_ok (List.all_eq_true.mp w6 g' hg')) hp0 hr0 hv0 hG
                      have hx := List.all_eq_true.mp hall z2 hz2
                      rw [k_fcS_eq] at hx
                      have u2 : (k_mtg D ct.1 T [(z.1, z.2.1, 0, k_args 0 z.2.2.1, [])] []).2.1.length ≤ z2.2.1.length := u2
                      have u1 : kAgr (k_mtg D ct.1 T [(z.1, z.2.1, 0, k_args 0 z.2.2.1, [])] []).2.1.length τ τ' := u1
                      have v1 : kAgr T.1.length σ τ' := fun b hb => (u1 b (Nat.lt_of_lt_of_le hb t2)).trans (t1 b hb)
                      have v2 : T.1.length ≤ z2.2.1.length := Nat.le_trans t2 u2
                      exact ih _ _ _ _ _ _ τ' M' ((g.2.1, g.2.2.1 + 3, cls, v.toList ++ rs) :: crest) (d' + 1) hx u3 hM' ⟨⟨g1, rfl, rfl, g4.agr v1 v2, u4.app (hc4.agr v1 v2)⟩, g6.agr v1 v2⟩ (hsm.tr (k_rin_ok hs' h4)) (fun g' hg' => (hgs g' hg').mono v2) (by rw [k_gh_agr v1 hgs]; exact hgp) (sdc.mono v2) (by rw [k_ev_agree v1 sdc]; exact hdc) (by simpa using hd0) (srk.mono v2) (by rw [k_ev_agree v1 srk]; exact hrk)
          · rename_i hj
            cases hr : pm_isr q.1 with
            | true =>
              rw [hr, cond_true] at h
              obtain ⟨T, c1, c2, c3⟩ := k_vcl_ok hS
              rw [c1] at h
              simp only [Bool.and_eq_true] at h
              obtain ⟨h3, h⟩ := h
              rw [← c2] at g4 g5 g6 hgs sdc srk
              split at h
              · cases h
              · rename_i w hw
                obtain ⟨v, hv1, hv2⟩ := k_end_ok c3 g5 hw
                refine kLp.ret hq hj hr h3 hv1 ?_
                match rest, crest, g6, h, hd0 with
                | [], [], _, h, _ =>
                  obtain ⟨T2, a1, a2, a3⟩ := k_adx_ok c3 H pn f
                  rw [a1] at h
                  dsimp only at h
                  rw [← a2] at hgs hv2
                  rcases Bool.or_eq_true_iff.mp h with h | h
                  case inr => exact (k_dead_ok a3.2.1 a3.2.2.1 h).elim
                  obtain ⟨al, hal, hf⟩ := List.any_eq_true.mp h
                  obtain ⟨-, hf⟩ := Bool.and_eq_true_iff.mp hf
                  show kPost E N D po p M0 v M
                  rw [← hgp]
                  exact k_fin_ok hD a3 hM hsm hgs hv2 (k_pck_in hal) hf
                | [], _ :: _, g6, _, _ => exact g6.elim
                | _ :: _, [], g6, _, _ => exact g6.elim
                | g' :: r', c2' :: cr, g6, h, hd0 =>
                  obtain ⟨⟨p1, p2, p3, p4, p5⟩, p6⟩ := g6
                  obtain ⟨cme2, cpc2, cls2, cst2⟩ := c2'
                  have p2 : cme2 = g'.2.1 := p2
                  have p3 : cpc2 = g'.2.2.1 := p3
                  subst p2
                  subst p3
                  exact ih _ _ _ _ _ _ σ M ((g'.2.1, g'.2.2.1 + 3, cls2, v.toList ++ cst2) :: cr) (d + 1) h c3 hM ⟨⟨p1, rfl, rfl, p4, hv2.app p5⟩, p6⟩ hsm hgs hgp (kSc_add sdc kSc_c) (by rw [k_ev_add, k_ev_c]; omega) (by simp only [List.length_cons] at hd0 ⊢; omega) srk hrk
            | false =>
              rw [hr, cond_false] at h
              obtain ⟨T, a1, a2, a3⟩ := k_adr_ok hS H pn f q.1
              rw [a1] at h
              dsimp only at h
              rw [← a2] at g4 g5 g6 hgs sdc srk
              clear hS
              have hS := a3
              split at h
              · cases h
              · rename_i L hL
                refine k_one_ok hD hX hS hM g4 g5 hq hj hr hL (fun z hz => ?_)
                obtain ⟨r, hr1, τ, t1, t2, t3, t4, t5, t6, t7, t8⟩ := hz
                obtain ⟨pn2, h'⟩ := k_al1_ok h r hr1
                rw [← t4]
                exact ih _ _ _ _ _ _ τ z.2.2.2 ((g.2.1, r.2.1, z.2.1, z.2.2.1) :: crest) d h' t3 t8 ⟨⟨g1, rfl, rfl, t5, t6⟩, g6.agr t1 t2⟩ (hsm.tr t7) (fun g' hg' => (hgs g' hg').mono t2) (by rw [k_gh_agr t1 hgs]; exact hgp) (sdc.mono t2) (by rw [k_ev_agree t1 sdc]; exact hdc) (by simpa using hd0) (srk.mono t2) (by rw [k_ev_agree t1 srk]; exact hrk)
    | _ :: _, [], hfs => exact hfs.elim
end KMN
end
