noncomputable section
/-! what the executor allows, the pure machine does -/
section KSD
variable {E : pM} {N : kN} {D : kDD} {X : List kDe} {σ : Nat → Int} {M : pM} {S : kS} {kt : List kV} {st : List Value}
theorem kRT.len {n : Nat} : ∀ {t : List kV} {r : List Value}, kRT E n σ t r → t.length = r.length
  | [], [], _ => rfl
  | _ :: _, _ :: _, h => congrArg (· + 1) (kRT.len h.2)
  | [], _ :: _, h => h.elim
  | _ :: _, [], h => h.elim
theorem kRT.take {n : Nat} : ∀ (k : Nat) {t : List kV} {r : List Value}, kRT E n σ t r → kRT E n σ (t.take k) (r.take k)
  | 0, _, _, _ => trivial
  | _ + 1, [], [], _ => trivial
  | k + 1, _ :: _, _ :: _, h => ⟨h.1, kRT.take k h.2⟩
  | _ + 1, [], _ :: _, h => h.elim
  | _ + 1, _ :: _, [], h => h.elim
theorem kRT.drop {n : Nat} : ∀ (k : Nat) {t : List kV} {r : List Value}, kRT E n σ t r → kRT E n σ (t.drop k) (r.drop k)
  | 0, _, _, h => h
  | _ + 1, [], [], _ => trivial
  | k + 1, _ :: _, _ :: _, h => kRT.drop k h.2
  | _ + 1, [], _ :: _, h => h.elim
  | _ + 1, _ :: _, [], h => h.elim
theorem kRT.rev {n : Nat} : ∀ {t : List kV} {r : List Value}, kRT E n σ t r → kRT E n σ t.reverse r.reverse
  | [], [], _ => trivial
  | _ :: _, _ :: _, h => by
    rw [List.reverse_cons, List.reverse_cons]
    exact kRT.app (kRT.rev h.2) ⟨h.1, trivial⟩
  | [], _ :: _, h => h.elim
  | _ :: _, [], h => h.elim
theorem k_cl_ok {kd own idx pc : Nat} {ls : pL} {z : Nat × pmMe × List kV × List kV} (hD : D.1 ≤ pmX) (hX : kExt X N E) (h : kRS N σ S M) (hM : kMem D M) (ht : kRT E S.1.length σ kt st) (hz : k_cl D X kd own idx S kt = some z) : ∃ as rest, pm_call E kd own idx pc ls st M = some (.inr (z.1, as, rest)) ∧ pmPT[z.1]? = some z.2.1 ∧ kRT E S.1.length σ z.2.2.1 as ∧ kRT E S.1.length σ z.2.2.2 rest := by
  unfold k_cl at hz
  split at hz
  · cases hz
  · rename_i t hti
    cases h9 : (Nat.beq t.1 9000 || Nat.beq t.1 9001) with
    | true =>
      rw [h9, cond_true] at hz
      cases hz
    | false =>
      rw [h9, cond_false] at hz
      obtain ⟨h90, h91⟩ := Bool.or_eq_false_iff.mp h9
      split at hz
      · cases hz
      · rename_i me hme
        have h00 := pm_cs hz
        clear hz
        obtain ⟨h1, hz⟩ := h00
        obtain ⟨h1, h2⟩ := Bool.and_eq_true_iff.mp h1
        have ha := (ht.take me.2.2.2.2.2.2.1).rev
        have hr := ht.drop me.2.2.2.2.2.2.1
        have hl := ha.len
        have h2' : Nat.beq (st.take me.2.2.2.2.2.2.1).reverse.length me.2.2.2.2.2.2.1 = true := by rw [← hl]; exact h2
        have go : ∀ w, pm_args E kd t.1 st M = some w → pm_call E kd own idx pc ls st M = some (.inr w) := by
          intro w hw
          unfold pm_call
          simp only [hti, h90, h91, cond_false, hw]
        cases hk0 : Nat.beq kd 0 with
        | true =>
          rw [hk0, cond_true] at hz
          have h00 := pm_cs hz
          clear hz
          obtain ⟨h3, hz⟩ := h00
          cases hz
          refine ⟨_, _, go _ ?_, hme, ha, hr⟩
          unfold pm_args
          rw [hme]
          simp only [h1, h2', hk0, Bool.and_true, cond_true, k_cat_ok hr, h3]
        | false =>
          rw [hk0, cond_false] at hz
          split at hz
          · rename_i c rk hdr
            rw [hdr] at hr
            obtain ⟨a, r, hst, s2, e2, hlt, hr2⟩ := hr.rf
            split at hz
            · rename_i d hd
              have h00 := pm_cs hz
              clear hz
              obtain ⟨h3, hz⟩ := h00
              obtain ⟨h3, h4⟩ := Bool.and_eq_true_iff.mp h3
              cases hz
              have hcell : ∃ q, pm_cell E M a = some q ∧ kCell d q := by
                split at hd
                · rename_i d' hd'
                  cases hd
                  obtain ⟨q, f1, f2, f3, f4, f5⟩ := k_own_ok (E := E) hD h hM e2 hd'
                  exact ⟨q, f5, f2⟩
                · obtain ⟨q, f1, f2, f3⟩ := k_ex_ok (M := M) hX e2 hd
                  exact ⟨q, f1, f2⟩
              obtain ⟨q, f1, f2⟩ := hcell
              refine ⟨.ref a :: (st.take me.2.2.2.2.2.2.1).reverse, r, go _ ?_, hme, ⟨⟨s2, a, rfl, e2, hlt⟩, ha⟩, hr2⟩
              unfold pm_args
              rw [hme]
              simp only [h1, h2', hk0, Bool.and_true, cond_true, cond_false]
              rw [hst]
              simp only [f1, f2.1, h3, k_cat_ok hr2, h4, Bool.and_true, cond_true]
            · cases hz
          · cases hz

theorem k_pgh_at : ∀ (gh : List kE) (i b : Nat) (g : kE) (A : kA), gh[b]? = some g → k_fpa A i gh = true → k_ev σ (k_at A (i + b)) = k_ev σ g
  | [], _, _, _, _, h, _ => by cases h
  | g :: t, i, 0, g', A, h, hf => by
    cases h
    exact k_eq_ok (Bool.and_eq_true_iff.mp hf).1
  | g :: t, i, b + 1, g', A, h, hf => by
    have := k_pgh_at t (i + 1) b g' A h (Bool.and_eq_true_iff.mp hf).2
    rw [show i + 1 + b = i + (b + 1) by omega] at this
    exact this
theorem k_fin_ok {gh : List kE} {w : List kV} {al : kAl} {v : Option Value} {po : kPo} {M0 : pM} (hD : D.1 ≤ pmX) (h : kRS N σ S M) (hM : kMem D M) (hsm : kSame po.1 M0 M) (hgs : ∀ g ∈ gh, kSc S.1.length g) (hw : kRT E S.1.length σ w v.toList) (hal : al ∈ po.2) (hf : k_finc gh w al (k_fing D S gh w al) = true) : kPost E N D po (gh.map (k_ev σ)) M0 v M := by
  obtain ⟨τ, t1, u2, u3⟩ := k_gc_ok (N := N) hD hM al.1.2.2.2 (k_rtw S w al.2.2 (k_pgh 0 gh)) S σ h
  rw [← k_fing_eq] at u2 u3
  have t2 : S.1.length ≤ (k_fing D S gh w al).2.1.length := u2
  have t3 : kRS N τ (k_fing D S gh w al).2 M := u3
  clear u2 u3
  generalize k_fing D S gh w al = r at hf t2 t3
  unfold k_finc at hf
  rw [k_prB_eq] at hf
  simp only [Bool.and_eq_true] at hf
  obtain ⟨h1, h2, h3, h4, h5⟩ := hf
  unfold k_wfA at h1
  simp only [Bool.and_eq_true] at h1
  obtain ⟨w1, w2, w3, w4⟩ := h1
  have w3 := pm_blt w3
  have w4 := Nat.le_of_ble_eq_true w4
  refine ⟨hM, hsm, al, hal, k_si τ r.1 al.1.1.length, fun i z hz => ?_, k_fS_ok t3 (by rw [k_eq_ok h2, k_ev_v]) (k_wfS_ok w1) (by omega) h5, ?_⟩
  · rw [List.getElem?_map] at hz
    cases hg : gh[i]? with
    | none => rw [hg] at hz; cases hz
    | some g =>
      rw [hg] at hz
      cases hz
      have hi : i < gh.length := (List.getElem?_eq_some_iff.mp hg).1
      unfold k_si
      rw [if_pos (by omega)]
      have := k_pgh_at (σ := τ) gh 0 i g r.1 hg h3
      rw [Nat.zero_add] at this
      rw [this]
      exact k_ev_agree t1 (hgs g (List.mem_of_getElem? hg))
  · unfold k_rtc at h4
    split at h4
    · have h4 := Nat.le_of_ble_eq_true h4
      refine ⟨fun _ => ?_, fun hl => by omega⟩
      cases v with
      | none => rfl
      | some v => exact hw.elim
    · rename_i q
      simp only [Bool.and_eq_true] at h4
      obtain ⟨e1, e2, e3⟩ := h4
      have e1 := pm_beq e1
      have e2 := pm_blt e2
      refine ⟨fun hl => by omega, fun _ => ?_⟩
      cases v with
      | none => exact hw.elim
      | some v =>
        refine ⟨v, rfl, ?_⟩
        have hv := (hw.1.agr t1 (Nat.le_refl _)).2
        have e3 := k_eqv_ok t3.2.1 t3.2.2.1 e3
        rw [k_sb_ev (k_wfe_ok w2)] at e3
        obtain ⟨qk, qe⟩ := q
        have e1 : qk = al.2.1 := e1
        rw [← e1]
        have e3 : k_ev (k_si τ r.1 al.1.1.length) al.2.2 = k_ev τ qe := e3
        unfold kVal at hv ⊢
        simp only [e3]
        exact hv
    · cases h4
theorem kNx.up {mods : List kMd} {n m : Nat} {τ : Nat → Int} {L : List kR} {z : pS} (a : kAgr n σ τ) (hnm : n ≤ m) (h : kNx E N mods D m τ M L z) : kNx E N mods D n σ M L z := by
  obtain ⟨r, hr, ρ, r1, r2, k⟩ := h
  exact ⟨r, hr, ρ, fun b hb => (r1 b (Nat.lt_of_lt_of_le hb hnm)).trans (a b hb), Nat.le_trans hnm r2, k⟩
theorem k_flw_1 {me : pmMe} {pc : Nat} (h : k_flw me pc = 1) : pm_lc me.2.2.2.2.2.2.2 (pc + 1) = some (.l2i, 1) ∧ pm_lc me.2.2.2.2.2.2.2 (pc + 2) = some (.i2b, 1) := by
  unfold k_flw at h
  split at h
  · rename_i h1
    split at h
    · rename_i h2
      exact ⟨h1, h2⟩
    · cases h
  · exfalso
    split at h
    · rename_i z p hz
      split at h
      · split at h
        · revert h
          cases decide (z.toInt = 255) <;> intro h <;> cases h
        · cases h
      · cases h
    · cases h
  · cases h
theorem k_flw_2 {me : pmMe} {pc : Nat} (h : k_flw me pc = 2) : ∃ (j : Nat) (z : Int64) (p : Value × Nat), pm_lc me.2.2.2.2.2.2.2 (pc + 1) = some (.ldc2_w j, 3) ∧ pm_tl pmKT me.1 j = some p ∧ p.1 = .long z ∧ pm_lc me.2.2.2.2.2.2.2 (pc + 4) = some (.land, 1) ∧ pm_lc me.2.2.2.2.2.2.2 (pc + 5) = some (.l2i, 1) ∧ z.toInt = 255 := by
  unfold k_flw at h
  split at h
  · exfalso
    split at h
    · cases h
    · cases h
  · rename_i j h1
    split at h
    · rename_i z p hz
      split at h
      · rename_i h4
        split at h
        · rename_i h5
          cases hd : decide (z.toInt = 255) with
          | true => exact ⟨j, z, _, h1, hz, rfl, h4, h5, of_decide_eq_true hd⟩
          | false =>
            rw [hd] at h
            cases h
        · cases h
      · cases h
    · cases h
  · cases h
theorem k_luf_ok {mods : List kMd} {me : pmMe} {q : Instr × Nat} {pc d : Nat} {kl : kLs} {ls : pL} {L : List kR} {P : Option Value → pM → Prop} (h : kRS N σ S M) (hM : kMem D M) (hl : kRL E S.1.length σ kl ls) (ht : kRT E S.1.length σ kt st) (hq : pm_lc me.2.2.2.2.2.2.2 pc = some q) (hL : k_luf S me q pc kl kt = some L)
    (k : ∀ z : pS, kNx E N mods D S.1.length σ M L z → kLp E d me z.1 z.2.1 z.2.2.1 z.2.2.2 P) : kLp E d me pc ls st M P := by
  unfold k_luf at hL
  split at hL
  · split at hL
    · rename_i ey ex t
      obtain ⟨y, r, rfl, s2, e2, ht1⟩ := ht.int
      obtain ⟨x, r, rfl, s1, e1, ht2⟩ := ht1.lng
      obtain ⟨g, hL⟩ := pm_cs hL
      obtain ⟨g1, g2⟩ := Bool.and_eq_true_iff.mp g
      have g1 := k_eq_ok (σ := σ) g1
      have g2 := k_fit_ok h.2.1 h.2.2.1 g2
      have sK : kSc S.1.length (k_dv 8 ey) := k_dv_sc s2
      generalize k_dv 8 ey = K at g1 g2 sK hL
      rw [k_ev_mul] at g1
      have hy : y.toInt = 8 * (((k_ev σ K).toNat : Nat) : Int) := by omega
      have hk7 : (k_ev σ K).toNat ≤ 7 := by omega
      have rg := kByt_rg (k_ev σ K).toNat x.toInt
      obtain ⟨τ, t1, t2, t3, t4, t5⟩ := k_mem_ok h (k_opc_sc sK) s1 (x := kByt (k_ev σ K).toNat x.toInt) rg.1 rg.2 (fun v => by rw [k_opc_h g2.1, ← e1])
      unfold k_flg at hL
      split at hL
      · rename_i hw
        obtain ⟨w1, w2⟩ := k_flw_1 hw
        cases hL
        refine kLp.stp (z := (pc + 1, ls, .long (kLsr x y) :: r, M)) hq rfl rfl rfl ?_
        refine kLp.stp (z := (pc + 2, ls, .int (kLsr x y).toInt32 :: r, M)) w1 rfl rfl rfl ?_
        refine kLp.stp (z := (pc + 3, ls, .int ((kLsr x y).toInt32.toInt8.toInt32) :: r, M)) w2 rfl rfl rfl ?_
        refine k (pc + 3, ls, .int ((kLsr x y).toInt32.toInt8.toInt32) :: r, M) (kNx.up t1 t2 (k_flf_ok t3 hM (hl.agr t1 t2) (ht2.agr t1 t2) t5 ?_))
        rw [t4]
        exact kL_b1 hk7 hy
      · rename_i hw
        obtain ⟨j, z, p, w1, w2, w3, w4, w5, w6⟩ := k_flw_2 hw
        cases hL
        refine kLp.stp (z := (pc + 1, ls, .long (kLsr x y) :: r, M)) hq rfl rfl rfl ?_
        refine kLp.stp (z := (pc + 4, ls, .long z :: .long (kLsr x y) :: r, M)) w1 rfl rfl ?_ ?_
        · show pm_ldc2 me.1 j (pc + 1) ls (.long (kLsr x y) :: r) M = _
          unfold pm_ldc2
          obtain ⟨p1, p2⟩ := p
          have w3 : p1 = .long z := w3
          subst w3
          simp only [w2]
          rfl
        refine kLp.stp (z := (pc + 5, ls, .long (kLsr x y &&& z) :: r, M)) w4 rfl rfl rfl ?_
        refine kLp.stp (z := (pc + 6, ls, .int (kLsr x y &&& z).toInt32 :: r, M)) w5 rfl rfl rfl ?_
        refine k (pc + 6, ls, .int (kLsr x y &&& z).toInt32 :: r, M) ⟨_, List.mem_singleton.mpr rfl, τ, t1, t2, t3, rfl, hl.agr t1 t2, ⟨⟨t5, _, rfl, ?_⟩, ht2.agr t1 t2⟩, kSame.rf, hM⟩
        show ((kLsr x y &&& z).toInt32).toInt = k_ev τ _
        rw [t4]
        exact kL_b2 hk7 hy w6
      · cases hL
    · cases hL
  · cases hL
theorem k_spl2_ok {mods : List kMd} {own nL : Nat} {ct : Bool} {q : Instr × Nat} {pc : Nat} {kl : kLs} {ls : pL} {L : List kR} (h : kRS N σ S M) (hM : kMem D M) (hl : kRL E S.1.length σ kl ls) (ht : kRT E S.1.length σ kt st) (hL : k_spl2 S q pc kl kt = some L) : kTo E N mods D S.1.length σ M L (pm_stp E own nL ct q.1 q.2 pc ls st M) := by
  unfold k_spl2 at hL
  split at hL
  · rename_i c off n
    refine kTo_cd hL (fun hL => ?_)
    obtain ⟨ex, t, x, r, rfl, s1, e1, hr, hg⟩ := k_un_ok ht hL
    cases hg
    refine ⟨(cond (pm_c0 c x) ((pc : Int) + off).toNat (pc + 3), ls, r, M), ?_, k_brs_ok h hM hl hr s1 (by rw [← e1]; exact kI_c0)⟩
    unfold pm_if0
    simp only
    cases pm_c0 c x <;> rfl
  · rename_i c off n
    refine kTo_cd hL (fun hL => ?_)
    obtain ⟨ex, ey, t, x, y, r, rfl, s1, s2, e1, e2, hr, hg⟩ := k_bi_ok ht hL
    cases hg
    refine ⟨(cond (pm_c2 c x y) ((pc : Int) + off).toNat (pc + 3), ls, r, M), ?_, k_brs_ok h hM hl hr (kSc_sub s1 s2) (by rw [k_ev_sub, ← e1, ← e2]; exact kI_c2)⟩
    unfold pm_if2
    simp only
    cases pm_c2 c x y <;> rfl
  · cases hL
theorem k_one_ok {mods : List kMd} {y : Nat} {me : pmMe} {q : Instr × Nat} {pc d : Nat} {kl : kLs} {ls : pL} {L : List kR} {P : Option Value → pM → Prop} (hD : D.1 ≤ pmX) (hX : kExt X N E) (h : kRS N σ S M) (hM : kMem D M) (hl : kRL E S.1.length σ kl ls) (ht : kRT E S.1.length σ kt st) (hq : pm_lc me.2.2.2.2.2.2.2 pc = some q) (hi : pm_inv q.1 = none) (hr : pm_isr q.1 = false) (hL : k_one D X mods S y me q pc kl kt = some L)
    (k : ∀ z : pS, kNx E N mods D S.1.length σ M L z → kLp E d me z.1 z.2.1 z.2.2.1 z.2.2.2 P) : kLp E d me pc ls st M P := by
  unfold k_one at hL
  split at hL
  · rename_i u hu
    unfold k_fu at hu
    split at hu
    · split at hu
      · rename_i c off hc
        obtain ⟨h0, hu⟩ := pm_cs hu
        cases hu
        unfold k_fus at hL
        obtain ⟨ex, ey, t, x, y, r, rfl, s1, s2, e1, e2, ht2, hL⟩ := k_bj_ok ht hL
        cases hL
        refine kLp.stp (z := (pc + 1, ls, .int (lg_cmp x y) :: r, M)) hq hi hr rfl ?_
        refine kLp.stp (z := (cond (pm_c0 c (lg_cmp x y)) (((pc + 1 : Nat) : Int) + off).toNat (pc + 1 + 3), ls, r, M)) hc rfl rfl ?_ ?_
        · show cond (Nat.beq 3 3 && decide (0 ≤ ((pc + 1 : Nat) : Int) + off)) (pm_if0 c off (pc + 1) ls (.int (lg_cmp x y) :: r) M) none = _
          rw [h0]
          show cond (pm_c0 c (lg_cmp x y)) _ _ = _
          cases pm_c0 c (lg_cmp x y) <;> rfl
        · refine k _ (k_br_ok h hM hl ht2 (kSc_sub s1 s2) ?_)
          rw [kI_c0, kL_c, k_ev_sub, ← e1, ← e2]
      · cases hu
    · cases hu
  · split at hL
    · rename_i L' hL'
      cases hL
      exact k_luf_ok h hM hl ht hq hL' k
    · cases c1 : k_spp y pc with
      | true =>
        rw [c1, cond_true] at hL
        obtain ⟨z, hz, hn⟩ := k_spl2_ok (own := me.1) (nL := me.2.2.2.1) (ct := Nat.beq me.2.2.2.2.2.1 2) h hM hl ht hL
        exact kLp.stp hq hi hr hz (k z hn)
      | false =>
        rw [c1, cond_false] at hL
        obtain ⟨z, hz, hn⟩ := k_stp_ok hD hX h hM hl ht hL
        exact kLp.stp hq hi hr hz (k z hn)
end KSD
end
