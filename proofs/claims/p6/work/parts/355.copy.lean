noncomputable section
/-! a stretch copied -/
theorem kOkQ_01 {q : Nat × Int × Int} {r n r' n' : Nat} {v : Value} (hk : q.1 = 0 ∨ q.1 = 1) (h : kOkQ q r n v) : kOkQ q r' n' v := by
  obtain ⟨k, lo, hi⟩ := q
  rcases hk with hk | hk
  · have hk : k = 0 := hk
    subst hk
    exact h
  · have hk : k = 1 := hk
    subst hk
    exact h
theorem k_getD {f : List Value} {i : Nat} (h : i < f.length) : f.getD i .null = f[i] := by
  rw [List.getD_eq_getElem?_getD, List.getElem?_eq_getElem h]
  rfl
theorem pm_cpyL_at {f g : List Value} {sp dp n j : Nat} {v : Value} (hf : sp + n ≤ f.length) (hv : (pm_cpyL f g sp dp n)[j]? = some v) : (∃ i, i < n ∧ j = dp + i ∧ f[sp + i]? = some v) ∨ g[j]? = some v := by
  unfold pm_cpyL at hv
  rw [List.getElem?_map] at hv
  cases hr : (List.range g.length)[j]? with
  | none => rw [hr] at hv; cases hv
  | some k =>
    rw [hr] at hv
    obtain ⟨hl, hk⟩ := List.getElem?_eq_some_iff.mp hr
    rw [List.length_range] at hl
    rw [List.getElem_range] at hk
    subst hk
    have hv : cond (Nat.ble dp j && Nat.blt j (dp + n)) (f.getD (sp + (j - dp)) .null) (g.getD j .null) = v := by
      simpa using hv
    cases hc : (Nat.ble dp j && Nat.blt j (dp + n)) with
    | true =>
      rw [hc, cond_true] at hv
      obtain ⟨h1, h2⟩ := Bool.and_eq_true_iff.mp hc
      have h1 := Nat.le_of_ble_eq_true h1
      have h2 := pm_blt h2
      refine Or.inl ⟨j - dp, by omega, by omega, ?_⟩
      rw [k_getD (by omega)] at hv
      rw [← hv]
      exact List.getElem?_eq_getElem (by omega)
    | false =>
      rw [hc, cond_false] at hv
      rw [k_getD hl] at hv
      rw [← hv]
      exact Or.inr (List.getElem?_eq_getElem hl)
section KCY
variable {E : pM} {N : kN} {D : kDD} {X : List kDe} {σ : Nat → Int} {M : pM} {S : kS} {kt : List kV} {st : List Value} {mods : List kMd} {pc : Nat} {ls : pL}
theorem k_cpg_ok {c d : kDe} {gh : kSg × kSg} (h : k_cpg c d = some gh) : c.2.2 = [gh.1] ∧ d.2.2 = [gh.2] ∧ gh.1.1 = 0 ∧ gh.2.1 = 0 ∧ c.2.1 ≤ gh.1.2.1 ∧ gh.1.2.2.1 = gh.2.2.2.1 ∧ gh.1.2.2.2 = gh.2.2.2.2 ∧ ∀ q ∈ gh.1.2.2.2, (q.1 = 0 ∨ q.1 = 1) ∧ (c.1 = 3 → q.1 = 0 ∧ 0 ≤ q.2.1 ∧ q.2.2 ≤ 1) := by
  unfold k_cpg at h
  split at h
  · rename_i g h' hg hh
    obtain ⟨h1, h⟩ := pm_cs h
    cases h
    simp only [Bool.and_eq_true] at h1
    obtain ⟨h1, h2, h3, h4, h5, h6⟩ := h1
    refine ⟨hg, hh, pm_beq h1, pm_beq h2, Nat.le_of_ble_eq_true h3, pm_beq h4, k_leq_ok h5, fun q hq => ?_⟩
    have h7 := List.all_eq_true.mp h6 q hq
    simp only [Bool.and_eq_true, Bool.or_eq_true, Bool.not_eq_true', decide_eq_true_eq] at h7
    obtain ⟨h8, h9⟩ := h7
    refine ⟨h8.imp (fun h => pm_beq h) (fun h => pm_beq h), fun h3 => ?_⟩
    rcases h9 with h9 | ⟨h9, h10, h11⟩
    · rw [h3] at h9
      cases h9
    · exact ⟨pm_beq h9, h10, h11⟩
  · cases h
theorem kRS_adl {l : List kH} (h : kRS N σ S M) (hl : ∀ q ∈ l, (kSc S.1.length q.1.1 ∧ kSc S.1.length q.1.2 ∧ kSc S.1.length q.2) ∧ kHas N M (k_ev σ q.1.1) (k_ev σ q.1.2) (k_ev σ q.2)) : kRS N σ (k_adl S l) M := by
  obtain ⟨g0, gb, gf, gn, gc, gs⟩ := h
  refine ⟨g0, gb, gf, gn, fun e he => ?_, gs.1, gs.2.1, fun e he => ?_⟩
  · rcases List.mem_append.mp he with he | he
    · exact (hl e he).2
    · exact gc e he
  · rcases List.mem_append.mp he with he | he
    · exact (hl e he).1
    · exact gs.2.2 e he
theorem k_cpm_ok {n dp ea sp eb : kE} {c d : kDe} {M' : pM} {a b : Nat} (h : kRS N σ S M) (ha : (a : Int) = k_ev σ ea) (hb : (b : Int) = k_ev σ eb) (hab : ∀ (z j : Nat), z ≠ a → k_gi M' z j = k_gi M z j) (hcp : k_eq n (kc (d.2.1 : Int)) = true → Nat.beq c.2.1 d.2.1 = true → k_eq sp (kc 0) = true → k_eq dp (kc 0) = true → ∀ j : Nat, k_gi M' a j = k_gi M b j) : ∀ q ∈ k_cpm S n dp ea sp eb c d, (kSc S.1.length q.1.1 ∧ kSc S.1.length q.1.2 ∧ kSc S.1.length q.2) ∧ kHas N M' (k_ev σ q.1.1) (k_ev σ q.1.2) (k_ev σ q.2) := by
  intro q hq
  unfold k_cpm at hq
  cases hc : (k_cst ea && (k_cst eb && (k_eq n (kc (d.2.1 : Int)) && (Nat.beq c.2.1 d.2.1 && (k_eq sp (kc 0) && k_eq dp (kc 0)))))) with
  | false => rw [hc, cond_false] at hq; cases hq
  | true =>
    rw [hc, cond_true] at hq
    simp only [Bool.and_eq_true] at hc
    obtain ⟨c1, c2, c3, c4, c5, c6⟩ := hc
    have hj := hcp c3 c4 c5 c6
    rw [k_ev_const c1] at ha
    rw [k_ev_const c2] at hb
    obtain ⟨q0, m0, hq⟩ := List.mem_flatMap.mp hq
    unfold k_cp9 at hq
    cases hk : (decide (q0.1.1.1 < 0) && (k_cst q0.1.1 && (k_vok q0.1.1 && Nat.beq (k_vi q0.1.1) 9))) with
    | false => rw [hk, cond_false] at hq; cases hq
    | true =>
      rw [hk, cond_true] at hq
      simp only [Bool.and_eq_true, decide_eq_true_eq] at hk
      obtain ⟨k1, k2, k3, k4⟩ := hk
      have k4 := pm_beq k4
      split at hq
      · rename_i r hr
        cases hd : (decide (r.1.1 = eb.1) && !(decide (r.2.1.1 = ea.1))) with
        | false => rw [hd, cond_false] at hq; cases hq
        | true =>
          rw [hd, cond_true] at hq
          simp only [Bool.and_eq_true, decide_eq_true_eq, Bool.not_eq_true', decide_eq_false_iff_not] at hd
          obtain ⟨d1, d2⟩ := hd
          obtain ⟨z, mz, hz⟩ := List.mem_filterMap.mp hq
          have h00 := pm_cs hz
          clear hz
          obtain ⟨z1, hz⟩ := h00
          cases hz
          simp only [Bool.and_eq_true, decide_eq_true_eq] at z1
          obtain ⟨z1, z2, z3⟩ := z1
          have hp := kVq.now h m0 (by rw [k_ev_const k2]; exact k1) k3
          rw [k4] at hp
          obtain ⟨r2, p0, p1, p2, p3⟩ := hp
          obtain ⟨-, e2⟩ := k_rlw_ok (σ := σ) hr
          rw [e2] at p1
          cases p1
          obtain ⟨zr, zi⟩ := z
          have hget : kRel[zi]? = some zr := List.mk_mem_zipIdx_iff_getElem?.mp mz
          have sc := h.2.2.2.2.2.2.2 _ m0
          refine ⟨⟨kSc_c, sc.2.1, sc.2.2⟩, ?_⟩
          show kHas N M' (k_ev σ (kc (-9 - 16 * (zi : Int)))) (k_ev σ q0.1.2) (k_ev σ q0.2)
          rw [k_ev_c]
          refine kHas.neg (by omega) (kPhi_of (i := 9) (p := (zi : Int)) (by omega) (by omega) ?_)
          have z1 : zr.1.1 = ea.1 := z1
          have z2 : zr.1.2 = r.1.2 := z2
          have z3 : zr.2 = r.2 := z3
          refine ⟨zr, by omega, by rw [show ((zi : Int)).toNat = zi by omega]; exact hget, by rw [z3]; exact p2, fun i b1 b2 _ => ?_⟩
          obtain ⟨x, f1, f2⟩ := p3 i b1 b2 trivial
          refine ⟨x, ⟨by rw [z1]; omega, ?_, ?_⟩, ?_⟩
          · unfold kSl
            rw [z2]
            exact f1.2.1
          · have g := f1.2.2
            rw [d1, show (eb.1).toNat = b by omega] at g
            rw [z1, show (ea.1).toNat = a by omega, hj]
            unfold kSl at g ⊢
            rw [z2]
            exact g
          · rw [z3]
            exact ⟨f2.1, f2.2.1, by rw [hab _ _ (by have := f2.1; omega)]; exact f2.2.2⟩
      · cases hq
theorem k_cpyw {f g : List Value} {n : Nat} (h1 : f.length = n) (h2 : g.length = n) : pm_cpyL f g 0 0 n = f := by
  apply List.ext_getElem?
  intro j
  unfold pm_cpyL
  rw [List.getElem?_map]
  by_cases hj : j < n
  · rw [List.getElem?_range (by omega), Option.map_some]
    have e : (Nat.ble 0 j && Nat.blt j (0 + n)) = true := by
      rw [Nat.zero_add]
      exact Bool.and_eq_true_iff.mpr ⟨Nat.ble_eq_true_of_le (Nat.zero_le _), Nat.ble_eq_true_of_le hj⟩
    rw [e, cond_true, Nat.zero_add, Nat.sub_zero, k_getD (by omega)]
    rw [List.getElem?_eq_getElem (by omega)]
  · rw [List.getElem?_eq_none (by rw [List.length_range]; omega), List.getElem?_eq_none (by omega)]
    rfl
theorem k_cpy_ok {z : kS × List kV} (hD : D.1 ≤ pmX) (h : kRS N σ S M) (hM : kMem D M) (ht : kRT E S.1.length σ kt st) (hz : k_cpy D mods S kt = some z) : ∃ (r : List Value) (M' : pM), pm_copy pc ls st M = some (pc + 3, ls, r, M') ∧ z.1.1.length = S.1.length ∧ kRS N σ z.1 M' ∧ kMem D M' ∧ kSame mods M M' ∧ kRT E S.1.length σ z.2 r := by
  unfold k_cpy at hz
  split at hz
  · rename_i en edp ea esp eb r
    obtain ⟨n, r1, rfl, -, e1, h1⟩ := ht.int
    obtain ⟨dp, r2, rfl, -, e2, h2⟩ := h1.int
    obtain ⟨a, r3, rfl, sa, e3, -, h3⟩ := h2.rf
    obtain ⟨sp, r4, rfl, -, e4, h4⟩ := h3.int
    obtain ⟨b, rr, rfl, sb, e5, -, h5⟩ := h4.rf
    split at hz
    · rename_i c d hc hd
      split at hz
      · rename_i gh hgh
        obtain ⟨hc1, hz⟩ := pm_cs hz
        cases hz
        simp only [Bool.and_eq_true] at hc1
        obtain ⟨⟨t1, t2⟩, ⟨g1, g2, g3⟩, ⟨g4, g5⟩, g6, g7, g8⟩ := hc1
        have t1 : c.1 = d.1 := pm_beq t1
        have g1 := k_ge_ok h.2.1 h.2.2.1 g1
        have g2 := k_ge_ok h.2.1 h.2.2.1 g2
        have g3 := k_ge_ok h.2.1 h.2.2.1 g3
        have g4 := k_ge_ok h.2.1 h.2.2.1 g4
        have g5 := k_ge_ok h.2.1 h.2.2.1 g5
        rw [k_ev_sub, k_ev_add, k_ev_c] at g4 g5
        obtain ⟨qc, f1, f2, f3, f4, f5⟩ := k_own_ok (E := E) hD h hM e5 hc
        obtain ⟨qd, i1, i2, i3, i4, i5⟩ := k_own_ok (E := E) hD h hM e3 hd
        obtain ⟨u1, u2, u3, u4, u5, u6, u7, u8⟩ := k_cpg_ok hgh
        have kn := k_clamp (j := n) (by omega)
        have kdp := k_clamp (j := dp) (by omega)
        have ksp := k_clamp (j := sp) (by omega)
        have hal : a < M.length := (List.getElem?_eq_some_iff.mp i1).1
        have hsd : sp.toNatClampNeg = dp.toNatClampNeg ∨ gh.1.2.2.1 = 1 := by
          rcases Bool.or_eq_true_iff.mp g7 with g7 | g7
          · have := k_eq_ok (σ := σ) g7
            exact Or.inl (by omega)
          · exact Or.inr (pm_beq g7)
        have hb3 : (!(Nat.beq qc.1 3) || qc.2.all (fun v => v == .int 0 || v == .int 1)) = true := by
          cases h3 : Nat.beq qc.1 3 with
          | false => rfl
          | true =>
            have h3 := pm_beq h3
            rw [f2.1] at h3
            refine Bool.or_eq_true_iff.mpr (Or.inr (List.all_eq_true.mpr fun v hv => ?_))
            obtain ⟨j, hj⟩ := List.getElem?_of_mem hv
            have hjl : j < qc.2.length := (List.getElem?_eq_some_iff.mp hj).1
            obtain ⟨z, z1, z2⟩ := (f2.2.2.2 _ _ hj).2 gh.1 (by rw [u1]; exact List.mem_singleton.mpr rfl) (by omega) (by rw [f2.2.1] at hjl; omega)
            obtain ⟨-, z3⟩ := u8 z (List.mem_of_getElem? z1)
            obtain ⟨z4, z5, z6⟩ := z3 h3
            obtain ⟨zk, lo, hi⟩ := z
            have z4 : zk = 0 := z4
            subst z4
            obtain ⟨x, rfl, x1, x2⟩ := z2
            have z5 : 0 ≤ lo := z5
            have z6 : hi ≤ 1 := z6
            have x1 : lo ≤ x.toInt := x1
            have x2 : x.toInt ≤ hi := x2
            rcases kI_01 (x := x) (by omega) (by omega) with rfl | rfl <;> rfl
        have hcat : Nat.ble (pm_cat rr) 8 = true := by rw [k_cat_ok h5]; exact g6
        have hin1 : sp.toNatClampNeg + n.toNatClampNeg ≤ qc.2.length := by rw [f2.2.1]; omega
        have hin2 : dp.toNatClampNeg + n.toNatClampNeg ≤ qd.2.length := by rw [i2.2.1]; omega
        have hMM : kMem D (M.set a (qd.1, pm_cpyL qc.2 qd.2 sp.toNatClampNeg dp.toNatClampNeg n.toNatClampNeg)) := by
          refine ⟨by rw [List.length_set]; exact hM.1, fun y dy hy => ?_⟩
          by_cases hya : y = a
          · subst hya
            rw [i3] at hy
            cases hy
            refine ⟨_, List.getElem?_set_self hal, i2.1, by show (pm_cpyL _ _ _ _ _).length = _; rw [pm_cpyL_len]; exact i2.2.1, i2.2.2.1, fun j v hv => ?_⟩
            rcases pm_cpyL_at hin1 hv with ⟨i, i6, rfl, hi⟩ | hv
            · have hil : sp.toNatClampNeg + i < qc.2.length := (List.getElem?_eq_some_iff.mp hi).1
              obtain ⟨k1, k2⟩ := f2.2.2.2 _ _ hi
              refine ⟨by rw [← t1]; exact k1, fun g' hg' b1 b2 => ?_⟩
              rw [u2] at hg'
              obtain rfl := List.mem_singleton.mp hg'
              obtain ⟨z, z1, z2⟩ := k2 gh.1 (by rw [u1]; exact List.mem_singleton.mpr rfl) (by omega) (by rw [f2.2.1] at hil; omega)
              refine ⟨z, ?_, kOkQ_01 (u8 z (List.mem_of_getElem? z1)).1 z2⟩
              rw [← u7, ← u6]
              have : (dp.toNatClampNeg + i - gh.2.1) % gh.1.2.2.1 = (sp.toNatClampNeg + i - gh.1.1) % gh.1.2.2.1 := by
                rw [u3, u4]
                rcases hsd with hsd | hsd
                · rw [hsd]
                · rw [hsd, Nat.mod_one, Nat.mod_one]
              rw [this]
              exact z1
            · exact i2.2.2.2 j v hv
          · obtain ⟨q', k1, k2⟩ := hM.2 y dy hy
            exact ⟨q', by rw [List.getElem?_set_ne (Ne.symm hya)]; exact k1, k2⟩
        have hsame : kSame (k_rec S ea (d.2.1 - 1)) M (M.set a (qd.1, pm_cpyL qc.2 qd.2 sp.toNatClampNeg dp.toNatClampNeg n.toNatClampNeg)) := by
          refine ⟨List.length_set, fun y cy hy => ?_⟩
          by_cases hya : y = a
          · subst hya
            rw [i1] at hy
            cases hy
            refine ⟨_, List.getElem?_set_self hal, rfl, pm_cpyL_len _ _ _ _ _, fun j hj => ?_⟩
            have hnot := hj _ (List.mem_singleton.mpr rfl)
            have a1 := k_lo_le h.2.1 ea
            have a2 := k_hi_ge h.2.1 ea
            have hgt : d.2.1 ≤ j := by
              refine Nat.not_lt.mp fun hle => hnot ?_
              unfold kInR
              simp only
              omega
            rw [List.getElem?_eq_none (by show (pm_cpyL _ _ _ _ _).length ≤ j; rw [pm_cpyL_len, i2.2.1]; omega), List.getElem?_eq_none (by rw [i2.2.1]; omega)]
          · exact ⟨cy, by rw [List.getElem?_set_ne (Ne.symm hya)]; exact hy, rfl, rfl, fun _ _ => rfl⟩
        have hadl : kRS N σ (k_adl (k_drop S (k_rec S ea (d.2.1 - 1))) (k_cpm S en edp ea esp eb c d)) (M.set a (qd.1, pm_cpyL qc.2 qd.2 sp.toNatClampNeg dp.toNatClampNeg n.toNatClampNeg)) := by
          refine kRS_adl (k_drop_ok h hsame) (k_cpm_ok h e3 e5 (fun z j hz => ?_) (fun w1 w2 w3 w4 j => ?_))
          · unfold k_gi
            rw [List.getElem?_set_ne (Ne.symm hz)]
          · have w1 := k_eq_ok (σ := σ) w1
            have w2 := pm_beq w2
            have w3 := k_eq_ok (σ := σ) w3
            have w4 := k_eq_ok (σ := σ) w4
            rw [k_ev_c] at w1 w3 w4
            have ww : pm_cpyL qc.2 qd.2 sp.toNatClampNeg dp.toNatClampNeg n.toNatClampNeg = qc.2 := by
              rw [show sp.toNatClampNeg = 0 by omega, show dp.toNatClampNeg = 0 by omega]
              exact k_cpyw (by rw [f2.2.1]; omega) (by rw [i2.2.1]; omega)
            rw [ww]
            unfold k_gi
            simp only [List.getElem?_set_self hal, f1]
        refine ⟨rr, _, ?_, rfl, hadl, hMM, k_rin_ok hsame g8, h5⟩
        unfold pm_copy
        simp only [f1, i1]
        have hall : (Nat.beq qc.1 qd.1 && (Nat.beq qc.1 0 || Nat.beq qc.1 1 || Nat.beq qc.1 3) && decide (0 ≤ sp.toInt) && decide (0 ≤ dp.toInt) && decide (0 ≤ n.toInt) && Nat.ble (sp.toNatClampNeg + n.toNatClampNeg) qc.2.length && Nat.ble (dp.toNatClampNeg + n.toNatClampNeg) qd.2.length && Nat.ble (pm_cat rr) 8
            && (!(Nat.beq qc.1 3) || qc.2.all (fun v => v == .int 0 || v == .int 1))) = true := by
          rw [hb3, hcat, Nat.ble_eq_true_of_le hin1, Nat.ble_eq_true_of_le hin2, decide_eq_true (show 0 ≤ sp.toInt by omega), decide_eq_true (show 0 ≤ dp.toInt by omega), decide_eq_true (show 0 ≤ n.toInt by omega), f2.1, i2.1, t1, Nat.beq_refl]
          rw [t1] at t2
          simp only [Bool.or_eq_true] at t2
          simp only [Bool.true_and, Bool.and_true, Bool.or_eq_true]
          rcases t2 with t2 | t2 | t2
          · exact Or.inl (Or.inl t2)
          · exact Or.inl (Or.inr t2)
          · exact Or.inr t2
        rw [hall]
        rfl
      · cases hz
    · cases hz
  · cases hz
theorem k_cp_ok {z : kS × List kV} {kd own idx : Nat} (hD : D.1 ≤ pmX) (h : kRS N σ S M) (hM : kMem D M) (ht : kRT E S.1.length σ kt st) (hz : k_cp D mods kd own idx S kt = some z) : ∃ (r : List Value) (M' : pM), pm_call E kd own idx pc ls st M = some (.inl (pc + 3, ls, r, M')) ∧ z.1.1.length = S.1.length ∧ kRS N σ z.1 M' ∧ kMem D M' ∧ kSame mods M M' ∧ kRT E S.1.length σ z.2 r := by
  unfold k_cp at hz
  split at hz
  · rename_i t hti
    obtain ⟨h1, hz⟩ := pm_cs hz
    simp only [Bool.and_eq_true, Bool.not_eq_true'] at h1
    obtain ⟨h1, h2, h3⟩ := h1
    obtain ⟨r, M', k1, k2⟩ := k_cpy_ok (E := E) (pc := pc) (ls := ls) hD h hM ht hz
    refine ⟨r, M', ?_, k2⟩
    unfold pm_call
    simp only [hti, h1, h2, h3, cond_false, cond_true, k1]
  · cases hz
end KCY
end
