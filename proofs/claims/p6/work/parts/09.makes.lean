section PMG
variable {p : Program} {l : Launch} {e : Env} {R : Room} {s : State} {m : MethodId} {args : Array Value} {below : List Frame} {meth : Method} {c : Code} {Q : State → Prop}
variable {base : Nat} {xv : Nat → Value} {cT : Nat → ClassId} {E : pM} {D : va_G} {me : pmMe} {L0 S0 : Nat} {nL : Nat}
variable {pc : Nat} {ls : pL} {st : List Value} {M : pM} {z : Nat × pL × List Value × pM}
theorem pm_narrow {ty : FieldType} {v : Value} (hE : pmEX base xv E s) (h : pm_fits E ty v = true) : narrow ty (pmRn base xv v) = pmRn base xv v ∧ fits ty (pmRn base xv v) = true := by
  unfold pm_fits at h
  split at h
  · exact ⟨rfl, rfl⟩
  · rename_i x
    simp only [Bool.or_eq_true, beq_iff_eq] at h
    rcases h with h | h
    · subst h
      exact ⟨rfl, (by decide : fits FieldType.boolean (.int 0) = true)⟩
    · subst h
      exact ⟨rfl, (by decide : fits FieldType.boolean (.int 1) = true)⟩
  · exact ⟨rfl, rfl⟩
  · obtain ⟨a, ha⟩ := pm_isA_rn (v := .ref _) hE h
    rw [ha]
    exact ⟨rfl, rfl⟩
  · obtain ⟨a, ha⟩ := pm_isA_rn (v := .ref _) hE h
    rw [ha]
    exact ⟨rfl, rfl⟩
  · cases h
theorem ws_putf (C : pmCx base xv cT E D p R s m args meth c me L0) {idx : Nat} (hd : decode (pmBy me.2.2.1) pc = .ok (.putfield idx, 3)) (hs : pm_putf E (Nat.beq me.2.2.2.2.2.1 2) me.1 idx pc ls st M = some z)
    (k : pmWk p l e R s m args below meth c Q base xv cT D L0 S0 nL z) (hX : M.length ≤ pmX) : pmWk p l e R s m args below meth c Q base xv cT D L0 S0 nL (pc, ls, st, M) := by
  obtain ⟨hx, hb, hml, hown, hts, hK, hE, hsz, hct, -⟩ := C
  unfold pm_putf at hs
  split at hs
  · rename_i t v a r ht
    split at hs
    · rename_i c' hc
      obtain ⟨h1, hs⟩ := pm_cs hs
      simp only [Bool.and_eq_true] at h1
      obtain ⟨⟨⟨h1, hlen⟩, hfit⟩, hfin⟩ := h1
      cases hs
      obtain ⟨tg, sl⟩ := c'
      have h1 : tg = 16 + t.1 := pm_beq h1
      subst h1
      have hlen : t.2.1 < sl.length := pm_blt hlen
      have hok := pm_all rfl pmFT_ok ht
      obtain ⟨hn, hf⟩ := pm_narrow hE hfit
      intro H locs lsm hP hS hl
      rw [List.map_cons, List.map_cons, pm_rn_own (Nat.lt_of_lt_of_le (pm_lt hc) hX)]
      have he := pmPic_get (base := base) (xv := xv) (cT := cT) hc
      rw [pmE_obj] at he
      obtain ⟨q, hq, -⟩ := hP a _ he
      have hq : pmCl[t.1]? = some q := hq
      obtain ⟨g1, g2, g3, g4, g5⟩ := pm_cl hq
      cases hb13 : Nat.beq t.1 13 with
      | true =>
        have h13 := pm_beq hb13
        rw [h13] at hq
        cases hq
      | false =>
        simp only [hb13, cond_false, hq, Bool.and_eq_true, decide_eq_true_eq] at hok
        have hkN : t.2.1 < q.2.2 := pm_blt hok.1.1
        have fin : ∀ (H1 : Heap) (locs1 : List Loc), va_P D pmCl ((pmPic base xv cT M).set a (base + a, .inr (t.1, (sl.map (pmRn base xv)).set t.2.1 (pmRn base xv v)))) H1 → va_S (pmA base) s.heap H1 locs1 → W p l e R s m args below meth c H1 locs1 (M.length - L0) (pm_sz M - S0) Q (F0 m (pc + 3) lsm (r.map (pmRn base xv))) := by
          intro H1 locs1 hP1 hS1
          have hk := k H1 locs1 lsm (by
            show va_P D pmCl (pmPic base xv cT (M.set a (16 + t.1, sl.set t.2.1 v))) H1
            rw [pmPic_set (pm_lt hc), pmE_obj, List.map_set]
            exact hP1) hS1 hl
          refine W.cs ?_ ?_ hk
          · show _ = (pm_put M a _ _ _).length - L0
            unfold pm_put
            rw [List.length_set]
          · show _ = pm_sz (pm_put M a _ _ _) - S0
            unfold pm_put
            rw [pm_sz_set hc (by simp)]
        unfold pm_fin at hfin
        rw [hq] at hfin
        cases hff : (q.2.1 t.2.1).2.2.2 with
        | false =>
          exact va_put (C := q.1) (T := q.2.1) (N := q.2.2) (ref := (q.2.1 t.2.1).1) hx hb hts g2 (pmTy t.1) g3 g5 hown hK hP pmPic_D hS a he hq t.2.1 hkN (hts _ (pm_wg hok.1.2 hok.2)) (fun x h => h) hff (g3 _ hkN) hn hf (by rw [List.length_map]; exact hlen) hd (fun H1 locs1 hP1 hD1 hS1 => fin H1 locs1 hP1 hS1)
        | true =>
          simp only [hff, cond_true, Bool.and_eq_true] at hfin
          have ho : me.1 = t.1 := pm_beq hfin.2
          exact va_putF (C := q.1) (T := q.2.1) (N := q.2.2) (ref := (q.2.1 t.2.1).1) hx hb hts g2 (pmTy t.1) g3 g5 hown hK hP pmPic_D hS a he hq t.2.1 hkN (hts _ (pm_wg hok.1.2 hok.2)) (fun x h => h) hff (hct hfin.1) (by rw [g4 _ hkN, ho]) (g3 _ hkN) hn hf (by rw [List.length_map]; exact hlen) hd (fun H1 locs1 hP1 hD1 hS1 => fin H1 locs1 hP1 hS1)
    · cases hs
  · cases hs
theorem pm_x1 {q : Nat} (h : pmX + 2 ≤ q) : pmX ≤ q := by omega
theorem pm_x2 {q : Nat} (h : pmX + 2 ≤ q) : q - pmX = 2 + (q - (pmX + 2)) := by omega
theorem pm_kt_ref {o i q ps : Nat} (h : pmKT1 o (i, Value.ref q, ps) = true) : pmX + 2 ≤ q ∧ ∃ w, pmSR[q - (pmX + 2)]? = some w ∧ w.1 = o ∧ w.2.1 = i := by
  have h : (Nat.ble (pmX + 2) q && pmKTr o i q) = true := h
  obtain ⟨h1, h2⟩ := Bool.and_eq_true_iff.mp h
  refine ⟨Nat.le_of_ble_eq_true h1, ?_⟩
  unfold pmKTr at h2
  split at h2
  · rename_i w hw
    obtain ⟨h3, h4⟩ := Bool.and_eq_true_iff.mp h2
    exact ⟨w, hw, pm_beq h3, pm_beq h4⟩
  · cases h2
theorem pm_kt_int {o i ps : Nat} {x : Int32} (h : pmKT1 o (i, Value.int x, ps) = true) : lw_tbl[ps]? = some (.constant (pmOw o) i x) ∧ goodWord (.constant (pmOw o) i x) = true := by
  have h : (decide (lw_tbl[ps]? = some (.constant (pmOw o) i x)) && goodWord (.constant (pmOw o) i x)) = true := h
  obtain ⟨h1, h2⟩ := Bool.and_eq_true_iff.mp h
  exact ⟨of_decide_eq_true h1, h2⟩
theorem pm_kt_long {o i ps : Nat} {x : Int64} (h : pmKT1 o (i, Value.long x, ps) = true) : lw_tbl[ps]? = some (.constantLong (pmOw o) i x) ∧ goodWord (.constantLong (pmOw o) i x) = true := by
  have h : (decide (lw_tbl[ps]? = some (.constantLong (pmOw o) i x)) && goodWord (.constantLong (pmOw o) i x)) = true := h
  obtain ⟨h1, h2⟩ := Bool.and_eq_true_iff.mp h
  exact ⟨of_decide_eq_true h1, h2⟩
theorem ws_ldc (C : pmCx base xv cT E D p R s m args meth c me L0) {idx : Nat} (hd : decode (pmBy me.2.2.1) pc = .ok (.ldc idx, 2)) (hs : pm_ldc E me.1 idx pc ls st M = some z)
    (k : pmWk p l e R s m args below meth c Q base xv cT D L0 S0 nL z) : pmWk p l e R s m args below meth c Q base xv cT D L0 S0 nL (pc, ls, st, M) := by
  obtain ⟨hx, hb, hml, hown, hts, hK, hE, -⟩ := C
  unfold pm_ldc at hs
  split at hs
  · rename_i v hv
    obtain ⟨h1, hs⟩ := pm_cs hs
    cases hs
    obtain ⟨v, ps⟩ := v
    have hok := pm_all rfl pmKT_ok hv
    intro H locs lsm hP hS hl
    cases v with
    | int x =>
      have hok := pm_kt_int hok
      exact lv_ldc hx hb hown (hts _ (pm_wg hok.1 hok.2)) hd (k H locs lsm hP hS hl)
    | ref q =>
      obtain ⟨hle, w, hw, hw1, hw2⟩ := pm_kt_ref hok
      obtain ⟨a, ha1, ha2⟩ := hE.2.2.2.1 _ _ hw
      rw [hw1, hw2] at ha2
      have e : pmRn base xv (.ref q) = .ref a := pm_rn_ext (pm_x1 hle) ((congrArg xv (pm_x2 hle)).trans ha1)
      refine va_ldcS hx hb hown ha2 hd (W_st ?_ (k H locs lsm hP hS hl))
      rw [List.map_cons, e]
    | _ => simp [pm_isI, pm_isA] at h1
  · cases hs
theorem ws_ldcw (C : pmCx base xv cT E D p R s m args meth c me L0) {idx : Nat} (hd : decode (pmBy me.2.2.1) pc = .ok (.ldc_w idx, 3)) (hs : pm_ldcw me.1 idx pc ls st M = some z)
    (k : pmWk p l e R s m args below meth c Q base xv cT D L0 S0 nL z) : pmWk p l e R s m args below meth c Q base xv cT D L0 S0 nL (pc, ls, st, M) := by
  obtain ⟨hx, hb, hml, hown, hts, hK, hE, -⟩ := C
  unfold pm_ldcw at hs
  split at hs
  · rename_i v hv
    obtain ⟨h1, hs⟩ := pm_cs hs
    cases hs
    obtain ⟨v, ps⟩ := v
    have hok := pm_all rfl pmKT_ok hv
    intro H locs lsm hP hS hl
    cases v with
    | int x =>
      have hok := pm_kt_int hok
      exact lv_ldcw hx hb hown (hts _ (pm_wg hok.1 hok.2)) hd (k H locs lsm hP hS hl)
    | _ => simp [pm_isI] at h1
  · cases hs
theorem ws_ldc2 (C : pmCx base xv cT E D p R s m args meth c me L0) {idx : Nat} (hd : decode (pmBy me.2.2.1) pc = .ok (.ldc2_w idx, 3)) (hs : pm_ldc2 me.1 idx pc ls st M = some z)
    (k : pmWk p l e R s m args below meth c Q base xv cT D L0 S0 nL z) : pmWk p l e R s m args below meth c Q base xv cT D L0 S0 nL (pc, ls, st, M) := by
  obtain ⟨hx, hb, hml, hown, hts, hK, hE, -⟩ := C
  unfold pm_ldc2 at hs
  split at hs
  · rename_i v hv
    obtain ⟨h1, hs⟩ := pm_cs hs
    cases hs
    obtain ⟨v, ps⟩ := v
    have hok := pm_all rfl pmKT_ok hv
    intro H locs lsm hP hS hl
    cases v with
    | long x =>
      have hok := pm_kt_long hok
      exact lv_ldc2 hx hb hown (hts _ (pm_wg hok.1 hok.2)) hd (k H locs lsm hP hS hl)
    | _ => simp [pm_isJ] at h1
  · cases hs
theorem pm_single {a : pC} {M : pM} : pmPic base xv cT (M ++ [a]) = pmPic base xv cT M ++ [(base + M.length, pmE base xv cT a)] := by
  rw [pmPic_app]
  simp
/-- a world and one cell more -/
theorem pm_hp_push {H H1 : Heap} {a : pC} (hP : pmHP D base xv cT M H) (hz : H.size = base + M.length) (ho : ∀ q, q < H.size → H1[q]? = H[q]?) (ha : va_at D pmCl (base + M.length, pmE base xv cT a) H1) : pmHP D base xv cT (M ++ [a]) H1 := by
  unfold pmHP
  rw [pm_single]
  refine va_P.app (fun k q hk => (hP k q hk).kept (ho q.1 (hP k q hk).lt)) (fun k q hk => ?_)
  have hz : k < 1 := (List.getElem?_eq_some_iff.mp hk).1
  rw [show k = 0 by omega] at hk
  cases hk
  exact ha
theorem pm_S_push {H H1 : Heap} {locs : List Loc} (hS : va_S (pmA base) s.heap H locs) (hz : H.size ≤ H1.size) (ho : ∀ q, q < H.size → H1[q]? = H[q]?) : va_S (pmA base) s.heap H1 locs :=
  ⟨Nat.le_trans hS.1 hz, fun x h1 h2 => (ho x (Nat.lt_of_lt_of_le h1 hS.1)).trans (hS.2.1 x h1 h2), hS.2.2⟩
theorem pm_len1 {a : pC} (hL : L0 ≤ M.length) : (M ++ [a]).length - L0 = M.length - L0 + 1 := by
  rw [List.length_append, List.length_singleton]
  omega
theorem pm_sz1 {a : pC} (hL : S0 ≤ pm_sz M) : pm_sz (M ++ [a]) - S0 = pm_sz M - S0 + a.2.length := by
  rw [pm_sz_app]
  have : pm_sz [a] = a.2.length := by simp [pm_sz]
  omega
theorem ws_new (C : pmCx base xv cT E D p R s m args meth c me L0) {idx : Nat} (hd : decode (pmBy me.2.2.1) pc = .ok (.new idx, 3)) (hs : pm_new me.1 idx pc ls st M = some z)
    (hL : L0 ≤ M.length) (hS0 : S0 ≤ pm_sz M) (hc1 : z.2.2.2.length - L0 ≤ R.cells) (hc2 : pm_sz z.2.2.2 - S0 ≤ R.slots)
    (k : pmWk p l e R s m args below meth c Q base xv cT D L0 S0 nL z) : pmWk p l e R s m args below meth c Q base xv cT D L0 S0 nL (pc, ls, st, M) := by
  obtain ⟨hx, hb, hml, hown, hts, hK, hE, hsz, -⟩ := C
  unfold pm_new at hs
  split at hs
  · rename_i t ht
    split at hs
    · rename_i q hq
      obtain ⟨h1, hs⟩ := pm_cs hs
      simp only [Bool.and_eq_true] at h1
      have h16 := Nat.le_of_ble_eq_true h1.1
      have hpx : M.length < pmX := pm_blt h1.2
      cases hs
      obtain ⟨g1, g2, g3, g4, g5⟩ := pm_cl hq
      have hok := pm_all rfl pmCT_ok ht
      have hok2 : lw_tbl[t.2.1]? = some (.classLink (pmOw me.1) idx q.1) ∧ goodWord (.classLink (pmOw me.1) idx q.1) = true ∧ lw_tbl[t.2.2.1]? = some (.instantiable q.1 q.2.2) ∧ goodWord (.instantiable q.1 q.2.2) = true ∧ lw_tbl[t.2.2.2]? = some (.initialized q.1) ∧ goodWord (.initialized q.1) = true := by
        split at hok
        · rename_i h4
          have : t.1 = 4 := h4
          omega
        · rename_i h5
          have : t.1 = 5 := h5
          omega
        · have hq' : pmCl[(idx, t).2.1 - 16]? = some q := hq
          rw [hq'] at hok
          simp only [Bool.and_eq_true, decide_eq_true_eq] at hok
          obtain ⟨⟨⟨⟨⟨a1, a2⟩, a3⟩, a4⟩, a5⟩, a6⟩ := hok
          exact ⟨a1, a2, a3, a4, a5, a6⟩
      obtain ⟨o1, o2, o3, o4, o5, o6⟩ := hok2
      intro H locs lsm hP hS hl
      refine W_size (M := M) hsz hL hP hS (fun hsize => ?_)
      have hKn := hK.1 _ _ hq
      have e1 := pm_len1 (L0 := L0) (M := M) (a := (t.1, (List.range q.2.2).map (fun k => pm_def (pmTy (t.1 - 16) k)))) hL
      have e2 := pm_sz1 (S0 := S0) (M := M) (a := (t.1, (List.range q.2.2).map (fun k => pm_def (pmTy (t.1 - 16) k)))) hS0
      have e3 : ((List.range q.2.2).map (fun k => pm_def (pmTy (t.1 - 16) k))).length = q.2.2 := by simp
      rw [e3] at e2
      have hc1 : (M ++ [(t.1, (List.range q.2.2).map (fun k => pm_def (pmTy (t.1 - 16) k)))]).length - L0 ≤ R.cells := hc1
      have hc2 : pm_sz (M ++ [(t.1, (List.range q.2.2).map (fun k => pm_def (pmTy (t.1 - 16) k)))]) - S0 ≤ R.slots := hc2
      refine W.newcK hx hb hown (hts _ (pm_wg o1 o2)) (hts _ (pm_wg o3 o4)) (hts _ (pm_wg o5 o6)) rfl hd (by show M.length - L0 + 1 ≤ R.cells; omega) (by show pm_sz M - S0 + q.2.2 ≤ R.slots; omega) hKn.2.1 rfl fun H1 kC hkC f1 z1 o1 => ?_
      have hat : va_at D pmCl (base + M.length, pmE base xv cT (t.1, (List.range q.2.2).map (fun k => pm_def (pmTy (t.1 - 16) k)))) H1 := by
        rw [show t.1 = 16 + (t.1 - 16) by omega, pmE_obj]
        rw [hsize] at f1
        refine ⟨q, hq, (u_born (pmTy (t.1 - 16)) hts g2 hKn hkC f1 g3).to (fun j hj => ?_)⟩
        show defaultValue _ = vp_V ((List.map _ _).map _) j
        unfold vp_V
        rw [List.getD_eq_getElem?_getD, List.getElem?_map, List.getElem?_map, List.getElem?_range hj]
        show defaultValue _ = pmRn base xv (pm_def (pmTy (16 + (t.1 - 16) - 16) j))
        rw [show 16 + (t.1 - 16) - 16 = t.1 - 16 by omega]
        have hty : pm_okty (pmTy (t.1 - 16) j) = true := pm_oktys (by have := (List.getElem?_eq_some_iff.mp hq).1; exact this) hq hj
        revert hty
        cases pmTy (t.1 - 16) j <;> intro hty <;> first | rfl | (simp [pm_okty] at hty)
      have hk := k H1 locs lsm (pm_hp_push hP hsize o1 hat) (pm_S_push hS (by omega) o1) hl
      refine W.cs e1.symm e2.symm (W_st ?_ hk)
      rw [List.map_cons, pm_rn_own hpx, hsize]
    · cases hs
  · cases hs
end PMG
