section PMQ
variable {p : Program} {l : Launch} {e : Env} {R : Room} {s : State} {m : MethodId} {args : Array Value} {below : List Frame} {meth : Method} {c : Code} {Q : State → Prop}
variable {base : Nat} {xv : Nat → Value} {cT : Nat → ClassId} {E : pM} {D : va_G} {me : pmMe} {L0 S0 : Nat} {nL : Nat}
variable {pc : Nat} {ls : pL} {st : List Value} {M : pM}
def pmPre (base : Nat) (xv : Nat → Value) (cT : Nat → ClassId) (E : pM) (D : va_G) (M : pM) (U : State) : Prop := U.heap.size = base + M.length ∧ pmHP D base xv cT M U.heap ∧ va_K D pmCl (pmTys cT) U ∧ pmEX base xv E U
def pmQ (base : Nat) (xv : Nat → Value) (cT : Nat → ClassId) (D : va_G) (v : Option Value) (M' : pM) : Array Value → State → Outcome → State → Prop := fun _ st oc t => oc = .returned (v.map (pmRn base xv)) ∧ pmHP D base xv cT M' t.heap ∧ va_F (pmA base) st t
def pmMet (l : Launch) (base : Nat) (xv : Nat → Value) (cT : Nat → ClassId) (E : pM) (D : va_G) (d : Nat) (me : pmMe) (as : List Value) (M : pM) (v : Option Value) (M' : pM) : Prop :=
  Met l me.2.1 (.code me.2.1 (pmBy me.2.2.1) me.2.2.2.1 me.2.2.2.2.1 :: pmWG) { frames := d, cells := M'.length - M.length, slots := pm_sz M' - pm_sz M, locals := 100 * d } (va_Pc (as.map (pmRn base xv)) (pmPre base xv cT E D M)) (pmQ base xv cT D v M') (M'.length - M.length) (pm_sz M' - pm_sz M) (pmA base)
theorem W_run {H : Heap} {locs : List Loc} {cells slots mc ms : Nat} {lsm : Array Slot} {rest st0 : List Value} {v : Option Value} {M' : pM} {a : Array Value} (hr : va_Run p l e R s m args below meth c H locs cells slots mc ms (F0 m pc lsm st0) rest (pmQ base xv cT D v M' a) (pmA base)) (hS : va_S (pmA base) s.heap H locs)
    (kk : ∀ (H1 : Heap) (locs1 : List Loc), pmHP D base xv cT M' H1 → va_S (pmA base) s.heap H1 locs1 → W p l e R s m args below meth c H1 locs1 (cells + mc) (slots + ms) Q (F0 m (pc + 3) lsm ((v.map (pmRn base xv)).toList ++ rest))) : W p l e R s m args below meth c H locs cells slots Q (F0 m pc lsm st0) := by
  intro T hT X
  obtain ⟨v', st₀, t, T', L, h0, X', hL, e1, e2, ⟨hv, hp, hz, hk⟩, st⟩ := hr T hT X
  have hv : v' = v.map (pmRn base xv) := by injection hv
  subst hv
  rw [h0] at hz hk
  obtain ⟨t2, a1, b1⟩ := kk T'.heap (locs ++ L) (by rw [e1]; exact hp)
    ⟨Nat.le_trans hS.1 (by rw [e1]; exact hz), fun q h1 h2 => by rw [e1, hk q (Nat.lt_of_lt_of_le h1 hS.1) h2]; exact hS.2.1 q h1 h2, fun q hq => by
      rcases List.mem_append.mp hq with h | h
      · exact hS.2.2 q h
      · exact hL q h⟩ T' rfl X'
  exact ⟨t2, st t2 a1, b1⟩
theorem pm_ok {y : Nat} {me : pmMe} (h : pmPT[y]? = some me) (hl : y < pmPT.length) (hy : y ≠ pmLaw) : ∃ q, pmPP[y]? = some q ∧ pmPok1 me q = true := by
  have hlen : pmPT.length = pmLaw + 1 := by decide +kernel
  have this := pmP_ok y (by omega)
  unfold pmPok2 at this
  rw [h] at this
  cases hq : pmPP[y]? with
  | none => rw [hq] at this; cases this
  | some q => rw [hq] at this; exact ⟨q, rfl, this⟩
/-- the outside moves along -/
theorem pm_ext_moved {a : Nat} {c0 : pC} {U V : State} (hvm : U.vm.Alike V.vm) (hh : ∀ q : Nat, q < U.heap.size → ¬ pmA base q → V.heap[q]? = U.heap[q]?) (h : pmExt base xv a c0 U) : pmExt base xv a c0 V := by
  unfold pmExt at h ⊢
  split at h
  · exact va_T.moved hvm (h.kept hh)
  · exact va_T.moved hvm (h.kept hh)
  · exact va_T.moved hvm (h.kept hh)
  · exact ⟨va_O.moved hvm (h.1.kept hh), va_OF.moved hvm (h.2.1.kept hh), va_OF.moved hvm (h.2.2.kept hh)⟩
  · exact h
theorem pm_EX_warm {U V : State} (hW : U.WarmedH V.vm) (hh : ∀ q : Nat, q < U.heap.size → ¬ pmA base q → V.heap[q]? = U.heap[q]?) (h : pmEX base xv E U) : pmEX base xv E V := by
  obtain ⟨h1, h2, ⟨s1, s2, s3⟩, h4, h5, h6, h7⟩ := h
  have hvm := hW.alike
  refine ⟨fun k c0 hk => ?_, h2, ⟨va_Z.moved hvm (s1.kept hh), va_Z.moved hvm (s2.kept hh), va_Z.moved hvm (s3.kept hh)⟩, fun j q hq => ?_, fun q hq => ?_, over_moved hvm h6, over_moved hvm h7⟩
  · obtain ⟨a, e1, e2⟩ := h1 k c0 hk
    exact ⟨a, e1, pm_ext_moved hvm hh e2⟩
  · obtain ⟨a, e1, e2⟩ := h4 j q hq
    exact ⟨a, e1, vk_R.warm hW e2⟩
  · exact va_Nw.warmM hW (h5 q hq)
theorem pm_blind {as : List Value} {M : pM} : FrameBlind (va_Pc as (pmPre base xv cT E D M)) := by
  intro a U g mk h
  obtain ⟨h1, h2, h3, h4, h5⟩ := h
  have hW : U.WarmedH (U.calling g mk a).vm := State.WarmedH.refl U
  exact ⟨h1, h2, h3, va_K.moved (u := U) (U := U.calling g mk a) (Vm.Alike.refl U.vm) h4, pm_EX_warm hW (fun _ _ _ => rfl) h5⟩
theorem pm_pre {H : Heap} {locs : List Loc} (hsize : H.size = base + M.length) (hP : pmHP D base xv cT M H) (hS : va_S (pmA base) s.heap H locs) (hK : va_K D pmCl (pmTys cT) s) (hE : pmEX base xv E s) {U : State} (hU : U.heap = H) (hW : s.WarmedH U.vm) : pmPre base xv cT E D M U :=
  ⟨by rw [hU]; exact hsize, by rw [hU]; exact hP, va_K.moved hW.alike hK, pm_EX_warm hW (fun q h1 h2 => by rw [hU]; exact hS.2.1 q h1 h2) hE⟩
theorem pm_goodWG : GoodIn pmWG pmWG := fun w hw => ⟨hw, good_of_word (List.mem_filter.mp hw).2⟩
set_option maxHeartbeats 4000000 in
/-- a call of ours -/
theorem ws_call {d : Nat} {M' : pM} {v : Option Value} {z : Nat × List Value × List Value} (C : pmCx base xv cT E D p R s m args meth c me L0) (hnL : nL = me.2.2.2.1) (kd : Nat) {idx : Nat} (hd : decode (pmBy me.2.2.1) pc = .ok (pm_ins kd idx, 3)) (hs : pm_call E kd me.1 idx pc ls st M = some (.inr z))
    (IH : z.1 ≠ pmLaw → ∀ me', pmPT[z.1]? = some me' → pmMet l base xv cT E D d me' z.2.1 M v M')
    (hL : L0 ≤ M.length) (hS0 : S0 ≤ pm_sz M) (hg1 : M.length ≤ M'.length) (hg2 : pm_sz M ≤ pm_sz M') (hc1 : M'.length - L0 ≤ R.cells) (hc2 : pm_sz M' - S0 ≤ R.slots) (hr1 : d + 1 ≤ R.frames) (hr2 : 100 * d + 100 ≤ R.locals)
    (k : pmWk p l e R s m args below meth c Q base xv cT D L0 S0 nL (pc + 3, ls, v.toList ++ z.2.2, M')) : pmWk p l e R s m args below meth c Q base xv cT D L0 S0 nL (pc, ls, st, M) := by
  obtain ⟨hx, hb, hml, hown, hts, hK, hE, hsz, -, hR1, hR2⟩ := C
  unfold pm_call at hs
  split at hs
  · cases hs
  · rename_i t ht
    have hok := pm_all rfl pmMT_ok ht
    unfold pmMT1 at hok
    have hlaw : t.1 ≠ pmLaw := by
      have h := pm_all rfl pmMT_law ht
      intro q
      rw [q] at h
      simp at h
    cases h9 : Nat.beq t.1 9000 with
    | true =>
      exfalso
      rw [h9] at hs
      simp only [cond_true] at hs
      split at hs
      · obtain ⟨-, hs⟩ := pm_cs hs
        cases hs
      · cases hs
    | false =>
      rw [h9] at hs
      simp only [cond_false] at hs
      cases h91 : Nat.beq t.1 9001 with
      | true =>
        exfalso
        rw [h91] at hs
        simp only [cond_true] at hs
        obtain ⟨-, hs⟩ := pm_cs hs
        split at hs <;> cases hs
      | false =>
        rw [h91] at hs
        simp only [h9, h91, cond_false] at hs hok
        have hs : pm_args E kd t.1 st M = some z := by
          split at hs
          · rename_i w hw
            cases hs
            exact hw
          · cases hs
        unfold pm_args at hs
        split at hs
        · cases hs
        · rename_i me' hme
          obtain ⟨h1, hs⟩ := pm_cs hs
          simp only [Bool.and_eq_true] at h1
          have hkind : me'.2.2.2.2.2.1 = kd := pm_beq h1.1
          have hlen : (st.take me'.2.2.2.2.2.2.1).reverse.length = me'.2.2.2.2.2.2.1 := pm_beq h1.2
          have hY : pmY t.1 = me'.2.1 := by unfold pmY; rw [hme]
          rw [hY] at hok
          have hsplit : st = (st.take me'.2.2.2.2.2.2.1).reverse.reverse ++ st.drop me'.2.2.2.2.2.2.1 := by rw [List.reverse_reverse, List.take_append_drop]
          generalize (st.take me'.2.2.2.2.2.2.1).reverse = as at hlen hs hsplit
          generalize st.drop me'.2.2.2.2.2.2.1 = r at hs hsplit
          have fin : ∀ (H : Heap) (locs : List Loc) (lsm : Array Slot), H.size = base + M.length → va_S (pmA base) s.heap H locs → lv_has lsm nL (ls.map (fun q => (q.1, pmRn base xv q.2))) → ∀ (rest st0 : List Value) (a : Array Value), rest = z.2.2.map (pmRn base xv) → va_Run p l e R s m args below meth c H locs (M.length - L0) (pm_sz M - S0) (M'.length - M.length) (pm_sz M' - pm_sz M) (F0 m pc lsm st0) rest (pmQ base xv cT D v M' a) (pmA base) → W p l e R s m args below meth c H locs (M.length - L0) (pm_sz M - S0) Q (F0 m pc lsm st0) := by
            intro H locs lsm hsize hS hl rest st0 a hrest hr
            subst hrest
            refine W_run hr hS (fun H1 locs1 hP1 hS1 => ?_)
            refine W.cs (by show M.length - L0 + (M'.length - M.length) = M'.length - L0; omega) (by show pm_sz M - S0 + (pm_sz M' - pm_sz M) = pm_sz M' - S0; omega) (W_st ?_ (k H1 locs1 lsm hP1 hS1 hl))
            rw [List.map_append]
            cases v <;> rfl
          have croom : M.length - L0 + (M'.length - M.length) ≤ R.cells ∧ pm_sz M - S0 + (pm_sz M' - pm_sz M) ≤ R.slots := ⟨by omega, by omega⟩
          cases hk0 : Nat.beq kd 0 with
          | true =>
            have hk0 := pm_beq hk0
            subst hk0
            simp only [show Nat.beq 0 0 = true from rfl, cond_true] at hs
            obtain ⟨h2, hs⟩ := pm_cs hs
            have h2 := Nat.le_of_ble_eq_true h2
            cases hs
            obtain ⟨q, hq, hpk⟩ := pm_ok hme (List.getElem?_eq_some_iff.mp hme).1 hlaw
            unfold pmPok1 at hpk
            rw [hkind] at hpk
            simp only [Bool.and_eq_true, decide_eq_true_eq] at hpk
            obtain ⟨⟨⟨⟨⟨⟨⟨⟨⟨p0, p3⟩, p4⟩, ⟨p5, p6⟩⟩, p7⟩, p8⟩, p9⟩, p10⟩, p11⟩, p12⟩ := hpk
            have p1 := pmCdok_ok p0
            have p12 := Nat.le_of_ble_eq_true p12
            intro H locs lsm hP hS hl
            refine W_size (M := M) hsz hL hP hS (fun hsize => ?_)
            rw [hsplit, List.map_append, List.map_reverse]
            cases hn : Nat.beq t.2.1 0 with
            | true =>
              rw [hn] at hok
              simp only [cond_true, Bool.and_eq_true, decide_eq_true_eq] at hok
              have hws : GoodIn pmWG (va_wsS (pmOw me.1) idx me'.2.1 (.code me'.2.1 (pmBy me'.2.2.1) me'.2.2.2.1 me'.2.2.2.2.1 :: pmWG)) := by
                intro w hw
                unfold va_wsS at hw
                simp only [List.cons_append, List.nil_append, List.mem_cons] at hw
                rcases hw with rfl | rfl | rfl | rfl | hw
                · exact pm_goodWG _ (pm_wg hok.1 hok.2)
                · exact pm_goodWG _ (pm_wg p5 p6)
                · exact pm_goodWG _ (pm_wg p3 p4)
                · exact pm_goodWG _ (pm_wg p1 rfl)
                · exact pm_goodWG _ hw
              exact fin H locs lsm hsize hS hl _ _ _ rfl (va_runS (As := as.map (pmRn base xv)) ⟨hx, hb, hml, hown, hts⟩ (IH hlaw me' hme) (va_cwS me'.2.2.2.2.2.2.1 hts hws rfl rfl rfl ⟨p7, p8, p9⟩ ⟨hr1, by show 8 + (_ + 11) + 100 * d ≤ _; omega⟩) ⟨pm_blind, fun U hU hW => ⟨rfl, pm_pre hsize hP hS hK hE hU hW⟩⟩ rfl (by rw [List.length_map]; exact hlen) (hl.1.trans hnL) rfl (lv_room (by rw [pm_cat_rn hE.2.1]; exact h2)) hd croom)
            | false =>
              rw [hn] at hok
              simp only [cond_false] at hok
              obtain ⟨w, hw1, hw2⟩ := List.any_eq_true.mp hok
              simp only [Bool.and_eq_true] at hw2
              have hnw := hE.2.2.2.2.1 w hw1
              rw [pm_beq hw2.1.1, pm_beq hw2.1.2, pm_beq hw2.2, hY] at hnw
              have hws : GoodIn pmWG (.code me'.2.1 (pmBy me'.2.2.1) me'.2.2.2.1 me'.2.2.2.2.1 :: pmWG) := by
                intro w hw
                rcases List.mem_cons.mp hw with rfl | hw
                · exact pm_goodWG _ (pm_wg p1 rfl)
                · exact pm_goodWG _ hw
              exact fin H locs lsm hsize hS hl _ _ _ rfl (va_runSN (As := as.map (pmRn base xv)) ⟨hx, hb, hml, hown, hts⟩ (IH hlaw me' hme) ⟨va_cnB me'.2.2.2.2.2.2.1 hts hws rfl rfl rfl hnw (hts _ (pm_wg p3 p4)) ⟨p7, p8, p9⟩ ⟨hr1, by show 8 + (_ + 11) + 100 * d ≤ _; omega⟩, hts _ (pm_wg p5 p6), trivial⟩ ⟨pm_blind, fun U hU hW => ⟨rfl, pm_pre hsize hP hS hK hE hU hW⟩⟩ rfl (by rw [List.length_map]; exact hlen) (hl.1.trans hnL) rfl (lv_room (by rw [pm_cat_rn hE.2.1]; exact h2)) hd croom)
          | false =>
            rw [hk0] at hs
            simp only [cond_false] at hs
            split at hs
            · rename_i a r2
              split at hs
              · rename_i c' hc
                obtain ⟨h2, hs⟩ := pm_cs hs
                simp only [Bool.and_eq_true] at h2
                obtain ⟨htag, h2⟩ := h2
                have h2 := Nat.le_of_ble_eq_true h2
                have htag := pm_beq htag
                cases hs
                obtain ⟨q, hq, hpk⟩ := pm_ok hme (List.getElem?_eq_some_iff.mp hme).1 hlaw
                unfold pmPok1 at hpk
                rw [hkind] at hpk
                intro H locs lsm hP hS hl
                refine W_size (M := M) hsz hL hP hS (fun hsize => ?_)
                rw [hsplit, List.map_append, List.map_reverse, List.map_cons]
                -- the receiver
                have hrecv : ∃ (b : Nat) (cellB : Cell), pmRn base xv (.ref a) = .ref b ∧ H[b]? = some cellB ∧ cellB.vm.isStatics = false ∧ s.vm.findClass (pmOw me'.1) = some cellB.cls := by
                  obtain ⟨tg, sl⟩ := c'
                  have htag : tg = 16 + me'.1 := htag
                  subst htag
                  rcases pm_own hc with ⟨g1, g2⟩ | ⟨g1, g2⟩
                  · have he := pmPic_get (base := base) (xv := xv) (cT := cT) g2
                    rw [pmE_obj] at he
                    obtain ⟨qq, hqq, -⟩ := hP a _ he
                    have hqq : pmCl[me'.1]? = some qq := hqq
                    obtain ⟨cellB, f1, f2, f3⟩ := va_recv hK hP hqq he
                    rw [(pm_cl hqq).1] at f3
                    exact ⟨base + a, cellB, pm_rn_own g1, f1, f2, f3⟩
                  · obtain ⟨b, hb1, hb2⟩ := hE.1 _ _ g2
                    have h13 : me'.1 = 13 := by
                      unfold pmExt at hb2
                      split at hb2
                      · omega
                      · omega
                      · omega
                      · rename_i h29
                        have : 16 + me'.1 = 29 := h29
                        omega
                      · exact hb2.elim
                    rw [h13] at hb2 ⊢
                    obtain ⟨⟨cellB, f1, f2, f3, f4⟩, -⟩ := hb2
                    exact ⟨b, cellB, pm_rn_ext g1 hb1, by rw [hS.2.1 b (Array.getElem?_eq_some_iff.mp f1).1 f4]; exact f1, f2, f3⟩
                obtain ⟨b, cellB, hrb, hcB, hoB, hclB⟩ := hrecv
                rw [hrb]
                match hkd : kd, hk0, hd, hpk with
                | 1, _, hd, hpk =>
                  simp only [Bool.and_eq_true, decide_eq_true_eq] at hpk
                  obtain ⟨⟨⟨⟨⟨⟨⟨⟨⟨p0, p3⟩, p4⟩, ⟨⟨⟨p5, p6⟩, p5b⟩, p6b⟩⟩, p7⟩, p8⟩, p9⟩, p10⟩, p11⟩, p12⟩ := hpk
                  have p1 := pmCdok_ok p0
                  have p12 := Nat.le_of_ble_eq_true p12
                  have hnest : Nat.beq t.2.1 0 = true := by
                    cases hn : Nat.beq t.2.1 0 with
                    | true => rfl
                    | false =>
                      exfalso
                      rw [hn] at hok
                      simp only [cond_false] at hok
                      obtain ⟨w, hw1, hw2⟩ := List.any_eq_true.mp hok
                      simp only [Bool.and_eq_true] at hw2
                      have := pmNW_ok w hw1
                      rw [pm_beq hw2.2, hme] at this
                      simp only [hkind] at this
                      cases this
                  rw [hnest] at hok
                  simp only [cond_true, Bool.and_eq_true, decide_eq_true_eq] at hok
                  have hws : GoodIn pmWG (wsV (pmOw me.1) idx me'.2.1.cls me'.2.1 (.code me'.2.1 (pmBy me'.2.2.1) me'.2.2.2.1 me'.2.2.2.2.1 :: pmWG)) := by
                    intro w hw
                    unfold wsV at hw
                    simp only [List.cons_append, List.nil_append, List.mem_cons] at hw
                    rcases hw with rfl | rfl | rfl | rfl | rfl | hw
                    · exact pm_goodWG _ (pm_wg hok.1 hok.2)
                    · exact pm_goodWG _ (pm_wg p5 p6)
                    · exact pm_goodWG _ (pm_wg p5b p6b)
                    · exact pm_goodWG _ (pm_wg p3 p4)
                    · exact pm_goodWG _ (pm_wg p1 rfl)
                    · exact pm_goodWG _ hw
                  refine fin H locs lsm hsize hS hl _ _ _ rfl (va_runV (As := as.map (pmRn base xv)) (b := b) (C := me'.2.1.cls) ⟨hx, hb, hml, hown, hts⟩ (IH hlaw me' hme) (cwV me'.2.2.2.2.2.2.1 hts hws rfl rfl rfl ⟨rfl, p7, p8, p9⟩ ⟨hr1, by show 8 + (_ + 11) + 100 * d ≤ _; omega⟩) ⟨pm_blind, ⟨cellB, hcB, hoB, by rw [p11]; exact hclB⟩, fun U hU hW => ⟨?_, pm_pre hsize hP hS hK hE hU hW⟩⟩ rfl (by rw [List.length_map]; exact hlen) (hl.1.trans hnL) rfl (lv_room (by rw [pm_cat_rn hE.2.1]; exact h2)) hd croom)
                  show _ = (List.map _ _).toArray
                  rw [List.map_cons, hrb]
                | 2, _, hd, hpk =>
                  simp only [Bool.and_eq_true, decide_eq_true_eq] at hpk
                  obtain ⟨⟨⟨⟨⟨⟨⟨⟨⟨p0, p3⟩, p4⟩, ⟨⟨⟨p5, p6⟩, p5b⟩, p6b⟩⟩, p7⟩, p8⟩, p9⟩, p10⟩, p11⟩, p12⟩ := hpk
                  have p1 := pmCdok_ok p0
                  have p12 := Nat.le_of_ble_eq_true p12
                  have hM : Met l me'.2.1 (.code me'.2.1 (pmBy me'.2.2.1) me'.2.2.2.1 none :: pmWG) { frames := d, cells := M'.length - M.length, slots := pm_sz M' - pm_sz M, locals := 100 * d } (va_Pc ((Value.ref a :: as).map (pmRn base xv)) (pmPre base xv cT E D M)) (pmQ base xv cT D v M') (M'.length - M.length) (pm_sz M' - pm_sz M) (pmA base) := by
                    have := IH hlaw me' hme
                    unfold pmMet at this
                    rw [p6b] at this
                    exact this
                  have p1 : lw_tbl[me'.2.2.1]? = some (.code me'.2.1 (pmBy me'.2.2.1) me'.2.2.2.1 none) := by rw [← p6b]; exact p1
                  have hws : GoodIn pmWG (.code me'.2.1 (pmBy me'.2.2.1) me'.2.2.2.1 none :: pmWG) := by
                    intro w hw
                    rcases List.mem_cons.mp hw with rfl | hw
                    · exact pm_goodWG _ (pm_wg p1 rfl)
                    · exact pm_goodWG _ hw
                  have hpre : PreS s H (va_Pc ((Value.ref a :: as).map (pmRn base xv)) (pmPre base xv cT E D M)) (.ref b :: as.map (pmRn base xv)) := by
                    refine ⟨pm_blind, fun U hU hW => ⟨?_, pm_pre hsize hP hS hK hE hU hW⟩⟩
                    rw [List.map_cons, hrb]
                  cases hn : Nat.beq t.2.1 0 with
                  | true =>
                    rw [hn] at hok
                    simp only [cond_true, Bool.and_eq_true, decide_eq_true_eq] at hok
                    exact fin H locs lsm hsize hS hl _ _ _ rfl (va_runI (As := as.map (pmRn base xv)) (b := b) ⟨hx, hb, hml, hown, hts⟩ hM (cwI me'.2.2.2.2.2.2.1 hts hws rfl rfl rfl (hts _ (pm_wg p3 p4)) (hts _ (pm_wg hok.1 hok.2)) (hts _ (pm_wg p5 p6)) p5b ⟨p7, p8, p9⟩ ⟨hr1, by show 8 + (_ + 11) + 100 * d ≤ _; omega⟩) hpre rfl (by rw [List.length_map]; exact hlen) (hl.1.trans hnL) rfl (lv_room (by rw [pm_cat_rn hE.2.1]; exact h2)) hd croom)
                  | false =>
                    rw [hn] at hok
                    simp only [cond_false] at hok
                    obtain ⟨w, hw1, hw2⟩ := List.any_eq_true.mp hok
                    simp only [Bool.and_eq_true] at hw2
                    have hnw := hE.2.2.2.2.1 w hw1
                    rw [pm_beq hw2.1.1, pm_beq hw2.1.2, pm_beq hw2.2, hY] at hnw
                    exact fin H locs lsm hsize hS hl _ _ _ rfl (va_runIN (As := as.map (pmRn base xv)) (b := b) ⟨hx, hb, hml, hown, hts⟩ hM ⟨va_cnB me'.2.2.2.2.2.2.1 hts hws rfl rfl rfl hnw (hts _ (pm_wg p3 p4)) ⟨p7, p8, p9⟩ ⟨hr1, by show 8 + (_ + 11) + 100 * d ≤ _; omega⟩, p5b, hts _ (pm_wg p5 p6)⟩ hpre rfl (by rw [List.length_map]; exact hlen) (hl.1.trans hnL) rfl (lv_room (by rw [pm_cat_rn hE.2.1]; exact h2)) hd croom)
                | kd + 3, _, _, hpk =>
                  exfalso
                  simp at hpk
              · cases hs
            · cases hs
end PMQ
