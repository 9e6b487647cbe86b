/-! the tables of this claim against the tables' words -/
def pmFTok : Bool := (List.range 21).all fun o => (pmFT.getD o []).all fun q => cond (Nat.beq q.2.1 13)
  (match q.2.2.1 with
    | 0 => decide (lw_tbl[q.2.2.2]? = some (.fieldLink (pmOw o) q.1 "java/lang/String" "value" "[B")) && goodWord (.fieldLink (pmOw o) q.1 "java/lang/String" "value" "[B")
    | 1 => decide (lw_tbl[q.2.2.2]? = some (.fieldLink (pmOw o) q.1 "java/lang/String" "coder" "B")) && goodWord (.fieldLink (pmOw o) q.1 "java/lang/String" "coder" "B")
    | _ => false)
  (match pmCl[q.2.1]? with
    | some t => Nat.blt q.2.2.1 t.2.2 && decide (lw_tbl[q.2.2.2]? = some (.fieldLink (pmOw o) q.1 (t.2.1 q.2.2.1).1 (t.2.1 q.2.2.1).2.1 (t.2.1 q.2.2.1).2.2.1)) && goodWord (.fieldLink (pmOw o) q.1 (t.2.1 q.2.2.1).1 (t.2.1 q.2.2.1).2.1 (t.2.1 q.2.2.1).2.2.1)
    | none => false)
def pmClok : Bool := (List.range 13).all fun t => match pmCl[t]? with
  | some q => decide (q.1 = pmOw t) && (List.range q.2.2).all fun k => decide (lw_tbl[(pmLP.getD t []).getD k 0]? = some (u_lay q.1 q.2.1 k)) && goodWord (u_lay q.1 q.2.1 k) && decide (parseFieldDescriptor (q.2.1 k).2.2.1 = some (pmTy t k)) && decide ((q.2.1 k).1 = pmOw t) && (List.range q.2.2).all fun j => Nat.beq j k || decide ((q.2.1 j).2.1 ≠ (q.2.1 k).2.1)
  | none => false
def pmSTok : Bool := (List.range 21).all fun o => (pmST.getD o []).all fun q => match q.2.1 with
  | 0 => decide (lw_tbl[q.2.2]? = some (.fieldLink (pmOw o) q.1 RX9 "PATTERNS" "[J")) && goodWord (.fieldLink (pmOw o) q.1 RX9 "PATTERNS" "[J")
  | 1 => decide (lw_tbl[q.2.2]? = some (.fieldLink (pmOw o) q.1 "java/lang/String" "COMPACT_STRINGS" "Z")) && goodWord (.fieldLink (pmOw o) q.1 "java/lang/String" "COMPACT_STRINGS" "Z")
  | 2 => decide (lw_tbl[q.2.2]? = some (.fieldLink (pmOw o) q.1 "jdk/internal/util/Preconditions" "SIOOBE_FORMATTER" "Ljava/util/function/BiFunction;")) && goodWord (.fieldLink (pmOw o) q.1 "jdk/internal/util/Preconditions" "SIOOBE_FORMATTER" "Ljava/util/function/BiFunction;")
  | _ => false
def pmKTr (o i k : Nat) : Bool := match pmSR[k - (pmX + 2)]? with
  | some r => Nat.beq r.1 o && Nat.beq r.2.1 i
  | none => false
def pmKT1 (o : Nat) (q : Nat × Value × Nat) : Bool := match q.2.1 with
  | .int v => decide (lw_tbl[q.2.2]? = some (.constant (pmOw o) q.1 v)) && goodWord (.constant (pmOw o) q.1 v)
  | .long v => decide (lw_tbl[q.2.2]? = some (.constantLong (pmOw o) q.1 v)) && goodWord (.constantLong (pmOw o) q.1 v)
  | .ref k => Nat.ble (pmX + 2) k && pmKTr o q.1 k
  | _ => false
def pmKTok : Bool := (List.range 21).all fun o => (pmKT.getD o []).all (pmKT1 o)
def pmCTok : Bool := (List.range 21).all fun o => (pmCT.getD o []).all fun q => match q.2.1 with
  | 4 => decide (lw_tbl[q.2.2.1]? = some (.classLink (pmOw o) q.1 "[[I")) && goodWord (.classLink (pmOw o) q.1 "[[I")
  | 5 => decide (lw_tbl[q.2.2.1]? = some (.classLink (pmOw o) q.1 "[[J")) && goodWord (.classLink (pmOw o) q.1 "[[J")
  | t => match pmCl[t - 16]? with
    | some r => decide (lw_tbl[q.2.2.1]? = some (.classLink (pmOw o) q.1 r.1)) && goodWord (.classLink (pmOw o) q.1 r.1) && decide (lw_tbl[q.2.2.2.1]? = some (.instantiable r.1 r.2.2)) && goodWord (.instantiable r.1 r.2.2) && decide (lw_tbl[q.2.2.2.2]? = some (.initialized r.1)) && goodWord (.initialized r.1)
    | none => false
def pmMT1 (o : Nat) (q : Nat × Nat × Nat × Nat) : Bool := cond (Nat.beq q.2.1 9000)
  (decide (lw_tbl[q.2.2.2]? = some (.methodLink (pmOw o) q.1 Lib.objectInit)) && goodWord (.methodLink (pmOw o) q.1 Lib.objectInit))
  (cond (Nat.beq q.2.1 9001) (decide (lw_tbl[q.2.2.2]? = some (.methodLink (pmOw o) q.1 arraycopyName)) && goodWord (.methodLink (pmOw o) q.1 arraycopyName))
  (cond (Nat.beq q.2.2.1 0) (decide (lw_tbl[q.2.2.2]? = some (.methodLink (pmOw o) q.1 (pmY q.2.1))) && goodWord (.methodLink (pmOw o) q.1 (pmY q.2.1)))
    (pmNW.any fun r => Nat.beq r.1 o && Nat.beq r.2.1 q.1 && Nat.beq r.2.2.1 q.2.1)))
def pmMTok : Bool := (List.range 21).all fun o => (pmMT.getD o []).all (pmMT1 o)
def pmMTlaw : Bool := (List.range 21).all fun o => (pmMT.getD o []).all fun q => !(Nat.beq q.2.1 pmLaw)
theorem pmMT_law : pmMTlaw = true := by decide +kernel
/-- a method's code is the tables' -/
def pmCdok (me : pmMe) : Bool := !(Nat.beq me.2.2.1 999999) && (match lw_tbl[me.2.2.1]? with
  | some (.code y _ m r) => decide (y = me.2.1) && decide (m = me.2.2.2.1) && decide (r = me.2.2.2.2.1)
  | _ => false)
theorem pmCdok_ok {me : pmMe} (h : pmCdok me = true) : lw_tbl[me.2.2.1]? = some (.code me.2.1 (pmBy me.2.2.1) me.2.2.2.1 me.2.2.2.2.1) := by
  unfold pmCdok at h
  simp only [Bool.and_eq_true] at h
  obtain ⟨h1, h2⟩ := h
  have h1 : Nat.beq me.2.2.1 999999 = false := by simpa using h1
  unfold pmBy
  rw [h1, cond_false]
  split at h2
  · rename_i y b m r hq
    simp only [Bool.and_eq_true, decide_eq_true_eq] at h2
    rw [hq, h2.1.1, h2.1.2, h2.2]
  · cases h2
/-- a method's own words -/
def pmPok1 (me : pmMe) (q : Nat × Nat × Nat × Nat) : Bool :=
  pmCdok me &&
  decide (lw_tbl[q.2.2.2]? = some (.initialized me.2.1.cls)) && goodWord (.initialized me.2.1.cls) &&
  (match me.2.2.2.2.2.1 with
    | 0 => decide (lw_tbl[q.2.1]? = some (.static me.2.1)) && goodWord (.static me.2.1)
    | 1 => decide (lw_tbl[q.2.1]? = some (.instanceMethod me.2.1)) && goodWord (.instanceMethod me.2.1) && decide (lw_tbl[q.2.2.1]? = some (.selects me.2.1.cls me.2.1 me.2.1)) && goodWord (.selects me.2.1.cls me.2.1 me.2.1)
    | 2 => decide (lw_tbl[q.2.1]? = some (.instanceMethod me.2.1)) && goodWord (.instanceMethod me.2.1) && decide (me.2.1.name = "<init>") && decide (me.2.2.2.2.1 = none)
    | _ => false) &&
  decide (me.2.1.cls ≠ "java/lang/invoke/MethodHandle") && decide (me.2.1.cls ≠ "java/lang/invoke/VarHandle") && decide ((parseMethodDescriptor me.2.1.desc).map (fun d => d.parameters.length) = some me.2.2.2.2.2.2.1) && plainFor me.2.1 && decide (me.2.1.cls = pmOw me.1) && Nat.ble me.2.2.2.1 60
def pmPok2 (y : Nat) : Bool := match pmPT[y]?, pmPP[y]? with
  | some me, some q => pmPok1 me q
  | _, _ => false
def pmPok (a n : Nat) : Bool := (List.range n).all fun i => pmPok2 (a + i)
/-- the printed code is the code -/
def pmDok1 (b : ByteArray) (t : List (List (Nat × Instr × Nat))) : Bool := t.all fun c => c.all fun q => decide (decode b q.1 = .ok (q.2.1, q.2.2))
def pmDok2 (y : Nat) : Bool := match pmPT[y]? with
  | some me => pmDok1 (pmBy me.2.2.1) me.2.2.2.2.2.2.2
  | none => false
def pmDok (a n : Nat) : Bool := (List.range n).all fun i => pmDok2 (a + i)
def pm_okty : FieldType → Bool
  | .int => true
  | .boolean => true
  | .long => true
  | .object _ => true
  | .array _ => true
  | _ => false
def pmTyok : Bool := (List.range 13).all fun t => match pmCl[t]? with
  | some q => (List.range q.2.2).all fun k => pm_okty (pmTy t k)
  | none => false
theorem pmTy_ok : pmTyok = true := by decide +kernel
theorem pm_oktys {t k : Nat} {q : vw_C} (ht : t < 13) (hq : pmCl[t]? = some q) (hk : k < q.2.2) : pm_okty (pmTy t k) = true := by
  have h1 := List.all_eq_true.mp pmTy_ok t (List.mem_range.mpr ht)
  rw [hq] at h1
  exact List.all_eq_true.mp h1 k (List.mem_range.mpr hk)
theorem pmFT_ok : pmFTok = true := by decide +kernel
theorem pmCl_ok : pmClok = true := by decide +kernel
theorem pmST_ok : pmSTok = true := by decide +kernel
theorem pmKT_ok : pmKTok = true := by decide +kernel
theorem pmCT_ok : pmCTok = true := by decide +kernel
theorem pmMT_0 : (pmMT.getD 0 []).all (pmMT1 0) = true := by decide +kernel
theorem pmMT_1 : (pmMT.getD 1 []).all (pmMT1 1) = true := by decide +kernel
theorem pmMT_2 : (pmMT.getD 2 []).all (pmMT1 2) = true := by decide +kernel
theorem pmMT_3 : (pmMT.getD 3 []).all (pmMT1 3) = true := by decide +kernel
theorem pmMT_4 : (pmMT.getD 4 []).all (pmMT1 4) = true := by decide +kernel
theorem pmMT_5 : (pmMT.getD 5 []).all (pmMT1 5) = true := by decide +kernel
theorem pmMT_6 : (pmMT.getD 6 []).all (pmMT1 6) = true := by decide +kernel
theorem pmMT_7 : (pmMT.getD 7 []).all (pmMT1 7) = true := by decide +kernel
theorem pmMT_8 : (pmMT.getD 8 []).all (pmMT1 8) = true := by decide +kernel
theorem pmMT_9 : (pmMT.getD 9 []).all (pmMT1 9) = true := by decide +kernel
theorem pmMT_10 : (pmMT.getD 10 []).all (pmMT1 10) = true := by decide +kernel
theorem pmMT_11 : (pmMT.getD 11 []).all (pmMT1 11) = true := by decide +kernel
theorem pmMT_12 : (pmMT.getD 12 []).all (pmMT1 12) = true := by decide +kernel
theorem pmMT_13 : (pmMT.getD 13 []).all (pmMT1 13) = true := by decide +kernel
theorem pmMT_14 : (pmMT.getD 14 []).all (pmMT1 14) = true := by decide +kernel
theorem pmMT_15 : (pmMT.getD 15 []).all (pmMT1 15) = true := by decide +kernel
theorem pmMT_16 : (pmMT.getD 16 []).all (pmMT1 16) = true := by decide +kernel
theorem pmMT_17 : (pmMT.getD 17 []).all (pmMT1 17) = true := by decide +kernel
theorem pmMT_18 : (pmMT.getD 18 []).all (pmMT1 18) = true := by decide +kernel
theorem pmMT_19 : (pmMT.getD 19 []).all (pmMT1 19) = true := by decide +kernel
theorem pmMT_20 : (pmMT.getD 20 []).all (pmMT1 20) = true := by decide +kernel
theorem pmMT_ok : pmMTok = true := List.all_eq_true.mpr fun o ho => by
  have ho := List.mem_range.mp ho
  match o, ho with
  | 0, _ => exact pmMT_0
  | 1, _ => exact pmMT_1
  | 2, _ => exact pmMT_2
  | 3, _ => exact pmMT_3
  | 4, _ => exact pmMT_4
  | 5, _ => exact pmMT_5
  | 6, _ => exact pmMT_6
  | 7, _ => exact pmMT_7
  | 8, _ => exact pmMT_8
  | 9, _ => exact pmMT_9
  | 10, _ => exact pmMT_10
  | 11, _ => exact pmMT_11
  | 12, _ => exact pmMT_12
  | 13, _ => exact pmMT_13
  | 14, _ => exact pmMT_14
  | 15, _ => exact pmMT_15
  | 16, _ => exact pmMT_16
  | 17, _ => exact pmMT_17
  | 18, _ => exact pmMT_18
  | 19, _ => exact pmMT_19
  | 20, _ => exact pmMT_20
  | n + 21, h => exact absurd h (by omega)
theorem pm_all {α : Type} {t : List (List (Nat × α))} {f : Nat → Nat × α → Bool} (hl : t.length = 21) (h : ((List.range 21).all fun o => (t.getD o []).all (f o)) = true) {o i : Nat} {q : α} (hq : pm_tl t o i = some q) : f o (i, q) = true := by
  have hm := pm_lk_mem hq
  have ho : o < 21 := by
    by_cases ho : o < 21
    · exact ho
    · have : t.getD o [] = [] := by rw [List.getD_eq_getElem?_getD, List.getElem?_eq_none (by omega)]; rfl
      rw [this] at hm
      cases hm
  have h1 := List.all_eq_true.mp h o (List.mem_range.mpr ho)
  exact List.all_eq_true.mp h1 _ hm
theorem pm_wg {w : Jvm.Cond} {i : Nat} (h : lw_tbl[i]? = some w) (hg : goodWord w = true) : w ∈ pmWG := List.mem_filter.mpr ⟨List.mem_of_getElem? h, hg⟩
/-- what the checks say of a kind of object -/
theorem pm_cl {t : Nat} {q : vw_C} (h : pmCl[t]? = some q) : q.1 = pmOw t ∧ (∀ w ∈ u_ws q.1 q.2.1 q.2.2, w ∈ pmWG) ∧ (∀ k, k < q.2.2 → parseFieldDescriptor (q.2.1 k).2.2.1 = some (pmTy t k)) ∧ (∀ k, k < q.2.2 → (q.2.1 k).1 = pmOw t) ∧ (∀ a, a < q.2.2 → ∀ b, b < q.2.2 → a ≠ b → (q.2.1 a).2.1 ≠ (q.2.1 b).2.1) := by
  have ht : t < 13 := (List.getElem?_eq_some_iff.mp h).1
  have h1 := List.all_eq_true.mp pmCl_ok t (List.mem_range.mpr ht)
  rw [h] at h1
  simp only [Bool.and_eq_true, List.all_eq_true, List.mem_range, decide_eq_true_eq, Bool.or_eq_true] at h1
  obtain ⟨h1, h2⟩ := h1
  refine ⟨h1, fun w hw => ?_, fun k hk => (h2 k hk).1.1.2, fun k hk => (h2 k hk).1.2, fun a ha b hb hab => ?_⟩
  · obtain ⟨k, hk, rfl⟩ := List.mem_map.mp hw
    have := h2 k (List.mem_range.mp hk)
    exact pm_wg this.1.1.1.1 this.1.1.1.2
  · rcases (h2 b hb).2 a ha with h3 | h3
    · exact absurd (pm_beq h3) hab
    · exact h3
section PMF
variable {p : Program} {l : Launch} {e : Env} {R : Room} {s : State} {m : MethodId} {args : Array Value} {below : List Frame} {meth : Method} {c : Code} {Q : State → Prop}
variable {base : Nat} {xv : Nat → Value} {cT : Nat → ClassId} {E : pM} {D : va_G} {me : pmMe} {L0 S0 : Nat} {nL : Nat}
variable {pc : Nat} {ls : pL} {st : List Value} {M : pM} {z : Nat × pL × List Value × pM}
theorem pmE_obj {t : Nat} {sl : List Value} : pmE base xv cT (16 + t, sl) = .inr (t, sl.map (pmRn base xv)) := by
  have h : 16 + t = (10 + t) + 6 := by omega
  rw [h]
  show Sum.inr ((10 + t) + 6 - 16, _) = _
  congr 2
  omega
theorem ws_getf (C : pmCx base xv cT E D p R s m args meth c me L0) {idx : Nat} (hd : decode (pmBy me.2.2.1) pc = .ok (.getfield idx, 3)) (hs : pm_getf E me.1 idx pc ls st M = some z)
    (k : pmWk p l e R s m args below meth c Q base xv cT D L0 S0 nL z) : pmWk p l e R s m args below meth c Q base xv cT D L0 S0 nL (pc, ls, st, M) := by
  obtain ⟨hx, hb, hml, hown, hts, hK, hE, -⟩ := C
  unfold pm_getf at hs
  split at hs
  · rename_i t a r ht
    split at hs
    · rename_i c' hc
      obtain ⟨h1, hs⟩ := pm_cs hs
      split at hs
      · rename_i v hv
        cases hs
        obtain ⟨tg, sl⟩ := c'
        have h1 : tg = 16 + t.1 := pm_beq h1
        subst h1
        have hok := pm_all rfl pmFT_ok ht
        intro H locs lsm hP hS hl
        rw [List.map_cons]
        rcases pm_own hc with ⟨h1, h2⟩ | ⟨h1, h2⟩
        · rw [pm_rn_own h1]
          have he := pmPic_get (base := base) (xv := xv) (cT := cT) h2
          rw [pmE_obj] at he
          have hat := hP a _ he
          obtain ⟨q, hq, -⟩ := hat
          have hq : pmCl[t.1]? = some q := hq
          obtain ⟨g1, g2, g3, g4, g5⟩ := pm_cl hq
          cases hb13 : Nat.beq t.1 13 with
          | true =>
            have h13 := pm_beq hb13
            rw [h13] at hq
            cases hq
          | false =>
            simp only [hb13, cond_false, hq, Bool.and_eq_true, decide_eq_true_eq] at hok
            have hkN : t.2.1 < q.2.2 := pm_blt hok.1.1
            refine va_get (C := q.1) (T := q.2.1) (N := q.2.2) (ref := (q.2.1 t.2.1).1) hx hb hts g2 hown hK hP a he hq t.2.1 hkN (hts _ (pm_wg hok.1.2 hok.2)) (fun x h => h) (v := pmRn base xv v) ?_ hd (k H locs lsm hP hS hl)
            rw [List.getElem?_map, hv]
            rfl
        · obtain ⟨b, hb1, hb2⟩ := hE.1 _ _ h2
          rw [pm_rn_ext h1 hb1]
          cases hb13 : Nat.beq t.1 13 with
          | true =>
            have h13 := pm_beq hb13
            rw [h13] at hb2
            simp only [hb13, cond_true] at hok
            obtain ⟨-, o1, o2⟩ := hb2
            have hgd := pm_getD hv
            match hk : t.2.1, hok with
            | 0, hok =>
              simp only [Bool.and_eq_true, decide_eq_true_eq] at hok
              rw [hk] at hgd
              rw [hgd] at o1
              exact vk_getf hx hb o1 hS hown (hts _ (pm_wg hok.1 hok.2)) (fun x h => h) hd (k H locs lsm hP hS hl)
            | 1, hok =>
              simp only [Bool.and_eq_true, decide_eq_true_eq] at hok
              rw [hk] at hgd
              rw [hgd] at o2
              exact vk_getf hx hb o2 hS hown (hts _ (pm_wg hok.1 hok.2)) (fun x h => h) hd (k H locs lsm hP hS hl)
            | n + 2, hok => cases hok
          | false =>
            exfalso
            have h13 : t.1 ≠ 13 := fun q => by rw [q] at hb13; cases hb13
            unfold pmExt at hb2
            split at hb2
            · omega
            · omega
            · omega
            · rename_i h29
              have : 16 + t.1 = 29 := h29
              omega
            · exact hb2
      · cases hs
    · cases hs
  · cases hs
theorem ws_stat (C : pmCx base xv cT E D p R s m args meth c me L0) {idx : Nat} (hd : decode (pmBy me.2.2.1) pc = .ok (.getstatic idx, 3)) (hs : pm_gets me.1 idx pc ls st M = some z)
    (k : pmWk p l e R s m args below meth c Q base xv cT D L0 S0 nL z) : pmWk p l e R s m args below meth c Q base xv cT D L0 S0 nL (pc, ls, st, M) := by
  obtain ⟨hx, hb, hml, hown, hts, hK, hE, -⟩ := C
  obtain ⟨-, -, ⟨s1, s2, s3⟩, -⟩ := hE
  unfold pm_gets at hs
  split at hs
  · rename_i v hv
    cases hs
    intro H locs lsm hP hS hl
    unfold pm_stat at hv
    split at hv
    · rename_i q ht
      cases hv
      have hok := pm_all rfl pmST_ok ht
      simp only [Bool.and_eq_true, decide_eq_true_eq] at hok
      exact va_gets hx hb s1 hS hown (hts _ (pm_wg hok.1 hok.2)) (fun x h => h) hd (k H locs lsm hP hS hl)
    · rename_i q ht
      cases hv
      have hok := pm_all rfl pmST_ok ht
      simp only [Bool.and_eq_true, decide_eq_true_eq] at hok
      exact va_gets hx hb s2 hS hown (hts _ (pm_wg hok.1 hok.2)) (fun x h => h) hd (k H locs lsm hP hS hl)
    · rename_i q ht
      cases hv
      have hok := pm_all rfl pmST_ok ht
      simp only [Bool.and_eq_true, decide_eq_true_eq] at hok
      exact va_gets hx hb s3 hS hown (hts _ (pm_wg hok.1 hok.2)) (fun x h => h) hd (k H locs lsm hP hS hl)
    · cases hv
  · cases hs
end PMF
def pmNWok : Bool := pmNW.all fun q => match pmPT[q.2.2.1]? with
  | some me => !(Nat.beq me.2.2.2.2.2.1 1)
  | none => false
theorem pmNW_ok : ∀ w ∈ pmNW, (match pmPT[w.2.2.1]? with | some me => !(Nat.beq me.2.2.2.2.2.1 1) | none => false) = true := List.all_eq_true.mp (show pmNWok = true by decide +kernel)
