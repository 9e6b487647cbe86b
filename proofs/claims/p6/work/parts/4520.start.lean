/-! what the statement gives of the start: the outside -/
def kSk : List Nat := [103, 105, 106, 108, 109, 110, 111, 147, 149, 151, 135, 137, 139, 141, 143, 145, 178, 180, 186, 156, 161, 163]
def kSb : List (List Int32) := [[115, 97, 121], [107, 105, 110, 100], [119, 97, 110, 116, 115], [115, 101, 97, 108, 115], [102, 101, 101], [114, 111, 108, 108], [100, 117, 101], [112, 101, 114, 115, 111, 110], [108, 97, 110, 100], [97, 109, 111, 117, 110, 116], [108, 101, 116, 116, 101, 114], [99, 108, 111, 115, 101], [112, 97, 116, 101, 110, 116], [99, 104, 97, 114, 116, 101, 114], [119, 114, 105, 116], [119, 97, 114, 114, 97, 110, 116], [110, 111, 116], [102, 97, 99, 116], [109, 111, 115, 116], [117, 110, 108, 101, 115, 115], [111, 114], [97, 110, 100]]
def kPat : List Int64 := [(-6148914691236517206), (-3689348814741910324), (-1085102592571150096), (-71777214294589696), (-281470681808896), (-4294967296)]
def kTm (i : Nat) : Term := .string "WritHouse$Reader" (kSk.getD i 0)
def kTp : Term := .static RX9 "PATTERNS" "[J"
def kXs : pM := (1, kPat.map Value.long) :: ((List.range 22).map (fun j => (29, [Value.ref (4000 + (24 + j)), Value.int 0])) ++ (List.range 22).map (fun j => (2, (kSb.getD j []).map Value.int)))
def kEo (sl : List Value) : pM := (0, sl) :: kXs
def kFl : List Jvm.Cond := flatC (Jvm.Cond.and given_1 narrow_1)
def kPx : List (Nat × Nat × Nat × Nat) := [(18, 19, 20, 21), (25, 26, 27, 28), (34, 35, 36, 37), (45, 46, 47, 48), (57, 58, 59, 60), (68, 69, 70, 71), (81, 82, 83, 84), (94, 95, 96, 97), (111, 112, 113, 114), (127, 128, 129, 130), (146, 147, 148, 149), (166, 167, 168, 169), (186, 187, 188, 189), (208, 209, 210, 211), (232, 233, 234, 235), (254, 255, 256, 257), (280, 281, 282, 283), (303, 304, 305, 306), (328, 329, 330, 331), (354, 355, 356, 357), (383, 384, 385, 386), (409, 410, 411, 412)]
def kPe : List (List Nat) := [[22, 23, 24], [29, 30, 31, 32], [38, 39, 40, 41, 42], [49, 50, 51, 52, 53], [61, 62, 63], [72, 73, 74, 75], [85, 86, 87], [98, 99, 100, 101, 102, 103], [115, 116, 117, 118], [131, 132, 133, 134, 135, 136], [150, 151, 152, 153, 154, 155], [170, 171, 172, 173, 174], [190, 191, 192, 193, 194, 195], [212, 213, 214, 215, 216, 217, 218], [236, 237, 238, 239], [258, 259, 260, 261, 262, 263, 264], [284, 285, 286], [307, 308, 309, 310], [332, 333, 334, 335], [358, 359, 360, 361, 362, 363], [387, 388], [413, 414, 415]]
def kPn : List (List Nat) := [[33, 43, 54, 64, 76, 88, 104, 119, 137, 156, 175, 196, 219, 240, 265, 287, 311, 336, 364, 389, 416], [44, 55, 65, 77, 89, 105, 120, 138, 157, 176, 197, 220, 241, 266, 288, 312, 337, 365, 390, 417], [56, 66, 78, 90, 106, 121, 139, 158, 177, 198, 221, 242, 267, 289, 313, 338, 366, 391, 418], [67, 79, 91, 107, 122, 140, 159, 178, 199, 222, 243, 268, 290, 314, 339, 367, 392, 419], [80, 92, 108, 123, 141, 160, 179, 200, 223, 244, 269, 291, 315, 340, 368, 393, 420], [93, 109, 124, 142, 161, 180, 201, 224, 245, 270, 292, 316, 341, 369, 394, 421], [110, 125, 143, 162, 181, 202, 225, 246, 271, 293, 317, 342, 370, 395, 422], [126, 144, 163, 182, 203, 226, 247, 272, 294, 318, 343, 371, 396, 423], [145, 164, 183, 204, 227, 248, 273, 295, 319, 344, 372, 397, 424], [165, 184, 205, 228, 249, 274, 296, 320, 345, 373, 398, 425], [185, 206, 229, 250, 275, 297, 321, 346, 374, 399, 426], [207, 230, 251, 276, 298, 322, 347, 375, 400, 427], [231, 252, 277, 299, 323, 348, 376, 401, 428], [253, 278, 300, 324, 349, 377, 402, 429], [279, 301, 325, 350, 378, 403, 430], [302, 326, 351, 379, 404, 431], [327, 352, 380, 405, 432], [353, 381, 406, 433], [382, 407, 434], [408, 435], [436], []]
def kPp : List Nat := [10, 11, 4, 5, 12, 13, 14, 15, 16, 17]
def k_fa (i : Nat) (c : Jvm.Cond) : Bool := decide (kFl[i]? = some c)
theorem kfl_s : (List.range 22).all (fun i => match kPx[i]? with
  | some q => k_fa q.1 (Cond.exactly (kTm i) "java/lang/String") && (k_fa q.2.1 (Cond.eq (.field (kTm i) "java/lang/String" "coder" "B") (.int 0)) && (k_fa q.2.2.1 (Cond.arrayOf (.field (kTm i) "java/lang/String" "value" "[B") .byte) && k_fa q.2.2.2 (Cond.eq (.length (.field (kTm i) "java/lang/String" "value" "[B")) (.int (Int32.ofNat ((kSb.map List.length).getD i 0))))))
  | none => false) = true := by decide +kernel
theorem kfl_b : (List.range 22).all (fun i => (List.range ((kSb.map List.length).getD i 0)).all (fun j => k_fa ((kPe.getD i []).getD j 0) (Cond.eq (.elem (.field (kTm i) "java/lang/String" "value" "[B") (.int (Int32.ofNat j))) (.int ((kSb.getD i []).getD j 0))))) = true := by decide +kernel
theorem kfl_n : (List.range 22).all (fun i => (List.range 22).all (fun j => Nat.ble j i || k_fa ((kPn.getD i []).getD (j - (i + 1)) 0) (Cond.not (Cond.eq (kTm i) (kTm j))))) = true := by decide +kernel
theorem kfl_p : (k_fa (kPp.getD 0 0) (Cond.arrayOf kTp .long) && (k_fa (kPp.getD 1 0) (Cond.eq (.length kTp) (.int (Int32.ofNat 6))) && (k_fa (kPp.getD 2 0) (Cond.eq (.static "java/lang/String" "COMPACT_STRINGS" "Z") (.int 1)) && (k_fa (kPp.getD 3 0) (Cond.isRef (.static "jdk/internal/util/Preconditions" "SIOOBE_FORMATTER" "Ljava/util/function/BiFunction;")) && (List.range 6).all (fun j => k_fa (kPp.getD (4 + j) 0) (Cond.eq (.elem kTp (.int (Int32.ofNat j))) (.long (kPat.getD j 0)))))))) = true := by decide +kernel
theorem kqp : lw_tbl[pmQP.getD 0 0]? = some (.laysStatic RX9 "PATTERNS" "[J") ∧ lw_tbl[pmQP.getD 1 0]? = some (.laysStatic "java/lang/String" "COMPACT_STRINGS" "Z") ∧ lw_tbl[pmQP.getD 2 0]? = some (.laysStatic "jdk/internal/util/Preconditions" "SIOOBE_FORMATTER" "Ljava/util/function/BiFunction;") ∧ lw_tbl[pmQP.getD 3 0]? = some (.initialized RX9) ∧ lw_tbl[pmQP.getD 4 0]? = some (.initialized "java/lang/String") ∧ lw_tbl[pmQP.getD 5 0]? = some (.initialized "jdk/internal/util/Preconditions") ∧ lw_tbl[pmQP.getD 6 0]? = some (.arrayOver (.array .int)) ∧ lw_tbl[pmQP.getD 7 0]? = some (.arrayOver (.array .long)) := by decide +kernel
theorem ksr : (List.range 22).all (fun j => match pmSR[j]? with
  | some q => decide (lw_tbl[q.2.2.2]? = some (.stringRef (pmOw q.1) q.2.1 q.2.2.1)) && (decide (pmOw q.1 = "WritHouse$Reader") && Nat.beq q.2.1 (kSk.getD j 0))
  | none => false) = true := by decide +kernel
theorem ksr_len : Nat.beq pmSR.length 22 = true := by decide +kernel
theorem kip : (List.range 13).all (fun t => match pmCl[t]?, pmIP[t]? with
  | some q, some i => decide (lw_tbl[i.1]? = some (.instantiable q.1 i.2))
  | _, _ => false) = true := by decide +kernel
theorem kcl_len : Nat.beq pmCl.length 13 = true := by decide +kernel
theorem knw : pmNW.all (fun q => decide (lw_tbl[q.2.2.2.1]? = some (.methodLinkNest (pmOw q.1) q.2.1 (pmY q.2.2.1) q.2.2.2.2))) = true := by decide +kernel
theorem kxs_ok : (Nat.beq kX.length kXs.length && (List.range kX.length).all (fun a => match kX[a]?, kXs[a]? with
  | some d, some c => k_cellb d c
  | _, _ => false)) = true := by decide +kernel
theorem kXs_get {k : Nat} {c : pC} (h : kXs[k]? = some c) : (k = 0 ∧ c = (1, kPat.map Value.long)) ∨ (∃ j, j < 22 ∧ k = 1 + j ∧ c = (29, [Value.ref (4000 + (24 + j)), Value.int 0])) ∨ (∃ j, j < 22 ∧ k = 1 + 22 + j ∧ c = (2, (kSb.getD j []).map Value.int)) := by
  unfold kXs at h
  match k, h with
  | 0, h => cases h; exact Or.inl ⟨rfl, rfl⟩
  | k + 1, h =>
    have h : ((List.range 22).map (fun j => ((29, [Value.ref (4000 + (24 + j)), Value.int 0]) : pC)) ++ (List.range 22).map (fun j => ((2, (kSb.getD j []).map Value.int) : pC)))[k]? = some c := h
    by_cases hk : k < 22
    · rw [List.getElem?_append_left (by simpa using hk), List.getElem?_map, List.getElem?_range hk] at h
      cases h
      exact Or.inr (Or.inl ⟨k, hk, by omega, rfl⟩)
    · rw [List.getElem?_append_right (by simpa using hk)] at h
      simp only [List.length_map, List.length_range] at h
      rw [List.getElem?_map] at h
      by_cases hk2 : k - 22 < 22
      · rw [List.getElem?_range hk2] at h
        cases h
        exact Or.inr (Or.inr ⟨k - 22, hk2, by omega, rfl⟩)
      · rw [List.getElem?_eq_none (by simpa using hk2)] at h
        cases h
/-- the values of the outside -/
def kXv (b tp : Nat) (adK adV : Nat → Nat) (vs : Value) : Nat → Value := fun k =>
  if k = 0 then .ref b else if k = 1 then .ref tp else if k < 24 then .ref (adK (k - 2)) else if k < 46 then .ref (adV (k - 24)) else if k = 90 then vs else .null
theorem kExt_of {L : Nat} {xs : Nat → Int32} : kExt kX (L, fun j => (xs j).toInt) (kEo ((List.range L).map (fun j => Value.int (xs j)))) := by
  have h := kxs_ok
  obtain ⟨h1, h2⟩ := Bool.and_eq_true_iff.mp h
  have h1 := pm_beq h1
  refine ⟨by show kXs.length + 1 = _; omega, ⟨_, rfl, by simp, fun j v hv => ?_⟩, fun a d ha => ?_⟩
  · rw [List.getElem?_map] at hv
    by_cases hj : j < L
    · rw [List.getElem?_range hj] at hv
      cases hv
      exact ⟨_, rfl, rfl⟩
    · rw [List.getElem?_eq_none (by simpa using hj)] at hv
      cases hv
  · have hl := (List.getElem?_eq_some_iff.mp ha).1
    have h3 := List.all_eq_true.mp h2 a (List.mem_range.mpr hl)
    rw [ha] at h3
    cases hc : kXs[a]? with
    | none => rw [hc] at h3; cases h3
    | some c => rw [hc] at h3; exact ⟨c, hc, k_cellb_ok h3⟩
set_option maxHeartbeats 4000000 in
theorem kEX_of {s : State} {b L : Nat} {xs : Nat → Int32} (hL : L ≤ 3584) (hts : ∀ w ∈ lw_tbl, w.before #[Value.ref b] s = true) (hX : va_X b L xs s s.heap) (hbl : b < s.heap.size) (hg : (Jvm.Cond.and given_1 narrow_1).before #[Value.ref b] s = true) : ∃ xv : Nat → Value, pmEX s.heap.size xv (kEo ((List.range L).map (fun j => Value.int (xs j)))) s ∧ pmEX s.heap.size xv [] s ∧ xv 0 = .ref b := by
  have hs := flat_of_before _ hg
  have hA : ∀ a : Nat, a < s.heap.size → ¬ pmA s.heap.size a := fun a ha => Nat.not_le.mpr ha
  have key : ∀ {i : Nat} {c : Jvm.Cond}, k_fa i c = true → c.before #[Value.ref b] s = true := fun {i c} hc => by
    unfold k_fa at hc
    exact hs c (List.mem_of_getElem? (of_decide_eq_true hc))
  have tbl : ∀ {i : Nat} {w : Jvm.Cond}, lw_tbl[i]? = some w → w.before #[Value.ref b] s = true := fun {i w} h => hts w (List.mem_of_getElem? h)
  have S1 : ∀ i : Nat, i < 22 → (∃ k, k_fa k (Cond.exactly (kTm i) "java/lang/String") = true) ∧ (∃ k, k_fa k (Cond.eq (.field (kTm i) "java/lang/String" "coder" "B") (.int 0)) = true) ∧ (∃ k, k_fa k (Cond.arrayOf (.field (kTm i) "java/lang/String" "value" "[B") .byte) = true) ∧ (∃ k, k_fa k (Cond.eq (.length (.field (kTm i) "java/lang/String" "value" "[B")) (.int (Int32.ofNat ((kSb.map List.length).getD i 0)))) = true) := fun i hi => by
    have h := List.all_eq_true.mp kfl_s i (List.mem_range.mpr hi)
    cases hq : kPx[i]? with
    | none => rw [hq] at h; cases h
    | some q =>
      rw [hq] at h
      simp only [Bool.and_eq_true] at h
      exact ⟨⟨_, h.1⟩, ⟨_, h.2.1⟩, ⟨_, h.2.2.1⟩, ⟨_, h.2.2.2⟩⟩
  have hlen : ∀ i : Nat, i < 22 → (kSb.map List.length).getD i 0 < 2 ^ 31 := by
    have h : (List.range 22).all (fun i => Nat.blt ((kSb.map List.length).getD i 0) (2 ^ 31)) = true := by decide +kernel
    exact fun i hi => pm_blt (List.all_eq_true.mp h i (List.mem_range.mpr hi))
  obtain ⟨adK, adV, ⟨hS, -⟩, hSe⟩ := vk_Sof (args := #[Value.ref b]) (s := s) (N := 22) (tm := kTm) (len := kSb.map List.length) (byt := kSb) (A := pmA s.heap.size) hlen (fun i hi => key (S1 i hi).1.choose_spec) (fun i hi => key (S1 i hi).2.1.choose_spec) (fun i hi => key (S1 i hi).2.2.1.choose_spec) (fun i hi => key (S1 i hi).2.2.2.choose_spec)
    (fun i hi j hj => key (List.all_eq_true.mp (List.all_eq_true.mp kfl_b i (List.mem_range.mpr hi)) j (List.mem_range.mpr hj)))
    (fun i j hi hj hij => by
      have go : ∀ i j : Nat, i < 22 → j < 22 → i < j → (Cond.not (Cond.eq (kTm i) (kTm j))).before #[Value.ref b] s = true := fun i j hi hj h => by
        have h1 := List.all_eq_true.mp (List.all_eq_true.mp kfl_n i (List.mem_range.mpr hi)) j (List.mem_range.mpr hj)
        rcases Bool.or_eq_true_iff.mp h1 with h1 | h1
        · have := Nat.le_of_ble_eq_true h1
          omega
        · exact key h1
      rcases Nat.lt_or_gt_of_ne hij with h | h
      · exact Or.inl (go i j hi hj h)
      · exact Or.inr (go j i hj hi h)) hA
  have P := kfl_p
  simp only [Bool.and_eq_true] at P
  obtain ⟨p1, p2, p3, p4, p5⟩ := P
  obtain ⟨tp, ht1, ht2⟩ := va_Tof (args := #[Value.ref b]) (s := s) (tm := kTp) (ty := .long) (N := 6) (f := fun j => .long (kPat.getD j 0)) (A := pmA s.heap.size) (by decide) (key p1) (va_eqt (key p2)) (fun j hj => va_eqtl (key (List.all_eq_true.mp p5 j (List.mem_range.mpr hj)))) hA
  obtain ⟨q0, q1, q2, q3, q4, q5, q6, q7⟩ := kqp
  have z1 := va_Zref (tbl q0) (tbl q3) ht1 hA
  have z2 := va_Zof (tbl q1) (tbl q4) (va_eqi (key p3)) hA
  obtain ⟨vs, z3, hvs⟩ : ∃ vs : Value, va_Z "jdk/internal/util/Preconditions" "SIOOBE_FORMATTER" "Ljava/util/function/BiFunction;" vs (pmA s.heap.size) s s.heap ∧ vs.category = 1 := by
    rcases va_Zqof (A := pmA s.heap.size) (tbl q2) (tbl q5) (key p4) hA with h | ⟨t, h⟩
    · exact ⟨_, h, rfl⟩
    · exact ⟨_, h, rfl⟩
  have hcat : ∀ k, (kXv b tp adK adV vs k).category = 1 := fun k => by
    unfold kXv
    split
    · rfl
    split
    · rfl
    split
    · rfl
    split
    · rfl
    split
    · exact hvs
    · rfl
  have rest : ∀ E : pM, (∀ (k : Nat) (c : pC), E[k]? = some c → ∃ a : Nat, kXv b tp adK adV vs k = .ref a ∧ pmExt s.heap.size (kXv b tp adK adV vs) a c s) → pmEX s.heap.size (kXv b tp adK adV vs) E s := fun E hE => by
    refine ⟨hE, hcat, ⟨z1, z2, z3⟩, fun j q hq => ?_, fun q hq => ?_, ?_, ?_⟩
    · have hj : j < 22 := by
        have := (List.getElem?_eq_some_iff.mp hq).1
        have := pm_beq ksr_len
        omega
      have h := List.all_eq_true.mp ksr j (List.mem_range.mpr hj)
      rw [hq] at h
      simp only [Bool.and_eq_true, decide_eq_true_eq] at h
      obtain ⟨h1, h2, h3⟩ := h
      refine ⟨adK j, ?_, vk_R.of (tbl h1) ?_⟩
      · unfold kXv
        rw [if_neg (by omega), if_neg (by omega), if_pos (by omega)]
        exact congrArg (fun z => Value.ref (adK z)) (by omega)
      · rw [h2, pm_beq h3]
        exact hSe j hj
    · have h := List.all_eq_true.mp knw q hq
      exact va_Nw.of rfl (tbl (of_decide_eq_true h))
    · first
        | exact tbl q6
        | (have h := tbl q6; simp only [Cond.before, Cond.holds, Cond.value] at h ⊢; exact h)
    · first
        | exact tbl q7
        | (have h := tbl q7; simp only [Cond.before, Cond.holds, Cond.value] at h ⊢; exact h)
  refine ⟨kXv b tp adK adV vs, rest _ (fun k c hk => ?_), rest [] (fun k c hk => by cases hk), rfl⟩
  match k, hk with
  | 0, hk =>
    cases hk
    refine ⟨b, rfl, ?_⟩
    obtain ⟨scr, h1, h2, h3, h4, h5⟩ := hX
    refine ⟨scr, h1, h2, h3, ?_, ?_, fun j hj => ?_, hA b hbl⟩
    · simp only [List.length_map, List.length_range]
      omega
    · simp only [List.length_map, List.length_range]
      rw [h4]
    · simp only [List.length_map, List.length_range] at hj
      rw [h5 j hj]
      simp [List.getD, List.getElem?_map, List.getElem?_range hj, pmRn]
  | k + 1, hk =>
    have hk : kXs[k]? = some c := hk
    rcases kXs_get hk with ⟨rfl, rfl⟩ | ⟨j, hj, rfl, rfl⟩ | ⟨j, hj, rfl, rfl⟩
    · refine ⟨tp, rfl, ?_⟩
      obtain ⟨cell, h1, h2, h3, h4, h5, h6, h7⟩ := ht2
      refine ⟨cell, h1, h2, h3, h4, h5, fun j hj => ?_, h7⟩
      have hj : j < 6 := hj
      rw [h6 j hj]
      have hl : kPat.length = 6 := rfl
      have e1 : (kPat.map Value.long).getD j .null = .long (kPat.getD j 0) := by
        rw [List.getD_eq_getElem?_getD, List.getD_eq_getElem?_getD, List.getElem?_map, List.getElem?_eq_getElem (by omega)]
        rfl
      show some (Value.long (kPat.getD j 0)) = some (pmRn _ _ ((kPat.map Value.long).getD j .null))
      rw [e1]
      rfl
    · obtain ⟨h1, h2, h3, h4⟩ := hS j hj
      refine ⟨adK j, ?_, ?_⟩
      · unfold kXv
        rw [if_neg (by omega), if_neg (by omega), if_pos (by omega)]
        exact congrArg (fun z => Value.ref (adK z)) (by omega)
      · refine ⟨h1, ?_, h2⟩
        have e1 : pmRn s.heap.size (kXv b tp adK adV vs) (.ref (4000 + (24 + j))) = .ref (adV j) := by
          show (if 4000 + (24 + j) < pmX then _ else _) = _
          rw [if_neg (by unfold pmX; omega)]
          unfold kXv pmX
          rw [if_neg (by omega), if_neg (by omega), if_neg (by omega), if_pos (by omega)]
          exact congrArg (fun z => Value.ref (adV z)) (by omega)
        show va_OF _ _ _ (pmRn s.heap.size (kXv b tp adK adV vs) (.ref (4000 + (24 + j)))) _ _ _ _
        rw [e1]
        exact h3
    · obtain ⟨h1, h2, h3, h4⟩ := hS j hj
      refine ⟨adV j, ?_, ?_⟩
      · unfold kXv
        rw [if_neg (by omega), if_neg (by omega), if_neg (by omega), if_pos (by omega)]
        exact congrArg (fun z => Value.ref (adV z)) (by omega)
      · have hl : (kSb.map List.length).getD j 0 = ((kSb.getD j []).map Value.int).length := by
          rw [List.length_map, List.getD_eq_getElem?_getD, List.getD_eq_getElem?_getD, List.getElem?_map]
          cases kSb[j]? <;> rfl
        rw [hl] at h4
        obtain ⟨cell, g1, g2, g3, g4, g5, g6, g7⟩ := h4
        refine ⟨cell, g1, g2, g3, g4, g5, fun i hi => ?_, g7⟩
        rw [g6 i hi]
        have hi : i < ((kSb.getD j []).map Value.int).length := hi
        rw [List.length_map] at hi
        have e1 : ((kSb.getD j []).map Value.int).getD i .null = .int ((kSb.getD j []).getD i 0) := by
          rw [List.getD_eq_getElem?_getD, List.getElem?_map, List.getElem?_eq_getElem hi, List.getD_eq_getElem?_getD (l := kSb.getD j []), List.getElem?_eq_getElem hi]
          rfl
        show some (Value.int ((kSb.getD j []).getD i 0)) = some (pmRn _ _ (((kSb.getD j []).map Value.int).getD i .null))
        rw [e1]
        rfl
/-- the classes and array classes -/
theorem kK_of {s : State} {b : Nat} (hts : ∀ w ∈ lw_tbl, w.before #[Value.ref b] s = true) : ∃ (D : va_G) (cT : Nat → ClassId), va_K D pmCl (pmTys cT) s := by
  have tbl : ∀ {i : Nat} {w : Jvm.Cond}, lw_tbl[i]? = some w → w.before #[Value.ref b] s = true := fun {i w} h => hts w (List.mem_of_getElem? h)
  have h0 : ∀ t : Nat, ∃ z : ClassId × (Nat → Nat), ∀ q : vw_C, pmCl[t]? = some q → u_Kn s q.1 q.2.1 q.2.2 z.1 z.2 := by
    intro t
    cases hq : pmCl[t]? with
    | none => exact ⟨(0, fun _ => 0), fun q h => by cases h⟩
    | some q =>
      have ht : t < 13 := by
        have := (List.getElem?_eq_some_iff.mp hq).1
        have := pm_beq kcl_len
        omega
      have h := List.all_eq_true.mp kip t (List.mem_range.mpr ht)
      rw [hq] at h
      cases hi : pmIP[t]? with
      | none => rw [hi] at h; cases h
      | some i =>
        rw [hi] at h
        obtain ⟨cC, iS, hK⟩ := u_known (C := q.1) (T := q.2.1) (N := q.2.2) hts (fun w hw => (List.mem_filter.mp ((pm_cl hq).2.1 w hw)).1) (tbl (of_decide_eq_true h))
        exact ⟨(cC, iS), fun q' h' => by cases h'; exact hK⟩
  obtain ⟨f, hf⟩ := Classical.axiomOfChoice h0
  have prim : ∀ ty : FieldType, (Cond.arrayClass ty).before #[Value.ref b] s = true → ∃ cA : ClassId, ArrOfT s cA ty ∧ s.vm.findClass ("[" ++ ty.toString) = some cA := fun ty h => by
    obtain ⟨cA, kA, comp, e1, e2, e3⟩ := Cond.arrayClass_spec h
    exact ⟨cA, fun n z => ⟨fun k h => (by cases h), kA, e2, comp, e3⟩, e1⟩
  have over : ∀ ty : FieldType, (Cond.arrayOver (.array ty)).before #[Value.ref b] s = true → ∃ cA : ClassId, ArrOfT s cA (.array ty) ∧ s.vm.findClass ("[" ++ (FieldType.array ty).toString) = some cA := fun ty h => by
    simp only [Cond.before, Cond.holds, Cond.value, beq_iff_eq, Option.bind_eq_some_iff, Option.map_eq_some_iff] at h
    obtain ⟨comp, -, cA, -, kA, hk, hb⟩ := h
    cases hkind : kA.kind with
    | array component t2 =>
      rw [hkind] at hb
      simp only [Bool.and_eq_true, decide_eq_true_eq] at hb
      obtain ⟨rfl, hb2⟩ := hb
      exact ⟨cA, fun n z => ⟨fun k h => (by cases h), kA, hk, component, hkind⟩, hb2⟩
    | _ => rw [hkind] at hb; simp at hb
  obtain ⟨⟨a1, a2⟩, a3, a4⟩ := pmAP_ok
  obtain ⟨-, -, -, -, -, -, q6, q7⟩ := kqp
  obtain ⟨c0, x0, y0⟩ := prim .int (tbl a1)
  obtain ⟨c1, x1, y1⟩ := prim .long (tbl a2)
  obtain ⟨c2, x2, y2⟩ := prim .byte (tbl a3)
  obtain ⟨c3, x3, y3⟩ := prim .boolean (tbl a4)
  obtain ⟨c4, x4, y4⟩ := over .int (tbl q6)
  obtain ⟨c5, x5, y5⟩ := over .long (tbl q7)
  refine ⟨(fun t => (f t).1, fun t => (f t).2), fun k => if k = 0 then c0 else if k = 1 then c1 else if k = 2 then c2 else if k = 3 then c3 else if k = 4 then c4 else c5, fun t q h => hf t q h, fun k q h => ?_⟩
  unfold pmTys at h
  match k, h with
  | 0, h => cases h; exact ⟨x0, y0⟩
  | 1, h => cases h; exact ⟨x1, y1⟩
  | 2, h => cases h; exact ⟨x2, y2⟩
  | 3, h => cases h; exact ⟨x3, y3⟩
  | 4, h => cases h; exact ⟨x4, y4⟩
  | 5, h => cases h; exact ⟨x5, y5⟩
  | k + 6, h => simp at h
