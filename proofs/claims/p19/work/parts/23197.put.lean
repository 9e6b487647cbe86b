noncomputable section
/-! what a write leaves of tables -/
theorem kTms_z (g : Nat) : ∀ n : Nat, kTms g n 0 = 0
  | 0 => rfl
  | n + 1 => by
    show cond (decide ((0 : Int) % 16 = (g : Int) + 1)) 1 0 + kTms g n (0 / 16) = 0
    rw [decide_eq_false (by omega), cond_false, show (0 : Int) / 16 = 0 from rfl, kTms_z g n]
    rfl
theorem kTms_fu (g : Nat) : ∀ (n k : Nat) (L : Int), 0 ≤ L → L < 16 ^ n → kTms g (n + k) L = kTms g n L
  | 0, k, L, h0, h1 => by
    have : L = 0 := by
      have : (16 : Int) ^ 0 = 1 := rfl
      omega
    subst this
    rw [kTms_z]
    rfl
  | n + 1, k, L, h0, h1 => by
    rw [show n + 1 + k = (n + k) + 1 by omega]
    show cond _ _ _ + kTms g (n + k) (L / 16) = cond _ _ _ + kTms g n (L / 16)
    rw [kTms_fu g n k (L / 16) (by omega) (by rw [Int.pow_succ] at h1; generalize (16 : Int) ^ n = q at h1 ⊢; omega)]
theorem kTms_st (g n : Nat) {L d : Int} (h0 : 1 ≤ d) (h1 : d < 16) : kTms g (n + 1) (16 * L + d) = cond (decide (d = (g : Int) + 1)) 1 0 + kTms g n L := by
  show cond (decide ((16 * L + d) % 16 = (g : Int) + 1)) 1 0 + kTms g n ((16 * L + d) / 16) = _
  rw [show (16 * L + d) % 16 = d by omega, show (16 * L + d) / 16 = L by omega]
theorem kDg_dv (P : Int) (i : Nat) : kDg (P / kBg) i = kDg P (i + 1) := by
  unfold kDg
  have hp := kBg_pos
  rw [Int.pow_succ', Int.ediv_ediv_of_nonneg (by omega)]
/-- what an entry that stays, or comes, must be -/
def kVw (N : kN) (σ : Nat → Int) (S : kS) (M : pM) (q : kH) : Prop := (kSc S.1.length q.1.1 ∧ kSc S.1.length q.1.2 ∧ kSc S.1.length q.2) ∧ kHas N M (k_ev σ q.1.1) (k_ev σ q.1.2) (k_ev σ q.2)
section KTP
variable {M : pM} {a j : Nat} {cl : pC} {w : Value} {y s v : Int}
theorem kPn (hcl : M[a]? = some cl) {b : Nat} (hb : b ≠ a) (n : Nat) : k_gi (pm_put M a j cl w) b n = k_gi M b n := k_gi_put_ne hcl (fun e => hb e.1)
theorem kPm1 (hcl : M[a]? = some cl) {b n : Nat} (hb : n ≠ j) : k_gi (pm_put M a j cl w) b n = k_gi M b n := k_gi_put_ne hcl (fun e => hb e.2)
theorem kT0_put (hcl : M[a]? = some cl) (h : kTab M 0 y s v) (ho : ((a : Int) < 369 ∨ 387 < (a : Int)) ∨ 0 ≤ (a : Int) - 369 - s) : kTab (pm_put M a j cl w) 0 y s v := by
  obtain ⟨h1, h2, h3⟩ := h
  exact ⟨h1, h2, fun i hi => (h3 i hi).fr fun n => kPn hcl (by omega) n⟩
theorem kT1_off (hcl : M[a]? = some cl) (h : kTab M 1 y s v) (ho : (a : Int) ≠ y) : kTab (pm_put M a j cl w) 1 y s v := by
  obtain ⟨h1, h2⟩ := h
  exact ⟨h1, h2.fr fun n => kPn hcl (by omega) n⟩
theorem kT1_up (hcl : M[a]? = some cl) (h : kTab M 1 y s v) (hj : s ≤ (j : Int)) : kTab (pm_put M a j cl w) 1 y s v := by
  obtain ⟨h1, h2⟩ := h
  refine ⟨h1, fun i a1 a2 a3 => ?_⟩
  rw [kPm1 hcl (by omega)]
  exact h2 i a1 a2 a3
theorem kT1_new (hcl : M[a]? = some cl) (hjl : j < cl.2.length) (hw : kNum w (kWd j v)) (h : kTab M 1 y s v) (ha : (a : Int) = y) (hj : (j : Int) = s) : kTab (pm_put M a j cl w) 1 y (s + 1) v := by
  obtain ⟨h1, h2⟩ := h
  refine ⟨h1, fun i a1 a2 a3 => ?_⟩
  by_cases e : i = j
  · subst e
    rw [show y.toNat = a by omega]
    exact k_gi_put hcl hjl hw
  · rw [kPm1 hcl e]
    exact h2 i a1 a2 (by omega)
theorem kT2_off (hcl : M[a]? = some cl) (h : kTab M 2 y s v) (ho : (a : Int) ≠ y) : kTab (pm_put M a j cl w) 2 y s v := by
  obtain ⟨h1, h2⟩ := h
  exact ⟨h1, h2.fr fun n => kPn hcl (by omega) n⟩
theorem kT2_dn (hcl : M[a]? = some cl) (h : kTab M 2 y s v) (hj : (j : Int) < s) : kTab (pm_put M a j cl w) 2 y s v := by
  obtain ⟨h1, h2⟩ := h
  refine ⟨h1, fun i a1 a2 a3 => ?_⟩
  rw [kPm1 hcl (by omega)]
  exact h2 i a1 a2 a3
theorem kT2_new (hcl : M[a]? = some cl) (h : kTab M 2 y s v) (hj : (j : Int) = s) : kTab (pm_put M a j cl w) 2 y (s + 1) v := by
  obtain ⟨h1, h2⟩ := h
  refine ⟨h1, fun i a1 a2 a3 => ?_⟩
  rw [kPm1 hcl (by omega)]
  exact h2 i a1 (by omega) a3
theorem kT3_off (hcl : M[a]? = some cl) (h : kTab M 3 y s v) (ho : a ≠ 388) : kTab (pm_put M a j cl w) 3 y s v := by
  intro g hg
  rw [kPn hcl (fun e => ho e.symm)]
  exact h g hg
theorem kT3_new (hcl : M[a]? = some cl) (hjl : j < cl.2.length) {x : Int} (hw : kNum w (x + 1)) (h : kTab M 3 y s v) (ha : a = 388) (hx : k_gi M 388 j = some x) (hj : j ≤ 11) (v0 : 0 ≤ v) (v1 : v < 16 ^ 13) : kTab (pm_put M a j cl w) 3 y s (16 * v + ((j : Int) + 1)) := by
  intro g hg
  have e : kTms g 14 (16 * v + ((j : Int) + 1)) = cond (decide ((j : Int) + 1 = (g : Int) + 1)) 1 0 + kTms g 13 v := kTms_st g 13 (by omega) (by omega)
  have e2 : kTms g 14 v = kTms g 13 v := kTms_fu g 13 1 v v0 v1
  have old : k_gi M 388 g = some (kTms g 14 v) := h g hg
  show k_gi (pm_put M a j cl w) 388 g = some (kTms g 14 (16 * v + ((j : Int) + 1)))
  rw [e, ← e2]
  by_cases c : g = j
  · subst c
    rw [old] at hx
    cases hx
    rw [decide_eq_true rfl, cond_true, Int.add_comm]
    subst ha
    exact k_gi_put hcl hjl hw
  · rw [decide_eq_false (by omega), cond_false, Int.zero_add, kPm1 hcl c]
    exact old
theorem kT4_off (hcl : M[a]? = some cl) (h : kTab M 4 y s v) (ho : (a : Int) ≠ y) : kTab (pm_put M a j cl w) 4 y s v := by
  obtain ⟨h1, h2⟩ := h
  refine ⟨h1, fun i hi => ?_⟩
  rw [kPn hcl (by omega)]
  exact h2 i hi
theorem kT4_z (hcl : M[a]? = some cl) (hjl : j < cl.2.length) (hw : kNum w 0) (h : kTab M 4 y s v) (ha : (a : Int) = y) : kTab (pm_put M a j cl w) 4 y s v := by
  obtain ⟨h1, h2⟩ := h
  refine ⟨h1, fun i hi => ?_⟩
  by_cases e : i = j
  · subst e
    rw [show y.toNat = a by omega]
    exact k_gi_put hcl hjl hw
  · rw [kPm1 hcl e]
    exact h2 i hi
theorem kT4_new (hcl : M[a]? = some cl) (hjl : j < cl.2.length) (hw : kNum w 0) (h : kTab M 4 y s v) (ha : (a : Int) = y) (hj : (j : Int) = s) : kTab (pm_put M a j cl w) 4 y (s + 1) v := by
  obtain ⟨h1, h2⟩ := h
  refine ⟨h1, fun i hi => ?_⟩
  by_cases e : i = j
  · subst e
    rw [show y.toNat = a by omega]
    exact k_gi_put hcl hjl hw
  · rw [kPm1 hcl e]
    exact h2 i (by omega)
theorem kT5_up (hcl : M[a]? = some cl) (h : kTab M 5 y s v) (hj : a ≠ 461 ∨ s ≤ (j : Int)) : kTab (pm_put M a j cl w) 5 y s v := by
  obtain ⟨t, k, n, h1, h2⟩ := h
  refine ⟨t, k, n, h1, kRp.fr h2 fun i hi => ?_⟩
  have hi : i < k := hi
  exact k_gi_put_ne hcl fun e => by omega
theorem kT5_new (hcl : M[a]? = some cl) (hjl : j < cl.2.length) (ha : a = 461) {x u : Int} (hw : kNum w x) (h : kTab M 5 y s v) (hj : (j : Int) = s) (hst : ∀ (k n : Nat) (M' : pM), (k : Int) = s → (∃ t, kZi M t = some (k, (n : Int))) → k_gi M' 461 k = some x → ∃ n', kRs M' (k, v, n) = some (k + 1, u, n')) : kTab (pm_put M a j cl w) 5 y (s + 1) u := by
  obtain ⟨t, k, n, h1, h2⟩ := h
  have hk : k = j := by omega
  subst hk
  subst ha
  have h3 : kRp (pm_put M 461 k cl w) t = some (k, v, n) := kRp.fr h2 fun i hi => by
    have hi : i < k := hi
    exact k_gi_put_ne hcl fun e => by omega
  obtain ⟨n', h4⟩ := hst k n (pm_put M 461 k cl w) hj ⟨t, kRp.zi h2⟩ (k_gi_put hcl hjl hw)
  exact ⟨t + 1, k + 1, n', by omega, kRp_of h3 h4⟩
theorem kT6_up (hcl : M[a]? = some cl) (h : kTab M 6 y s v) (hj : a ≠ 462 ∨ s ≤ (j : Int)) : kTab (pm_put M a j cl w) 6 y s v := by
  obtain ⟨k, h1, h2⟩ := h
  exact ⟨k, h1, kWs.fr h2 fun i hi => k_gi_put_ne hcl fun e => by omega⟩
theorem kT6_new (hcl : M[a]? = some cl) (hjl : j < cl.2.length) (ha : a = 462) {x u : Int} (hw : kNum w x) (h : kTab M 6 y s v) (hj : (j : Int) = s) (hu : cond (decide (21 ≤ x ∧ x ≤ 24)) (some (8 * v + (x - 19))) (cond (decide (x = 20)) (some (cond (decide (v % 8 = 1)) (v / 8) (8 * v + 1))) none) = some u) : kTab (pm_put M a j cl w) 6 y (s + 1) u := by
  obtain ⟨k, h1, h2⟩ := h
  have hk : k = j := by omega
  subst hk
  subst ha
  have h3 : kWs (pm_put M 462 k cl w) k = some v := kWs.fr h2 fun i hi => k_gi_put_ne hcl fun e => by omega
  exact ⟨k + 1, by omega, (kWs_of h3 (k_gi_put hcl hjl hw)).trans hu⟩
theorem kLss.fr2 {M M' : pM} {z : Nat} : ∀ {n : Nat} {L : Int}, kLss M z n = some L → (∀ i : Nat, z ≤ i → i < z + n → k_gi M' 461 i = k_gi M 461 i) → kLss M' z n = some L
  | 0, _, h, _ => h
  | n + 1, L, h, hs => by
    obtain ⟨K, x, e1, e2, e3, e4, rfl⟩ := kLs_to h
    exact kLs_of (kLss.fr2 e1 fun i h1 h2 => hs i h1 (by omega)) (by rw [hs _ (by omega) (by omega)]; exact e2) e3 e4
theorem kT7_off (hcl : M[a]? = some cl) (h : kTab M 7 y s v) (hj : (a ≠ 461 ∨ s ≤ (j : Int)) ∨ (j : Int) < y) : kTab (pm_put M a j cl w) 7 y s v := by
  obtain ⟨z, n, h1, h2, h3⟩ := h
  exact ⟨z, n, h1, h2, kLss.fr2 h3 fun i a1 a2 => k_gi_put_ne hcl fun e => by omega⟩
theorem kT7_new (hcl : M[a]? = some cl) (hjl : j < cl.2.length) (ha : a = 461) {x : Int} (hw : kNum w x) (h : kTab M 7 y s v) (hj : (j : Int) = s) (x0 : 0 ≤ x) (x1 : x ≤ 11) : kTab (pm_put M a j cl w) 7 y (s + 1) (16 * v + (x + 1)) := by
  obtain ⟨z, n, h1, h2, h3⟩ := h
  have hk : j = z + n := by omega
  subst hk
  subst ha
  exact ⟨z, n + 1, h1, by omega, kLs_of (kLss.fr2 h3 fun i a1 a2 => k_gi_put_ne hcl fun e => by omega) (k_gi_put hcl hjl hw) x0 x1⟩
theorem kT8_up (hcl : M[a]? = some cl) (h : kTab M 8 y s v) (hj : a ≠ 464 ∨ s ≤ (j : Int)) : kTab (pm_put M a j cl w) 8 y s v := by
  obtain ⟨h1, h2⟩ := h
  refine ⟨h1, fun i hi => ?_⟩
  rw [k_gi_put_ne hcl fun e => by omega]
  exact h2 i hi
theorem kT8_pop (h : kTab M 8 y s v) (h1 : 1 ≤ s) : kTab M 8 y (s - 1) (v / kBg) := by
  obtain ⟨h0, h2⟩ := h
  refine ⟨by omega, fun i hi => ?_⟩
  rw [kDg_dv, show (s - 1).toNat - 1 - i + 1 = s.toNat - 1 - i by omega]
  exact h2 i (by omega)
theorem kT9_off (hcl : M[a]? = some cl) (h : kTab M 9 y s v) (ho : a ≠ 451 ∨ 128 ≤ (j : Int) - 128 * y ∨ (j : Int) - 128 * y < 0) : kTab (pm_put M a j cl w) 9 y s v := by
  obtain ⟨h1, h2⟩ := h
  exact ⟨h1, h2.fr fun q hq => k_gi_put_ne hcl fun e => by omega⟩
theorem kI_orb (x : Int32) {r u : Nat} (hr : r < 32) (hu : u < 32) : (x ||| (1 : Int32) <<< (Int32.ofInt (r : Int) &&& 31)).toBitVec.getLsbD u = (x.toBitVec.getLsbD u || decide (u = r)) := by
  have key : ∀ r : Fin 32, ∀ u : Fin 32, ((1 : Int32) <<< (Int32.ofInt ((r.val : Nat) : Int) &&& 31)).toBitVec.getLsbD u.val = decide (u.val = r.val) := by decide +kernel
  rw [Int32.toBitVec_or, BitVec.getLsbD_or, key ⟨r, hr⟩ ⟨u, hu⟩]
theorem kT9_new (hcl : M[a]? = some cl) (hjl : j < cl.2.length) (ha : a = 451) {x0 : Int} (hw : kNum w (Int32.ofInt x0 ||| (1 : Int32) <<< (Int32.ofInt (s - 32 * (s / 32)) &&& 31)).toInt) (hx : k_gi M 451 j = some x0) (h : kTab M 9 y s v) (hj : (j : Int) = 128 * y + s / 32) (s0 : 0 ≤ s) (s1 : s < 4096) (hb : kBt s.toNat v = 1) : kTab (pm_put M a j cl w) 9 y (s + 1) v := by
  obtain ⟨h1, h2⟩ := h
  subst ha
  refine ⟨h1, fun q hq => ?_⟩
  obtain ⟨x, e1, e2⟩ := h2 q hq
  by_cases c : 128 * y.toNat + q = j
  · subst c
    rw [e1] at hx
    cases hx
    refine ⟨Int32.ofInt x.toInt ||| (1 : Int32) <<< (Int32.ofInt (s - 32 * (s / 32)) &&& 31), k_gi_put hcl hjl hw, fun u hu => ?_⟩
    have hr : (((s - 32 * (s / 32)).toNat : Nat) : Int) = s - 32 * (s / 32) := by omega
    have hq2 : (q : Int) = s / 32 := by omega
    rw [← hr, kI_orb _ (by omega) hu, Int32.ofInt_toInt, e2 u hu]
    by_cases d : u = (s - 32 * (s / 32)).toNat
    · rw [decide_eq_true d, Bool.or_true, show 32 * q + u = s.toNat by omega, hb, decide_eq_true rfl, decide_eq_true (show ((s.toNat : Nat) : Int) < s + 1 by omega)]
      rfl
    · rw [decide_eq_false d, Bool.or_false]
      congr 1
      exact decide_eq_decide.mpr (by omega)
  · refine ⟨x, by rw [kPm1 hcl c]; exact e1, fun u hu => ?_⟩
    rw [e2 u hu]
    congr 1
    exact decide_eq_decide.mpr (by omega)
theorem kT10_off (hcl : M[a]? = some cl) (h : kTab M 10 y s v) (ho : a ≠ 451 ∨ 128 ≤ (j : Int) - 128 * y ∨ (j : Int) - 128 * y < 0) : kTab (pm_put M a j cl w) 10 y s v := by
  obtain ⟨h1, h2⟩ := h
  refine ⟨h1, fun q hq a1 => ?_⟩
  rw [k_gi_put_ne hcl fun e => by omega]
  exact h2 q hq a1
theorem kT10_z (hcl : M[a]? = some cl) (hjl : j < cl.2.length) (ha : a = 451) (hw : kNum w 0) (h : kTab M 10 y s v) : kTab (pm_put M a j cl w) 10 y s v := by
  obtain ⟨h1, h2⟩ := h
  subst ha
  refine ⟨h1, fun q hq a1 => ?_⟩
  by_cases c : 128 * y.toNat + q = j
  · subst c
    exact k_gi_put hcl hjl hw
  · rw [kPm1 hcl c]
    exact h2 q hq a1
theorem kT10_new (hcl : M[a]? = some cl) (hjl : j < cl.2.length) (ha : a = 451) (hw : kNum w 0) (h : kTab M 10 y s v) (hj : (j : Int) - 128 * y = s) : kTab (pm_put M a j cl w) 10 y (s + 1) v := by
  obtain ⟨h1, h2⟩ := h
  subst ha
  refine ⟨h1, fun q hq a1 => ?_⟩
  by_cases c : 128 * y.toNat + q = j
  · subst c
    exact k_gi_put hcl hjl hw
  · rw [kPm1 hcl c]
    exact h2 q hq (by omega)
theorem kT11_m (hcl : M[a]? = some cl) (h : kTab M 11 y s v) (ha : a = 451) (hj : 128 * s ≤ (j : Int)) : kTab (pm_put M a j cl w) 11 y s v := by
  obtain ⟨h1, h2⟩ := h
  subst ha
  refine ⟨h1, fun i hi => ⟨fun e => ((h2 i hi).1 e).fr (fun n => kPn hcl (by omega) n) (fun q hq => kPm1 hcl (by omega)), fun e => ((h2 i hi).2 e).fr (fun n => kPn hcl (by omega) n) (fun q hq => kPm1 hcl (by omega))⟩⟩
theorem kT11_x (hcl : M[a]? = some cl) (h : kTab M 11 y s v) (ha : a ≠ 451) (h1 : ((a : Int) < 63 ∨ 78 < (a : Int)) ∨ 0 ≤ (a : Int) - (63 + s)) (h2 : ((a : Int) < 244 ∨ 259 < (a : Int)) ∨ 0 ≤ (a : Int) - (244 + v)) : kTab (pm_put M a j cl w) 11 y s v := by
  obtain ⟨g1, g2⟩ := h
  refine ⟨g1, fun i hi => ⟨fun e => ((g2 i hi).1 e).fr (fun n => kPn hcl (by omega) n) (fun q hq => kPn hcl (fun z => ha z.symm) _), fun e => ((g2 i hi).2 e).fr (fun n => kPn hcl (by omega) n) (fun q hq => kPn hcl (fun z => ha z.symm) _)⟩⟩
theorem kT12_x (hcl : M[a]? = some cl) (h : kTab M 12 y s v) (ha : a ≠ 451) (ho : y % 2 = 0 ∧ ((a : Int) < 63 ∨ 78 < (a : Int)) ∨ y % 2 ≠ 0 ∧ ((a : Int) < 244 ∨ 259 < (a : Int))) : kTab (pm_put M a j cl w) 12 y s v := by
  intro i hi a1 a2
  have g := h i hi a1 a2
  rcases ho with ⟨o1, o2⟩ | ⟨o1, o2⟩
  · rw [decide_eq_true o1, cond_true] at g ⊢
    exact g.fr (fun n => kPn hcl (by omega) n) (fun q _ => kPn hcl (fun z => ha z.symm) _)
  · rw [decide_eq_false o1, cond_false] at g ⊢
    exact g.fr (fun n => kPn hcl (by omega) n) (fun q _ => kPn hcl (fun z => ha z.symm) _)
end KTP
end
