noncomputable section
/-! shares, words put into words, folds over rows -/
section KSP
variable {N : kN} {σ : Nat → Int} {S : kS} {M : pM}
/-- an exact share: x = c * x1 + rest, 0 <= rest < c by bounds -/
def k_s1q (c : Int) (x : kE) : kE := (x.1 / c, (x.2.filter (fun q => decide (q.2 % c = 0))).map (fun q => (q.1, q.2 / c)))
def k_s1r (c : Int) (x : kE) : kE := (x.1 % c, x.2.filter (fun q => !(decide (q.2 % c = 0))))
def k_spl (S : kS) (x : kE) (c : Int) : Option (kE × kE) := cond (decide (0 ≤ k_lo S.1 (k_s1r c x)) && decide (k_hi S.1 (k_s1r c x) < c)) (some (k_s1q c x, k_s1r c x))
  (cond (decide (0 ≤ k_lo S.1 (k_s1r c x)) && decide (k_hi S.1 (k_s1r c x) < (k_lo S.1 (k_s1r c x) / c + 1) * c)) (some (k_add (k_s1q c x) (kc (k_lo S.1 (k_s1r c x) / c)), k_sub (k_s1r c x) (kc (c * (k_lo S.1 (k_s1r c x) / c))))) none)
theorem k_s1_evl (σ : Nat → Int) (c : Int) : ∀ l : List (Nat × Int), k_evl σ l = c * k_evl σ ((l.filter (fun q => decide (q.2 % c = 0))).map (fun q => (q.1, q.2 / c))) + k_evl σ (l.filter (fun q => !(decide (q.2 % c = 0))))
  | [] => by simp [k_evl]
  | q :: t => by
    have ih := k_s1_evl σ c t
    cases h : decide (q.2 % c = 0) with
    | true =>
      have h' := of_decide_eq_true h
      simp only [List.filter_cons, h, if_true, Bool.not_true, List.map_cons, k_evl]
      have h2 : q.2 = c * (q.2 / c) := by have := Int.mul_ediv_add_emod q.2 c; omega
      rw [Int.mul_add, ← Int.mul_assoc, ← h2]
      simp only [Bool.false_eq_true, if_false]
      omega
    | false =>
      simp only [List.filter_cons, h, Bool.false_eq_true, if_false, Bool.not_false, if_true, k_evl]
      omega
theorem k_s1_ev (σ : Nat → Int) (c : Int) (x : kE) : k_ev σ x = c * k_ev σ (k_s1q c x) + k_ev σ (k_s1r c x) := by
  unfold k_ev k_s1q k_s1r
  simp only
  have h := k_s1_evl σ c x.2
  have h2 := Int.mul_ediv_add_emod x.1 c
  rw [Int.mul_add]
  omega
theorem k_s1_sc {n : Nat} {c : Int} {x : kE} (h : kSc n x) : kSc n (k_s1q c x) ∧ kSc n (k_s1r c x) := by
  refine ⟨fun q hq => ?_, fun q hq => h q (List.mem_filter.mp hq).1⟩
  obtain ⟨r, hr, rfl⟩ := List.mem_map.mp hq
  exact h r (List.mem_filter.mp hr).1
theorem k_spl_ok {x : kE} {c : Int} {r : kE × kE} (h : kRS N σ S M) (hs : kSc S.1.length x) (hr : k_spl S x c = some r) : k_ev σ x = c * k_ev σ r.1 + k_ev σ r.2 ∧ 0 ≤ k_ev σ r.2 ∧ k_ev σ r.2 < c ∧ kSc S.1.length r.1 ∧ kSc S.1.length r.2 := by
  unfold k_spl at hr
  have a1 := k_lo_le h.2.1 (k_s1r c x)
  have a2 := k_hi_ge h.2.1 (k_s1r c x)
  have e := k_s1_ev σ c x
  cases h1 : (decide (0 ≤ k_lo S.1 (k_s1r c x)) && decide (k_hi S.1 (k_s1r c x) < c)) with
  | true =>
    rw [h1, cond_true] at hr
    cases hr
    simp only [Bool.and_eq_true, decide_eq_true_eq] at h1
    exact ⟨e, by show 0 ≤ k_ev σ (k_s1r c x); omega, by show k_ev σ (k_s1r c x) < c; omega, (k_s1_sc hs).1, (k_s1_sc hs).2⟩
  | false =>
    rw [h1, cond_false] at hr
    obtain ⟨h2, hr⟩ := pm_cs hr
    cases hr
    simp only [Bool.and_eq_true, decide_eq_true_eq] at h2
    generalize k_lo S.1 (k_s1r c x) = L at h2 a1 ⊢
    have hm := Int.mul_ediv_add_emod L c
    have hm2 : c = 0 ∨ 0 ≤ L % c := by
      by_cases hc : c = 0
      · exact Or.inl hc
      · exact Or.inr (Int.emod_nonneg L hc)
    obtain ⟨h2, h3⟩ := h2
    rw [Int.add_mul, Int.one_mul, Int.mul_comm] at h3
    have hc0 : c ≠ 0 := fun hc => by
      have e : c * (L / c) = 0 := by rw [hc, Int.zero_mul]
      omega
    have hm2 : 0 ≤ L % c := hm2.resolve_left hc0
    refine ⟨?_, ?_, ?_, kSc_add (k_s1_sc hs).1 kSc_c, kSc_sub (k_s1_sc hs).2 kSc_c⟩
    · show k_ev σ x = c * k_ev σ (k_add (k_s1q c x) (kc (L / c))) + k_ev σ (k_sub (k_s1r c x) (kc (c * (L / c))))
      rw [k_ev_add, k_ev_c, k_ev_sub, k_ev_c, Int.mul_add]
      omega
    · show 0 ≤ k_ev σ (k_sub (k_s1r c x) (kc (c * (L / c))))
      rw [k_ev_sub, k_ev_c]
      omega
    · show k_ev σ (k_sub (k_s1r c x) (kc (c * (L / c)))) < c
      rw [k_ev_sub, k_ev_c]
      omega
end KSP
abbrev kA : Type := List (Nat × kE)
def k_at (A : kA) (a : Nat) : kE := match pm_lk A a with
  | some e => e
  | none => kc 0
def k_sbl (A : kA) : List (Nat × Int) → kE
  | [] => kc 0
  | q :: t => k_add (k_mul q.2 (k_at A q.1)) (k_sbl A t)
def k_sb (A : kA) (e : kE) : kE := k_add (kc e.1) (k_sbl A e.2)
def k_fin (A : kA) (t : kE) : Bool := t.2.all (fun q => match pm_lk A q.1 with
  | some _ => true
  | none => false)
theorem k_fsl {σ ρ : Nat → Int} {A : kA} (hA : ∀ a w, pm_lk A a = some w → k_ev σ w = ρ a) : ∀ l : List (Nat × Int), l.all (fun q => match pm_lk A q.1 with
    | some _ => true
    | none => false) = true → k_ev σ (k_sbl A l) = k_evl ρ l
  | [], _ => k_ev_c σ 0
  | q :: t, h => by
    rw [List.all_cons, Bool.and_eq_true] at h
    unfold k_sbl
    rw [k_ev_add, k_ev_mul, k_fsl hA t h.2]
    show _ = q.2 * ρ q.1 + _
    have h1 := h.1
    unfold k_at
    split at h1
    · rename_i w hw
      rw [hA _ _ hw]
    · cases h1
theorem k_fsb {σ ρ : Nat → Int} {A : kA} {t : kE} (hA : ∀ a w, pm_lk A a = some w → k_ev σ w = ρ a) (h : k_fin A t = true) : k_ev σ (k_sb A t) = k_ev ρ t := by
  unfold k_sb
  rw [k_ev_add, k_ev_c, k_fsl hA t.2 h]
  rfl
theorem k_sbl_sc {n : Nat} {A : kA} (hA : ∀ a w, pm_lk A a = some w → kSc n w) : ∀ l : List (Nat × Int), kSc n (k_sbl A l)
  | [] => kSc_c
  | q :: t => by
    unfold k_sbl
    refine kSc_add (kSc_mul ?_) (k_sbl_sc hA t)
    unfold k_at
    split
    · rename_i w hw
      exact hA _ _ hw
    · exact kSc_c
theorem k_sb_sc0 {n : Nat} {A : kA} {t : kE} (hA : ∀ a w, pm_lk A a = some w → kSc n w) : kSc n (k_sb A t) := by
  unfold k_sb
  exact kSc_add kSc_c (k_sbl_sc hA _)
/-- which fold a cell's word means, and its parameters' words -/
def k_fdj (c : kE) : Option (Int × kFo) := cond (Nat.beq (k_vi c) 13 && (k_vok c && k_eq (k_add (k_mul 8 (k_dv 8 (k_sub (k_vp c) (kc ((k_vp c).1 % 8))))) (kc ((k_vp c).1 % 8))) (k_vp c))) (match kFold[((k_vp c).1 % 8).toNat]? with
  | some F => some ((k_vp c).1 % 8, F)
  | none => none) none
theorem k_fdj_ok {σ : Nat → Int} {c : kE} {z : Int × kFo} (h : k_fdj c = some z) : k_ev σ c = -((13 : Nat) + 16 * k_ev σ (k_vp c)) ∧ kFold[(k_ev σ (k_vp c) % 8).toNat]? = some z.2 ∧ k_ev σ (k_vp c) / 8 = k_ev σ (k_dv 8 (k_sub (k_vp c) (kc z.1))) := by
  unfold k_fdj at h
  obtain ⟨h1, h⟩ := pm_cs h
  simp only [Bool.and_eq_true] at h1
  obtain ⟨h2, h1, h3⟩ := h1
  have e := k_eq_ok (σ := σ) h3
  rw [k_ev_add, k_ev_mul, k_ev_c] at e
  have hm : k_ev σ (k_vp c) % 8 = (k_vp c).1 % 8 := by omega
  split at h
  · rename_i F hF
    cases h
    refine ⟨?_, by rw [hm]; exact hF, ?_⟩
    · have := k_vok_ev (σ := σ) h1
      rw [pm_beq h2] at this
      exact this
    · show _ = k_ev σ (k_dv 8 (k_sub (k_vp c) (kc ((k_vp c).1 % 8))))
      omega
  · cases h
def k_fpw (S : kS) : List Int → kE → Option (List kE)
  | [], Q => some [Q]
  | r :: t, Q => match k_spl S Q r with
    | none => none
    | some z => match k_fpw S t z.1 with
      | none => none
      | some l => some (z.2 :: l)
theorem k_fpw_ok {N : kN} {σ : Nat → Int} {S : kS} {M : pM} (h : kRS N σ S M) : ∀ (rs : List Int) (Q : kE) (l : List kE), kSc S.1.length Q → k_fpw S rs Q = some l → l.map (k_ev σ) = kFps rs (k_ev σ Q) ∧ ∀ w ∈ l, kSc S.1.length w
  | [], Q, l, hQ, hl => by
    cases hl
    exact ⟨rfl, fun w hw => by rcases List.mem_singleton.mp hw with rfl; exact hQ⟩
  | r :: t, Q, l, hQ, hl => by
    unfold k_fpw at hl
    split at hl
    · cases hl
    · rename_i z hz
      obtain ⟨p1, p2, p3, p4, p5⟩ := k_spl_ok h hQ hz
      split at hl
      · cases hl
      · rename_i l' hl'
        cases hl
        obtain ⟨i1, i2⟩ := k_fpw_ok h t z.1 l' p4 hl'
        have hr : 0 < r := by omega
        have e1 : k_ev σ Q % r = k_ev σ z.2 := by
          rw [p1, Int.add_comm, Int.add_mul_emod_self_left]
          exact Int.emod_eq_of_lt p2 p3
        have e2 : k_ev σ Q / r = k_ev σ z.1 := by
          rw [p1, Int.add_comm, Int.add_mul_ediv_left _ _ (by omega), Int.ediv_eq_zero_of_lt p2 p3]
          omega
        refine ⟨?_, fun w hw => ?_⟩
        · show k_ev σ z.2 :: l'.map (k_ev σ) = k_ev σ Q % r :: kFps t (k_ev σ Q / r)
          rw [e1, e2, i1]
        · rcases List.mem_cons.mp hw with rfl | hw
          · exact p5
          · exact i2 w hw
def k_fde (S : kS) (c : kE) : Option (kFo × List kE) := match k_fdj c with
  | none => none
  | some z => match k_fpw S z.2.2.2.1 (k_sub (k_dv 8 (k_sub (k_vp c) (kc z.1))) (kc kFoff)) with
    | none => none
    | some l => some (z.2, l)
theorem k_fde_ok {N : kN} {σ : Nat → Int} {S : kS} {M : pM} {c : kE} {z : kFo × List kE} (h : kRS N σ S M) (hc : kSc S.1.length c) (hz : k_fde S c = some z) : k_ev σ c = -((13 : Nat) + 16 * k_ev σ (k_vp c)) ∧ kFold[(k_ev σ (k_vp c) % 8).toNat]? = some z.1 ∧ kFps z.1.2.2.1 (k_ev σ (k_vp c) / 8 - kFoff) = z.2.map (k_ev σ) ∧ ∀ w ∈ z.2, kSc S.1.length w := by
  unfold k_fde at hz
  split at hz
  · cases hz
  · rename_i y hy
    obtain ⟨a1, a2, a3⟩ := k_fdj_ok (σ := σ) hy
    split at hz
    · cases hz
    · rename_i l hl
      cases hz
      obtain ⟨i1, i2⟩ := k_fpw_ok h _ _ _ (kSc_sub (k_dv_sc (kSc_sub (k_vp_sc hc) kSc_c)) kSc_c) hl
      refine ⟨a1, a2, ?_, i2⟩
      rw [i1, k_ev_sub, k_ev_c, a3]
/-- what an entry of a fold says -/
theorem k_fgo {N : kN} {σ : Nat → Int} {S : kS} {M : pM} {c : kE} {z : kFo × List kE} {s v : Int} (h : kRS N σ S M) (hc : kSc S.1.length c) (hz : k_fde S c = some z) (hn : k_ev σ c < 0) (hh : kHas N M (k_ev σ c) s v) : ∃ k : Nat, (k : Int) = s ∧ kFv M z.1 (z.2.map (k_ev σ)) k = v := by
  obtain ⟨a1, a2, a3, a4⟩ := k_fde_ok h hc hz
  have hp : kFp M (k_ev σ (k_vp c)) s v := kPhi_to (i := 13) a1 (by omega) (hh.2 hn)
  obtain ⟨F, f1, k, f2, f3⟩ := hp
  rw [a2] at f1
  cases f1
  rw [a3] at f3
  exact ⟨k, f2, f3⟩
theorem k_fof {N : kN} {σ : Nat → Int} {S : kS} {M : pM} {c : kE} {z : kFo × List kE} {s v : Int} {k : Nat} (h : kRS N σ S M) (hc : kSc S.1.length c) (hz : k_fde S c = some z) (hn : k_ev σ c < 0) (hk : (k : Int) = s) (hv : kFv M z.1 (z.2.map (k_ev σ)) k = v) : kHas N M (k_ev σ c) s v := by
  obtain ⟨a1, a2, a3, a4⟩ := k_fde_ok h hc hz
  refine ⟨fun h0 => by omega, fun _ => kPhi_of (i := 13) a1 (by omega) ?_⟩
  exact ⟨z.1, a2, k, hk, by rw [a3]; exact hv⟩
theorem k_beqf {a b : Nat} (h : a ≠ b) : Nat.beq a b = false := by
  cases e : Nat.beq a b with
  | false => rfl
  | true => exact absurd (Nat.eq_of_beq_eq_true e) h
theorem k_bltf {a b : Nat} (h : b ≤ a) : Nat.blt a b = false := by
  cases e : Nat.blt a b with
  | false => rfl
  | true =>
    have := pm_blt e
    omega
/-- what is known of a row -/
def k_fen (S : kS) (F : kFo) (l : List kE) (k : kE) : kA := (1, k) :: (((List.range F.1.2.1.toNat).filterMap (fun (f : Nat) => match k_find (kc F.1.1) (k_add (k_mul F.1.2.1 k) (kc (f : Int))) S.2.2.2 with
  | some w => some (2 + f, w)
  | none => none)) ++ l.zipIdx.map (fun q => (8 + q.2, q.1)))
theorem k_fen_ok {N : kN} {σ : Nat → Int} {S : kS} {M : pM} {F : kFo} {l : List kE} {k : kE} {kn : Nat} (h : kRS N σ S M) (hF : 0 ≤ F.1.1) (hp : F.1.2.1 ≤ 6) (hk : (kn : Int) = k_ev σ k) (v : Int) : ∀ a w, (a, w) ∈ k_fen S F l k → k_ev σ w = kFenv M F (l.map (k_ev σ)) kn v a := by
  intro a w hm
  unfold k_fen at hm
  rcases List.mem_cons.mp hm with hm | hm
  · cases hm
    exact hk.symm
  · rcases List.mem_append.mp hm with hm | hm
    · obtain ⟨f, hf, hg⟩ := List.mem_filterMap.mp hm
      have hf := List.mem_range.mp hf
      split at hg
      · rename_i y hy
        cases hg
        have hi := k_find_int h hy (by rw [k_ev_c]; exact hF)
        rw [k_ev_c, k_ev_add, k_ev_mul, k_ev_c, ← hk] at hi
        have e := hi.2.2
        unfold kFenv
        rw [show Nat.beq (2 + f) 0 = false from k_beqf (by omega), show Nat.beq (2 + f) 1 = false from k_beqf (by omega), show Nat.blt (2 + f) 8 = true from Nat.ble_eq_true_of_le (by omega), cond_false, cond_false, cond_true, show 2 + f - 2 = f by omega, e]
        rfl
      · cases hg
    · obtain ⟨q, hq, e⟩ := List.mem_map.mp hm
      cases e
      have hq2 := List.mem_zipIdx_iff_getElem?.mp hq
      unfold kFenv
      rw [show Nat.beq (8 + q.2) 0 = false from k_beqf (by omega), show Nat.beq (8 + q.2) 1 = false from k_beqf (by omega), show Nat.blt (8 + q.2) 8 = false from k_bltf (by omega), cond_false, cond_false, cond_false, show 8 + q.2 - 8 = q.2 by omega, List.getD_eq_getElem?_getD, List.getElem?_map, hq2]
      rfl
def k_nzv (S : kS) (y : kE) : Bool := (k_ge S.1 S.2.1 (k_sub y (kc 1)) || k_ge S.1 S.2.1 (k_sub (kc (-1)) y)) || S.2.2.1.any (fun e => decide (e = y) || decide (e = k_mul (-1) y))
theorem k_nzv_ok {N : kN} {σ : Nat → Int} {S : kS} {M : pM} {y : kE} (h : kRS N σ S M) (hz : k_nzv S y = true) : k_ev σ y ≠ 0 := by
  unfold k_nzv at hz
  simp only [Bool.or_eq_true] at hz
  rcases hz with (hz | hz) | hz
  · have := k_ge_ok h.2.1 h.2.2.1 hz
    rw [k_ev_sub, k_ev_c] at this
    omega
  · have := k_ge_ok h.2.1 h.2.2.1 hz
    rw [k_ev_sub, k_ev_c] at this
    omega
  · obtain ⟨e, he, hz⟩ := List.any_eq_true.mp hz
    have := h.2.2.2.1 e he
    rcases Bool.or_eq_true_iff.mp hz with hz | hz
    · rw [← of_decide_eq_true hz]
      exact this
    · rw [of_decide_eq_true hz, k_ev_mul] at this
      omega
/-- a test: holds, fails, or isn't known -/
def k_ftt (S : kS) (A : kA) (t : Bool × kE) : Option Bool := cond (k_fin A t.2) (cond t.1
  (cond (k_ge S.1 S.2.1 (k_sb A t.2) && k_ge S.1 S.2.1 (k_mul (-1) (k_sb A t.2))) (some true) (cond (k_nzv S (k_sb A t.2)) (some false) none))
  (cond (k_ge S.1 S.2.1 (k_sb A t.2)) (some true) (cond (k_ge S.1 S.2.1 (k_sub (kc (-1)) (k_sb A t.2))) (some false) none))) none
def k_frs (S : kS) (A : kA) : List (Bool × kE) → Option Bool
  | [] => some true
  | t :: r => match k_ftt S A t with
    | some false => some false
    | some true => k_frs S A r
    | none => match k_frs S A r with
      | some false => some false
      | _ => none
def k_fruw (S : kS) (A : kA) : List (List (Bool × kE) × kE) → Option kE
  | [] => some (kv 0)
  | r :: t => match k_frs S A r.1 with
    | some true => some r.2
    | some false => k_fruw S A t
    | none => none
section KFT
variable {N : kN} {σ ρ : Nat → Int} {S : kS} {M : pM} {A : kA}
theorem k_ftt_ok (h : kRS N σ S M) (hA : ∀ a w, pm_lk A a = some w → k_ev σ w = ρ a) {t : Bool × kE} {b : Bool} (ht : k_ftt S A t = some b) : kFt1 ρ t = b := by
  unfold k_ftt at ht
  cases hf : k_fin A t.2 with
  | false =>
    rw [hf, cond_false] at ht
    cases ht
  | true =>
    rw [hf, cond_true] at ht
    have e := k_fsb hA hf
    unfold kFt1
    cases h1 : t.1 with
    | true =>
      rw [h1, cond_true] at ht
      rw [cond_true]
      cases h2 : (k_ge S.1 S.2.1 (k_sb A t.2) && k_ge S.1 S.2.1 (k_mul (-1) (k_sb A t.2))) with
      | true =>
        rw [h2, cond_true] at ht
        cases ht
        obtain ⟨g1, g2⟩ := Bool.and_eq_true_iff.mp h2
        have g1 := k_ge_ok h.2.1 h.2.2.1 g1
        have g2 := k_ge_ok h.2.1 h.2.2.1 g2
        rw [k_ev_mul] at g2
        exact decide_eq_true (by omega)
      | false =>
        rw [h2, cond_false] at ht
        cases h3 : k_nzv S (k_sb A t.2) with
        | true =>
          rw [h3, cond_true] at ht
          cases ht
          have g := k_nzv_ok h h3
          exact decide_eq_false (by omega)
        | false =>
          rw [h3, cond_false] at ht
          cases ht
    | false =>
      rw [h1, cond_false] at ht
      rw [cond_false]
      cases h2 : k_ge S.1 S.2.1 (k_sb A t.2) with
      | true =>
        rw [h2, cond_true] at ht
        cases ht
        have g := k_ge_ok h.2.1 h.2.2.1 h2
        exact decide_eq_true (by omega)
      | false =>
        rw [h2, cond_false] at ht
        cases h3 : k_ge S.1 S.2.1 (k_sub (kc (-1)) (k_sb A t.2)) with
        | true =>
          rw [h3, cond_true] at ht
          cases ht
          have g := k_ge_ok h.2.1 h.2.2.1 h3
          rw [k_ev_sub, k_ev_c] at g
          exact decide_eq_false (by omega)
        | false =>
          rw [h3, cond_false] at ht
          cases ht
theorem k_frs_ok (h : kRS N σ S M) (hA : ∀ a w, pm_lk A a = some w → k_ev σ w = ρ a) : ∀ (ts : List (Bool × kE)) (b : Bool), k_frs S A ts = some b → ts.all (kFt1 ρ) = b
  | [], b, hb => by
    cases hb
    rfl
  | t :: r, b, hb => by
    unfold k_frs at hb
    rw [List.all_cons]
    split at hb
    · rename_i ht
      cases hb
      rw [k_ftt_ok h hA ht]
      rfl
    · rename_i ht
      rw [k_ftt_ok h hA ht, k_frs_ok h hA r b hb]
      rfl
    · split at hb
      · rename_i hr
        cases hb
        rw [k_frs_ok h hA r false hr, Bool.and_false]
      · cases hb
theorem k_fruw_ok (h : kRS N σ S M) (hA : ∀ a w, pm_lk A a = some w → k_ev σ w = ρ a) : ∀ (rs : List (List (Bool × kE) × kE)) (e : kE), k_fruw S A rs = some e → kFru ρ rs = k_ev ρ e
  | [], e, he => by
    cases he
    exact (k_ev_v ρ 0).symm
  | r :: t, e, he => by
    unfold k_fruw at he
    unfold kFru
    split at he
    · rename_i hr
      cases he
      rw [k_frs_ok h hA _ _ hr, cond_true]
    · rename_i hr
      rw [k_frs_ok h hA _ _ hr, cond_false]
      exact k_fruw_ok h hA t e he
    · cases he
end KFT
def k_fgd (F : kFo) : Bool := decide (0 ≤ F.1.1) && decide (F.1.2.1 ≤ 6)
/-- the value behind one row more; by what the row says alone -/
def k_fnx (S : kS) (z : kFo × List kE) (k v : kE) : Option kE := cond (k_fgd z.1) (match k_fruw S ((0, v) :: k_fen S z.1 z.2 k) z.1.2.2.2 with
  | some e => cond (k_fin ((0, v) :: k_fen S z.1 z.2 k) e) (some (k_sb ((0, v) :: k_fen S z.1 z.2 k) e)) none
  | none => none) none
def k_fst (S : kS) (z : kFo × List kE) (k : kE) : Option kE := cond (k_fgd z.1) (k_fruw S (k_fen S z.1 z.2 k) z.1.2.2.2) none
section KFX
variable {N : kN} {σ : Nat → Int} {S : kS} {M : pM} {z : kFo × List kE} {k v : kE} {kn : Nat}
theorem k_fe0 (h : kRS N σ S M) (hg : k_fgd z.1 = true) (hk : (kn : Int) = k_ev σ k) (hv : k_ev σ v = kFv M z.1 (z.2.map (k_ev σ)) kn) : ∀ a w, pm_lk ((0, v) :: k_fen S z.1 z.2 k) a = some w → k_ev σ w = kFenv M z.1 (z.2.map (k_ev σ)) kn (kFv M z.1 (z.2.map (k_ev σ)) kn) a := by
  intro a w hw
  obtain ⟨g1, g2⟩ := Bool.and_eq_true_iff.mp hg
  rcases List.mem_cons.mp (pm_lk_mem hw) with e | hm
  · cases e
    exact hv
  · exact k_fen_ok h (of_decide_eq_true g1) (of_decide_eq_true g2) hk _ a w hm
theorem k_fe1 (h : kRS N σ S M) (hg : k_fgd z.1 = true) (hk : (kn : Int) = k_ev σ k) (x : Int) : ∀ a w, pm_lk (k_fen S z.1 z.2 k) a = some w → k_ev σ w = kFenv M z.1 (z.2.map (k_ev σ)) kn x a := by
  intro a w hw
  obtain ⟨g1, g2⟩ := Bool.and_eq_true_iff.mp hg
  exact k_fen_ok h (of_decide_eq_true g1) (of_decide_eq_true g2) hk _ a w (pm_lk_mem hw)
theorem k_fen_sc (h : kRS N σ S M) (hz : ∀ w ∈ z.2, kSc S.1.length w) (hk : kSc S.1.length k) : ∀ a w, (a, w) ∈ k_fen S z.1 z.2 k → kSc S.1.length w := by
  intro a w hm
  unfold k_fen at hm
  rcases List.mem_cons.mp hm with hm | hm
  · cases hm
    exact hk
  · rcases List.mem_append.mp hm with hm | hm
    · obtain ⟨f, hf, hg⟩ := List.mem_filterMap.mp hm
      split at hg
      · rename_i y hy
        cases hg
        exact k_find_sc h hy
      · cases hg
    · obtain ⟨q, hq, e⟩ := List.mem_map.mp hm
      cases e
      exact hz _ (List.mem_of_getElem? (List.mem_zipIdx_iff_getElem?.mp hq))
theorem k_fnx_ok {e : kE} (h : kRS N σ S M) (hz : ∀ w ∈ z.2, kSc S.1.length w) (hks : kSc S.1.length k) (hvs : kSc S.1.length v) (hk : (kn : Int) = k_ev σ k) (hv : k_ev σ v = kFv M z.1 (z.2.map (k_ev σ)) kn) (he : k_fnx S z k v = some e) : kSc S.1.length e ∧ k_ev σ e = kFv M z.1 (z.2.map (k_ev σ)) (kn + 1) := by
  unfold k_fnx at he
  obtain ⟨hg, he⟩ := pm_cs he
  split at he
  · rename_i y hy
    obtain ⟨hf, he⟩ := pm_cs he
    cases he
    have hA := k_fe0 h hg hk hv
    refine ⟨k_sb_sc0 fun a w hw => ?_, ?_⟩
    · rcases List.mem_cons.mp (pm_lk_mem hw) with e | hm
      · cases e
        exact hvs
      · exact k_fen_sc h hz hks a w hm
    · rw [k_fsb hA hf]
      exact (k_fruw_ok h hA _ _ hy).symm
  · cases he
theorem k_fst_ok {e : kE} (h : kRS N σ S M) (hk : (kn : Int) = k_ev σ k) (he : k_fst S z k = some e) : kFv M z.1 (z.2.map (k_ev σ)) (kn + 1) = k_ev (kFenv M z.1 (z.2.map (k_ev σ)) kn (kFv M z.1 (z.2.map (k_ev σ)) kn)) e := by
  unfold k_fst at he
  obtain ⟨hg, he⟩ := pm_cs he
  exact k_fruw_ok h (k_fe1 h hg hk _) _ _ he
end KFX
/-- a value that stays -/
def k_abk (F : kFo) (a : Int) : Bool := F.2.2.2.all (fun r => decide (r.2 = kc a) || r.1.any (fun t => t.1 && (decide (t.2.2 = [(0, 1)]) && !(decide (t.2.1 + a = 0)))))
theorem k_abr {ρ : Nat → Int} {a : Int} (h0 : ρ 0 = a) : ∀ rs : List (List (Bool × kE) × kE), rs.all (fun r => decide (r.2 = kc a) || r.1.any (fun t => t.1 && (decide (t.2.2 = [(0, 1)]) && !(decide (t.2.1 + a = 0))))) = true → kFru ρ rs = a
  | [], _ => h0
  | r :: t, h => by
    rw [List.all_cons, Bool.and_eq_true] at h
    unfold kFru
    cases hr : r.1.all (kFt1 ρ) with
    | false => exact k_abr h0 t h.2
    | true =>
      rw [cond_true]
      rcases Bool.or_eq_true_iff.mp h.1 with h1 | h1
      · rw [of_decide_eq_true h1, k_ev_c]
      · obtain ⟨u, hu, h2⟩ := List.any_eq_true.mp h1
        have h3 := List.all_eq_true.mp hr u hu
        simp only [Bool.and_eq_true, decide_eq_true_eq, Bool.not_eq_true', decide_eq_false_iff_not] at h2
        obtain ⟨h4, h5, h6⟩ := h2
        unfold kFt1 at h3
        rw [h4, cond_true] at h3
        have h3 := of_decide_eq_true h3
        unfold k_ev at h3
        rw [h5] at h3
        simp only [k_evl, h0] at h3
        omega
theorem k_abk_ok {M : pM} {F : kFo} {ps : List Int} {a : Int} (h : k_abk F a = true) {k : Nat} (hk : kFv M F ps k = a) : ∀ m : Nat, kFv M F ps (k + m) = a
  | 0 => hk
  | m + 1 => by
    show kFru (kFenv M F ps (k + m) (kFv M F ps (k + m))) F.2.2.2 = a
    exact k_abr (k_abk_ok h hk m) _ h
/-- a range that the values keep to -/
def k_rgk (F : kFo) : Bool := (decide (F.2.1.1 ≤ F.2.1.2.2) && decide (F.2.1.2.2 ≤ F.2.1.2.1)) && F.2.2.2.all (fun r => (k_cst r.2 && (decide (F.2.1.1 ≤ r.2.1) && decide (r.2.1 ≤ F.2.1.2.1))) || (decide (r.2 = kv 0) || (decide (r.2 = kv 1) && (decide (F.2.1.1 ≤ 0) && decide (F.1.2.2 - 1 ≤ F.2.1.2.1)))))
theorem k_rgr {ρ : Nat → Int} {F : kFo} (h0 : F.2.1.1 ≤ ρ 0 ∧ ρ 0 ≤ F.2.1.2.1) (h1 : 0 ≤ ρ 1 ∧ ρ 1 ≤ F.1.2.2 - 1) : ∀ rs : List (List (Bool × kE) × kE), rs.all (fun r => (k_cst r.2 && (decide (F.2.1.1 ≤ r.2.1) && decide (r.2.1 ≤ F.2.1.2.1))) || (decide (r.2 = kv 0) || (decide (r.2 = kv 1) && (decide (F.2.1.1 ≤ 0) && decide (F.1.2.2 - 1 ≤ F.2.1.2.1))))) = true → F.2.1.1 ≤ kFru ρ rs ∧ kFru ρ rs ≤ F.2.1.2.1
  | [], _ => h0
  | r :: t, h => by
    rw [List.all_cons, Bool.and_eq_true] at h
    unfold kFru
    cases hr : r.1.all (kFt1 ρ) with
    | false => exact k_rgr h0 h1 t h.2
    | true =>
      rw [cond_true]
      have h2 := h.1
      simp only [Bool.or_eq_true, Bool.and_eq_true, decide_eq_true_eq] at h2
      rcases h2 with ⟨h3, h4, h5⟩ | h3 | ⟨h3, h4, h5⟩
      · rw [k_ev_const h3]
        exact ⟨h4, h5⟩
      · rw [h3, k_ev_v]
        exact h0
      · rw [h3, k_ev_v]
        omega
theorem k_rgk_ok {M : pM} {F : kFo} {ps : List Int} (h : k_rgk F = true) : ∀ k : Nat, (k : Int) ≤ F.1.2.2 → F.2.1.1 ≤ kFv M F ps k ∧ kFv M F ps k ≤ F.2.1.2.1
  | 0, _ => by
    obtain ⟨h1, -⟩ := Bool.and_eq_true_iff.mp h
    simp only [Bool.and_eq_true, decide_eq_true_eq] at h1
    exact h1
  | k + 1, hk => by
    obtain ⟨-, h2⟩ := Bool.and_eq_true_iff.mp h
    exact k_rgr (k_rgk_ok h k (by omega)) (by show 0 ≤ (k : Int) ∧ (k : Int) ≤ _; omega) _ h2
/-! what is known of a fold without an entry -/
def k_vt13 (S : kS) (c s : kE) : Option kE := match k_fde S c with
  | some z => cond (decide (k_nv S.1 s = kc 0)) (some (kc z.1.2.1.2.2)) none
  | none => none
/-- the row behind; the row ahead; a value that stays -/
def k_vfa (S : kS) (z : kFo × List kE) (s : kE) (q : kH) : Option kE := cond (k_eq s (k_add q.1.2 (kc 1)) && k_ge S.1 S.2.1 q.1.2) (k_fnx S z q.1.2 q.2) none
def k_vfb (S : kS) (z : kFo × List kE) (s : kE) (q : kH) : Option kE := cond (k_eq q.1.2 (k_add s (kc 1)) && k_ge S.1 S.2.1 s) (match k_fst S z s with
  | some e => cond (decide (e = kv 0)) (some q.2) none
  | none => none) none
def k_vfc (S : kS) (z : kFo × List kE) (s : kE) (q : kH) : Option kE := cond (k_cst (k_nv S.1 q.2) && (k_abk z.1 (k_nv S.1 q.2).1 && k_ge S.1 S.2.1 (k_sub s q.1.2))) (some (kc (k_nv S.1 q.2).1)) none
def k_vfq (S : kS) (z : kFo × List kE) (c s : kE) (q : kH) : Option kE := cond (decide (q.1.1 = c)) (match k_vfa S z s q with
  | some e => some e
  | none => match k_vfb S z s q with
    | some e => some e
    | none => k_vfc S z s q) none
def k_vf13 (S : kS) (c s : kE) : Option kE := match k_fde S c with
  | some z => S.2.2.2.findSome? (k_vfq S z c s)
  | none => none
section KFV
variable {N : kN} {σ : Nat → Int} {S : kS} {M : pM} {c s v : kE}
theorem k_vt13_ok (h : kRS N σ S M) (hc : kSc S.1.length c) (hn : k_ev σ c < 0) (hv : k_vt13 S c s = some v) : kSc S.1.length v ∧ kHas N M (k_ev σ c) (k_ev σ s) (k_ev σ v) := by
  unfold k_vt13 at hv
  split at hv
  · rename_i z hz
    obtain ⟨h1, hv⟩ := pm_cs hv
    cases hv
    have e := k_nv_ok (e := s) h.2.1
    rw [of_decide_eq_true h1, k_ev_c] at e
    exact ⟨kSc_c, k_fof (k := 0) h hc hz hn (by rw [← e]; rfl) (by rw [k_ev_c]; rfl)⟩
  · cases hv
theorem k_vf13_ok (h : kRS N σ S M) (hc : kSc S.1.length c) (hs : kSc S.1.length s) (hn : k_ev σ c < 0) (hv : k_vf13 S c s = some v) : kSc S.1.length v ∧ kHas N M (k_ev σ c) (k_ev σ s) (k_ev σ v) := by
  unfold k_vf13 at hv
  split at hv
  · rename_i z hz
    obtain ⟨q, hq, hf⟩ := List.exists_of_findSome?_eq_some hv
    unfold k_vfq at hf
    obtain ⟨h1, hf⟩ := pm_cs hf
    have hqc := of_decide_eq_true h1
    obtain ⟨a1, a2, a3, a4⟩ := k_fde_ok h hc hz
    have hh := h.2.2.2.2.1 q hq
    rw [hqc] at hh
    obtain ⟨k0, k1, k2⟩ := k_fgo h hc hz hn hh
    obtain ⟨s1, s2, s3⟩ := h.2.2.2.2.2.2.2 q hq
    split at hf
    · rename_i e he
      cases hf
      unfold k_vfa at he
      obtain ⟨g, he⟩ := pm_cs he
      obtain ⟨g1, g2⟩ := Bool.and_eq_true_iff.mp g
      have e1 := k_eq_ok (σ := σ) g1
      rw [k_ev_add, k_ev_c] at e1
      obtain ⟨r1, r2⟩ := k_fnx_ok h a4 s2 s3 k1 k2.symm he
      exact ⟨r1, k_fof (k := k0 + 1) h hc hz hn (by omega) r2.symm⟩
    · split at hf
      · rename_i e he
        cases hf
        unfold k_vfb at he
        obtain ⟨g, he⟩ := pm_cs he
        obtain ⟨g1, g2⟩ := Bool.and_eq_true_iff.mp g
        have e1 := k_eq_ok (σ := σ) g1
        rw [k_ev_add, k_ev_c] at e1
        have e2 := k_ge_ok h.2.1 h.2.2.1 g2
        split at he
        · rename_i y hy
          obtain ⟨g3, he⟩ := pm_cs he
          cases he
          have g3 := of_decide_eq_true g3
          subst g3
          have hk : ((k_ev σ s).toNat : Int) = k_ev σ s := Int.toNat_of_nonneg e2
          have r := k_fst_ok h hk hy
          rw [k_ev_v] at r
          have hk0 : k0 = (k_ev σ s).toNat + 1 := by omega
          rw [hk0, r] at k2
          exact ⟨s3, k_fof (k := (k_ev σ s).toNat) h hc hz hn hk k2⟩
        · cases he
      · unfold k_vfc at hf
        obtain ⟨g, hf⟩ := pm_cs hf
        cases hf
        simp only [Bool.and_eq_true] at g
        obtain ⟨g1, g2, g3⟩ := g
        have e1 := k_nv_ok (e := q.2) h.2.1
        rw [k_ev_const g1] at e1
        have e2 := k_ge_ok h.2.1 h.2.2.1 g3
        rw [k_ev_sub] at e2
        obtain ⟨m, hm⟩ := Int.eq_ofNat_of_zero_le (show 0 ≤ k_ev σ s - (k0 : Int) by omega)
        have r := k_abk_ok (M := M) (ps := z.2.map (k_ev σ)) g2 (k := k0) (by rw [k2]; exact e1.symm) m
        exact ⟨kSc_c, k_fof (k := k0 + m) h hc hz hn (by omega) (by rw [k_ev_c]; exact r)⟩
  · cases hv
end KFV
/-! at an end: what must be the same -/
def k_eqs : List kE → kS → Option kS
  | [], S => some S
  | e :: t, S => cond (k_eq e (kc 0)) (k_eqs t S) ((k_cn S .eq e).bind (k_eqs t))
def k_e13a (S : kS) (z : kFo × List kE) (q : kH) : List kE := cond (decide (k_nv S.1 q.1.2 = kc 0)) [k_sub q.2 (kc z.1.2.1.2.2)]
  (cond (k_ge S.1 S.2.1 (k_sub q.1.2 (kc 1))) (match k_fst S z (k_sub q.1.2 (kc 1)) with
    | some e => cond (!(decide (e = kv 0)) && k_fin (k_fen S z.1 z.2 (k_sub q.1.2 (kc 1))) e) [k_sub q.2 (k_sb (k_fen S z.1 z.2 (k_sub q.1.2 (kc 1))) e)] []
    | none => []) [])
def k_e13b (S : kS) (z : kFo × List kE) (q r : kH) : List kE := cond (decide (r.1.1 = q.1.1)) (cond (k_eqv S.1 S.2.1 q.1.2 r.1.2) [k_sub q.2 r.2]
  (cond (k_ge S.1 S.2.1 (k_sub (k_sub q.1.2 (kc 1)) r.1.2) && k_ge S.1 S.2.1 r.1.2) (match k_fnx S z r.1.2 r.2 with
    | some e => cond (k_cst e && k_abk z.1 e.1) [k_sub q.2 e] []
    | none => []) [])) []
def k_e13 (S : kS) (q : kH) : List kE := cond (decide (k_hi S.1 q.1.1 < 0)) (match k_fde S q.1.1 with
  | some z => k_e13a S z q ++ S.2.2.2.flatMap (k_e13b S z q)
  | none => []) []
section KFE
variable {N : kN} {σ : Nat → Int} {S : kS} {M : pM}
theorem k_eqs_ok : ∀ (l : List kE) {T : kS} {n : Nat}, T.1.length = n → (∀ e ∈ l, kSc n e ∧ k_ev σ e = 0) → kRS N σ T M → ∃ U, k_eqs l T = some U ∧ U.1.length = n ∧ kRS N σ U M
  | [], T, n, hl, _, h => ⟨T, rfl, hl, h⟩
  | e :: t, T, n, hl, he, h => by
    have ht : ∀ e ∈ t, kSc n e ∧ k_ev σ e = 0 := fun x hx => he x (List.mem_cons_of_mem _ hx)
    unfold k_eqs
    cases c1 : k_eq e (kc 0) with
    | true => exact k_eqs_ok t hl ht h
    | false =>
      rw [cond_false]
      obtain ⟨g1, g2⟩ := he e List.mem_cons_self
      obtain ⟨U, u1, u2, u3⟩ := k_cn_ok (c := .eq) (d := e) h (by rw [hl]; exact g1) g2
      rw [u1]
      exact k_eqs_ok t (u2.trans hl) ht u3
theorem k_e13_ok (h : kRS N σ S M) {q : kH} (hq : q ∈ S.2.2.2) : ∀ e ∈ k_e13 S q, kSc S.1.length e ∧ k_ev σ e = 0 := by
  intro e he
  unfold k_e13 at he
  cases c1 : decide (k_hi S.1 q.1.1 < 0) with
  | false =>
    rw [c1, cond_false] at he
    cases he
  | true =>
    rw [c1, cond_true] at he
    obtain ⟨s1, s2, s3⟩ := h.2.2.2.2.2.2.2 q hq
    have hn : k_ev σ q.1.1 < 0 := by
      have := k_hi_ge h.2.1 q.1.1
      have := of_decide_eq_true c1
      omega
    split at he
    · rename_i z hz
      obtain ⟨a1, a2, a3, a4⟩ := k_fde_ok h s1 hz
      obtain ⟨k0, k1, k2⟩ := k_fgo h s1 hz hn (h.2.2.2.2.1 q hq)
      rcases List.mem_append.mp he with he | he
      · unfold k_e13a at he
        cases c2 : decide (k_nv S.1 q.1.2 = kc 0) with
        | true =>
          rw [c2, cond_true] at he
          rcases List.mem_singleton.mp he with rfl
          have e1 := k_nv_ok (e := q.1.2) h.2.1
          rw [of_decide_eq_true c2, k_ev_c] at e1
          have hk : k0 = 0 := by omega
          rw [hk] at k2
          have k2 : z.1.2.1.2.2 = k_ev σ q.2 := k2
          exact ⟨kSc_sub s3 kSc_c, by rw [k_ev_sub, k_ev_c]; omega⟩
        | false =>
          rw [c2, cond_false] at he
          cases c3 : k_ge S.1 S.2.1 (k_sub q.1.2 (kc 1)) with
          | false =>
            rw [c3, cond_false] at he
            cases he
          | true =>
            rw [c3, cond_true] at he
            have e1 := k_ge_ok h.2.1 h.2.2.1 c3
            have e2 : k_ev σ (k_sub q.1.2 (kc 1)) = k_ev σ q.1.2 - 1 := by rw [k_ev_sub, k_ev_c]
            split at he
            · rename_i y hy
              cases c4 : (!(decide (y = kv 0)) && k_fin (k_fen S z.1 z.2 (k_sub q.1.2 (kc 1))) y) with
              | false =>
                rw [c4, cond_false] at he
                cases he
              | true =>
                rw [c4, cond_true] at he
                rcases List.mem_singleton.mp he with rfl
                obtain ⟨-, c5⟩ := Bool.and_eq_true_iff.mp c4
                have hk : ((k0 - 1 : Nat) : Int) = k_ev σ (k_sub q.1.2 (kc 1)) := by omega
                have hg : k_fgd z.1 = true := by
                  unfold k_fst at hy
                  exact (pm_cs hy).1
                have r := k_fst_ok h hk hy
                rw [← k_fsb (k_fe1 h hg hk _) c5, show k0 - 1 + 1 = k0 by omega, k2] at r
                refine ⟨kSc_sub s3 (k_sb_sc0 fun a w hw => k_fen_sc h a4 (kSc_sub s2 kSc_c) a w (pm_lk_mem hw)), ?_⟩
                rw [k_ev_sub]
                omega
            · cases he
      · obtain ⟨r, hr, he⟩ := List.mem_flatMap.mp he
        unfold k_e13b at he
        cases c2 : decide (r.1.1 = q.1.1) with
        | false =>
          rw [c2, cond_false] at he
          cases he
        | true =>
          rw [c2, cond_true] at he
          have hrc := of_decide_eq_true c2
          obtain ⟨t1, t2, t3⟩ := h.2.2.2.2.2.2.2 r hr
          have hh := h.2.2.2.2.1 r hr
          rw [hrc] at hh
          obtain ⟨j0, j1, j2⟩ := k_fgo h s1 hz hn hh
          cases c3 : k_eqv S.1 S.2.1 q.1.2 r.1.2 with
          | true =>
            rw [c3, cond_true] at he
            rcases List.mem_singleton.mp he with rfl
            have e1 := k_eqv_ok h.2.1 h.2.2.1 c3
            have : j0 = k0 := by omega
            subst this
            exact ⟨kSc_sub s3 t3, by rw [k_ev_sub]; omega⟩
          | false =>
            rw [c3, cond_false] at he
            cases c4 : (k_ge S.1 S.2.1 (k_sub (k_sub q.1.2 (kc 1)) r.1.2) && k_ge S.1 S.2.1 r.1.2) with
            | false =>
              rw [c4, cond_false] at he
              cases he
            | true =>
              rw [c4, cond_true] at he
              obtain ⟨g1, g2⟩ := Bool.and_eq_true_iff.mp c4
              have g1 := k_ge_ok h.2.1 h.2.2.1 g1
              rw [k_ev_sub, k_ev_sub, k_ev_c] at g1
              split at he
              · rename_i y hy
                cases c5 : (k_cst y && k_abk z.1 y.1) with
                | false =>
                  rw [c5, cond_false] at he
                  cases he
                | true =>
                  rw [c5, cond_true] at he
                  rcases List.mem_singleton.mp he with rfl
                  obtain ⟨c6, c7⟩ := Bool.and_eq_true_iff.mp c5
                  obtain ⟨r1, r2⟩ := k_fnx_ok h a4 t2 t3 j1 j2.symm hy
                  rw [k_ev_const c6] at r2
                  have r3 := k_abk_ok (M := M) (ps := z.2.map (k_ev σ)) c7 (k := j0 + 1) r2.symm (k0 - (j0 + 1))
                  rw [show j0 + 1 + (k0 - (j0 + 1)) = k0 by omega, k2] at r3
                  refine ⟨kSc_sub s3 r1, ?_⟩
                  rw [k_ev_sub, k_ev_const c6]
                  omega
              · cases he
    · cases he
end KFE
end
