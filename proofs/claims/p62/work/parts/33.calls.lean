/-! what a call needs and leaves -/
def k_args : Nat → List kV → kLs
  | _, [] => []
  | i, q :: t => (i, q) :: k_args (cond (Nat.beq q.1 1) (i + 2) (i + 1)) t
def k_cat : List kV → Nat
  | [] => 0
  | q :: t => cond (Nat.beq q.1 1) 2 1 + k_cat t
def kRetV (E : pM) (r : Nat × Int × Int) (v : Option Value) : Prop := match r.1 with
  | 0 => ∃ x : Int32, v = some (.int x) ∧ r.2.1 ≤ x.toInt ∧ x.toInt ≤ r.2.2
  | 1 => ∃ x : Int64, v = some (.long x)
  | 2 => v = some (.ref r.2.1.toNat) ∧ 0 ≤ r.2.1 ∧ r.2.1.toNat < pmX + E.length
  | _ => v = none
def kPost (E : pM) (D : List kDe) (po : kPo) (M0 : pM) (v : Option Value) (M' : pM) : Prop := kMem D M' ∧ kSame po.2 M0 M' ∧ kRetV E po.1 v
def kHold (E : pM) (N : Nat) (D : List kDe) (d : Nat) (k : kK) (po : kPo) : Prop := ∀ (σ : Nat → Int) (M M0 : pM) (cs : List cF), kRS N σ k.1 M → kMem D M → kRNs E k.1.1.length σ k.2.1 cs → kSame po.2 M0 M → k_ev σ k.2.2.1 ≤ (d : Int) → kSem E (kPost E D po M0) d cs M
def k_out (S : kS) (mods : List kMd) (q : kH) : Bool := mods.all (fun m => (decide (k_hi S.1 q.1.1 < (m.1.1 : Int)) || decide ((m.1.2 : Int) < k_lo S.1 q.1.1)) || (decide (k_hi S.1 q.1.2 < (m.2.1 : Int)) || decide ((m.2.2 : Int) < k_lo S.1 q.1.2)))
def k_drop (S : kS) (mods : List kMd) : kS := (S.1, S.2.1, S.2.2.1, S.2.2.2.filter (k_out S mods))
def k_rin (mods po : List kMd) : Bool := mods.all (fun m => po.any (fun p => (Nat.ble p.1.1 m.1.1 && Nat.ble m.1.2 p.1.2) && (Nat.ble p.2.1 m.2.1 && Nat.ble m.2.2 p.2.2)))
def k_pr (S : kS) (r : Nat × Int × Int) : List kV × kS := match r.1 with
  | 0 => ([(0, (k_new S r.2.1 r.2.2).1)], (k_new S r.2.1 r.2.2).2)
  | 1 => ([(1, kc 0)], S)
  | 2 => ([(2, kc r.2.1)], S)
  | _ => ([], S)
section KCL
variable {E : pM} {N : Nat} {D : List kDe} {σ : Nat → Int} {M M' : pM} {S : kS} {mods po : List kMd}
theorem k_args_ok {n : Nat} : ∀ {t : List kV} {st : List Value} (i : Nat), kRT E n σ t st → kRL E n σ (k_args i t) (lv_args i st)
  | [], [], _, _ => fun j q h => by cases h
  | q :: t, v :: st, i, h => by
    intro j w hw
    have hi : (cond (Nat.beq q.1 1) (i + 2) (i + 1)) = (if v.category = 2 then i + 2 else i + 1) := by
      have hc := h.1.2.cat2
      by_cases h2 : v.category = 2
      · rw [if_pos h2]
        rw [h2] at hc
        rw [← hc]
        rfl
      · rw [if_neg h2]
        have : Nat.beq v.category 2 = false := by
          cases hb : Nat.beq v.category 2 with
          | false => rfl
          | true => exact absurd (pm_beq hb) h2
        rw [this] at hc
        rw [← hc]
        rfl
    have hw : pm_lk ((i, q) :: k_args (cond (Nat.beq q.1 1) (i + 2) (i + 1)) t) j = some w := hw
    show ∃ v', pm_lk ((i, v) :: lv_args (if v.category = 2 then i + 2 else i + 1) st) j = some v' ∧ _
    rw [hi] at hw
    unfold pm_lk at hw ⊢
    cases hb : Nat.beq i j with
    | true =>
      simp only [hb, cond_true] at hw ⊢
      cases hw
      exact ⟨v, rfl, h.1⟩
    | false =>
      simp only [hb, cond_false] at hw ⊢
      exact k_args_ok _ h.2 j w hw
  | [], _ :: _, _, h => h.elim
  | _ :: _, [], _, h => h.elim
theorem k_cat_ok {n : Nat} : ∀ {t : List kV} {st : List Value}, kRT E n σ t st → pm_cat st = k_cat t
  | [], [], _ => rfl
  | q :: t, v :: st, h => by
    have ih := k_cat_ok h.2
    have hc := h.1.2.cat2
    unfold pm_cat at ih ⊢
    rw [List.map_cons, List.sum_cons, ih]
    show v.category + k_cat t = cond (Nat.beq q.1 1) 2 1 + k_cat t
    rcases lv_cat v with h1 | h1
    · rw [h1] at hc ⊢
      rw [← hc]
      rfl
    · rw [h1] at hc ⊢
      rw [← hc]
      rfl
  | [], _ :: _, h => h.elim
  | _ :: _, [], h => h.elim
theorem k_rin_ok (h : kSame mods M M') (hr : k_rin mods po = true) : kSame po M M' := by
  refine ⟨h.1, fun a c hc => ?_⟩
  obtain ⟨c', e1, e2, e3, e4⟩ := h.2 a c hc
  refine ⟨c', e1, e2, e3, fun j hj => e4 j (fun q hq hin => ?_)⟩
  have h1 := List.all_eq_true.mp hr q hq
  obtain ⟨p, hp, h2⟩ := List.any_eq_true.mp h1
  simp only [Bool.and_eq_true] at h2
  obtain ⟨⟨h2, h3⟩, h4, h5⟩ := h2
  have h2 := Nat.le_of_ble_eq_true h2
  have h3 := Nat.le_of_ble_eq_true h3
  have h4 := Nat.le_of_ble_eq_true h4
  have h5 := Nat.le_of_ble_eq_true h5
  refine hj p hp ?_
  unfold kInR at hin ⊢
  omega
theorem k_drop_ok (h : kRS N σ S M) (hs : kSame mods M M') : kRS N σ (k_drop S mods) M' := by
  obtain ⟨g0, gb, gf, gn, gc, gs⟩ := h
  refine ⟨g0, gb, gf, gn, fun q hq => ?_, gs.1, gs.2.1, fun q hq => gs.2.2 q (List.mem_filter.mp hq).1⟩
  obtain ⟨h1, h2⟩ := List.mem_filter.mp hq
  obtain ⟨a, j, x, c, e1, e2, e3, e4, e5⟩ := gc q h1
  obtain ⟨c', f1, f2, f3, f4⟩ := hs.2 a c e3
  refine ⟨a, j, x, c', e1, e2, f1, ?_, e5⟩
  rw [f4 j (fun m hm hin => ?_)]
  · exact e4
  · have h3 := List.all_eq_true.mp h2 m hm
    simp only [Bool.or_eq_true, decide_eq_true_eq] at h3
    have a1 := k_lo_le gb q.1.1
    have a2 := k_hi_ge gb q.1.1
    have a3 := k_lo_le gb q.1.2
    have a4 := k_hi_ge gb q.1.2
    unfold kInR at hin
    omega
theorem kRT.app {n : Nat} : ∀ {t t' : List kV} {r r' : List Value}, kRT E n σ t r → kRT E n σ t' r' → kRT E n σ (t ++ t') (r ++ r')
  | [], _, [], _, _, h => h
  | _ :: _, _, _ :: _, _, h1, h2 => ⟨h1.1, kRT.app h1.2 h2⟩
  | [], _, _ :: _, _, h, _ => h.elim
  | _ :: _, _, [], _, h, _ => h.elim
theorem k_pr_ok {r : Nat × Int × Int} {v : Option Value} (h : kRS N σ S M) (hv : kRetV E r v) : ∃ τ, kAgr S.1.length σ τ ∧ S.1.length ≤ (k_pr S r).2.1.length ∧ kRS N τ (k_pr S r).2 M ∧ kRT E (k_pr S r).2.1.length τ (k_pr S r).1 v.toList := by
  obtain ⟨k, lo, hi⟩ := r
  unfold kRetV at hv
  match k, hv with
  | 0, hv =>
    obtain ⟨x, rfl, h1, h2⟩ := hv
    obtain ⟨τ, t1, t2, t3, t4, t5⟩ := k_new_ok h (x := x.toInt) (lo := lo) (hi := hi) h1 h2
    exact ⟨τ, t1, t2, t3, ⟨⟨t5, x, rfl, t4.symm⟩, trivial⟩⟩
  | 1, hv =>
    obtain ⟨x, rfl⟩ := hv
    exact ⟨σ, fun _ _ => rfl, Nat.le_refl _, h, ⟨⟨kSc_c, x, rfl⟩, trivial⟩⟩
  | 2, hv =>
    obtain ⟨rfl, h1, h2⟩ := hv
    have h1 : 0 ≤ lo := h1
    refine ⟨σ, fun _ _ => rfl, Nat.le_refl _, h, ⟨⟨kSc_c, lo.toNat, rfl, ?_, h2⟩, trivial⟩⟩
    show ((lo.toNat : Nat) : Int) = k_ev σ (kc lo)
    rw [k_ev_c]
    omega
  | k + 3, hv =>
    subst hv
    exact ⟨σ, fun _ _ => rfl, Nat.le_refl _, h, trivial⟩
end KCL
