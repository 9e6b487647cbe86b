noncomputable section
/-! what a call needs and leaves -/
def k_args : Nat → List kV → kLs
  | _, [] => []
  | i, q :: t => (i, q) :: k_args (cond (Nat.beq q.1 1) (i + 2) (i + 1)) t
def k_cat : List kV → Nat
  | [] => 0
  | q :: t => cond (Nat.beq q.1 1) 2 1 + k_cat t
/-- what comes back -/
def kRetA (E : pM) (τ : Nat → Int) (kd : Nat) (e : kE) (v : Option Value) : Prop := (3 ≤ kd → v = none) ∧ (kd < 3 → ∃ w, v = some w ∧ kVal E τ (kd, e) w)
def kPost (E : pM) (N : kN) (D : kDD) (po : kPo) (p : List Int) (M0 : pM) (v : Option Value) (M' : pM) : Prop := kMem D M' ∧ kSame po.1 M0 M' ∧ ∃ al ∈ po.2, ∃ τ : Nat → Int, (∀ (i : Nat) (z : Int), p[i]? = some z → τ i = z) ∧ kRS N τ al.1 M' ∧ kRetA E τ al.2.1 al.2.2 v
def kHold (E : pM) (N : kN) (D : kDD) (d : Nat) (k : kK) (po : kPo) : Prop := ∀ (σ : Nat → Int) (M M0 : pM) (cs : List cF), kRS N σ k.1 M → kMem D M → kRNs E k.1.1.length σ k.2.1 cs → kSame po.1 M0 M → k_ev σ k.2.2.1 ≤ (d : Int) → kSem E (kPost E N D po (k.2.2.2.2.1.map (k_ev σ)) M0) d cs M
def k_out (S : kS) (mods : List kMd) (q : kH) : Bool := cond (decide (k_hi S.1 q.1.1 < 0)) (k_vkp S mods q) (decide (0 ≤ k_lo S.1 q.1.1) && mods.all (fun m => (decide (k_hi S.1 q.1.1 < (m.1.1 : Int)) || decide ((m.1.2 : Int) < k_lo S.1 q.1.1)) || (decide (k_hi S.1 q.1.2 < (m.2.1 : Int)) || decide ((m.2.2 : Int) < k_lo S.1 q.1.2))))
def k_drop (S : kS) (mods : List kMd) : kS := (S.1, S.2.1, S.2.2.1, S.2.2.2.filter (k_out S mods))
def k_rin (mods po : List kMd) : Bool := mods.all (fun m => po.any (fun p => (Nat.ble p.1.1 m.1.1 && Nat.ble m.1.2 p.1.2) && (Nat.ble p.2.1 m.2.1 && Nat.ble m.2.2 p.2.2)))
/-- the state behind a call, by one of its ways to end -/
def k_par (A : kA) : Nat → List kE → kA
  | _, [] => []
  | i, g :: t => (i, k_sb A g) :: k_par A (i + 1) t
def k_exs : Nat → kB → kA × kS → kA × kS
  | _, [], r => r
  | a, w :: t, r => k_exs (a + 1) t ((a, (k_new r.2 w.1 w.2).1) :: r.1, (k_new r.2 w.1 w.2).2)
def k_asms (B : kA) : List kE → kS → Option kS
  | [], S => some S
  | e :: t, S => match k_asm S (k_sb B e) with
    | some T => k_asms B t T
    | none => none
def k_anes (B : kA) : List kE → kS → Option kS
  | [], S => some S
  | e :: t, S => match k_ane S (k_sb B e) with
    | some T => k_anes B t T
    | none => none
def k_hsb (B : kA) (C : List kH) : List kH := C.map (fun q => ((k_sb B q.1.1, k_sb B q.1.2), k_sb B q.2))
def k_vl (B : kA) (kd : Nat) (e : kE) : List kV := cond (Nat.ble 3 kd) [] [(kd, k_sb B e)]
def k_af2 (al : kAl) (r : kA × kS) : List (List kV × kS) := match k_asms r.1 al.1.2.1 r.2 with
  | none => []
  | some T => match k_anes r.1 al.1.2.2.1 T with
    | none => []
    | some T2 => [(k_vl r.1 al.2.1 al.2.2, (T2.1, T2.2.1, T2.2.2.1, k_hsb r.1 al.1.2.2.2 ++ T2.2.2.2))]
def k_aft (S : kS) (A : kA) (gh : List kE) (al : kAl) : Option (List (List kV × kS)) := cond (gh.all (fun g => k_wfe S.1.length (k_sb A g)) && k_wfA gh.length al) (some (k_af2 al (k_exs gh.length (al.1.1.drop gh.length) (k_par A 0 gh, S)))) none
section KCL
variable {E : pM} {N : kN} {D : kDD} {σ : Nat → Int} {M M' : pM} {S : kS} {mods po : List kMd}
theorem k_args_ok {n : Nat} : ∀ {t : List kV} {st : List Value} (i : Nat), kRT E n σ t st → kRL E n σ (k_args i t) (lv_args i st)
  | [], [], _, _ => fun j q h => by cases h
  | q :: t, v :: st, i, h => by
    intro j w hw
    have hi : (cond (Nat.beq q.1 1) (i + 2) (i + 1)) = (if v.category = 2 then i + 2 else i + 1) := by
      have hc := h.1.2.cat2
      by_cases h2 : v.category = 2
      · rw [if_pos h2]
        rw [h2] at hc
        rw [← hc]
        rfl
      · rw [if_neg h2]
        have : Nat.beq v.category 2 = false := by
          cases hb : Nat.beq v.category 2 with
          | false => rfl
          | true => exact absurd (pm_beq hb) h2
        rw [this] at hc
        rw [← hc]
        rfl
    have hw : pm_lk ((i, q) :: k_args (cond (Nat.beq q.1 1) (i + 2) (i + 1)) t) j = some w := hw
    show ∃ v', pm_lk ((i, v) :: lv_args (if v.category = 2 then i + 2 else i + 1) st) j = some v' ∧ _
    rw [hi] at hw
    unfold pm_lk at hw ⊢
    cases hb : Nat.beq i j with
    | true =>
      simp only [hb, cond_true] at hw ⊢
      cases hw
      exact ⟨v, rfl, h.1⟩
    | false =>
      simp only [hb, cond_false] at hw ⊢
      exact k_args_ok _ h.2 j w hw
  | [], _ :: _, _, h => h.elim
  | _ :: _, [], _, h => h.elim
theorem k_cat_ok {n : Nat} : ∀ {t : List kV} {st : List Value}, kRT E n σ t st → pm_cat st = k_cat t
  | [], [], _ => rfl
  | q :: t, v :: st, h => by
    have ih := k_cat_ok h.2
    have hc := h.1.2.cat2
    unfold pm_cat at ih ⊢
    rw [List.map_cons, List.sum_cons, ih]
    show v.category + k_cat t = cond (Nat.beq q.1 1) 2 1 + k_cat t
    rcases lv_cat v with h1 | h1
    · rw [h1] at hc ⊢
      rw [← hc]
      rfl
    · rw [h1] at hc ⊢
      rw [← hc]
      rfl
  | [], _ :: _, h => h.elim
  | _ :: _, [], h => h.elim
theorem k_rin_ok (h : kSame mods M M') (hr : k_rin mods po = true) : kSame po M M' := by
  refine ⟨h.1, fun a c hc => ?_⟩
  obtain ⟨c', e1, e2, e3, e4⟩ := h.2 a c hc
  refine ⟨c', e1, e2, e3, fun j hj => e4 j (fun q hq hin => ?_)⟩
  have h1 := List.all_eq_true.mp hr q hq
  obtain ⟨p, hp, h2⟩ := List.any_eq_true.mp h1
  simp only [Bool.and_eq_true] at h2
  obtain ⟨⟨h2, h3⟩, h4, h5⟩ := h2
  have h2 := Nat.le_of_ble_eq_true h2
  have h3 := Nat.le_of_ble_eq_true h3
  have h4 := Nat.le_of_ble_eq_true h4
  have h5 := Nat.le_of_ble_eq_true h5
  refine hj p hp ?_
  unfold kInR at hin ⊢
  omega
theorem k_drop_ok (h : kRS N σ S M) (hs : kSame mods M M') : kRS N σ (k_drop S mods) M' := by
  have hkeep := h
  obtain ⟨g0, gb, gf, gn, gc, gs⟩ := h
  refine ⟨g0, gb, gf, gn, fun q hq => ?_, gs.1, gs.2.1, fun q hq => gs.2.2 q (List.mem_filter.mp hq).1⟩
  obtain ⟨h1, h2⟩ := List.mem_filter.mp hq
  have a1 := k_lo_le gb q.1.1
  have a2 := k_hi_ge gb q.1.1
  have a3 := k_lo_le gb q.1.2
  have a4 := k_hi_ge gb q.1.2
  unfold k_out at h2
  cases hn : decide (k_hi S.1 q.1.1 < 0) with
  | true =>
    rw [hn, cond_true] at h2
    have hn := of_decide_eq_true hn
    exact k_vkp_ok hkeep hs h1 (by omega) h2
  | false =>
    rw [hn, cond_false] at h2
    obtain ⟨h3, h4⟩ := Bool.and_eq_true_iff.mp h2
    have h3 := of_decide_eq_true h3
    refine ⟨fun h0 => ?_, fun h0 => by omega⟩
    obtain ⟨a, j, c, x, e1, e2, e3, e4, e5⟩ := (gc q h1).1 h0
    obtain ⟨c', f1, f2, f3, f4⟩ := hs.2 a c e3
    refine ⟨a, j, c', x, e1, e2, f1, ?_, e5⟩
    rw [f4 j (fun m hm hin => ?_)]
    · exact e4
    · have h3 := List.all_eq_true.mp h4 m hm
      simp only [Bool.or_eq_true, decide_eq_true_eq] at h3
      unfold kInR at hin
      omega
theorem kRT.app {n : Nat} : ∀ {t t' : List kV} {r r' : List Value}, kRT E n σ t r → kRT E n σ t' r' → kRT E n σ (t ++ t') (r ++ r')
  | [], _, [], _, _, h => h
  | _ :: _, _, _ :: _, _, h1, h2 => ⟨h1.1, kRT.app h1.2 h2⟩
  | [], _, _ :: _, _, h, _ => h.elim
  | _ :: _, _, [], _, h, _ => h.elim
theorem k_at_sc {n : Nat} {B : kA} (h : ∀ q ∈ B, kSc n q.2) (a : Nat) : kSc n (k_at B a) := by
  unfold k_at
  split
  · rename_i e he
    exact h _ (pm_lk_mem he)
  · exact kSc_c
theorem k_sb_sc {n : Nat} {B : kA} (h : ∀ q ∈ B, kSc n q.2) (e : kE) : kSc n (k_sb B e) := by
  unfold k_sb
  refine kSc_add kSc_c ?_
  generalize e.2 = l
  induction l with
  | nil => exact kSc_c
  | cons q t ih => exact kSc_add (kSc_mul (k_at_sc h q.1)) ih
theorem pm_lk_cons {α : Type} (a : Nat) (e : α) (B : List (Nat × α)) (b : Nat) : pm_lk ((a, e) :: B) b = cond (Nat.beq a b) (some e) (pm_lk B b) := rfl
theorem k_par_at {A : kA} : ∀ (gh : List kE) (i : Nat) (b : Nat) (g : kE), gh[b]? = some g → k_at (k_par A i gh) (i + b) = k_sb A g
  | [], _, _, _, h => by cases h
  | g :: t, i, 0, g', h => by
    cases h
    unfold k_at k_par
    rw [pm_lk_cons, show Nat.beq i (i + 0) = true from Nat.beq_refl i]
    rfl
  | g :: t, i, b + 1, g', h => by
    have ih := k_par_at (A := A) t (i + 1) b g' h
    unfold k_at at ih ⊢
    unfold k_par
    rw [pm_lk_cons]
    have : Nat.beq i (i + (b + 1)) = false := by
      cases hb : Nat.beq i (i + (b + 1)) with
      | false => rfl
      | true => exact absurd (pm_beq hb) (by omega)
    rw [this, cond_false]
    rw [show i + (b + 1) = i + 1 + b by omega]
    exact ih
theorem k_par_sc {n : Nat} {A : kA} : ∀ (gh : List kE) (i : Nat), gh.all (fun g => k_wfe n (k_sb A g)) = true → ∀ q ∈ k_par A i gh, kSc n q.2
  | [], _, _, q, hq => by cases hq
  | g :: t, i, h, q, hq => by
    obtain ⟨h1, h2⟩ := Bool.and_eq_true_iff.mp h
    unfold k_par at hq
    rcases List.mem_cons.mp hq with rfl | hq
    · exact k_wfe_ok h1
    · exact k_par_sc t (i + 1) h2 q hq
theorem k_exs_ok {x : Nat → Int} : ∀ (t : kB) (a : Nat) (B : kA) (S : kS) (σ : Nat → Int), kRS N σ S M → (∀ q ∈ B, kSc S.1.length q.2) → (∀ (i : Nat) (w : Int × Int), t[i]? = some w → w.1 ≤ x (a + i) ∧ x (a + i) ≤ w.2) →
    ∃ τ, kAgr S.1.length σ τ ∧ S.1.length ≤ (k_exs a t (B, S)).2.1.length ∧ kRS N τ (k_exs a t (B, S)).2 M ∧ (∀ q ∈ (k_exs a t (B, S)).1, kSc (k_exs a t (B, S)).2.1.length q.2) ∧ (∀ i, i < t.length → k_ev τ (k_at (k_exs a t (B, S)).1 (a + i)) = x (a + i)) ∧ ∀ b, b < a → k_at (k_exs a t (B, S)).1 b = k_at B b
  | [], a, B, S, σ, h, hB, hx => ⟨σ, fun _ _ => rfl, Nat.le_refl _, h, hB, fun i hi => absurd hi (Nat.not_lt_zero i), fun _ _ => rfl⟩
  | w :: t, a, B, S, σ, h, hB, hx => by
    have h0 := hx 0 w rfl
    obtain ⟨τ, t1, t2, t3, t4, t5⟩ := k_new_ok h (x := x (a + 0)) (lo := w.1) (hi := w.2) h0.1 h0.2
    have hat : ∀ b, k_at ((a, (k_new S w.1 w.2).1) :: B) b = cond (Nat.beq a b) (k_new S w.1 w.2).1 (k_at B b) := by
      intro b
      unfold k_at
      rw [pm_lk_cons]
      cases hb : Nat.beq a b with
      | true => rfl
      | false => rfl
    obtain ⟨τ', u1, u2, u3, u4, u5, u6⟩ := k_exs_ok t (a + 1) ((a, (k_new S w.1 w.2).1) :: B) (k_new S w.1 w.2).2 τ t3 (fun q hq => by
      rcases List.mem_cons.mp hq with rfl | hq
      · exact t5
      · exact (hB q hq).mono t2) (fun i w' hw' => by
        have := hx (i + 1) w' hw'
        rw [show a + 1 + i = a + (i + 1) by omega]
        exact this)
    refine ⟨τ', fun b hb => (u1 b (Nat.lt_of_lt_of_le hb t2)).trans (t1 b hb), Nat.le_trans t2 u2, u3, u4, fun i hi => ?_, fun b hb => ?_⟩
    · match i, hi with
      | 0, _ =>
        show k_ev τ' (k_at (k_exs (a + 1) t _).1 (a + 0)) = _
        rw [u6 (a + 0) (by omega), hat, show Nat.beq a (a + 0) = true from Nat.beq_refl a, cond_true, k_ev_agree u1 t5, t4]
      | i + 1, hi =>
        have := u5 i (by simpa using hi)
        rw [show a + (i + 1) = a + 1 + i by omega]
        exact this
    · show k_at (k_exs (a + 1) t _).1 b = _
      rw [u6 b (by omega), hat]
      have : Nat.beq a b = false := by
        cases hb' : Nat.beq a b with
        | false => rfl
        | true => exact absurd (pm_beq hb') (by omega)
      rw [this, cond_false]
theorem k_asms_ok {B : kA} : ∀ (l : List kE) (S : kS), kRS N σ S M → (∀ q ∈ B, kSc S.1.length q.2) → (∀ e ∈ l, 0 ≤ k_ev σ (k_sb B e)) → ∃ T, k_asms B l S = some T ∧ T.1.length = S.1.length ∧ kRS N σ T M
  | [], S, h, _, _ => ⟨S, rfl, rfl, h⟩
  | e :: t, S, h, hB, he => by
    obtain ⟨T, e1, e2, e3⟩ := k_asm_ok h (k_sb_sc hB e) (he e List.mem_cons_self)
    obtain ⟨T2, f1, f2, f3⟩ := k_asms_ok t T e3 (fun q hq => by rw [e2]; exact hB q hq) (fun e' he' => he e' (List.mem_cons_of_mem _ he'))
    exact ⟨T2, by unfold k_asms; rw [e1]; exact f1, f2.trans e2, f3⟩
theorem k_anes_ok {B : kA} : ∀ (l : List kE) (S : kS), kRS N σ S M → (∀ q ∈ B, kSc S.1.length q.2) → (∀ e ∈ l, k_ev σ (k_sb B e) ≠ 0) → ∃ T, k_anes B l S = some T ∧ T.1.length = S.1.length ∧ kRS N σ T M
  | [], S, h, _, _ => ⟨S, rfl, rfl, h⟩
  | e :: t, S, h, hB, he => by
    obtain ⟨T, e1, e2, e3⟩ := k_ane_ok h (k_sb_sc hB e) (he e List.mem_cons_self)
    obtain ⟨T2, f1, f2, f3⟩ := k_anes_ok t T e3 (fun q hq => by rw [e2]; exact hB q hq) (fun e' he' => he e' (List.mem_cons_of_mem _ he'))
    exact ⟨T2, by unfold k_anes; rw [e1]; exact f1, f2.trans e2, f3⟩
theorem k_aft_ok {A : kA} {n : Nat} {gh : List kE} {al : kAl} {G : List (List kV × kS)} {τ0 : Nat → Int} {v : Option Value} (h : kRS N σ S M) (hgn : ∀ g ∈ gh, kSc n g) (hp : ∀ (i : Nat) (z : Int), (gh.map (k_ev (k_si σ A n)))[i]? = some z → τ0 i = z) (h0 : kRS N τ0 al.1 M) (hv : kRetA E τ0 al.2.1 al.2.2 v) (hG : k_aft S A gh al = some G) : ∃ r ∈ G, ∃ τ, kAgr S.1.length σ τ ∧ S.1.length ≤ r.2.1.length ∧ kRS N τ r.2 M ∧ kRT E r.2.1.length τ r.1 v.toList := by
  unfold k_aft at hG
  obtain ⟨h1, hG⟩ := pm_cs hG
  cases hG
  obtain ⟨h1, h2⟩ := Bool.and_eq_true_iff.mp h1
  unfold k_wfA at h2
  simp only [Bool.and_eq_true] at h2
  obtain ⟨w1, w2, w3, w4⟩ := h2
  have w3 := pm_blt w3
  have w4 := Nat.le_of_ble_eq_true w4
  obtain ⟨τ, t1, t2, t3, t4, t5, t6⟩ := k_exs_ok (x := τ0) (al.1.1.drop gh.length) gh.length (k_par A 0 gh) S σ h (k_par_sc gh 0 h1) (fun i w hw => by
    have hw : al.1.1[gh.length + i]? = some w := by rw [List.getElem?_drop] at hw; exact hw
    have := h0.2.1 (gh.length + i)
    rw [List.getD_eq_getElem?_getD, hw] at this
    exact this)
  generalize k_exs gh.length (al.1.1.drop gh.length) (k_par A 0 gh, S) = R at t2 t3 t4 t5 t6 ⊢
  have hval : ∀ b, b < al.1.1.length → k_ev τ (k_at R.1 b) = τ0 b := by
    intro b hb
    by_cases hb2 : b < gh.length
    · have hg : gh[b]? = some gh[b] := List.getElem?_eq_getElem hb2
      have e1 := k_par_at (A := A) gh 0 b _ hg
      rw [Nat.zero_add] at e1
      have hz := hp b (k_ev (k_si σ A n) gh[b]) (by rw [List.getElem?_map, hg]; rfl)
      rw [t6 b hb2, e1, hz, ← k_sb_ev (hgn _ (List.mem_of_getElem? hg))]
      exact k_ev_agree t1 (k_wfe_ok (List.all_eq_true.mp h1 _ (List.mem_of_getElem? hg)))
    · have := t5 (b - gh.length) (by rw [List.length_drop]; omega)
      rw [show gh.length + (b - gh.length) = b by omega] at this
      exact this
  have hwd : ∀ e, kSc al.1.1.length e → k_ev τ (k_sb R.1 e) = k_ev τ0 e := by
    intro e he
    rw [k_sb_ev he]
    refine k_ev_agree (fun a ha => ?_) he
    unfold k_si
    rw [if_pos ha]
    exact hval a ha
  have hsc := k_wfS_ok w1
  obtain ⟨T, e1, e2, e3⟩ := k_asms_ok al.1.2.1 R.2 t3 t4 (fun e he => by rw [hwd e (hsc.1 e he)]; exact h0.2.2.1 e he)
  have t4' : ∀ q ∈ R.1, kSc T.1.length q.2 := fun q hq => by rw [e2]; exact t4 q hq
  obtain ⟨T2, f1, f2, f3⟩ := k_anes_ok al.1.2.2.1 T e3 t4' (fun e he => by rw [hwd e (hsc.2.1 e he)]; exact h0.2.2.2.1 e he)
  have t4'' : ∀ q ∈ R.1, kSc T2.1.length q.2 := fun q hq => by rw [f2]; exact t4' q hq
  refine ⟨(k_vl R.1 al.2.1 al.2.2, (T2.1, T2.2.1, T2.2.2.1, k_hsb R.1 al.1.2.2.2 ++ T2.2.2.2)), ?_, τ, t1, by show _ ≤ T2.1.length; rw [f2, e2]; exact t2, ?_, ?_⟩
  · unfold k_af2
    rw [e1]
    simp only [f1]
    exact List.mem_singleton.mpr rfl
  · obtain ⟨g0, gb, gf, gn, gc, gs⟩ := f3
    refine ⟨g0, gb, gf, gn, fun q hq => ?_, gs.1, gs.2.1, fun q hq => ?_⟩
    · rcases List.mem_append.mp hq with hq | hq
      · obtain ⟨q', hq', rfl⟩ := List.mem_map.mp hq
        obtain ⟨s1, s2, s3⟩ := hsc.2.2 q' hq'
        show kHas N M (k_ev τ (k_sb R.1 q'.1.1)) (k_ev τ (k_sb R.1 q'.1.2)) (k_ev τ (k_sb R.1 q'.2))
        rw [hwd _ s1, hwd _ s2, hwd _ s3]
        exact h0.2.2.2.2.1 q' hq'
      · exact gc q hq
    · rcases List.mem_append.mp hq with hq | hq
      · obtain ⟨q', hq', rfl⟩ := List.mem_map.mp hq
        exact ⟨k_sb_sc t4'' _, k_sb_sc t4'' _, k_sb_sc t4'' _⟩
      · exact gs.2.2 q hq
  · show kRT E T2.1.length τ (k_vl R.1 al.2.1 al.2.2) v.toList
    unfold k_vl
    cases hk : Nat.ble 3 al.2.1 with
    | true =>
      rw [cond_true, hv.1 (Nat.le_of_ble_eq_true hk)]
      exact trivial
    | false =>
      rw [cond_false]
      have hlt : al.2.1 < 3 := Nat.lt_of_not_le fun hle => by rw [Nat.ble_eq_true_of_le hle] at hk; cases hk
      obtain ⟨w, rfl, hw⟩ := hv.2 hlt
      refine ⟨⟨k_sb_sc t4'' _, ?_⟩, trivial⟩
      show kVal E τ (al.2.1, k_sb R.1 al.2.2) w
      unfold kVal at hw ⊢
      simp only [hwd _ (k_wfe_ok w2)]
      exact hw
end KCL
end
