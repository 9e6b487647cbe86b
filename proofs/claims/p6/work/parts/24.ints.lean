noncomputable section
/-! steps on numbers -/
abbrev kR : Type := kS × Nat × kLs × List kV
def kNx (E : pM) (N : kN) (mods : List kMd) (D : kDD) (n : Nat) (σ : Nat → Int) (M : pM) (L : List kR) (z : pS) : Prop := ∃ r ∈ L, ∃ τ, kAgr n σ τ ∧ n ≤ r.1.1.length ∧ kRS N τ r.1 z.2.2.2 ∧ r.2.1 = z.1 ∧ kRL E r.1.1.length τ r.2.2.1 z.2.1 ∧ kRT E r.1.1.length τ r.2.2.2 z.2.2.1 ∧ kSame mods M z.2.2.2 ∧ kMem D z.2.2.2
def kI0 : Int := -2147483648
def kI1 : Int := 2147483647
theorem kI_rng (x : Int32) : kI0 ≤ x.toInt ∧ x.toInt ≤ kI1 := by
  have h1 := Int32.le_toInt x
  have h2 := Int32.toInt_lt x
  unfold kI0 kI1
  omega
def k_1 (S : kS) (pc : Nat) (kl : kLs) (kt : List kV) : Option (List kR) := some [(S, pc, kl, kt)]
def k_fr (S : kS) (lo hi : Int) (pc : Nat) (kl : kLs) (kt : List kV) : Option (List kR) := some [((k_new S lo hi).2, pc, kl, (0, (k_new S lo hi).1) :: kt)]
/-- a sum that may leave the ints by little: in range, beyond, below -/
def k_frl (o : Option kS) (pc : Nat) (kl : kLs) (kt : List kV) : List kR := match o with
  | some T => [((k_new T kI0 kI1).2, pc, kl, (0, (k_new T kI0 kI1).1) :: kt)]
  | none => []
def k_inl (o : Option kS) (e : kE) (pc : Nat) (kl : kLs) (kt : List kV) : List kR := match o with
  | some T => (match k_asm T (k_sub (kc kI1) e) with
    | some T2 => [(T2, pc, kl, (0, e) :: kt)]
    | none => [])
  | none => []
def k_lin (S : kS) (e : kE) (pc : Nat) (kl : kLs) (kt : List kV) : Option (List kR) := cond (k_fit0 S.1 S.2.1 kI0 kI1 e) (k_1 S pc kl ((0, e) :: kt))
  (cond (decide (kI0 - 100000 ≤ k_lo S.1 e) && decide (k_hi S.1 e ≤ kI1 + 100000)) (some (k_inl (k_asm S (k_sub e (kc kI0))) e pc kl kt ++ (k_frl (k_asm S (k_sub e (kc (kI1 + 1)))) pc kl kt ++ k_frl (k_asm S (k_sub (kc (kI0 - 1)) e)) pc kl kt))) (k_fr S kI0 kI1 pc kl kt))
section KNX
variable {E : pM} {N : kN} {mods : List kMd} {D : kDD} {σ : Nat → Int} {M : pM} {S : kS} {kl : kLs} {kt : List kV} {ls : pL} {st : List Value} {pc : Nat} {L : List kR}
theorem kNx.one (h : kRS N σ S M) (hM : kMem D M) (hl : kRL E S.1.length σ kl ls) (ht : kRT E S.1.length σ kt st) (hL : k_1 S pc kl kt = some L) : kNx E N mods D S.1.length σ M L (pc, ls, st, M) := by
  cases hL
  exact ⟨_, List.mem_singleton.mpr rfl, σ, fun _ _ => rfl, Nat.le_refl _, h, rfl, hl, ht, kSame.rf, hM⟩
theorem kNx.fr {lo hi : Int} {x : Int32} (h : kRS N σ S M) (hM : kMem D M) (hl : kRL E S.1.length σ kl ls) (ht : kRT E S.1.length σ kt st) (h1 : lo ≤ x.toInt) (h2 : x.toInt ≤ hi) (hL : k_fr S lo hi pc kl kt = some L) : kNx E N mods D S.1.length σ M L (pc, ls, .int x :: st, M) := by
  cases hL
  obtain ⟨τ, t1, t2, t3, t4, t5⟩ := k_new_ok h h1 h2
  exact ⟨_, List.mem_singleton.mpr rfl, τ, t1, t2, t3, rfl, hl.agr t1 t2, ⟨⟨t5, x, rfl, t4.symm⟩, ht.agr t1 t2⟩, kSame.rf, hM⟩
theorem kNx.mono {n : Nat} {L L' : List kR} {z : pS} (h : kNx E N mods D n σ M L z) (hs : ∀ r ∈ L, r ∈ L') : kNx E N mods D n σ M L' z := by
  obtain ⟨r, hr, k⟩ := h
  exact ⟨r, hs r hr, k⟩
theorem kNx.frl {T : kS} {x : Int32} (h : kRS N σ T M) (hlen : T.1.length = S.1.length) (hM : kMem D M) (hl : kRL E S.1.length σ kl ls) (ht : kRT E S.1.length σ kt st) : kNx E N mods D S.1.length σ M (k_frl (some T) pc kl kt) (pc, ls, .int x :: st, M) := by
  rw [← hlen] at hl ht ⊢
  exact kNx.fr (L := k_frl (some T) pc kl kt) h hM hl ht (kI_rng x).1 (kI_rng x).2 rfl
theorem kNx.lin {e : kE} {x : Int32} (h : kRS N σ S M) (hM : kMem D M) (hl : kRL E S.1.length σ kl ls) (ht : kRT E S.1.length σ kt st) (hs : kSc S.1.length e) (hx : kI0 ≤ k_ev σ e → k_ev σ e ≤ kI1 → x.toInt = k_ev σ e) (hL : k_lin S e pc kl kt = some L) : kNx E N mods D S.1.length σ M L (pc, ls, .int x :: st, M) := by
  unfold k_lin at hL
  cases hf : k_fit0 S.1 S.2.1 kI0 kI1 e with
  | true =>
    rw [hf, cond_true] at hL
    have := k_fit0_ok h.2.1 h.2.2.1 hf
    exact kNx.one (kt := (0, e) :: kt) (st := .int x :: st) h hM hl ⟨⟨hs, x, rfl, hx this.1 this.2⟩, ht⟩ hL
  | false =>
    rw [hf, cond_false] at hL
    cases hc : (decide (kI0 - 100000 ≤ k_lo S.1 e) && decide (k_hi S.1 e ≤ kI1 + 100000)) with
    | false =>
      rw [hc, cond_false] at hL
      exact kNx.fr h hM hl ht (kI_rng x).1 (kI_rng x).2 hL
    | true =>
      rw [hc, cond_true] at hL
      cases hL
      by_cases h1 : kI1 < k_ev σ e
      · obtain ⟨T, e1, e2, e3⟩ := k_asm_ok h (e := k_sub e (kc (kI1 + 1))) (kSc_sub hs kSc_c) (by rw [k_ev_sub, k_ev_c]; omega)
        rw [e1]
        exact (kNx.frl e3 e2 hM hl ht).mono fun r hr => List.mem_append.mpr (Or.inr (List.mem_append.mpr (Or.inl hr)))
      · by_cases h2 : k_ev σ e < kI0
        · obtain ⟨T, e1, e2, e3⟩ := k_asm_ok h (e := k_sub (kc (kI0 - 1)) e) (kSc_sub kSc_c hs) (by rw [k_ev_sub, k_ev_c]; omega)
          rw [e1]
          exact (kNx.frl e3 e2 hM hl ht).mono fun r hr => List.mem_append.mpr (Or.inr (List.mem_append.mpr (Or.inr hr)))
        · obtain ⟨T, e1, e2, e3⟩ := k_asm_ok h (e := k_sub e (kc kI0)) (kSc_sub hs kSc_c) (by rw [k_ev_sub, k_ev_c]; omega)
          obtain ⟨T2, f1, f2, f3⟩ := k_asm_ok e3 (e := k_sub (kc kI1) e) (by rw [e2]; exact kSc_sub kSc_c hs) (by rw [k_ev_sub, k_ev_c]; omega)
          have hl2 : T2.1.length = S.1.length := f2.trans e2
          rw [e1]
          refine kNx.mono (L := [(T2, pc, kl, (0, e) :: kt)]) ?_ fun r hr => List.mem_append.mpr (Or.inl (by unfold k_inl; simp only [f1]; exact hr))
          rw [← hl2] at hl ht hs ⊢
          exact kNx.one (kt := (0, e) :: kt) (st := .int x :: st) f3 hM hl ⟨⟨hs, x, rfl, hx (by omega) (by omega)⟩, ht⟩ rfl
end KNX
theorem kI_bmod {z : Int} (h1 : kI0 ≤ z) (h2 : z ≤ kI1) : z.bmod 4294967296 = z := by
  unfold kI0 at h1
  unfold kI1 at h2
  rw [Int.bmod_def]
  omega
theorem kI_add {x y : Int32} (h1 : kI0 ≤ x.toInt + y.toInt) (h2 : x.toInt + y.toInt ≤ kI1) : (x + y).toInt = x.toInt + y.toInt := by
  rw [Int32.toInt_add]
  exact kI_bmod h1 h2
theorem kI_sub {x y : Int32} (h1 : kI0 ≤ x.toInt - y.toInt) (h2 : x.toInt - y.toInt ≤ kI1) : (x - y).toInt = x.toInt - y.toInt := by
  rw [Int32.toInt_sub]
  exact kI_bmod h1 h2
theorem kI_mul {x y : Int32} (h1 : kI0 ≤ x.toInt * y.toInt) (h2 : x.toInt * y.toInt ≤ kI1) : (x * y).toInt = x.toInt * y.toInt := by
  rw [Int32.toInt_mul]
  exact kI_bmod h1 h2
theorem kI_neg {x : Int32} (h1 : kI0 ≤ -x.toInt) (h2 : -x.toInt ≤ kI1) : (-x).toInt = -x.toInt := by
  rw [Int32.toInt_neg]
  exact kI_bmod h1 h2
theorem kI_div {x y : Int32} (h1 : kI0 ≤ x.toInt.tdiv y.toInt) (h2 : x.toInt.tdiv y.toInt ≤ kI1) : (x / y).toInt = x.toInt.tdiv y.toInt := by
  rw [Int32.toInt_div]
  exact kI_bmod h1 h2
/-! stores into locals -/
def k_long (kl : kLs) (i : Nat) : Bool := match pm_lk kl i with
  | some q => Nat.beq q.1 1
  | none => false
def k_s1 (kl : kLs) (i : Nat) (q : kV) : kLs := (i, q) :: kl.filter (fun p => !(Nat.beq p.1 i) && !(Nat.beq (p.1 + 1) i && k_long kl p.1))
def k_s2 (kl : kLs) (i : Nat) (q : kV) : kLs := (i, q) :: kl.filter (fun p => !(Nat.beq p.1 i) && (!(Nat.beq p.1 (i + 1)) && !(Nat.beq (p.1 + 1) i && k_long kl p.1)))
theorem pm_lk_fil {α : Type} {f : Nat × α → Bool} {i : Nat} {v : α} : ∀ {l : List (Nat × α)}, pm_lk l i = some v → f (i, v) = true → pm_lk (l.filter f) i = some v
  | [], h, _ => by cases h
  | q :: t, h, hf => by
    unfold pm_lk at h
    cases hb : Nat.beq q.1 i with
    | true =>
      rw [hb, cond_true] at h
      cases h
      have e := pm_beq hb
      rw [List.filter_cons_of_pos (by rw [show q = (i, q.2) by rw [← e]]; exact hf)]
      unfold pm_lk
      rw [hb, cond_true]
    | false =>
      rw [hb, cond_false] at h
      have ih := pm_lk_fil h hf
      cases hq : f q with
      | true =>
        rw [List.filter_cons_of_pos hq]
        unfold pm_lk
        rw [hb, cond_false]
        exact ih
      | false =>
        rw [List.filter_cons_of_neg (by rw [hq]; exact Bool.noConfusion)]
        exact ih
theorem pm_lk_unf {α : Type} {g : Nat → Bool} {i : Nat} {v : α} : ∀ {l : List (Nat × α)}, pm_lk (l.filter (fun q => g q.1)) i = some v → pm_lk l i = some v ∧ g i = true
  | [], h => by cases h
  | q :: t, h => by
    cases hq : g q.1 with
    | true =>
      have e : List.filter (fun p : Nat × α => g p.1) (q :: t) = q :: List.filter (fun p : Nat × α => g p.1) t := List.filter_cons_of_pos hq
      rw [e] at h
      unfold pm_lk at h ⊢
      cases hb : Nat.beq q.1 i with
      | true =>
        rw [hb, cond_true] at h
        rw [cond_true]
        exact ⟨h, by rw [← pm_beq hb]; exact hq⟩
      | false =>
        rw [hb, cond_false] at h
        rw [cond_false]
        exact pm_lk_unf h
    | false =>
      have e : List.filter (fun p : Nat × α => g p.1) (q :: t) = List.filter (fun p : Nat × α => g p.1) t := List.filter_cons_of_neg (by show ¬ g q.1 = true; rw [hq]; exact Bool.noConfusion)
      rw [e] at h
      obtain ⟨h1, h2⟩ := pm_lk_unf h
      refine ⟨?_, h2⟩
      unfold pm_lk
      cases hb : Nat.beq q.1 i with
      | true =>
        rw [pm_beq hb, h2] at hq
        cases hq
      | false => exact h1
theorem kVal_cat {E : pM} {σ : Nat → Int} {q : kV} {v : Value} (h : kVal E σ q v) : Nat.beq q.1 1 = (v.category == 2) := by
  obtain ⟨k, e⟩ := q
  unfold kVal at h
  match k, h with
  | 0, h =>
    obtain ⟨x, rfl, -⟩ := h
    rfl
  | 1, h =>
    obtain ⟨x, rfl, -⟩ := h
    rfl
  | 2, h =>
    obtain ⟨x, rfl, -⟩ := h
    rfl
  | k + 3, h =>
    obtain ⟨x, rfl⟩ := h
    rfl
theorem pm_bq (a b : Nat) : (a == b) = Nat.beq a b := by
  cases h : Nat.beq a b with
  | true =>
    rw [pm_beq h]
    exact beq_self_eq_true b
  | false =>
    rw [beq_eq_false_iff_ne]
    intro e
    rw [e, Nat.beq_refl] at h
    cases h
theorem kRL.s1 {E : pM} {n : Nat} {σ : Nat → Int} {kl : kLs} {ls : pL} {i : Nat} {q : kV} {v : Value} (h : kRL E n σ kl ls) (hq : kRV E n σ q v) : kRL E n σ (k_s1 kl i q) (pm_s1 ls i v) := by
  intro j w hw
  unfold k_s1 at hw
  unfold pm_s1
  unfold pm_lk at hw ⊢
  cases hb : Nat.beq i j with
  | true =>
    simp only [hb, cond_true] at hw ⊢
    cases hw
    exact ⟨v, rfl, hq⟩
  | false =>
    simp only [hb, cond_false] at hw ⊢
    obtain ⟨h1, h2⟩ := pm_lk_unf (g := fun p => !(Nat.beq p i) && !(Nat.beq (p + 1) i && k_long kl p)) hw
    obtain ⟨u, h3, h4⟩ := h j w h1
    refine ⟨u, pm_lk_fil h3 ?_, h4⟩
    have hne : (j == i) = false := by
      rw [beq_eq_false_iff_ne]
      intro e
      rw [e, Nat.beq_refl] at hb
      cases hb
    have hl : k_long kl j = (u.category == 2) := by
      unfold k_long
      rw [h1]
      exact kVal_cat h4.2
    simp only [Bool.and_eq_true] at h2
    rw [hl] at h2
    show (!(j == i) && !(j + 1 == i && u.category == 2)) = true
    rw [hne, pm_bq (j + 1) i]
    exact h2.2
theorem kRL.s2 {E : pM} {n : Nat} {σ : Nat → Int} {kl : kLs} {ls : pL} {i : Nat} {q : kV} {v : Value} (h : kRL E n σ kl ls) (hq : kRV E n σ q v) : kRL E n σ (k_s2 kl i q) (pm_s2 ls i v) := by
  intro j w hw
  unfold k_s2 at hw
  unfold pm_s2
  unfold pm_lk at hw ⊢
  cases hb : Nat.beq i j with
  | true =>
    simp only [hb, cond_true] at hw ⊢
    cases hw
    exact ⟨v, rfl, hq⟩
  | false =>
    simp only [hb, cond_false] at hw ⊢
    obtain ⟨h1, h2⟩ := pm_lk_unf (g := fun p => !(Nat.beq p i) && (!(Nat.beq p (i + 1)) && !(Nat.beq (p + 1) i && k_long kl p))) hw
    obtain ⟨u, h3, h4⟩ := h j w h1
    refine ⟨u, pm_lk_fil h3 ?_, h4⟩
    have hne : (j == i) = false := by
      rw [beq_eq_false_iff_ne]
      intro e
      rw [e, Nat.beq_refl] at hb
      cases hb
    have hl : k_long kl j = (u.category == 2) := by
      unfold k_long
      rw [h1]
      exact kVal_cat h4.2
    simp only [Bool.and_eq_true] at h2
    rw [hl] at h2
    show (!(j == i) && (!(j == i + 1) && !(j + 1 == i && u.category == 2))) = true
    rw [hne, pm_bq (j + 1) i, pm_bq j (i + 1)]
    simp only [Bool.not_false, Bool.true_and, Bool.and_eq_true]
    exact h2.2
/-! the shape of a stack -/
section KST
variable {E : pM} {n : Nat} {σ : Nat → Int} {t : List kV} {st : List Value} {e e2 : kE}
theorem kRT.cons {q : kV} (h : kRT E n σ (q :: t) st) : ∃ v r, st = v :: r ∧ kRV E n σ q v ∧ kRT E n σ t r := by
  match st, h with
  | v :: r, h => exact ⟨v, r, rfl, h.1, h.2⟩
theorem kRT.int (h : kRT E n σ ((0, e) :: t) st) : ∃ (x : Int32) (r : List Value), st = .int x :: r ∧ kSc n e ∧ x.toInt = k_ev σ e ∧ kRT E n σ t r := by
  obtain ⟨v, r, rfl, ⟨h1, x, rfl, h2⟩, h3⟩ := h.cons
  exact ⟨x, r, rfl, h1, h2, h3⟩
theorem kRT.lng (h : kRT E n σ ((1, e) :: t) st) : ∃ (x : Int64) (r : List Value), st = .long x :: r ∧ kSc n e ∧ x.toInt = k_ev σ e ∧ kRT E n σ t r := by
  obtain ⟨v, r, rfl, ⟨h1, x, rfl, hx⟩, h3⟩ := h.cons
  exact ⟨x, r, rfl, h1, hx, h3⟩
theorem kRT.rf (h : kRT E n σ ((2, e) :: t) st) : ∃ (k : Nat) (r : List Value), st = .ref k :: r ∧ kSc n e ∧ (k : Int) = k_ev σ e ∧ k < pmX + E.length ∧ kRT E n σ t r := by
  obtain ⟨v, r, rfl, ⟨h1, k, rfl, h2, h4⟩, h3⟩ := h.cons
  exact ⟨k, r, rfl, h1, h2, h4, h3⟩
end KST
end
