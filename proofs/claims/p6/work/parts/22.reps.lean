noncomputable section
/-! what a symbolic state stands for -/
abbrev kV : Type := Nat × kE
abbrev kH : Type := (kE × kE) × kE
abbrev kS : Type := kB × List kE × List kE × List kH
abbrev kLs : Type := List (Nat × kV)
/-- a stretch of a cell: start, length, period, by residue: kind (0 int, 1 long, 2 a reference, 3 the references from one on, 4 int below the quotient), low, high -/
abbrev kSg : Type := Nat × Nat × Nat × List (Nat × Int × Int)
/-- a cell: tag, length, stretches -/
abbrev kDe : Type := Nat × Nat × List kSg
/-- cells from to, slots from to -/
abbrev kMd : Type := (Nat × Nat) × Nat × Nat
def kVal (E : pM) (σ : Nat → Int) (q : kV) (v : Value) : Prop := match q.1 with
  | 0 => ∃ x : Int32, v = .int x ∧ x.toInt = k_ev σ q.2
  | 1 => ∃ x : Int64, v = .long x ∧ x.toInt = k_ev σ q.2
  | 2 => ∃ n : Nat, v = .ref n ∧ (n : Int) = k_ev σ q.2 ∧ n < pmX + E.length
  | _ => ∃ n : Nat, v = .ref n
def kRV (E : pM) (n : Nat) (σ : Nat → Int) (q : kV) (v : Value) : Prop := kSc n q.2 ∧ kVal E σ q v
def kRT (E : pM) (n : Nat) (σ : Nat → Int) : List kV → List Value → Prop
  | [], [] => True
  | q :: t, v :: r => kRV E n σ q v ∧ kRT E n σ t r
  | _, _ => False
def kRL (E : pM) (n : Nat) (σ : Nat → Int) (kl : kLs) (ls : pL) : Prop := ∀ i q, pm_lk kl i = some q → ∃ v, pm_lk ls i = some v ∧ kRV E n σ q v
def kOkQ (q : Nat × Int × Int) (r n : Nat) (v : Value) : Prop := match q.1 with
  | 0 => ∃ x : Int32, v = .int x ∧ q.2.1 ≤ x.toInt ∧ x.toInt ≤ q.2.2
  | 1 => ∃ x : Int64, v = .long x ∧ q.2.1 ≤ x.toInt ∧ x.toInt ≤ q.2.2
  | 2 => v = .ref q.2.1.toNat
  | 3 => v = .ref (q.2.1.toNat + r)
  | 4 => ∃ x : Int32, v = .int x ∧ q.2.1 ≤ x.toInt ∧ x.toInt ≤ q.2.2 ∧ x.toInt < (n : Int)
  | _ => False
def kOkG (g : kSg) (j : Nat) (v : Value) : Prop := ∃ q, g.2.2.2[(j - g.1) % g.2.2.1]? = some q ∧ kOkQ q (j - g.1) ((j - g.1) / g.2.2.1) v
def kOk (d : kDe) (j : Nat) (v : Value) : Prop := ∀ g ∈ d.2.2, g.1 ≤ j → j < g.1 + g.2.1 → kOkG g j v
/-- stretches lie apart -/
def k_djs : List kSg → Bool
  | [] => true
  | g :: t => t.all (fun h => Nat.ble (g.1 + g.2.1) h.1 || Nat.ble (h.1 + h.2.1) g.1) && k_djs t
theorem k_djs_ok {j : Nat} : ∀ {l : List kSg}, k_djs l = true → ∀ g ∈ l, ∀ h ∈ l, g.1 ≤ j → j < g.1 + g.2.1 → h.1 ≤ j → j < h.1 + h.2.1 → g = h
  | [], _, g, hg => by cases hg
  | r :: t, hl, g, hg => fun h hh a1 a2 b1 b2 => by
    unfold k_djs at hl
    obtain ⟨h1, h2⟩ := Bool.and_eq_true_iff.mp hl
    have key : ∀ x ∈ t, ¬ ((r.1 ≤ j ∧ j < r.1 + r.2.1) ∧ x.1 ≤ j ∧ j < x.1 + x.2.1) := fun x hx hc => by
      have := List.all_eq_true.mp h1 x hx
      rcases Bool.or_eq_true_iff.mp this with h3 | h3
      · have := Nat.le_of_ble_eq_true h3
        omega
      · have := Nat.le_of_ble_eq_true h3
        omega
    rcases List.mem_cons.mp hg with rfl | hg'
    · rcases List.mem_cons.mp hh with rfl | hh'
      · rfl
      · exact (key h hh' ⟨⟨a1, a2⟩, b1, b2⟩).elim
    · rcases List.mem_cons.mp hh with rfl | hh'
      · exact (key g hg' ⟨⟨b1, b2⟩, a1, a2⟩).elim
      · exact k_djs_ok h2 g hg' h hh' a1 a2 b1 b2
/-- what a row of a tag holds -/
def kTy (t : Nat) (v : Value) : Prop := match t with
  | 0 => ∃ x : Int32, v = .int x
  | 1 => ∃ x : Int64, v = .long x
  | 2 => ∃ x : Int32, v = .int x
  | 3 => ∃ x : Int32, v = .int x
  | _ => True
def kCell (d : kDe) (c : pC) : Prop := c.1 = d.1 ∧ c.2.length = d.2.1 ∧ k_djs d.2.2 = true ∧ ∀ j v, c.2[j]? = some v → kTy d.1 v ∧ kOk d j v
/-- what the cells are, in stretches of 16, and how many -/
abbrev kDD : Type := Nat × List (List kDe)
def k_dg (D : kDD) (a : Nat) : Option kDe := match D.2[a / 16]? with
  | some c => c[a % 16]?
  | none => none
def kMem (D : kDD) (M : pM) : Prop := M.length = D.1 ∧ ∀ (a : Nat) (d : kDe), (k_dg D (a)) = some d → ∃ c, M[a]? = some c ∧ kCell d c
/-- the cells outside: the script first -/
def kExt (X : List kDe) (N : kN) (E : pM) : Prop := E.length = X.length + 1 ∧ (∃ sl : List Value, E[0]? = some (0, sl) ∧ sl.length = N.1 ∧ ∀ (j : Nat) (v : Value), sl[j]? = some v → ∃ x : Int32, v = Value.int x ∧ N.2 j = x.toInt) ∧ ∀ (a : Nat) (d : kDe), X[a]? = some d → ∃ c, E[a + 1]? = some c ∧ kCell d c
def kHasR (M : pM) (c s v : Int) : Prop := ∃ (a j : Nat) (q : pC) (w : Value), (a : Int) = c ∧ (j : Int) = s ∧ M[a]? = some q ∧ q.2[j]? = some w ∧ kNum w v
def kHas (N : kN) (M : pM) (c s v : Int) : Prop := (0 ≤ c → kHasR M c s v) ∧ (c < 0 → kPhi N M c s v)
def kScS (n : Nat) (S : kS) : Prop := (∀ e ∈ S.2.1, kSc n e) ∧ (∀ e ∈ S.2.2.1, kSc n e) ∧ ∀ q ∈ S.2.2.2, kSc n q.1.1 ∧ kSc n q.1.2 ∧ kSc n q.2
def kRS (N : kN) (σ : Nat → Int) (S : kS) (M : pM) : Prop := (σ 0 = (N.1 : Int) ∧ 1 ≤ S.1.length) ∧ kBd σ S.1 ∧ kFs σ S.2.1 ∧ (∀ e ∈ S.2.2.1, k_ev σ e ≠ 0) ∧ (∀ q ∈ S.2.2.2, kHas N M (k_ev σ q.1.1) (k_ev σ q.1.2) (k_ev σ q.2)) ∧ kScS S.1.length S
def kInR (q : kMd) (a j : Nat) : Prop := q.1.1 ≤ a ∧ a ≤ q.1.2 ∧ q.2.1 ≤ j ∧ j ≤ q.2.2
/-- nothing but what mods names has changed -/
def kSame (mods : List kMd) (M M' : pM) : Prop := M'.length = M.length ∧ ∀ a : Nat, ∀ c, M[a]? = some c → ∃ c', M'[a]? = some c' ∧ c'.1 = c.1 ∧ c'.2.length = c.2.length ∧ ∀ j : Nat, (∀ q ∈ mods, ¬ kInR q a j) → c'.2[j]? = c.2[j]?
theorem kSame.rf {mods : List kMd} {M : pM} : kSame mods M M := ⟨rfl, fun _ c h => ⟨c, h, rfl, rfl, fun _ _ => rfl⟩⟩
theorem kSame.tr {mods : List kMd} {M M1 M2 : pM} (h1 : kSame mods M M1) (h2 : kSame mods M1 M2) : kSame mods M M2 := by
  refine ⟨h2.1.trans h1.1, fun a c hc => ?_⟩
  obtain ⟨c1, e1, e2, e3, e4⟩ := h1.2 a c hc
  obtain ⟨c2, f1, f2, f3, f4⟩ := h2.2 a c1 e1
  exact ⟨c2, f1, f2.trans e2, f3.trans e3, fun j hj => (f4 j hj).trans (e4 j hj)⟩
def kAgr (n : Nat) (σ τ : Nat → Int) : Prop := ∀ a, a < n → τ a = σ a
theorem kVal.agr {E : pM} {n : Nat} {σ τ : Nat → Int} (h : kAgr n σ τ) {q : kV} {v : Value} (hs : kSc n q.2) (hv : kVal E σ q v) : kVal E τ q v := by
  unfold kVal at hv ⊢
  rw [k_ev_agree h hs]
  exact hv
theorem kRV.agr {E : pM} {n m : Nat} {σ τ : Nat → Int} (h : kAgr n σ τ) (hnm : n ≤ m) {q : kV} {v : Value} (hv : kRV E n σ q v) : kRV E m τ q v := ⟨hv.1.mono hnm, hv.2.agr h hv.1⟩
theorem kRT.agr {E : pM} {n m : Nat} {σ τ : Nat → Int} (h : kAgr n σ τ) (hnm : n ≤ m) : ∀ {t : List kV} {r : List Value}, kRT E n σ t r → kRT E m τ t r
  | [], [], _ => trivial
  | _ :: _, _ :: _, hr => ⟨hr.1.agr h hnm, kRT.agr h hnm hr.2⟩
  | [], _ :: _, hr => hr.elim
  | _ :: _, [], hr => hr.elim
theorem kRL.agr {E : pM} {n m : Nat} {σ τ : Nat → Int} (h : kAgr n σ τ) (hnm : n ≤ m) {kl : kLs} {ls : pL} (hl : kRL E n σ kl ls) : kRL E m τ kl ls := fun i q hq => by
  obtain ⟨v, h1, h2⟩ := hl i q hq
  exact ⟨v, h1, h2.agr h hnm⟩
/-- an unknown more -/
def k_new (S : kS) (lo hi : Int) : kE × kS := cond (decide (lo = hi)) (kc lo, S) (kv S.1.length, (S.1 ++ [(lo, hi)], S.2))
theorem kBd_new {σ : Nat → Int} {b : kB} {lo hi x : Int} (h : kBd σ b) (h1 : lo ≤ x) (h2 : x ≤ hi) : kBd (fun a => if a = b.length then x else σ a) (b ++ [(lo, hi)]) := by
  intro a
  by_cases ha : a = b.length
  · subst ha
    rw [List.getD_eq_getElem?_getD, List.getElem?_append_right (Nat.le_refl _)]
    simp [h1, h2]
  · have := h a
    simp only [if_neg ha]
    rw [List.getD_eq_getElem?_getD] at this ⊢
    by_cases hl : a < b.length
    · rw [List.getElem?_append_left hl]
      exact this
    · rw [List.getElem?_eq_none (by rw [List.length_append, List.length_singleton]; omega)]
      rw [List.getElem?_eq_none (by omega)] at this
      exact this
theorem kScS.mono {n m : Nat} {S : kS} (h : kScS n S) (hnm : n ≤ m) : kScS m S := ⟨fun e he => (h.1 e he).mono hnm, fun e he => (h.2.1 e he).mono hnm, fun q hq => ⟨(h.2.2 q hq).1.mono hnm, (h.2.2 q hq).2.1.mono hnm, (h.2.2 q hq).2.2.mono hnm⟩⟩
theorem k_new_ok {N : kN} {σ : Nat → Int} {S : kS} {M : pM} {lo hi x : Int} (h : kRS N σ S M) (h1 : lo ≤ x) (h2 : x ≤ hi) : ∃ τ, kAgr S.1.length σ τ ∧ S.1.length ≤ (k_new S lo hi).2.1.length ∧ kRS N τ (k_new S lo hi).2 M ∧ k_ev τ (k_new S lo hi).1 = x ∧ kSc (k_new S lo hi).2.1.length (k_new S lo hi).1 := by
  unfold k_new
  cases hd : decide (lo = hi) with
  | true =>
    have hd := of_decide_eq_true hd
    exact ⟨σ, fun _ _ => rfl, Nat.le_refl _, h, by rw [cond_true]; show k_ev σ (kc lo) = x; rw [k_ev_c]; omega, kSc_c⟩
  | false =>
    simp only [cond_false]
    obtain ⟨⟨h0, h01⟩, hb, hf, hn, hc, hsc⟩ := h
    have ag : kAgr S.1.length σ (fun a => if a = S.1.length then x else σ a) := fun a ha => if_neg (by omega)
    have hl : S.1.length ≤ (S.1 ++ [(lo, hi)]).length := by rw [List.length_append]; omega
    refine ⟨fun a => if a = S.1.length then x else σ a, ag, hl, ⟨⟨?_, Nat.le_trans h01 hl⟩, kBd_new hb h1 h2, fun f hf' => ?_, fun e he => ?_, fun q hq => ?_, hsc.mono hl⟩, ?_, kSc_v (by rw [List.length_append, List.length_singleton]; omega)⟩
    · rw [ag 0 (by omega)]
      exact h0
    · rw [k_ev_agree ag (hsc.1 f hf')]
      exact hf f hf'
    · rw [k_ev_agree ag (hsc.2.1 e he)]
      exact hn e he
    · rw [k_ev_agree ag (hsc.2.2 q hq).1, k_ev_agree ag (hsc.2.2 q hq).2.1, k_ev_agree ag (hsc.2.2 q hq).2.2]
      exact hc q hq
    · rw [k_ev_v]
      exact if_pos rfl
def k_adf (S : kS) (e : kE) : List kE := match e.2 with
  | [_] => S.2.1
  | _ => e :: S.2.1
theorem k_adf_in {S : kS} {e f : kE} (h : f ∈ k_adf S e) : f = e ∨ f ∈ S.2.1 := by
  unfold k_adf at h
  split at h
  · exact Or.inr h
  · exact List.mem_cons.mp h
/-- a fact is taken on; none: it can't be -/
def k_asm (S : kS) (e : kE) : Option kS := cond (decide (0 ≤ k_lo S.1 e)) (some S) (cond (decide (k_hi S.1 e < 0) || k_ge0 S.1 S.2.1 (k_sub (kc (-1)) e)) none
  (cond ((k_tig e e.2 S.1).any (fun q => decide (q.2 < q.1))) none (some (k_tig e e.2 S.1, k_adf S e, S.2.2))))
theorem k_asm_ok {N : kN} {σ : Nat → Int} {S : kS} {M : pM} {e : kE} (h : kRS N σ S M) (hs : kSc S.1.length e) (he : 0 ≤ k_ev σ e) : ∃ T, k_asm S e = some T ∧ T.1.length = S.1.length ∧ kRS N σ T M := by
  obtain ⟨⟨h0, h01⟩, hb, hf, hn, hc, hsc⟩ := h
  unfold k_asm
  cases h1 : decide (0 ≤ k_lo S.1 e) with
  | true => exact ⟨S, rfl, rfl, ⟨h0, h01⟩, hb, hf, hn, hc, hsc⟩
  | false =>
    simp only [cond_false]
    have h2 : (decide (k_hi S.1 e < 0) || k_ge0 S.1 S.2.1 (k_sub (kc (-1)) e)) = false := by
      rw [Bool.or_eq_false_iff]
      refine ⟨?_, ?_⟩
      · rw [decide_eq_false_iff_not]
        have := k_hi_ge hb e
        omega
      · cases h3 : k_ge0 S.1 S.2.1 (k_sub (kc (-1)) e) with
        | false => rfl
        | true =>
          have := k_ge0_ok hb hf h3
          rw [k_ev_sub, k_ev_c] at this
          omega
    rw [h2, cond_false]
    have hb2 := k_tig_ok he e.2 S.1 hb
    have hl2 : (k_tig e e.2 S.1).length = S.1.length := k_tig_len _ _
    have h3 : ((k_tig e e.2 S.1).any (fun q => decide (q.2 < q.1))) = false := by
      cases h4 : ((k_tig e e.2 S.1).any (fun q => decide (q.2 < q.1))) with
      | false => rfl
      | true =>
        obtain ⟨q, hq, hq2⟩ := List.any_eq_true.mp h4
        obtain ⟨a, ha⟩ := List.getElem?_of_mem hq
        have := hb2 a
        rw [List.getD_eq_getElem?_getD, ha] at this
        have hq2 := of_decide_eq_true hq2
        have h5 : q.1 ≤ σ a := this.1
        have h6 : σ a ≤ q.2 := this.2
        omega
    rw [h3, cond_false]
    refine ⟨_, rfl, hl2, ⟨h0, by rw [hl2]; exact h01⟩, hb2, ?_, hn, hc, ?_⟩
    · intro f hf'
      rcases k_adf_in hf' with rfl | hf'
      · exact he
      · exact hf f hf'
    · refine ⟨?_, fun e he => by rw [hl2]; exact hsc.2.1 e he, fun q hq => by rw [hl2]; exact hsc.2.2 q hq⟩
      show ∀ f ∈ k_adf S e, _
      rw [hl2]
      intro f hf'
      rcases k_adf_in hf' with rfl | hf'
      · exact hs
      · exact hsc.1 f hf'
/-- not 0 -/
def k_ane (S : kS) (e : kE) : Option kS := cond (k_ge0 S.1 S.2.1 e) (k_asm S (k_sub e (kc 1))) (cond (k_ge0 S.1 S.2.1 (k_mul (-1) e)) (k_asm S (k_sub (kc (-1)) e)) (some (S.1, S.2.1, e :: S.2.2.1, S.2.2.2)))
theorem k_ane_ok {N : kN} {σ : Nat → Int} {S : kS} {M : pM} {e : kE} (h : kRS N σ S M) (hs : kSc S.1.length e) (he : k_ev σ e ≠ 0) : ∃ T, k_ane S e = some T ∧ T.1.length = S.1.length ∧ kRS N σ T M := by
  unfold k_ane
  cases h1 : k_ge0 S.1 S.2.1 e with
  | true =>
    have := k_ge0_ok h.2.1 h.2.2.1 h1
    exact k_asm_ok h (kSc_sub hs kSc_c) (by rw [k_ev_sub, k_ev_c]; omega)
  | false =>
    simp only [cond_false]
    cases h2 : k_ge0 S.1 S.2.1 (k_mul (-1) e) with
    | true =>
      have := k_ge0_ok h.2.1 h.2.2.1 h2
      rw [k_ev_mul] at this
      exact k_asm_ok h (kSc_sub kSc_c hs) (by rw [k_ev_sub, k_ev_c]; omega)
    | false =>
      obtain ⟨h0, hb, hf, hn, hc, hsc⟩ := h
      refine ⟨_, rfl, rfl, h0, hb, hf, fun f hf' => ?_, hc, hsc.1, fun f hf' => ?_, hsc.2.2⟩
      · rcases List.mem_cons.mp hf' with rfl | hf'
        · exact he
        · exact hn f hf'
      · rcases List.mem_cons.mp hf' with rfl | hf'
        · exact hs
        · exact hsc.2.1 f hf'
/-- a condition on a difference is taken on -/
def k_n0 (o : Option kS) : Option kS := match o with
  | some T => cond (T.2.2.1.any (fun e => decide (k_lo T.1 e = 0) && decide (k_hi T.1 e = 0))) none (some T)
  | none => none
theorem k_n0_ok {N : kN} {σ : Nat → Int} {T : kS} {M : pM} {o : Option kS} (ho : o = some T) (h : kRS N σ T M) : k_n0 o = some T := by
  subst ho
  unfold k_n0
  cases hb : T.2.2.1.any (fun e => decide (k_lo T.1 e = 0) && decide (k_hi T.1 e = 0)) with
  | false =>
    show cond (T.2.2.1.any (fun e => decide (k_lo T.1 e = 0) && decide (k_hi T.1 e = 0))) none (some T) = some T
    rw [hb]
    rfl
  | true =>
    obtain ⟨e, he, hz⟩ := List.any_eq_true.mp hb
    simp only [Bool.and_eq_true, decide_eq_true_eq] at hz
    have h1 := k_lo_le h.2.1 e
    have h2 := k_hi_ge h.2.1 e
    have h3 := h.2.2.2.1 e he
    omega
def k_cn (S : kS) (c : ClassFile.Cond) (d : kE) : Option kS := match c with
  | .eq => k_n0 ((k_asm S d).bind (fun T => k_asm T (k_mul (-1) d)))
  | .ne => k_ane S d
  | .lt => k_asm S (k_sub (kc (-1)) d)
  | .ge => k_asm S d
  | .gt => k_asm S (k_sub d (kc 1))
  | .le => k_asm S (k_mul (-1) d)
def k_cT (c : ClassFile.Cond) (z : Int) : Prop := match c with
  | .eq => z = 0
  | .ne => z ≠ 0
  | .lt => z < 0
  | .ge => 0 ≤ z
  | .gt => 0 < z
  | .le => z ≤ 0
theorem k_cn_ok {N : kN} {σ : Nat → Int} {S : kS} {M : pM} {c : ClassFile.Cond} {d : kE} (h : kRS N σ S M) (hs : kSc S.1.length d) (hc : k_cT c (k_ev σ d)) : ∃ T, k_cn S c d = some T ∧ T.1.length = S.1.length ∧ kRS N σ T M := by
  cases c with
  | eq =>
    have hc : k_ev σ d = 0 := hc
    obtain ⟨T, h1, h2, h3⟩ := k_asm_ok h hs (by omega)
    obtain ⟨T2, h4, h5, h6⟩ := k_asm_ok h3 (e := k_mul (-1) d) (by rw [h2]; exact kSc_mul hs) (by rw [k_ev_mul]; omega)
    exact ⟨T2, by unfold k_cn; exact k_n0_ok (by rw [h1]; exact h4) h6, h5.trans h2, h6⟩
  | ne => exact k_ane_ok h hs hc
  | lt =>
    have hc : k_ev σ d < 0 := hc
    exact k_asm_ok h (kSc_sub kSc_c hs) (by rw [k_ev_sub, k_ev_c]; omega)
  | ge => exact k_asm_ok h hs hc
  | gt =>
    have hc : 0 < k_ev σ d := hc
    exact k_asm_ok h (kSc_sub hs kSc_c) (by rw [k_ev_sub, k_ev_c]; omega)
  | le =>
    have hc : k_ev σ d ≤ 0 := hc
    exact k_asm_ok h (kSc_mul hs) (by rw [k_ev_mul]; omega)
def k_ng (c : ClassFile.Cond) : ClassFile.Cond := match c with
  | .eq => .ne
  | .ne => .eq
  | .lt => .ge
  | .ge => .lt
  | .gt => .le
  | .le => .gt
theorem k_ng_T {c : ClassFile.Cond} {z : Int} (h : ¬ k_cT c z) : k_cT (k_ng c) z := by
  cases c <;> simp only [k_cT, k_ng] at h ⊢ <;> omega
end
