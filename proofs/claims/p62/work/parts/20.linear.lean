/-! THE CHECKER. Linear words over numbered unknowns, and what is known of the unknowns -/
abbrev kE : Type := Int × List (Nat × Int)
def kc (k : Int) : kE := (k, [])
def kv (a : Nat) : kE := (0, [(a, 1)])
def k_ins (a : Nat) (k : Int) : List (Nat × Int) → List (Nat × Int)
  | [] => [(a, k)]
  | q :: t => cond (Nat.beq a q.1) (cond (decide (q.2 + k = 0)) t ((a, q.2 + k) :: t)) (cond (Nat.ble a q.1) ((a, k) :: q :: t) (q :: k_ins a k t))
def k_addl : List (Nat × Int) → List (Nat × Int) → List (Nat × Int)
  | [], l => l
  | q :: t, l => k_ins q.1 q.2 (k_addl t l)
def k_add (e f : kE) : kE := (e.1 + f.1, k_addl e.2 f.2)
def k_mul (c : Int) (e : kE) : kE := cond (decide (c = 0)) (0, []) (c * e.1, e.2.map (fun q => (q.1, c * q.2)))
def k_sub (e f : kE) : kE := k_add e (k_mul (-1) f)
def k_evl (σ : Nat → Int) : List (Nat × Int) → Int
  | [] => 0
  | q :: t => q.2 * σ q.1 + k_evl σ t
def k_ev (σ : Nat → Int) (e : kE) : Int := e.1 + k_evl σ e.2
theorem k_ev_c (σ : Nat → Int) (k : Int) : k_ev σ (kc k) = k := by simp [k_ev, kc, k_evl]
theorem k_ev_v (σ : Nat → Int) (a : Nat) : k_ev σ (kv a) = σ a := by simp [k_ev, kv, k_evl]
theorem k_ev_ins (σ : Nat → Int) (a : Nat) (k : Int) : ∀ l, k_evl σ (k_ins a k l) = k * σ a + k_evl σ l
  | [] => by simp [k_ins, k_evl]
  | q :: t => by
    unfold k_ins
    cases h : Nat.beq a q.1 with
    | true =>
      have h := Nat.eq_of_beq_eq_true h
      subst h
      simp only [cond_true]
      cases h2 : decide (q.2 + k = 0) with
      | true =>
        have h2 := of_decide_eq_true h2
        simp only [cond_true, k_evl]
        have : k = - q.2 := by omega
        rw [this, Int.neg_mul]
        omega
      | false =>
        simp only [cond_false, k_evl]
        rw [Int.add_mul]
        omega
    | false =>
      simp only [cond_false]
      cases h3 : Nat.ble a q.1 with
      | true => simp only [cond_true, k_evl]
      | false =>
        simp only [cond_false, k_evl]
        rw [k_ev_ins σ a k t]
        omega
theorem k_ev_addl (σ : Nat → Int) : ∀ l m, k_evl σ (k_addl l m) = k_evl σ l + k_evl σ m
  | [], m => by simp [k_addl, k_evl]
  | q :: t, m => by
    unfold k_addl
    rw [k_ev_ins, k_ev_addl σ t m]
    simp only [k_evl]
    omega
theorem k_ev_add (σ : Nat → Int) (e f : kE) : k_ev σ (k_add e f) = k_ev σ e + k_ev σ f := by
  unfold k_ev k_add
  rw [k_ev_addl]
  omega
theorem k_ev_mapl (σ : Nat → Int) (c : Int) : ∀ l : List (Nat × Int), k_evl σ (l.map (fun q => (q.1, c * q.2))) = c * k_evl σ l
  | [] => by simp [k_evl]
  | q :: t => by
    simp only [List.map_cons, k_evl]
    rw [k_ev_mapl σ c t, Int.mul_add, Int.mul_assoc]
theorem k_ev_mul (σ : Nat → Int) (c : Int) (e : kE) : k_ev σ (k_mul c e) = c * k_ev σ e := by
  unfold k_mul
  cases h : decide (c = 0) with
  | true =>
    have h := of_decide_eq_true h
    subst h
    simp [k_ev, k_evl]
  | false =>
    simp only [cond_false, k_ev]
    rw [k_ev_mapl, Int.mul_add]
theorem k_ev_sub (σ : Nat → Int) (e f : kE) : k_ev σ (k_sub e f) = k_ev σ e - k_ev σ f := by
  unfold k_sub
  rw [k_ev_add, k_ev_mul]
  omega
/-- every unknown of it is below n -/
def kSc (n : Nat) (e : kE) : Prop := ∀ q ∈ e.2, q.1 < n
theorem kSc.mono {n m : Nat} {e : kE} (h : kSc n e) (hnm : n ≤ m) : kSc m e := fun q hq => Nat.lt_of_lt_of_le (h q hq) hnm
theorem kSc_c {n : Nat} {k : Int} : kSc n (kc k) := fun q hq => by cases hq
theorem kSc_v {n a : Nat} (h : a < n) : kSc n (kv a) := fun q hq => by
  rcases List.mem_singleton.mp hq with rfl
  exact h
theorem kSc_ins {n a : Nat} {k : Int} (h : a < n) : ∀ l : List (Nat × Int), (∀ q ∈ l, q.1 < n) → ∀ q ∈ k_ins a k l, q.1 < n
  | [], _, q, hq => by
    rcases List.mem_singleton.mp hq with rfl
    exact h
  | r :: t, hl, q, hq => by
    unfold k_ins at hq
    have ht : ∀ q ∈ t, q.1 < n := fun q hq => hl q (List.mem_cons_of_mem _ hq)
    cases h1 : Nat.beq a r.1 with
    | true =>
      rw [h1] at hq
      simp only [cond_true] at hq
      cases h2 : decide (r.2 + k = 0) with
      | true => rw [h2] at hq; exact ht q hq
      | false =>
        rw [h2] at hq
        rcases List.mem_cons.mp hq with rfl | hq
        · exact h
        · exact ht q hq
    | false =>
      rw [h1] at hq
      simp only [cond_false] at hq
      cases h2 : Nat.ble a r.1 with
      | true =>
        rw [h2] at hq
        rcases List.mem_cons.mp hq with rfl | hq
        · exact h
        · exact hl q hq
      | false =>
        rw [h2] at hq
        rcases List.mem_cons.mp hq with rfl | hq
        · exact hl _ List.mem_cons_self
        · exact kSc_ins h t ht q hq
theorem kSc_addl {n : Nat} : ∀ l m : List (Nat × Int), (∀ q ∈ l, q.1 < n) → (∀ q ∈ m, q.1 < n) → ∀ q ∈ k_addl l m, q.1 < n
  | [], m, _, hm => hm
  | r :: t, m, hl, hm => kSc_ins (hl r List.mem_cons_self) _ (kSc_addl t m (fun q hq => hl q (List.mem_cons_of_mem _ hq)) hm)
theorem kSc_add {n : Nat} {e f : kE} (he : kSc n e) (hf : kSc n f) : kSc n (k_add e f) := kSc_addl _ _ he hf
theorem kSc_mul {n : Nat} {c : Int} {e : kE} (he : kSc n e) : kSc n (k_mul c e) := by
  unfold k_mul
  cases h : decide (c = 0) with
  | true => exact fun q hq => by cases hq
  | false =>
    intro q hq
    obtain ⟨r, hr, rfl⟩ := List.mem_map.mp hq
    exact he r hr
theorem kSc_sub {n : Nat} {e f : kE} (he : kSc n e) (hf : kSc n f) : kSc n (k_sub e f) := kSc_add he (kSc_mul hf)
theorem k_evl_agree {σ τ : Nat → Int} {n : Nat} (h : ∀ a, a < n → τ a = σ a) : ∀ l : List (Nat × Int), (∀ q ∈ l, q.1 < n) → k_evl τ l = k_evl σ l
  | [], _ => rfl
  | q :: t, hl => by
    simp only [k_evl]
    rw [h _ (hl q List.mem_cons_self), k_evl_agree h t (fun q hq => hl q (List.mem_cons_of_mem _ hq))]
theorem k_ev_agree {σ τ : Nat → Int} {n : Nat} (h : ∀ a, a < n → τ a = σ a) {e : kE} (he : kSc n e) : k_ev τ e = k_ev σ e := by
  unfold k_ev
  rw [k_evl_agree h _ he]
/-- between what bounds the unknowns lie; the ones without are 0 -/
abbrev kB : Type := List (Int × Int)
def kBd (σ : Nat → Int) (b : kB) : Prop := ∀ a, (b.getD a (0, 0)).1 ≤ σ a ∧ σ a ≤ (b.getD a (0, 0)).2
def k_lol (b : kB) : List (Nat × Int) → Int
  | [] => 0
  | q :: t => cond (decide (0 ≤ q.2)) (q.2 * (b.getD q.1 (0, 0)).1) (q.2 * (b.getD q.1 (0, 0)).2) + k_lol b t
def k_lo (b : kB) (e : kE) : Int := e.1 + k_lol b e.2
def k_hi (b : kB) (e : kE) : Int := - k_lo b (k_mul (-1) e)
theorem k_lol_le {σ : Nat → Int} {b : kB} (h : kBd σ b) : ∀ l, k_lol b l ≤ k_evl σ l
  | [] => Int.le_refl _
  | q :: t => by
    have h1 := k_lol_le h t
    simp only [k_lol, k_evl]
    have h2 : cond (decide (0 ≤ q.2)) (q.2 * (b.getD q.1 (0, 0)).1) (q.2 * (b.getD q.1 (0, 0)).2) ≤ q.2 * σ q.1 := by
      cases h3 : decide (0 ≤ q.2) with
      | true => exact Int.mul_le_mul_of_nonneg_left (h q.1).1 (of_decide_eq_true h3)
      | false =>
        have h3 := of_decide_eq_false h3
        exact Int.mul_le_mul_of_nonpos_left (by omega) (h q.1).2
    omega
theorem k_lo_le {σ : Nat → Int} {b : kB} (h : kBd σ b) (e : kE) : k_lo b e ≤ k_ev σ e := by
  unfold k_lo k_ev
  have := k_lol_le h e.2
  omega
theorem k_hi_ge {σ : Nat → Int} {b : kB} (h : kBd σ b) (e : kE) : k_ev σ e ≤ k_hi b e := by
  unfold k_hi
  have := k_lo_le h (k_mul (-1) e)
  rw [k_ev_mul] at this
  omega
/-- the facts: words that are 0 or more -/
def kFs (σ : Nat → Int) (F : List kE) : Prop := ∀ f ∈ F, 0 ≤ k_ev σ f
/-- a fact taken as often as it must be: e is at least a share of it, and whole -/
def k_rt1 (b : kB) (e f : kE) (r q : Nat × Int) : Bool := Nat.beq r.1 q.1 && (decide (0 < r.2 * q.2) && (!(decide (r.2 = q.2)) && decide (1 - (q.2.natAbs : Int) ≤ k_lo b (k_sub (k_mul (q.2.natAbs : Int) e) (k_mul (r.2.natAbs : Int) f)))))
def k_rt (b : kB) (e f : kE) : Bool := f.2.any (fun q => e.2.any (fun r => k_rt1 b e f r q))
theorem k_rt_ok {σ : Nat → Int} {b : kB} {e f : kE} (hb : kBd σ b) (hf : 0 ≤ k_ev σ f) (h : k_rt b e f = true) : 0 ≤ k_ev σ e := by
  obtain ⟨q, -, h⟩ := List.any_eq_true.mp h
  obtain ⟨r, -, h⟩ := List.any_eq_true.mp h
  unfold k_rt1 at h
  simp only [Bool.and_eq_true, decide_eq_true_eq] at h
  obtain ⟨-, h1, -, h2⟩ := h
  have h3 := Int.le_trans h2 (k_lo_le hb _)
  rw [k_ev_sub, k_ev_mul, k_ev_mul] at h3
  have hq : 1 ≤ (q.2.natAbs : Int) := by
    have : q.2 ≠ 0 := by
      intro h0
      rw [h0, Int.mul_zero] at h1
      omega
    omega
  have h4 : 0 ≤ (r.2.natAbs : Int) * k_ev σ f := Int.mul_nonneg (by omega) hf
  refine Int.not_lt.mp fun hl => ?_
  have h5 : (q.2.natAbs : Int) * k_ev σ e ≤ (q.2.natAbs : Int) * (-1) := Int.mul_le_mul_of_nonneg_left (by omega) (by omega)
  omega
def k_ge (b : kB) (F : List kE) (e : kE) : Bool :=
  decide (0 ≤ k_lo b e) || (!(Nat.beq e.2.length 0) && (F.any (fun f => decide (0 ≤ k_lo b (k_sub e f))) || (F.any (fun f => k_rt b e f) || F.any (fun f => F.any fun g => decide (0 ≤ k_lo b (k_sub (k_sub e f) g))))))
theorem k_ge_ok {σ : Nat → Int} {b : kB} {F : List kE} {e : kE} (hb : kBd σ b) (hF : kFs σ F) (h : k_ge b F e = true) : 0 ≤ k_ev σ e := by
  unfold k_ge at h
  simp only [Bool.or_eq_true, Bool.and_eq_true] at h
  rcases h with h | ⟨-, h | h | h⟩
  · exact Int.le_trans (of_decide_eq_true h) (k_lo_le hb e)
  · obtain ⟨f, hf, h⟩ := List.any_eq_true.mp h
    have h1 := Int.le_trans (of_decide_eq_true h) (k_lo_le hb _)
    rw [k_ev_sub] at h1
    have := hF f hf
    omega
  · obtain ⟨f, hf, h⟩ := List.any_eq_true.mp h
    exact k_rt_ok hb (hF f hf) h
  · obtain ⟨f, hf, h⟩ := List.any_eq_true.mp h
    obtain ⟨g, hg, h⟩ := List.any_eq_true.mp h
    have h1 := Int.le_trans (of_decide_eq_true h) (k_lo_le hb _)
    rw [k_ev_sub, k_ev_sub] at h1
    have := hF f hf
    have := hF g hg
    omega
/-- the same word; the same by bounds; a word with one value is a number -/
def k_cst (e : kE) : Bool := Nat.beq e.2.length 0
def k_eq (e f : kE) : Bool := match k_sub e f with
  | (z, []) => decide (z = 0)
  | _ => false
theorem k_eq_ok {σ : Nat → Int} {e f : kE} (h : k_eq e f = true) : k_ev σ e = k_ev σ f := by
  unfold k_eq at h
  split at h
  · rename_i z hz
    have h1 := k_ev_sub σ e f
    rw [hz] at h1
    have h := of_decide_eq_true h
    have h2 : k_ev σ (z, []) = z := k_ev_c σ z
    omega
  · cases h
def k_eqv (b : kB) (F : List kE) (e f : kE) : Bool := k_eq e f || (k_ge b F (k_sub e f) && k_ge b F (k_sub f e))
theorem k_eqv_ok {σ : Nat → Int} {b : kB} {F : List kE} {e f : kE} (hb : kBd σ b) (hF : kFs σ F) (h : k_eqv b F e f = true) : k_ev σ e = k_ev σ f := by
  unfold k_eqv at h
  simp only [Bool.or_eq_true, Bool.and_eq_true] at h
  rcases h with h | ⟨h1, h2⟩
  · exact k_eq_ok h
  · have h1 := k_ge_ok hb hF h1
    have h2 := k_ge_ok hb hF h2
    rw [k_ev_sub] at h1 h2
    omega
def k_nv (b : kB) (e : kE) : kE := cond (k_cst e) e (cond (decide (k_lo b e = k_hi b e)) (kc (k_lo b e)) e)
theorem k_nv_ok {σ : Nat → Int} {b : kB} {e : kE} (hb : kBd σ b) : k_ev σ (k_nv b e) = k_ev σ e := by
  unfold k_nv
  cases k_cst e with
  | true => rfl
  | false =>
    rw [cond_false]
    cases h : decide (k_lo b e = k_hi b e) with
    | false => rfl
    | true =>
      have h := of_decide_eq_true h
      have h1 := k_lo_le hb e
      have h2 := k_hi_ge hb e
      rw [cond_true, k_ev_c]
      omega
theorem k_nv_sc {n : Nat} {b : kB} {e : kE} (h : kSc n e) : kSc n (k_nv b e) := by
  unfold k_nv
  cases k_cst e with
  | true => exact h
  | false =>
    rw [cond_false]
    cases decide (k_lo b e = k_hi b e) with
    | true => exact kSc_c
    | false => exact h
/-- an exact share of a word -/
def k_dv (p : Int) (e : kE) : kE := (e.1 / p, e.2.map (fun q => (q.1, q.2 / p)))
theorem k_dv_sc {n : Nat} {p : Int} {e : kE} (h : kSc n e) : kSc n (k_dv p e) := fun q hq => by
  obtain ⟨r, hr, rfl⟩ := List.mem_map.mp hq
  exact h r hr
def k_fit (b : kB) (F : List kE) (lo hi : Int) (e : kE) : Bool := k_ge b F (k_sub e (kc lo)) && k_ge b F (k_sub (kc hi) e)
theorem k_fit_ok {σ : Nat → Int} {b : kB} {F : List kE} {lo hi : Int} {e : kE} (hb : kBd σ b) (hF : kFs σ F) (h : k_fit b F lo hi e = true) : lo ≤ k_ev σ e ∧ k_ev σ e ≤ hi := by
  unfold k_fit at h
  simp only [Bool.and_eq_true] at h
  have h1 := k_ge_ok hb hF h.1
  have h2 := k_ge_ok hb hF h.2
  rw [k_ev_sub, k_ev_c] at h1 h2
  omega
/-- a fact makes bounds narrower -/
def k_tig1 (e : kE) (q : Nat × Int) (b : kB) : kB :=
  let r := k_hi b (k_sub e (0, [q]))
  let o := b.getD q.1 (0, 0)
  cond (decide (0 < q.2)) (cond (decide (o.1 < -(r / q.2))) (b.set q.1 (-(r / q.2), o.2)) b)
    (cond (decide (q.2 < 0)) (cond (decide (r / (-q.2) < o.2)) (b.set q.1 (o.1, r / (-q.2))) b) b)
def k_tig (e : kE) : List (Nat × Int) → kB → kB
  | [], b => b
  | q :: t, b => k_tig e t (k_tig1 e q b)
theorem kBd_set {σ : Nat → Int} {b : kB} {a : Nat} {x : Int × Int} (h : kBd σ b) (h1 : x.1 ≤ σ a) (h2 : σ a ≤ x.2) : kBd σ (b.set a x) := by
  intro c
  by_cases hc : c = a
  · subst hc
    by_cases hl : c < b.length
    · rw [List.getD_eq_getElem?_getD, List.getElem?_set_self hl]
      exact ⟨h1, h2⟩
    · have := h c
      rw [List.getD_eq_getElem?_getD, List.getElem?_eq_none (by omega)] at this
      rw [List.getD_eq_getElem?_getD, List.getElem?_eq_none (by rw [List.length_set]; omega)]
      exact this
  · rw [List.getD_eq_getElem?_getD, List.getElem?_set_ne (Ne.symm hc), ← List.getD_eq_getElem?_getD]
    exact h c
theorem k_tig1_ok {σ : Nat → Int} {b : kB} {e : kE} {q : Nat × Int} (h : kBd σ b) (he : 0 ≤ k_ev σ e) : kBd σ (k_tig1 e q b) := by
  have hr := k_hi_ge h (k_sub e (0, [q]))
  rw [k_ev_sub] at hr
  have hq : k_ev σ (0, [q]) = q.2 * σ q.1 := by simp [k_ev, k_evl]
  rw [hq] at hr
  unfold k_tig1
  simp only
  generalize k_hi b (k_sub e (0, [q])) = r at hr ⊢
  have ho := h q.1
  cases h1 : decide (0 < q.2) with
  | true =>
    have h1 := of_decide_eq_true h1
    simp only [cond_true]
    cases h2 : decide ((b.getD q.1 (0, 0)).1 < -(r / q.2)) with
    | false => exact h
    | true =>
      refine kBd_set h ?_ ho.2
      show -(r / q.2) ≤ σ q.1
      have h3 : (-(σ q.1)) ≤ r / q.2 := by
        rw [Int.le_ediv_iff_mul_le h1, Int.neg_mul, Int.mul_comm]
        omega
      omega
  | false =>
    simp only [cond_false]
    cases h3 : decide (q.2 < 0) with
    | false => exact h
    | true =>
      have h3 := of_decide_eq_true h3
      simp only [cond_true]
      cases h2 : decide (r / (-q.2) < (b.getD q.1 (0, 0)).2) with
      | false => exact h
      | true =>
        refine kBd_set h ho.1 ?_
        show σ q.1 ≤ r / (-q.2)
        rw [Int.le_ediv_iff_mul_le (by omega), Int.mul_neg, Int.mul_comm]
        omega
theorem k_tig_ok {σ : Nat → Int} {e : kE} (he : 0 ≤ k_ev σ e) : ∀ (l : List (Nat × Int)) (b : kB), kBd σ b → kBd σ (k_tig e l b)
  | [], _, h => h
  | q :: t, b, h => k_tig_ok he t _ (k_tig1_ok h he)
theorem k_cnd_len {c : Bool} {b : kB} {a : Nat} {x : Int × Int} : (cond c (b.set a x) b).length = b.length := by cases c <;> simp
theorem k_tig1_len {e : kE} {q : Nat × Int} {b : kB} : (k_tig1 e q b).length = b.length := by
  unfold k_tig1
  simp only
  cases decide (0 < q.2) <;> simp only [cond_true, cond_false]
  · cases decide (q.2 < 0) <;> simp only [cond_true, cond_false]
    exact k_cnd_len
  · exact k_cnd_len
theorem k_tig_len {e : kE} : ∀ (l : List (Nat × Int)) (b : kB), (k_tig e l b).length = b.length
  | [], _ => rfl
  | q :: t, b => by
    unfold k_tig
    rw [k_tig_len t, k_tig1_len]
