noncomputable section
/-! THE CHECKER. Linear words over numbered unknowns, and what is known of the unknowns -/
abbrev kE : Type := Int × List (Nat × Int)
def kc (k : Int) : kE := (k, [])
def kv (a : Nat) : kE := (0, [(a, 1)])
/-! numbers and lists by their recursors: what the kernel runs fastest -/
def zneg (x : Int) : Int := Int.rec (motive := fun _ => Int) (fun m => Nat.rec (motive := fun _ => Int) (Int.ofNat 0) (fun k _ => Int.negSucc k) m) (fun n => Int.ofNat (Nat.succ n)) x
theorem zneg_eq (x : Int) : zneg x = -x := by
  cases x with
  | ofNat m => cases m <;> rfl
  | negSucc n => rfl
def zadd (x y : Int) : Int := Int.rec (motive := fun _ => Int) (fun m => Int.rec (motive := fun _ => Int) (fun n => Int.ofNat (Nat.add m n)) (fun n => Bool.rec (motive := fun _ => Int) (Int.negSucc (Nat.sub n m)) (Int.ofNat (Nat.sub m (Nat.succ n))) (Nat.ble (Nat.succ n) m)) y) (fun m => Int.rec (motive := fun _ => Int) (fun n => Bool.rec (motive := fun _ => Int) (Int.negSucc (Nat.sub m n)) (Int.ofNat (Nat.sub n (Nat.succ m))) (Nat.ble (Nat.succ m) n)) (fun n => Int.negSucc (Nat.succ (Nat.add m n))) y) x
theorem zadd_sub (m n : Nat) : Bool.rec (motive := fun _ => Int) (Int.negSucc (Nat.sub n m)) (Int.ofNat (Nat.sub m (Nat.succ n))) (Nat.ble (Nat.succ n) m) = (m : Int) + Int.negSucc n := by
  rw [Int.negSucc_eq]
  cases h : Nat.ble (Nat.succ n) m with
  | true =>
    have := Nat.le_of_ble_eq_true h
    show ((m - (n + 1) : Nat) : Int) = _
    omega
  | false =>
    have : ¬ n + 1 ≤ m := fun g => by
      rw [Nat.ble_eq_true_of_le g] at h
      cases h
    show Int.negSucc (n - m) = _
    rw [Int.negSucc_eq]
    omega
theorem zadd_eq (x y : Int) : zadd x y = x + y := by
  cases x with
  | ofNat m =>
    cases y with
    | ofNat n => rfl
    | negSucc n => exact zadd_sub m n
  | negSucc m =>
    cases y with
    | ofNat n => exact (zadd_sub n m).trans (Int.add_comm _ _)
    | negSucc n =>
      show Int.negSucc (Nat.succ (m + n)) = _
      rw [Int.negSucc_eq, Int.negSucc_eq, Int.negSucc_eq]
      omega
def zmul (x y : Int) : Int := Int.rec (motive := fun _ => Int) (fun m => Int.rec (motive := fun _ => Int) (fun n => Int.ofNat (Nat.mul m n)) (fun n => zneg (Int.ofNat (Nat.mul m (Nat.succ n)))) y) (fun m => Int.rec (motive := fun _ => Int) (fun n => zneg (Int.ofNat (Nat.mul (Nat.succ m) n))) (fun n => Int.ofNat (Nat.mul (Nat.succ m) (Nat.succ n))) y) x
theorem zmul_eq (x y : Int) : zmul x y = x * y := by
  cases x with
  | ofNat m =>
    cases y with
    | ofNat n => rfl
    | negSucc n =>
      show zneg (Int.ofNat (m * (n + 1))) = Int.ofNat m * Int.negSucc n
      rw [zneg_eq]
      rfl
  | negSucc m =>
    cases y with
    | ofNat n =>
      show zneg (Int.ofNat ((m + 1) * n)) = Int.negSucc m * Int.ofNat n
      rw [zneg_eq]
      rfl
    | negSucc n => rfl
def znn (x : Int) : Bool := Int.rec (motive := fun _ => Bool) (fun _ => true) (fun _ => false) x
theorem znn_eq (x : Int) : znn x = decide (0 ≤ x) := by
  cases x with
  | ofNat m => exact (decide_eq_true (Int.natCast_nonneg m)).symm
  | negSucc n => exact (decide_eq_false (Int.not_le.mpr (Int.negSucc_lt_zero n))).symm
def zz (x : Int) : Bool := Int.rec (motive := fun _ => Bool) (fun m => Nat.beq m 0) (fun _ => false) x
theorem zz_eq (x : Int) : zz x = decide (x = 0) := by
  cases x with
  | ofNat m =>
    cases m with
    | zero => rfl
    | succ k => exact (decide_eq_false (show ¬ (((k + 1 : Nat) : Int) = 0) by omega)).symm
  | negSucc n => exact (decide_eq_false (show ¬ (Int.negSucc n = 0) by rw [Int.negSucc_eq]; omega)).symm
def zeq (x y : Int) : Bool := Int.rec (motive := fun _ => Bool) (fun m => Int.rec (motive := fun _ => Bool) (fun n => Nat.beq m n) (fun _ => false) y) (fun m => Int.rec (motive := fun _ => Bool) (fun _ => false) (fun n => Nat.beq m n) y) x
theorem zeq_ok {x y : Int} (h : zeq x y = true) : x = y := by
  cases x with
  | ofNat m =>
    cases y with
    | ofNat n => exact congrArg Int.ofNat (Nat.eq_of_beq_eq_true h)
    | negSucc n => cases h
  | negSucc m =>
    cases y with
    | ofNat n => cases h
    | negSucc n => exact congrArg Int.negSucc (Nat.eq_of_beq_eq_true h)
def zget (b : List (Int × Int)) (a : Nat) : Int × Int := List.rec (motive := fun _ => Nat → Int × Int) (fun _ => (0, 0)) (fun q _ ih a => Nat.rec (motive := fun _ => Int × Int) q (fun n _ => ih n) a) b a
theorem zget_eq : ∀ (b : List (Int × Int)) (a : Nat), zget b a = b.getD a (0, 0)
  | [], a => by cases a <;> rfl
  | q :: t, 0 => rfl
  | q :: t, n + 1 => by
    show zget t n = _
    rw [zget_eq t n]
    rfl
def lany {α : Type} (p : α → Bool) (l : List α) : Bool := List.rec (motive := fun _ => Bool) false (fun q _ ih => Bool.rec (motive := fun _ => Bool) ih true (p q)) l
theorem lany_eq {α : Type} (p : α → Bool) : ∀ l : List α, lany p l = l.any p
  | [] => rfl
  | q :: t => by
    show Bool.rec (motive := fun _ => Bool) (lany p t) true (p q) = (p q || t.any p)
    rw [lany_eq p t]
    cases p q <;> rfl
def k_ins (a : Nat) (k : Int) (l : List (Nat × Int)) : List (Nat × Int) := List.rec (motive := fun _ => List (Nat × Int)) [(a, k)] (fun q t ih => Bool.rec (motive := fun _ => List (Nat × Int)) (Bool.rec (motive := fun _ => List (Nat × Int)) (q :: ih) ((a, k) :: q :: t) (Nat.ble a q.1)) (Bool.rec (motive := fun _ => List (Nat × Int)) ((a, zadd q.2 k) :: t) t (zz (zadd q.2 k))) (Nat.beq a q.1)) l
theorem k_ins_nil (a : Nat) (k : Int) : k_ins a k [] = [(a, k)] := rfl
theorem k_ins_cons (a : Nat) (k : Int) (q : Nat × Int) (t : List (Nat × Int)) : k_ins a k (q :: t) = cond (Nat.beq a q.1) (cond (decide (q.2 + k = 0)) t ((a, q.2 + k) :: t)) (cond (Nat.ble a q.1) ((a, k) :: q :: t) (q :: k_ins a k t)) := by
  rw [← zadd_eq, ← zz_eq]
  show Bool.rec (motive := fun _ => List (Nat × Int)) (Bool.rec (motive := fun _ => List (Nat × Int)) (q :: k_ins a k t) ((a, k) :: q :: t) (Nat.ble a q.1)) (Bool.rec (motive := fun _ => List (Nat × Int)) ((a, zadd q.2 k) :: t) t (zz (zadd q.2 k))) (Nat.beq a q.1) = _
  cases Nat.beq a q.1 with
  | true => cases zz (zadd q.2 k) <;> rfl
  | false => cases Nat.ble a q.1 <;> rfl
def k_addl (l m : List (Nat × Int)) : List (Nat × Int) := List.rec (motive := fun _ => List (Nat × Int)) m (fun q _ ih => k_ins q.1 q.2 ih) l
theorem k_addl_nil (m : List (Nat × Int)) : k_addl [] m = m := rfl
theorem k_addl_cons (q : Nat × Int) (t m : List (Nat × Int)) : k_addl (q :: t) m = k_ins q.1 q.2 (k_addl t m) := rfl
def k_add (e f : kE) : kE := (zadd e.1 f.1, k_addl e.2 f.2)
theorem k_add_eq (e f : kE) : k_add e f = (e.1 + f.1, k_addl e.2 f.2) := by
  unfold k_add
  rw [zadd_eq]
def k_mpl (c : Int) (l : List (Nat × Int)) : List (Nat × Int) := List.rec (motive := fun _ => List (Nat × Int)) [] (fun q _ ih => (q.1, zmul c q.2) :: ih) l
theorem k_mpl_eq (c : Int) : ∀ l : List (Nat × Int), k_mpl c l = l.map (fun q => (q.1, c * q.2))
  | [] => rfl
  | q :: t => by
    show (q.1, zmul c q.2) :: k_mpl c t = _
    rw [k_mpl_eq c t, zmul_eq]
    rfl
def k_mul (c : Int) (e : kE) : kE := Bool.rec (motive := fun _ => kE) (zmul c e.1, k_mpl c e.2) (0, []) (zz c)
theorem k_mul_eq (c : Int) (e : kE) : k_mul c e = cond (decide (c = 0)) (0, []) (c * e.1, e.2.map (fun q => (q.1, c * q.2))) := by
  unfold k_mul
  rw [zz_eq, zmul_eq, k_mpl_eq]
  cases decide (c = 0) <;> rfl
def k_ngl (l : List (Nat × Int)) : List (Nat × Int) := List.rec (motive := fun _ => List (Nat × Int)) [] (fun q _ ih => (q.1, zneg q.2) :: ih) l
theorem k_ngl_eq : ∀ l : List (Nat × Int), k_ngl l = l.map (fun q => (q.1, (-1) * q.2))
  | [] => rfl
  | q :: t => by
    show (q.1, zneg q.2) :: k_ngl t = (q.1, (-1) * q.2) :: t.map (fun q => (q.1, (-1) * q.2))
    rw [k_ngl_eq t, zneg_eq, Int.neg_one_mul]
def k_ngw (e : kE) : kE := (zneg e.1, k_ngl e.2)
theorem k_ngw_eq (e : kE) : k_ngw e = k_mul (-1) e := by
  rw [k_mul_eq]
  show (zneg e.1, k_ngl e.2) = ((-1) * e.1, e.2.map (fun q => (q.1, (-1) * q.2)))
  rw [zneg_eq, k_ngl_eq, Int.neg_one_mul]
def k_sub (e f : kE) : kE := k_add e (k_ngw f)
theorem k_sub_eq (e f : kE) : k_sub e f = k_add e (k_mul (-1) f) := by
  unfold k_sub
  rw [k_ngw_eq]
def k_evl (σ : Nat → Int) : List (Nat × Int) → Int
  | [] => 0
  | q :: t => q.2 * σ q.1 + k_evl σ t
def k_ev (σ : Nat → Int) (e : kE) : Int := e.1 + k_evl σ e.2
theorem k_ev_c (σ : Nat → Int) (k : Int) : k_ev σ (kc k) = k := by simp [k_ev, kc, k_evl]
theorem k_ev_v (σ : Nat → Int) (a : Nat) : k_ev σ (kv a) = σ a := by simp [k_ev, kv, k_evl]
theorem k_ev_ins (σ : Nat → Int) (a : Nat) (k : Int) : ∀ l, k_evl σ (k_ins a k l) = k * σ a + k_evl σ l
  | [] => by simp [k_ins_nil, k_evl]
  | q :: t => by
    rw [k_ins_cons]
    cases h : Nat.beq a q.1 with
    | true =>
      have h := Nat.eq_of_beq_eq_true h
      subst h
      simp only [cond_true]
      cases h2 : decide (q.2 + k = 0) with
      | true =>
        have h2 := of_decide_eq_true h2
        simp only [cond_true, k_evl]
        have : k = - q.2 := by omega
        rw [this, Int.neg_mul]
        omega
      | false =>
        simp only [cond_false, k_evl]
        rw [Int.add_mul]
        omega
    | false =>
      simp only [cond_false]
      cases h3 : Nat.ble a q.1 with
      | true => simp only [cond_true, k_evl]
      | false =>
        simp only [cond_false, k_evl]
        rw [k_ev_ins σ a k t]
        omega
theorem k_ev_addl (σ : Nat → Int) : ∀ l m, k_evl σ (k_addl l m) = k_evl σ l + k_evl σ m
  | [], m => by simp [k_addl_nil, k_evl]
  | q :: t, m => by
    rw [k_addl_cons]
    rw [k_ev_ins, k_ev_addl σ t m]
    simp only [k_evl]
    omega
theorem k_ev_add (σ : Nat → Int) (e f : kE) : k_ev σ (k_add e f) = k_ev σ e + k_ev σ f := by
  rw [k_add_eq]
  unfold k_ev
  simp only
  rw [k_ev_addl]
  omega
theorem k_ev_mapl (σ : Nat → Int) (c : Int) : ∀ l : List (Nat × Int), k_evl σ (l.map (fun q => (q.1, c * q.2))) = c * k_evl σ l
  | [] => by simp [k_evl]
  | q :: t => by
    simp only [List.map_cons, k_evl]
    rw [k_ev_mapl σ c t, Int.mul_add, Int.mul_assoc]
theorem k_ev_mul (σ : Nat → Int) (c : Int) (e : kE) : k_ev σ (k_mul c e) = c * k_ev σ e := by
  rw [k_mul_eq]
  cases h : decide (c = 0) with
  | true =>
    have h := of_decide_eq_true h
    subst h
    simp [k_ev, k_evl]
  | false =>
    simp only [cond_false, k_ev]
    rw [k_ev_mapl, Int.mul_add]
theorem k_ev_sub (σ : Nat → Int) (e f : kE) : k_ev σ (k_sub e f) = k_ev σ e - k_ev σ f := by
  rw [k_sub_eq, k_ev_add, k_ev_mul]
  omega
/-- every unknown of it is below n -/
def kSc (n : Nat) (e : kE) : Prop := ∀ q ∈ e.2, q.1 < n
theorem kSc.mono {n m : Nat} {e : kE} (h : kSc n e) (hnm : n ≤ m) : kSc m e := fun q hq => Nat.lt_of_lt_of_le (h q hq) hnm
theorem kSc_c {n : Nat} {k : Int} : kSc n (kc k) := fun q hq => by cases hq
theorem kSc_v {n a : Nat} (h : a < n) : kSc n (kv a) := fun q hq => by
  rcases List.mem_singleton.mp hq with rfl
  exact h
theorem kSc_ins {n a : Nat} {k : Int} (h : a < n) : ∀ l : List (Nat × Int), (∀ q ∈ l, q.1 < n) → ∀ q ∈ k_ins a k l, q.1 < n
  | [], _, q, hq => by
    rcases List.mem_singleton.mp hq with rfl
    exact h
  | r :: t, hl, q, hq => by
    rw [k_ins_cons] at hq
    have ht : ∀ q ∈ t, q.1 < n := fun q hq => hl q (List.mem_cons_of_mem _ hq)
    cases h1 : Nat.beq a r.1 with
    | true =>
      rw [h1] at hq
      simp only [cond_true] at hq
      cases h2 : decide (r.2 + k = 0) with
      | true => rw [h2] at hq; exact ht q hq
      | false =>
        rw [h2] at hq
        rcases List.mem_cons.mp hq with rfl | hq
        · exact h
        · exact ht q hq
    | false =>
      rw [h1] at hq
      simp only [cond_false] at hq
      cases h2 : Nat.ble a r.1 with
      | true =>
        rw [h2] at hq
        rcases List.mem_cons.mp hq with rfl | hq
        · exact h
        · exact hl q hq
      | false =>
        rw [h2] at hq
        rcases List.mem_cons.mp hq with rfl | hq
        · exact hl _ List.mem_cons_self
        · exact kSc_ins h t ht q hq
theorem kSc_addl {n : Nat} : ∀ l m : List (Nat × Int), (∀ q ∈ l, q.1 < n) → (∀ q ∈ m, q.1 < n) → ∀ q ∈ k_addl l m, q.1 < n
  | [], m, _, hm => hm
  | r :: t, m, hl, hm => kSc_ins (hl r List.mem_cons_self) _ (kSc_addl t m (fun q hq => hl q (List.mem_cons_of_mem _ hq)) hm)
theorem kSc_add {n : Nat} {e f : kE} (he : kSc n e) (hf : kSc n f) : kSc n (k_add e f) := by
  rw [k_add_eq]
  exact kSc_addl _ _ he hf
theorem kSc_mul {n : Nat} {c : Int} {e : kE} (he : kSc n e) : kSc n (k_mul c e) := by
  rw [k_mul_eq]
  cases h : decide (c = 0) with
  | true => exact fun q hq => by cases hq
  | false =>
    intro q hq
    obtain ⟨r, hr, rfl⟩ := List.mem_map.mp hq
    exact he r hr
theorem kSc_sub {n : Nat} {e f : kE} (he : kSc n e) (hf : kSc n f) : kSc n (k_sub e f) := by
  rw [k_sub_eq]
  exact kSc_add he (kSc_mul hf)
theorem k_evl_agree {σ τ : Nat → Int} {n : Nat} (h : ∀ a, a < n → τ a = σ a) : ∀ l : List (Nat × Int), (∀ q ∈ l, q.1 < n) → k_evl τ l = k_evl σ l
  | [], _ => rfl
  | q :: t, hl => by
    simp only [k_evl]
    rw [h _ (hl q List.mem_cons_self), k_evl_agree h t (fun q hq => hl q (List.mem_cons_of_mem _ hq))]
theorem k_ev_agree {σ τ : Nat → Int} {n : Nat} (h : ∀ a, a < n → τ a = σ a) {e : kE} (he : kSc n e) : k_ev τ e = k_ev σ e := by
  unfold k_ev
  rw [k_evl_agree h _ he]
/-- between what bounds the unknowns lie; the ones without are 0 -/
abbrev kB : Type := List (Int × Int)
def kBd (σ : Nat → Int) (b : kB) : Prop := ∀ a, (b.getD a (0, 0)).1 ≤ σ a ∧ σ a ≤ (b.getD a (0, 0)).2
def k_lol (b : kB) (l : List (Nat × Int)) : Int := List.rec (motive := fun _ => Int) 0 (fun q _ ih => zadd (Bool.rec (motive := fun _ => Int) (zmul q.2 (zget b q.1).2) (zmul q.2 (zget b q.1).1) (znn q.2)) ih) l
theorem k_lol_nil (b : kB) : k_lol b [] = 0 := rfl
theorem k_lol_cons (b : kB) (q : Nat × Int) (t : List (Nat × Int)) : k_lol b (q :: t) = cond (decide (0 ≤ q.2)) (q.2 * (b.getD q.1 (0, 0)).1) (q.2 * (b.getD q.1 (0, 0)).2) + k_lol b t := by
  rw [← zget_eq, ← zmul_eq, ← zmul_eq, ← znn_eq, ← zadd_eq]
  show zadd (Bool.rec (motive := fun _ => Int) (zmul q.2 (zget b q.1).2) (zmul q.2 (zget b q.1).1) (znn q.2)) (k_lol b t) = _
  cases znn q.2 <;> rfl
def k_lo (b : kB) (e : kE) : Int := zadd e.1 (k_lol b e.2)
theorem k_lo_eq (b : kB) (e : kE) : k_lo b e = e.1 + k_lol b e.2 := zadd_eq _ _
def k_hi (b : kB) (e : kE) : Int := zneg (k_lo b (k_ngw e))
theorem k_hi_eq (b : kB) (e : kE) : k_hi b e = - k_lo b (k_mul (-1) e) := by
  unfold k_hi
  rw [zneg_eq, k_ngw_eq]
theorem k_lol_le {σ : Nat → Int} {b : kB} (h : kBd σ b) : ∀ l, k_lol b l ≤ k_evl σ l
  | [] => Int.le_refl _
  | q :: t => by
    have h1 := k_lol_le h t
    rw [k_lol_cons]
    simp only [k_evl]
    have h2 : cond (decide (0 ≤ q.2)) (q.2 * (b.getD q.1 (0, 0)).1) (q.2 * (b.getD q.1 (0, 0)).2) ≤ q.2 * σ q.1 := by
      cases h3 : decide (0 ≤ q.2) with
      | true => exact Int.mul_le_mul_of_nonneg_left (h q.1).1 (of_decide_eq_true h3)
      | false =>
        have h3 := of_decide_eq_false h3
        exact Int.mul_le_mul_of_nonpos_left (by omega) (h q.1).2
    omega
theorem k_lo_le {σ : Nat → Int} {b : kB} (h : kBd σ b) (e : kE) : k_lo b e ≤ k_ev σ e := by
  rw [k_lo_eq]
  unfold k_ev
  have := k_lol_le h e.2
  omega
theorem k_hi_ge {σ : Nat → Int} {b : kB} (h : kBd σ b) (e : kE) : k_ev σ e ≤ k_hi b e := by
  rw [k_hi_eq]
  have := k_lo_le h (k_mul (-1) e)
  rw [k_ev_mul] at this
  omega
/-- the facts: words that are 0 or more -/
def kFs (σ : Nat → Int) (F : List kE) : Prop := ∀ f ∈ F, 0 ≤ k_ev σ f
/-- a fact taken as often as it must be: e is at least a share of it, and whole -/
def k_rt1 (b : kB) (e f : kE) (r q : Nat × Int) : Bool := Nat.beq r.1 q.1 && (!(zeq r.2 q.2) && (decide (0 < r.2 * q.2) &&  decide (1 - (q.2.natAbs : Int) ≤ k_lo b (k_sub (k_mul (q.2.natAbs : Int) e) (k_mul (r.2.natAbs : Int) f)))))
def k_rt (b : kB) (e f : kE) : Bool := lany (fun q => lany (fun r => k_rt1 b e f r q) e.2) f.2
theorem k_rt_ok {σ : Nat → Int} {b : kB} {e f : kE} (hb : kBd σ b) (hf : 0 ≤ k_ev σ f) (h : k_rt b e f = true) : 0 ≤ k_ev σ e := by
  unfold k_rt at h
  simp only [lany_eq] at h
  obtain ⟨q, -, h⟩ := List.any_eq_true.mp h
  obtain ⟨r, -, h⟩ := List.any_eq_true.mp h
  unfold k_rt1 at h
  simp only [Bool.and_eq_true, decide_eq_true_eq] at h
  obtain ⟨-, -, h1, h2⟩ := h
  have h3 := Int.le_trans h2 (k_lo_le hb _)
  rw [k_ev_sub, k_ev_mul, k_ev_mul] at h3
  have hq : 1 ≤ (q.2.natAbs : Int) := by
    have : q.2 ≠ 0 := by
      intro h0
      rw [h0, Int.mul_zero] at h1
      omega
    omega
  have h4 : 0 ≤ (r.2.natAbs : Int) * k_ev σ f := Int.mul_nonneg (by omega) hf
  refine Int.not_lt.mp fun hl => ?_
  have h5 : (q.2.natAbs : Int) * k_ev σ e ≤ (q.2.natAbs : Int) * (-1) := Int.mul_le_mul_of_nonneg_left (by omega) (by omega)
  omega
theorem k_nn_ok {x : Int} (h : znn x = true) : 0 ≤ x := by
  rw [znn_eq] at h
  exact of_decide_eq_true h
def k_cst (e : kE) : Bool := List.rec (motive := fun _ => Bool) true (fun _ _ _ => false) e.2
theorem k_cst_eq (e : kE) : k_cst e = Nat.beq e.2.length 0 := by
  unfold k_cst
  cases e.2 <;> rfl
/-- by bounds, or by one fact -/
def k_ge0 (b : kB) (F : List kE) (e : kE) : Bool := znn (k_lo b e) || (!(k_cst e) && (lany (fun f => znn (k_lo b (k_sub e f))) F || lany (fun f => k_rt b e f) F))
theorem k_ge0_ok {σ : Nat → Int} {b : kB} {F : List kE} {e : kE} (hb : kBd σ b) (hF : kFs σ F) (h : k_ge0 b F e = true) : 0 ≤ k_ev σ e := by
  unfold k_ge0 at h
  simp only [Bool.or_eq_true, Bool.and_eq_true, lany_eq] at h
  rcases h with h | ⟨-, h | h⟩
  · exact Int.le_trans (k_nn_ok h) (k_lo_le hb e)
  · obtain ⟨f, hf, h⟩ := List.any_eq_true.mp h
    have h1 := Int.le_trans (k_nn_ok h) (k_lo_le hb _)
    rw [k_ev_sub] at h1
    have := hF f hf
    omega
  · obtain ⟨f, hf, h⟩ := List.any_eq_true.mp h
    exact k_rt_ok hb (hF f hf) h
/-- by two facts, too: of those that share an unknown, with one sign -/
def k_shr1 (r q : Nat × Int) : Bool := Nat.beq r.1 q.1 && cond (znn r.2) (znn q.2) (!(znn q.2))
def k_shr (e f : kE) : Bool := lany (fun q => lany (fun r => k_shr1 r q) f.2) e.2
def k_geh (b : kB) (d : kE) (F : List kE) : Bool := lany (fun h => k_shr d h && (znn (k_lo b (k_sub d h)) || k_rt b d h)) F
def k_ge (b : kB) (F : List kE) (e : kE) : Bool := znn (k_lo b e) || (znn (k_hi b e) && (!(k_cst e) && (lany (fun f => k_shr e f && znn (k_lo b (k_sub e f))) F || (lany (fun f => k_shr e f && k_rt b e f) F || lany (fun f => k_shr e f && k_geh b (k_sub e f) F) F))))
theorem k_geh_ok {σ : Nat → Int} {b : kB} {F : List kE} {d : kE} (hb : kBd σ b) (hF : kFs σ F) (h : k_geh b d F = true) : 0 ≤ k_ev σ d := by
  unfold k_geh at h
  rw [lany_eq] at h
  obtain ⟨g, hg, h⟩ := List.any_eq_true.mp h
  obtain ⟨-, h⟩ := Bool.and_eq_true_iff.mp h
  rcases Bool.or_eq_true_iff.mp h with h | h
  · have h1 := Int.le_trans (k_nn_ok h) (k_lo_le hb _)
    rw [k_ev_sub] at h1
    have := hF g hg
    omega
  · exact k_rt_ok hb (hF g hg) h
theorem k_ge_ok {σ : Nat → Int} {b : kB} {F : List kE} {e : kE} (hb : kBd σ b) (hF : kFs σ F) (h : k_ge b F e = true) : 0 ≤ k_ev σ e := by
  unfold k_ge at h
  simp only [Bool.or_eq_true, Bool.and_eq_true, lany_eq] at h
  rcases h with h | ⟨-, -, h | h | h⟩
  · exact Int.le_trans (k_nn_ok h) (k_lo_le hb e)
  · obtain ⟨f, hf, h⟩ := List.any_eq_true.mp h
    obtain ⟨-, h⟩ := Bool.and_eq_true_iff.mp h
    have h1 := Int.le_trans (k_nn_ok h) (k_lo_le hb _)
    rw [k_ev_sub] at h1
    have := hF f hf
    omega
  · obtain ⟨f, hf, h⟩ := List.any_eq_true.mp h
    obtain ⟨-, h⟩ := Bool.and_eq_true_iff.mp h
    exact k_rt_ok hb (hF f hf) h
  · obtain ⟨f, hf, h⟩ := List.any_eq_true.mp h
    obtain ⟨-, h⟩ := Bool.and_eq_true_iff.mp h
    have h1 := k_geh_ok hb hF h
    rw [k_ev_sub] at h1
    have := hF f hf
    omega
/-- facts that can't be, one, two or three together -/
def k_ngt (b : kB) (e : kE) : Bool := !(znn (k_hi b e))
def k_dd3 (b : kB) (e : kE) (l : List kE) : Bool := lany (fun g => k_ngt b (k_add e g)) l
def k_dd2 (b : kB) (e : kE) : List kE → Bool
  | [] => false
  | f :: t => k_ngt b (k_add e f) || (k_dd3 b (k_add e f) (f :: t) || k_dd2 b e t)
def k_dd1 (b : kB) : List kE → Bool
  | [] => false
  | f :: t => k_dd2 b f (f :: t) || k_dd1 b t
def k_dead (b : kB) (F : List kE) : Bool := lany (k_ngt b) F || k_dd1 b F
theorem k_ngt_ok {σ : Nat → Int} {b : kB} {e : kE} (hb : kBd σ b) (h : k_ngt b e = true) : k_ev σ e < 0 := by
  unfold k_ngt at h
  rw [znn_eq] at h
  have h1 := k_hi_ge hb e
  have h2 : ¬ 0 ≤ k_hi b e := by
    intro g
    rw [decide_eq_true g] at h
    cases h
  omega
theorem k_dd3_ok {σ : Nat → Int} {b : kB} {e : kE} {l : List kE} (hb : kBd σ b) (hl : kFs σ l) (he : 0 ≤ k_ev σ e) (h : k_dd3 b e l = true) : False := by
  unfold k_dd3 at h
  rw [lany_eq] at h
  obtain ⟨g, hg, h⟩ := List.any_eq_true.mp h
  have h1 := k_ngt_ok hb h
  rw [k_ev_add] at h1
  have := hl g hg
  omega
theorem k_dd2_ok {σ : Nat → Int} {b : kB} {e : kE} (hb : kBd σ b) (he : 0 ≤ k_ev σ e) : ∀ l : List kE, kFs σ l → k_dd2 b e l = true → False
  | [], _, h => by cases h
  | f :: t, hl, h => by
    unfold k_dd2 at h
    have hf := hl f List.mem_cons_self
    have hef : 0 ≤ k_ev σ (k_add e f) := by
      rw [k_ev_add]
      omega
    rcases Bool.or_eq_true_iff.mp h with h | h
    · have := k_ngt_ok hb h
      omega
    · rcases Bool.or_eq_true_iff.mp h with h | h
      · exact k_dd3_ok hb hl hef h
      · exact k_dd2_ok hb he t (fun g hg => hl g (List.mem_cons_of_mem _ hg)) h
theorem k_dd1_ok {σ : Nat → Int} {b : kB} (hb : kBd σ b) : ∀ l : List kE, kFs σ l → k_dd1 b l = true → False
  | [], _, h => by cases h
  | f :: t, hl, h => by
    unfold k_dd1 at h
    rcases Bool.or_eq_true_iff.mp h with h | h
    · exact k_dd2_ok hb (hl f List.mem_cons_self) _ hl h
    · exact k_dd1_ok hb t (fun g hg => hl g (List.mem_cons_of_mem _ hg)) h
theorem k_dead_ok {σ : Nat → Int} {b : kB} {F : List kE} (hb : kBd σ b) (hF : kFs σ F) (h : k_dead b F = true) : False := by
  unfold k_dead at h
  rcases Bool.or_eq_true_iff.mp h with h | h
  · rw [lany_eq] at h
    obtain ⟨f, hf, h⟩ := List.any_eq_true.mp h
    have := k_ngt_ok hb h
    have := hF f hf
    omega
  · exact k_dd1_ok hb F hF h
/-- the same word; the same by bounds; a word with one value is a number -/
def k_eq (e f : kE) : Bool := match k_sub e f with
  | (z, []) => decide (z = 0)
  | _ => false
theorem k_eq_ok {σ : Nat → Int} {e f : kE} (h : k_eq e f = true) : k_ev σ e = k_ev σ f := by
  unfold k_eq at h
  split at h
  · rename_i z hz
    have h1 := k_ev_sub σ e f
    rw [hz] at h1
    have h := of_decide_eq_true h
    have h2 : k_ev σ (z, []) = z := k_ev_c σ z
    omega
  · cases h
def k_eqv (b : kB) (F : List kE) (e f : kE) : Bool := k_eq e f || (znn (k_hi b (k_sub e f)) && (znn (zneg (k_lo b (k_sub e f))) && (k_ge b F (k_sub e f) && k_ge b F (k_ngw (k_sub e f)))))
theorem k_eqv_ok {σ : Nat → Int} {b : kB} {F : List kE} {e f : kE} (hb : kBd σ b) (hF : kFs σ F) (h : k_eqv b F e f = true) : k_ev σ e = k_ev σ f := by
  unfold k_eqv at h
  simp only [Bool.or_eq_true, Bool.and_eq_true] at h
  rcases h with h | ⟨-, -, h1, h2⟩
  · exact k_eq_ok h
  · have h1 := k_ge_ok hb hF h1
    have h2 := k_ge_ok hb hF h2
    rw [k_ngw_eq, k_ev_mul] at h2
    rw [k_ev_sub] at h1 h2
    omega
def k_nv (b : kB) (e : kE) : kE := cond (k_cst e) e (cond (decide (k_lo b e = k_hi b e)) (kc (k_lo b e)) e)
theorem k_nv_ok {σ : Nat → Int} {b : kB} {e : kE} (hb : kBd σ b) : k_ev σ (k_nv b e) = k_ev σ e := by
  unfold k_nv
  cases k_cst e with
  | true => rfl
  | false =>
    rw [cond_false]
    cases h : decide (k_lo b e = k_hi b e) with
    | false => rfl
    | true =>
      have h := of_decide_eq_true h
      have h1 := k_lo_le hb e
      have h2 := k_hi_ge hb e
      rw [cond_true, k_ev_c]
      omega
theorem k_nv_sc {n : Nat} {b : kB} {e : kE} (h : kSc n e) : kSc n (k_nv b e) := by
  unfold k_nv
  cases k_cst e with
  | true => exact h
  | false =>
    rw [cond_false]
    cases decide (k_lo b e = k_hi b e) with
    | true => exact kSc_c
    | false => exact h
/-- an exact share of a word -/
def k_dv (p : Int) (e : kE) : kE := (e.1 / p, e.2.map (fun q => (q.1, q.2 / p)))
theorem k_dv_sc {n : Nat} {p : Int} {e : kE} (h : kSc n e) : kSc n (k_dv p e) := fun q hq => by
  obtain ⟨r, hr, rfl⟩ := List.mem_map.mp hq
  exact h r hr
def k_fit0 (b : kB) (F : List kE) (lo hi : Int) (e : kE) : Bool := k_ge0 b F (k_sub e (kc lo)) && k_ge0 b F (k_sub (kc hi) e)
theorem k_fit0_ok {σ : Nat → Int} {b : kB} {F : List kE} {lo hi : Int} {e : kE} (hb : kBd σ b) (hF : kFs σ F) (h : k_fit0 b F lo hi e = true) : lo ≤ k_ev σ e ∧ k_ev σ e ≤ hi := by
  unfold k_fit0 at h
  simp only [Bool.and_eq_true] at h
  have h1 := k_ge0_ok hb hF h.1
  have h2 := k_ge0_ok hb hF h.2
  rw [k_ev_sub, k_ev_c] at h1 h2
  omega
def k_fit (b : kB) (F : List kE) (lo hi : Int) (e : kE) : Bool := k_ge b F (k_sub e (kc lo)) && k_ge b F (k_sub (kc hi) e)
theorem k_fit_ok {σ : Nat → Int} {b : kB} {F : List kE} {lo hi : Int} {e : kE} (hb : kBd σ b) (hF : kFs σ F) (h : k_fit b F lo hi e = true) : lo ≤ k_ev σ e ∧ k_ev σ e ≤ hi := by
  unfold k_fit at h
  simp only [Bool.and_eq_true] at h
  have h1 := k_ge_ok hb hF h.1
  have h2 := k_ge_ok hb hF h.2
  rw [k_ev_sub, k_ev_c] at h1 h2
  omega
/-- a fact makes bounds narrower -/
def k_tig1 (e : kE) (q : Nat × Int) (b : kB) : kB :=
  let r := k_hi b (k_sub e (0, [q]))
  let o := b.getD q.1 (0, 0)
  cond (decide (0 < q.2)) (cond (decide (o.1 < -(r / q.2))) (b.set q.1 (-(r / q.2), o.2)) b)
    (cond (decide (q.2 < 0)) (cond (decide (r / (-q.2) < o.2)) (b.set q.1 (o.1, r / (-q.2))) b) b)
def k_tig (e : kE) : List (Nat × Int) → kB → kB
  | [], b => b
  | q :: t, b => k_tig e t (k_tig1 e q b)
theorem kBd_set {σ : Nat → Int} {b : kB} {a : Nat} {x : Int × Int} (h : kBd σ b) (h1 : x.1 ≤ σ a) (h2 : σ a ≤ x.2) : kBd σ (b.set a x) := by
  intro c
  by_cases hc : c = a
  · subst hc
    by_cases hl : c < b.length
    · rw [List.getD_eq_getElem?_getD, List.getElem?_set_self hl]
      exact ⟨h1, h2⟩
    · have := h c
      rw [List.getD_eq_getElem?_getD, List.getElem?_eq_none (by omega)] at this
      rw [List.getD_eq_getElem?_getD, List.getElem?_eq_none (by rw [List.length_set]; omega)]
      exact this
  · rw [List.getD_eq_getElem?_getD, List.getElem?_set_ne (Ne.symm hc), ← List.getD_eq_getElem?_getD]
    exact h c
theorem k_tig1_ok {σ : Nat → Int} {b : kB} {e : kE} {q : Nat × Int} (h : kBd σ b) (he : 0 ≤ k_ev σ e) : kBd σ (k_tig1 e q b) := by
  have hr := k_hi_ge h (k_sub e (0, [q]))
  rw [k_ev_sub] at hr
  have hq : k_ev σ (0, [q]) = q.2 * σ q.1 := by simp [k_ev, k_evl]
  rw [hq] at hr
  unfold k_tig1
  simp only
  generalize k_hi b (k_sub e (0, [q])) = r at hr ⊢
  have ho := h q.1
  cases h1 : decide (0 < q.2) with
  | true =>
    have h1 := of_decide_eq_true h1
    simp only [cond_true]
    cases h2 : decide ((b.getD q.1 (0, 0)).1 < -(r / q.2)) with
    | false => exact h
    | true =>
      refine kBd_set h ?_ ho.2
      show -(r / q.2) ≤ σ q.1
      have h3 : (-(σ q.1)) ≤ r / q.2 := by
        rw [Int.le_ediv_iff_mul_le h1, Int.neg_mul, Int.mul_comm]
        omega
      omega
  | false =>
    simp only [cond_false]
    cases h3 : decide (q.2 < 0) with
    | false => exact h
    | true =>
      have h3 := of_decide_eq_true h3
      simp only [cond_true]
      cases h2 : decide (r / (-q.2) < (b.getD q.1 (0, 0)).2) with
      | false => exact h
      | true =>
        refine kBd_set h ho.1 ?_
        show σ q.1 ≤ r / (-q.2)
        rw [Int.le_ediv_iff_mul_le (by omega), Int.mul_neg, Int.mul_comm]
        omega
theorem k_tig_ok {σ : Nat → Int} {e : kE} (he : 0 ≤ k_ev σ e) : ∀ (l : List (Nat × Int)) (b : kB), kBd σ b → kBd σ (k_tig e l b)
  | [], _, h => h
  | q :: t, b, h => k_tig_ok he t _ (k_tig1_ok h he)
theorem k_cnd_len {c : Bool} {b : kB} {a : Nat} {x : Int × Int} : (cond c (b.set a x) b).length = b.length := by cases c <;> simp
theorem k_tig1_len {e : kE} {q : Nat × Int} {b : kB} : (k_tig1 e q b).length = b.length := by
  unfold k_tig1
  simp only
  cases decide (0 < q.2) <;> simp only [cond_true, cond_false]
  · cases decide (q.2 < 0) <;> simp only [cond_true, cond_false]
    exact k_cnd_len
  · exact k_cnd_len
theorem k_tig_len {e : kE} : ∀ (l : List (Nat × Int)) (b : kB), (k_tig e l b).length = b.length
  | [], _ => rfl
  | q :: t, b => by
    unfold k_tig
    rw [k_tig_len t, k_tig1_len]
end
