noncomputable section
/-! the tape's text: steps that are told ahead, so that none is looked for -/
def k_nth {α : Type} (l : List α) (i : Nat) : Option α := List.rec (motive := fun _ => Nat → Option α) (fun _ => none) (fun q _ ih i => Nat.rec (motive := fun _ => Option α) (some q) (fun n _ => ih n) i) l i
theorem k_nth_in {α : Type} : ∀ (l : List α) (i : Nat) {q : α}, k_nth l i = some q → q ∈ l
  | [], _, _, h => by cases h
  | x :: t, 0, q, h => by
    cases h
    exact List.mem_cons_self
  | x :: t, i + 1, q, h => List.mem_cons_of_mem _ (k_nth_in t i h)
/-- two entries of one place -/
def k_hpr (S : kS) (q : kH) (o : Option kH) : Option (Option kS) := match o with
  | none => none
  | some r => cond (k_s03 S q && (k_wq r.1.1 q.1.1 && k_eqS S q.1.2 r.1.2)) (some (k_cnF S .eq (k_sub q.2 r.2))) none
def k_hsr (S : kS) (r : Nat) (q : kH) (j : Nat) : Option (Option kS) := cond (Nat.beq r 1) (k_stq S 1 false q) (cond (Nat.beq r 2) (k_nbq S (Nat.succ j) q) (cond (Nat.beq r 3) (k_rgq S (Nat.succ j) q) (cond (Nat.beq r 4) (k_siq S q) (cond (Nat.beq r 5) (some (some (k_bgn S))) (k_hpr S q (k_nth S.2.2.2 j))))))
def k_hst (S : kS) (r i j : Nat) : Option (Option kS) := match k_nth S.2.2.2 i with
  | none => none
  | some q => k_hsr S r q j
/-- r + 8 (i + 128 j), one behind the other -/
def k_adh (f : Nat) (h : Nat) (S : kS) : Option kS := Nat.rec (motive := fun _ => Nat → kS → Option kS) (fun _ S => some S) (fun _ ih h S => cond (Nat.beq h 0) (some S) (match k_hst S (Nat.mod h 8) (Nat.mod (Nat.div h 8) 128) (Nat.mod (Nat.div h 1024) 128) with
  | none => ih (Nat.div h 131072) S
  | some none => none
  | some (some T) => k_fcS T (fun T => ih (Nat.div h 131072) T))) f h S
section KHN
variable {N : kN} {σ : Nat → Int} {S : kS} {M : pM}
theorem k_hsr_ok (h : kRS N σ S M) {r j : Nat} {q : kH} {o : Option kS} (hq : q ∈ S.2.2.2) (ho : k_hsr S r q j = some o) : kStp N σ S M o := by
  unfold k_hsr at ho
  cases c0 : Nat.beq r 1 with
  | true =>
    rw [c0, cond_true] at ho
    exact k_stq_ok h hq ho
  | false =>
    rw [c0, cond_false] at ho
    cases c1 : Nat.beq r 2 with
    | true =>
      rw [c1, cond_true] at ho
      exact k_nbq_ok h hq ho
    | false =>
      rw [c1, cond_false] at ho
      cases c2 : Nat.beq r 3 with
      | true =>
        rw [c2, cond_true] at ho
        exact k_rgq_ok h hq ho
      | false =>
        rw [c2, cond_false] at ho
        cases c3 : Nat.beq r 4 with
        | true =>
          rw [c3, cond_true] at ho
          exact k_siq_ok h hq ho
        | false =>
          rw [c3, cond_false] at ho
          cases c4 : Nat.beq r 5 with
          | true =>
            rw [c4, cond_true] at ho
            cases ho
            obtain ⟨b1, b2⟩ := k_bgn_ok h
            exact ⟨_, rfl, b1, b2⟩
          | false =>
            rw [c4, cond_false] at ho
            unfold k_hpr at ho
            split at ho
            · cases ho
            · rename_i p hp
              obtain ⟨g, ho⟩ := pm_cs ho
              cases ho
              simp only [Bool.and_eq_true] at g
              obtain ⟨g1, g2, g3⟩ := g
              have hp := k_nth_in _ _ hp
              have e := k_s03_uq h hq hp g1 (k_wq_ok g2) (k_eqv_ok h.2.1 h.2.2.1 g3)
              exact k_cnF_ok (c := .eq) h (kSc_sub (h.2.2.2.2.2.2.2 q hq).2.2 (h.2.2.2.2.2.2.2 p hp).2.2) (by show k_ev σ (k_sub q.2 p.2) = 0; rw [k_ev_sub]; omega)
theorem k_hst_ok (h : kRS N σ S M) {r i j : Nat} {o : Option kS} (ho : k_hst S r i j = some o) : kStp N σ S M o := by
  unfold k_hst at ho
  split at ho
  · cases ho
  · rename_i q hq
    exact k_hsr_ok h (k_nth_in _ _ hq) ho
theorem k_adh_succ (f h : Nat) (S : kS) : k_adh (f + 1) h S = cond (Nat.beq h 0) (some S) (match k_hst S (Nat.mod h 8) (Nat.mod (Nat.div h 8) 128) (Nat.mod (Nat.div h 1024) 128) with
  | none => k_adh f (Nat.div h 131072) S
  | some none => none
  | some (some T) => k_fcS T (fun T => k_adh f (Nat.div h 131072) T)) := rfl
theorem k_adh_ok : ∀ (f h : Nat) (S : kS), kRS N σ S M → kStp N σ S M (k_adh f h S)
  | 0, _, S, hS => ⟨S, rfl, rfl, hS⟩
  | f + 1, h, S, hS => by
    rw [k_adh_succ]
    cases Nat.beq h 0 with
    | true => exact ⟨S, rfl, rfl, hS⟩
    | false =>
      rw [cond_false]
      split
      · exact k_adh_ok f _ S hS
      · rename_i hn
        obtain ⟨T, t1, -, -⟩ := k_hst_ok hS hn
        cases t1
      · rename_i T hT
        obtain ⟨U, t1, t2, t3⟩ := k_hst_ok hS hT
        cases t1
        rw [k_fcS_eq]
        exact (k_adh_ok f _ T t3).tr t2
/-- the steps of a place: path, fuel -/
def k_hn (H : List (Nat × Nat)) (key : Nat) : Nat := List.rec (motive := fun _ => Nat) 0 (fun q _ ih => Bool.rec (motive := fun _ => Nat) ih q.2 (Nat.beq q.1 key)) H
def k_hnk (H : List (Nat × Nat)) (pn f : Nat) : Nat := k_hn H (Nat.add (Nat.mul pn 262144) (Nat.mul 2 f))
/-- which of a list, from 1 on; 0: any -/
def k_hix (H : List (Nat × Nat)) (pn f : Nat) : Nat := k_hn H (Nat.add (Nat.mul pn 262144) (Nat.succ (Nat.mul 2 f)))
def k_pck {α : Type} (i : Nat) (l : List α) : List α := Nat.rec (motive := fun _ => List α) l (fun j _ => Option.rec (motive := fun _ => List α) [] (fun x => [x]) (k_nth l j)) i
theorem k_pck_in {α : Type} {i : Nat} {l : List α} {x : α} (h : x ∈ k_pck i l) : x ∈ l := by
  cases i with
  | zero => exact h
  | succ j =>
    have h : x ∈ Option.rec (motive := fun _ => List α) [] (fun x => [x]) (k_nth l j) := h
    cases c : k_nth l j with
    | none =>
      rw [c] at h
      cases h
    | some y =>
      rw [c] at h
      rcases List.mem_singleton.mp h with rfl
      exact k_nth_in _ _ c
def k_adg (h : Nat) (S : kS) : Option kS := cond (Nat.beq h 7) (k_adv false S) (k_adh 64 h S)
def k_adx (H : List (Nat × Nat)) (pn f : Nat) (S : kS) : Option kS := k_fcS S (fun S => k_adg (k_hnk H pn f) S)
def k_adr (H : List (Nat × Nat)) (pn f : Nat) (i : Instr) (S : kS) : Option kS := match i with
  | .baload => k_adh 64 (k_hnk H pn f) S
  | _ => some S
theorem k_adg_ok (hS : kRS N σ S M) (h : Nat) : kStp N σ S M (k_adg h S) := by
  unfold k_adg
  cases Nat.beq h 7 with
  | true => exact k_adv_ok hS false
  | false => exact k_adh_ok 64 h S hS
theorem k_adx_ok (hS : kRS N σ S M) (H : List (Nat × Nat)) (pn f : Nat) : kStp N σ S M (k_adx H pn f S) := by
  unfold k_adx
  rw [k_fcS_eq]
  exact k_adg_ok hS _
theorem k_adr_ok (hS : kRS N σ S M) (H : List (Nat × Nat)) (pn f : Nat) (i : Instr) : kStp N σ S M (k_adr H pn f i S) := by
  unfold k_adr
  split
  · exact k_adh_ok 64 _ S hS
  · exact ⟨S, rfl, rfl, hS⟩
/-- every unknown named -/
def k_nma (S : kS) : kS := (S.1, S.2.1, S.2.2.1, (List.range S.1.length).map (fun i => k_nme (100 + i) (kv i)) ++ S.2.2.2)
theorem k_nma_ok (h : kRS N σ S M) : kRS N σ (k_nma S) M := by
  unfold k_nma
  refine kRS_ent h fun q hq => ?_
  rcases List.mem_append.mp hq with hq | hq
  · obtain ⟨i, hi, rfl⟩ := List.mem_map.mp hq
    refine Or.inr ⟨⟨kSc_c, kSc_c, fun r hr => ?_⟩, kHas_14 (k_ev_c _ _)⟩
    rcases List.mem_singleton.mp hr with rfl
    exact List.mem_range.mp hi
  · exact Or.inl hq
end KHN
/-! forks by number -/
def k_al2 {α : Type} (p : Nat → α → Bool) (l : List α) (n : Nat) : Bool := List.rec (motive := fun _ => Nat → Bool) (fun _ => true) (fun x _ ih n => Bool.rec (motive := fun _ => Bool) false (ih (Nat.succ n)) (p (Nat.succ n) x)) l n
theorem k_al2_ok {α : Type} (p : Nat → α → Bool) : ∀ (l : List α) (n : Nat), k_al2 p l n = true → ∀ x ∈ l, ∃ m, p m x = true
  | [], _, _, _, hx => by cases hx
  | y :: t, n, h, x, hx => by
    have h : Bool.rec (motive := fun _ => Bool) false (k_al2 p t (Nat.succ n)) (p (Nat.succ n) y) = true := h
    cases c : p (Nat.succ n) y with
    | false =>
      rw [c] at h
      cases h
    | true =>
      rw [c] at h
      rcases List.mem_cons.mp hx with rfl | hx
      · exact ⟨_, c⟩
      · exact k_al2_ok p t _ h x hx
def k_al1 {α : Type} (pn : Nat) (l : List α) (p : Nat → α → Bool) : Bool := match l with
  | [x] => p pn x
  | l => k_al2 p l (Nat.mul pn 256)
theorem k_al1_ok {α : Type} {pn : Nat} {l : List α} {p : Nat → α → Bool} (h : k_al1 pn l p = true) : ∀ x ∈ l, ∃ m, p m x = true := by
  unfold k_al1 at h
  split at h
  · intro x hx
    rcases List.mem_singleton.mp hx with rfl
    exact ⟨_, h⟩
  · exact k_al2_ok p _ _ h
end
