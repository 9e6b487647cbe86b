noncomputable section
/-! words made plain, so that one reckoning is one expression; leaves over a whole state -/
section KFC
variable {α β : Type}
def k_fcN (n : Nat) (K : Nat → β) : β := Nat.rec (motive := fun _ => β) (K 0) (fun p _ => K (Nat.succ p)) n
def k_fcI (x : Int) (K : Int → β) : β := Int.rec (motive := fun _ => β) (fun m => k_fcN m (fun m => K (Int.ofNat m))) (fun m => k_fcN m (fun m => K (Int.negSucc m))) x
def k_fcT (l : List (Nat × Int)) (K : List (Nat × Int) → β) : β := List.rec (motive := fun _ => (List (Nat × Int) → β) → β) (fun K => K []) (fun q _ ih K => Prod.rec (motive := fun _ => β) (fun a k => k_fcN a (fun a => k_fcI k (fun k => ih (fun t => K ((a, k) :: t))))) q) l K
def k_fcE (e : kE) (K : kE → β) : β := Prod.rec (motive := fun _ => β) (fun z l => k_fcI z (fun z => k_fcT l (fun l => K (z, l)))) e
def k_fcB (b : kB) (K : kB → β) : β := List.rec (motive := fun _ => (kB → β) → β) (fun K => K []) (fun q _ ih K => Prod.rec (motive := fun _ => β) (fun x y => k_fcI x (fun x => k_fcI y (fun y => ih (fun t => K ((x, y) :: t))))) q) b K
def k_fcF (F : List kE) (K : List kE → β) : β := List.rec (motive := fun _ => (List kE → β) → β) (fun K => K []) (fun e _ ih K => k_fcE e (fun e => ih (fun t => K (e :: t)))) F K
def k_fcV (c v : kE) (K : kE → β) : β := Bool.rec (motive := fun _ => β) (k_fcE v K) (K v) (zeq c.1 (Int.negSucc 13))
def k_fcC (C : List kH) (K : List kH → β) : β := List.rec (motive := fun _ => (List kH → β) → β) (fun K => K []) (fun q _ ih K => Prod.rec (motive := fun _ => β) (fun p v => Prod.rec (motive := fun _ => β) (fun c s => k_fcE c (fun c => k_fcE s (fun s => k_fcV c v (fun v => ih (fun t => K (((c, s), v) :: t)))))) p) q) C K
def k_fcS (S : kS) (K : kS → β) : β := Prod.rec (motive := fun _ => β) (fun b r => Prod.rec (motive := fun _ => β) (fun F r => Prod.rec (motive := fun _ => β) (fun N C => k_fcB b (fun b => k_fcF F (fun F => k_fcF N (fun N => k_fcC C (fun C => K (b, F, N, C)))))) r) r) S
theorem k_fcN_eq (n : Nat) (K : Nat → β) : k_fcN n K = K n := by
  cases n <;> rfl
theorem k_fcI_eq (x : Int) (K : Int → β) : k_fcI x K = K x := by
  cases x with
  | ofNat m => exact k_fcN_eq m (fun m => K (Int.ofNat m))
  | negSucc m => exact k_fcN_eq m (fun m => K (Int.negSucc m))
theorem k_fcT_eq : ∀ (l : List (Nat × Int)) (K : List (Nat × Int) → β), k_fcT l K = K l
  | [], _ => rfl
  | (a, k) :: t, K => by
    show k_fcN a (fun a => k_fcI k (fun k => k_fcT t (fun t => K ((a, k) :: t)))) = _
    rw [k_fcN_eq, k_fcI_eq, k_fcT_eq t]
theorem k_fcE_eq (e : kE) (K : kE → β) : k_fcE e K = K e := by
  obtain ⟨z, l⟩ := e
  show k_fcI z (fun z => k_fcT l (fun l => K (z, l))) = _
  rw [k_fcI_eq, k_fcT_eq]
theorem k_fcB_eq : ∀ (l : kB) (K : kB → β), k_fcB l K = K l
  | [], _ => rfl
  | (x, y) :: t, K => by
    show k_fcI x (fun x => k_fcI y (fun y => k_fcB t (fun t => K ((x, y) :: t)))) = _
    rw [k_fcI_eq, k_fcI_eq, k_fcB_eq t]
theorem k_fcF_eq : ∀ (l : List kE) (K : List kE → β), k_fcF l K = K l
  | [], _ => rfl
  | e :: t, K => by
    show k_fcE e (fun e => k_fcF t (fun t => K (e :: t))) = _
    rw [k_fcE_eq, k_fcF_eq t]
theorem k_fcV_eq (c v : kE) (K : kE → β) : k_fcV c v K = K v := by
  unfold k_fcV
  cases zeq c.1 (Int.negSucc 13) with
  | false => exact k_fcE_eq v K
  | true => rfl
theorem k_fcC_eq : ∀ (l : List kH) (K : List kH → β), k_fcC l K = K l
  | [], _ => rfl
  | ((c, s), v) :: t, K => by
    show k_fcE c (fun c => k_fcE s (fun s => k_fcV c v (fun v => k_fcC t (fun t => K (((c, s), v) :: t))))) = _
    rw [k_fcE_eq, k_fcE_eq, k_fcV_eq, k_fcC_eq t]
theorem k_fcS_eq (S : kS) (K : kS → β) : k_fcS S K = K S := by
  obtain ⟨b, F, N, C⟩ := S
  show k_fcB b (fun b => k_fcF F (fun F => k_fcF N (fun N => k_fcC C (fun C => K (b, F, N, C))))) = _
  rw [k_fcB_eq, k_fcF_eq, k_fcF_eq, k_fcC_eq]
def k_fcO (o : Option kS) : Option kS := Option.rec (motive := fun _ => Option kS) none (fun T => k_fcS T (fun T => some T)) o
theorem k_fcO_eq (o : Option kS) : k_fcO o = o := by
  cases o with
  | none => rfl
  | some T => exact k_fcS_eq T (fun T => some T)
def k_geS (S : kS) (e : kE) : Bool := Prod.rec (motive := fun _ => Bool) (fun b r => Prod.rec (motive := fun _ => Bool) (fun F _ => k_ge b F e) r) S
def k_eqS (S : kS) (e f : kE) : Bool := Prod.rec (motive := fun _ => Bool) (fun b r => Prod.rec (motive := fun _ => Bool) (fun F _ => k_eqv b F e f) r) S
def k_fiS (S : kS) (lo hi : Int) (e : kE) : Bool := Prod.rec (motive := fun _ => Bool) (fun b r => Prod.rec (motive := fun _ => Bool) (fun F _ => k_fit b F lo hi e) r) S
def k_few (F : List kE) : Bool := List.rec (motive := fun _ => Nat → Bool) (fun _ => true) (fun _ _ ih n => Nat.rec (motive := fun _ => Bool) false (fun m _ => ih m) n) F 12
def k_gs (b : kB) (F : List kE) (e : kE) : Bool := cond (k_few F) (k_ge b F e) (k_ge0 b F e)
theorem k_gs_ok {σ : Nat → Int} {b : kB} {F : List kE} {e : kE} (hb : kBd σ b) (hF : kFs σ F) (h : k_gs b F e = true) : 0 ≤ k_ev σ e := by
  unfold k_gs at h
  cases c : k_few F with
  | true =>
    rw [c, cond_true] at h
    exact k_ge_ok hb hF h
  | false =>
    rw [c, cond_false] at h
    exact k_ge0_ok hb hF h
def k_gsS (S : kS) (e : kE) : Bool := Prod.rec (motive := fun _ => Bool) (fun b r => Prod.rec (motive := fun _ => Bool) (fun F _ => k_gs b F e) r) S
def k_eq0 (b : kB) (F : List kE) (e f : kE) : Bool := k_eq e f || (znn (k_hi b (k_sub e f)) && (znn (zneg (k_lo b (k_sub e f))) && (k_ge0 b F (k_sub e f) && k_ge0 b F (k_ngw (k_sub e f)))))
theorem k_eq0_ok {σ : Nat → Int} {b : kB} {F : List kE} {e f : kE} (hb : kBd σ b) (hF : kFs σ F) (h : k_eq0 b F e f = true) : k_ev σ e = k_ev σ f := by
  unfold k_eq0 at h
  simp only [Bool.or_eq_true, Bool.and_eq_true] at h
  rcases h with h | ⟨-, -, h1, h2⟩
  · exact k_eq_ok h
  · have h1 := k_ge0_ok hb hF h1
    have h2 := k_ge0_ok hb hF h2
    rw [k_ngw_eq, k_ev_mul] at h2
    rw [k_ev_sub] at h1 h2
    omega
def k_eq0S (S : kS) (e f : kE) : Bool := Prod.rec (motive := fun _ => Bool) (fun b r => Prod.rec (motive := fun _ => Bool) (fun F _ => k_eq0 b F e f) r) S
/-- two cells that could be one, by their constants -/
def k_zm (x : Int) : Nat := Int.rec (motive := fun _ => Nat) (fun _ => 0) (fun m => m) x
def k_vsf (c d : kE) : Bool := Nat.beq (Nat.mod (k_zm c.1) 16) (Nat.mod (k_zm d.1) 16) && (!(Nat.beq (Nat.mod (k_zm c.1) 16) 14) || (Nat.beq (Nat.mod (k_zm c.1) 128) (Nat.mod (k_zm d.1) 128) && (Nat.beq (Nat.div (Nat.mod (k_zm c.1) 128) 16) 6 || Nat.beq (Nat.mod (k_zm c.1) 1024) (Nat.mod (k_zm d.1) 1024))))
/-- the first of a list -/
def lfb (p : α → Bool) (f : α → β) (l : List α) : Option β := List.rec (motive := fun _ => Option β) none (fun q _ ih => Bool.rec (motive := fun _ => Option β) ih (some (f q)) (p q)) l
theorem lfb_cons (p : α → Bool) (f : α → β) (q : α) (t : List α) : lfb p f (q :: t) = cond (p q) (some (f q)) (lfb p f t) := by
  show Bool.rec (motive := fun _ => Option β) (lfb p f t) (some (f q)) (p q) = _
  cases p q <;> rfl
def lfo (f : α → Option β) (l : List α) : Option β := List.rec (motive := fun _ => Option β) none (fun q _ ih => Option.rec (motive := fun _ => Option β) ih (fun v => some v) (f q)) l
theorem lfo_cons (f : α → Option β) (q : α) (t : List α) : lfo f (q :: t) = match f q with
    | some r => some r
    | none => lfo f t := by
  show Option.rec (motive := fun _ => Option β) (lfo f t) (fun v => some v) (f q) = _
  cases f q <;> rfl
end KFC
section KFD
variable {N : kN} {σ : Nat → Int} {S : kS} {M : pM}
theorem k_spl_b (S : kS) (x : kE) (c : Int) : k_spl (S.1, [], [], []) x c = k_spl S x c := rfl
theorem k_fpw_b (S : kS) : ∀ (rs : List Int) (Q : kE), k_fpw (S.1, [], [], []) rs Q = k_fpw S rs Q
  | [], _ => rfl
  | r :: t, Q => by
    unfold k_fpw
    rw [k_spl_b]
    cases k_spl S Q r with
    | none => rfl
    | some z =>
      dsimp only
      rw [k_fpw_b S t z.1]
def k_cnF (S : kS) (c : ClassFile.Cond) (d : kE) : Option kS := k_fcO (k_cn S c d)
def k_asF (S : kS) (e : kE) : Option kS := k_fcO (k_asm S e)
theorem k_cnF_ok {c : ClassFile.Cond} {d : kE} (h : kRS N σ S M) (hs : kSc S.1.length d) (hc : k_cT c (k_ev σ d)) : ∃ T, k_cnF S c d = some T ∧ T.1.length = S.1.length ∧ kRS N σ T M := by
  unfold k_cnF
  rw [k_fcO_eq]
  exact k_cn_ok h hs hc
theorem k_asF_ok {e : kE} (h : kRS N σ S M) (hs : kSc S.1.length e) (he : 0 ≤ k_ev σ e) : ∃ T, k_asF S e = some T ∧ T.1.length = S.1.length ∧ kRS N σ T M := by
  unfold k_asF
  rw [k_fcO_eq]
  exact k_asm_ok h hs he
end KFD
end
