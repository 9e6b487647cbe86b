noncomputable section
/-! an instance of a contract's unknowns -/
/-- the instance's values -/
def k_si (σ : Nat → Int) (A : kA) (n : Nat) : Nat → Int := fun a => if a < n then k_ev σ (k_at A a) else 0
theorem k_sbl_ev {σ : Nat → Int} {A : kA} {n : Nat} : ∀ l : List (Nat × Int), (∀ q ∈ l, q.1 < n) → k_ev σ (k_sbl A l) = k_evl (k_si σ A n) l
  | [], _ => k_ev_c σ 0
  | q :: t, h => by
    unfold k_sbl
    rw [k_ev_add, k_ev_mul, k_sbl_ev t (fun r hr => h r (List.mem_cons_of_mem _ hr))]
    show _ = q.2 * k_si σ A n q.1 + _
    unfold k_si
    rw [if_pos (h q List.mem_cons_self)]
theorem k_sb_ev {σ : Nat → Int} {A : kA} {n : Nat} {e : kE} (h : kSc n e) : k_ev σ (k_sb A e) = k_ev (k_si σ A n) e := by
  unfold k_sb
  rw [k_ev_add, k_ev_c, k_sbl_ev e.2 h]
  rfl
/-- frames: method, its entry, place, locals, stack; a contract's frames have no entry -/
abbrev kFr : Type := Nat × pmMe × Nat × kLs × List kV
abbrev kFn : Type := Nat × Nat × kLs × List kV
/-- a way to end: the state then (its first unknowns are the parameters), what kind of value comes back, its word -/
abbrev kAl : Type := kS × Nat × kE
abbrev kPo : Type := List kMd × List kAl
/-- a state with its frames: the depth below, the rank, the parameters' words, the words to split by -/
abbrev kK : Type := kS × List kFn × kE × kE × List kE × List kE
abbrev kLt : Type := List (List (Nat × List kK))
abbrev kCt : Type := kK × kPo × kLt
def kRF (E : pM) (n : Nat) (σ : Nat → Int) (f : kFr) (g : cF) : Prop := pmPT[f.1]? = some f.2.1 ∧ g.1 = f.2.1 ∧ g.2.1 = f.2.2.1 ∧ kRL E n σ f.2.2.2.1 g.2.2.1 ∧ kRT E n σ f.2.2.2.2 g.2.2.2
def kRFs (E : pM) (n : Nat) (σ : Nat → Int) : List kFr → List cF → Prop
  | [], [] => True
  | f :: t, g :: r => kRF E n σ f g ∧ kRFs E n σ t r
  | _, _ => False
def kRN (E : pM) (n : Nat) (σ : Nat → Int) (f : kFn) (g : cF) : Prop := pmPT[f.1]? = some g.1 ∧ g.2.1 = f.2.1 ∧ kRL E n σ f.2.2.1 g.2.2.1 ∧ kRT E n σ f.2.2.2 g.2.2.2
def kRNs (E : pM) (n : Nat) (σ : Nat → Int) : List kFn → List cF → Prop
  | [], [] => True
  | f :: t, g :: r => kRN E n σ f g ∧ kRNs E n σ t r
  | _, _ => False
theorem kRFs.agr {E : pM} {n m : Nat} {σ τ : Nat → Int} (h : kAgr n σ τ) (hnm : n ≤ m) : ∀ {t : List kFr} {r : List cF}, kRFs E n σ t r → kRFs E m τ t r
  | [], [], _ => trivial
  | _ :: _, _ :: _, hr => ⟨⟨hr.1.1, hr.1.2.1, hr.1.2.2.1, hr.1.2.2.2.1.agr h hnm, hr.1.2.2.2.2.agr h hnm⟩, kRFs.agr h hnm hr.2⟩
  | [], _ :: _, hr => hr.elim
  | _ :: _, [], hr => hr.elim
/-- a contract's words are of its own unknowns -/
def k_wfe (n : Nat) (e : kE) : Bool := e.2.all (fun q => Nat.blt q.1 n)
theorem k_wfe_ok {n : Nat} {e : kE} (h : k_wfe n e = true) : kSc n e := fun q hq => pm_blt (List.all_eq_true.mp h q hq)
def k_wfS (S : kS) : Bool := S.2.1.all (k_wfe S.1.length) && (S.2.2.1.all (k_wfe S.1.length) && S.2.2.2.all (fun q => k_wfe S.1.length q.1.1 && (k_wfe S.1.length q.1.2 && k_wfe S.1.length q.2)))
theorem k_wfS_ok {S : kS} (h : k_wfS S = true) : kScS S.1.length S := by
  unfold k_wfS at h
  simp only [Bool.and_eq_true] at h
  obtain ⟨h1, h2, h3⟩ := h
  refine ⟨fun e he => k_wfe_ok (List.all_eq_true.mp h1 e he), fun e he => k_wfe_ok (List.all_eq_true.mp h2 e he), fun q hq => ?_⟩
  have h4 := List.all_eq_true.mp h3 q hq
  simp only [Bool.and_eq_true] at h4
  exact ⟨k_wfe_ok h4.1, k_wfe_ok h4.2.1, k_wfe_ok h4.2.2⟩
def k_wfF (n : Nat) (f : kFn) : Bool := f.2.2.1.all (fun q => k_wfe n q.2.2) && f.2.2.2.all (fun q => k_wfe n q.2)
def k_wfK (k : kK) : Bool := k_wfS k.1 && (k.2.1.all (k_wfF k.1.1.length) && (k_wfe k.1.1.length k.2.2.1 && (k_wfe k.1.1.length k.2.2.2.1 && (Nat.blt 0 k.1.1.length && (k.2.2.2.2.1.all (k_wfe k.1.1.length) && k.2.2.2.2.2.all (k_wfe k.1.1.length))))))
def k_wfA (np : Nat) (al : kAl) : Bool := k_wfS al.1 && (k_wfe al.1.1.length al.2.2 && (Nat.blt 0 np && Nat.ble np al.1.1.length))
/-- what is known of a place that a template names -/
def k_vsr (S : kS) (c s : kE) (l : List kH) : Option kE := lfb (fun q => k_vsf c q.1.1 && (k_eqS S q.1.1 c && k_eqS S q.1.2 s)) (fun q => q.2) l
def k_fnd (S : kS) (c s : kE) : Option kE := cond (decide (k_hi S.1 c < 0)) (match k_vtv S c s with
  | some v => some v
  | none => match k_find c s S.2.2.2 with
    | some v => some v
    | none => match k_vsr S c s S.2.2.2 with
      | some v => some v
      | none => k_vfd S c s) (k_fq S c s)
theorem k_vsr_ok {N : kN} {σ : Nat → Int} {S : kS} {M : pM} {c s v : kE} (h : kRS N σ S M) : ∀ l : List kH, (∀ q ∈ l, q ∈ S.2.2.2) → k_vsr S c s l = some v → kSc S.1.length v ∧ kHas N M (k_ev σ c) (k_ev σ s) (k_ev σ v)
  | [], _, hv => by cases hv
  | q :: t, hl, hv => by
    unfold k_vsr at hv
    rw [lfb_cons] at hv
    cases h1 : (k_vsf c q.1.1 && (k_eqS S q.1.1 c && k_eqS S q.1.2 s)) with
    | true =>
      rw [h1, cond_true] at hv
      cases hv
      simp only [Bool.and_eq_true] at h1
      have e1 := k_eqv_ok h.2.1 h.2.2.1 h1.2.1
      have e2 := k_eqv_ok h.2.1 h.2.2.1 h1.2.2
      have hq := hl q List.mem_cons_self
      rw [← e1, ← e2]
      exact ⟨(h.2.2.2.2.2.2.2 q hq).2.2, h.2.2.2.2.1 q hq⟩
    | false =>
      rw [h1, cond_false] at hv
      exact k_vsr_ok h t (fun q hq => hl q (List.mem_cons_of_mem _ hq)) hv
theorem k_fnd_ok {N : kN} {σ : Nat → Int} {S : kS} {M : pM} {c s v : kE} (h : kRS N σ S M) (hc : kSc S.1.length c) (hs : kSc S.1.length s) (hv : k_fnd S c s = some v) : kSc S.1.length v ∧ kHas N M (k_ev σ c) (k_ev σ s) (k_ev σ v) := by
  unfold k_fnd at hv
  cases h1 : decide (k_hi S.1 c < 0) with
  | false =>
    rw [h1, cond_false] at hv
    exact k_fq_ok h hv
  | true =>
    rw [h1, cond_true] at hv
    have hn : k_ev σ c < 0 := by
      have := k_hi_ge h.2.1 c
      have := of_decide_eq_true h1
      omega
    split at hv
    · rename_i v' hv'
      cases hv
      exact k_vtv_ok h hc hs hn hv'
    · split at hv
      · rename_i v' hv'
        cases hv
        exact k_lk_go (q := ((c, s), v)) h (k_find_in hv') rfl rfl
      · split at hv
        · rename_i v' hv'
          cases hv
          exact k_vsr_ok h _ (fun _ hq => hq) hv'
        · exact k_vfd_ok h hc hs hn hv
def k_fndF (S : kS) (c s : kE) : Option kE := k_fcE c (fun c => k_fcE s (fun s => k_fnd S c s))
theorem k_fndF_eq (S : kS) (c s : kE) : k_fndF S c s = k_fnd S c s := by
  unfold k_fndF
  rw [k_fcE_eq, k_fcE_eq]
def k_fcA {β : Type} (A : kA) (K : kA → β) : β := List.rec (motive := fun _ => (kA → β) → β) (fun K => K []) (fun q _ ih K => Prod.rec (motive := fun _ => β) (fun a e => k_fcN a (fun a => k_fcE e (fun e => ih (fun t => K ((a, e) :: t))))) q) A K
theorem k_fcA_eq {β : Type} : ∀ (A : kA) (K : kA → β), k_fcA A K = K A
  | [], _ => rfl
  | (a, e) :: t, K => by
    show k_fcN a (fun a => k_fcE e (fun e => k_fcA t (fun t => K ((a, e) :: t)))) = _
    rw [k_fcN_eq, k_fcE_eq, k_fcA_eq t]
def k_prB (r : kA × kS) (K : kA → kS → Bool) : Bool := Prod.rec (motive := fun _ => Bool) (fun A S => K A S) r
theorem k_prB_eq (r : kA × kS) (K : kA → kS → Bool) : k_prB r K = K r.1 r.2 := by
  cases r
  rfl
def k_prP (r : kA × kS) (K : kA → kS → kA × kS) : kA × kS := Prod.rec (motive := fun _ => kA × kS) (fun A S => K A S) r
theorem k_prP_eq (r : kA × kS) (K : kA → kS → kA × kS) : k_prP r K = K r.1 r.2 := by
  cases r
  rfl
/-- gathering the instance -/
def k_big (u v : Nat × Int) : (Nat × Int) × (Nat × Int) := cond (decide (v.2.natAbs ≤ u.2.natAbs)) (u, v) (v, u)
def k_gat (S : kS) (A : kA) (w e : kE) : kA := match w.2.filter (fun q => match pm_lk A q.1 with
    | some _ => false
    | none => true) with
  | [u] => (u.1, k_dv u.2 (k_sub e (k_sb A w))) :: A
  | [u, v] => cond (Nat.beq u.2.natAbs v.2.natAbs) A (match k_spl S (k_sub e (k_sb A w)) (k_big u v).1.2 with
    | some r => ((k_big u v).2.1, k_dv (k_big u v).2.2 r.2) :: ((k_big u v).1.1, r.1) :: A
    | none => A)
  | _ => A
def k_gl (S : kS) (cur : kLs) : kLs → kA → kA
  | [], A => A
  | q :: t, A => k_gl S cur t (match pm_lk cur q.1 with
    | some p => k_gat S A q.2.2 p.2
    | none => A)
def k_gt (S : kS) : List kV → List kV → kA → kA
  | q :: t, p :: r, A => k_gt S t r (k_gat S A q.2 p.2)
  | _, _, A => A
def k_gf (S : kS) : List kFn → List kFr → kA → kA
  | f :: t, g :: r, A => k_gf S t r (k_gt S f.2.2.2 g.2.2.2.2 (k_gl S g.2.2.2.1 f.2.2.1 A))
  | _, _, A => A
def k_gg (S : kS) : List kE → List kE → kA → kA
  | w :: t, e :: r, A => k_gg S t r (k_gat S A w e)
  | _, _, A => A
/-- an entry of the text that isn't known: a new unknown -/
def k_gcn (r : kA × kS) (q : kH) : kA × kS := cond (k_wfe r.2.1.length (k_sb r.1 q.1.1) && k_wfe r.2.1.length (k_sb r.1 q.1.2)) (match k_nwe r.2 (k_sb r.1 q.1.1) (k_sb r.1 q.1.2) with
  | some z => (k_gat z.2 r.1 q.2 z.1, z.2)
  | none => r) r
theorem k_gcn_ok {N : kN} {M : pM} {A : kA} {S : kS} {σ : Nat → Int} {q : kH} (h : kRS N σ S M) : ∃ τ, kAgr S.1.length σ τ ∧ S.1.length ≤ (k_gcn (A, S) q).2.1.length ∧ kRS N τ (k_gcn (A, S) q).2 M := by
  unfold k_gcn
  dsimp only
  cases h1 : (k_wfe S.1.length (k_sb A q.1.1) && k_wfe S.1.length (k_sb A q.1.2)) with
  | false => exact ⟨σ, fun _ _ => rfl, Nat.le_refl _, h⟩
  | true =>
    rw [cond_true]
    obtain ⟨w1, w2⟩ := Bool.and_eq_true_iff.mp h1
    split
    · rename_i z hz
      exact k_nwe_ok h (k_wfe_ok w1) (k_wfe_ok w2) hz
    · exact ⟨σ, fun _ _ => rfl, Nat.le_refl _, h⟩
/-- a fold that isn't known: a new unknown -/
def k_gcf (r : kA × kS) (q : kH) : kA × kS := match cond (decide (k_hi r.2.1 (k_sb r.1 q.1.1) < 0)) (k_fde r.2 (k_sb r.1 q.1.1)) none with
  | none => k_gcn r q
  | some z => cond ((k_wfe r.2.1.length (k_sb r.1 q.1.1) && k_wfe r.2.1.length (k_sb r.1 q.1.2)) && (k_rgk z.1 && (k_ge r.2.1 r.2.2.1 (k_sb r.1 q.1.2) && k_ge r.2.1 r.2.2.1 (k_sub (kc z.1.1.2.2) (k_sb r.1 q.1.2)))))
    (k_gat (k_new r.2 z.1.2.1.1 z.1.2.1.2.1).2 r.1 q.2 (k_new r.2 z.1.2.1.1 z.1.2.1.2.1).1, k_put (k_new r.2 z.1.2.1.1 z.1.2.1.2.1).2 ((k_sb r.1 q.1.1, k_sb r.1 q.1.2), (k_new r.2 z.1.2.1.1 z.1.2.1.2.1).1)) r
theorem k_gcf_ok {N : kN} {M : pM} {A : kA} {S : kS} {σ : Nat → Int} {q : kH} (h : kRS N σ S M) : ∃ τ, kAgr S.1.length σ τ ∧ S.1.length ≤ (k_gcf (A, S) q).2.1.length ∧ kRS N τ (k_gcf (A, S) q).2 M := by
  unfold k_gcf
  dsimp only
  split
  · exact k_gcn_ok h
  · rename_i z hz
    cases h1 : ((k_wfe S.1.length (k_sb A q.1.1) && k_wfe S.1.length (k_sb A q.1.2)) && (k_rgk z.1 && (k_ge S.1 S.2.1 (k_sb A q.1.2) && k_ge S.1 S.2.1 (k_sub (kc z.1.1.2.2) (k_sb A q.1.2))))) with
    | false => exact ⟨σ, fun _ _ => rfl, Nat.le_refl _, h⟩
    | true =>
      rw [cond_true]
      simp only [Bool.and_eq_true] at h1
      obtain ⟨⟨w1, w2⟩, g1, g2, g3⟩ := h1
      obtain ⟨c0, hz⟩ := pm_cs hz
      have c0 := of_decide_eq_true c0
      have hn : k_ev σ (k_sb A q.1.1) < 0 := by
        have := k_hi_ge h.2.1 (k_sb A q.1.1)
        omega
      have g2 := k_ge_ok h.2.1 h.2.2.1 g2
      have g3 := k_ge_ok h.2.1 h.2.2.1 g3
      rw [k_ev_sub, k_ev_c] at g3
      have s1 := k_wfe_ok w1
      have s2 := k_wfe_ok w2
      have hk : ((k_ev σ (k_sb A q.1.2)).toNat : Int) = k_ev σ (k_sb A q.1.2) := Int.toNat_of_nonneg g2
      obtain ⟨b1, b2⟩ := k_rgk_ok (M := M) (ps := z.2.map (k_ev σ)) g1 (k_ev σ (k_sb A q.1.2)).toNat (by omega)
      obtain ⟨τ, t1, t2, t3, t4, t5⟩ := k_new_ok h b1 b2
      refine ⟨τ, t1, t2, kRS_put t3 ⟨s1.mono t2, s2.mono t2, t5⟩ ?_⟩
      show kHas N M (k_ev τ (k_sb A q.1.1)) (k_ev τ (k_sb A q.1.2)) (k_ev τ _)
      rw [k_ev_agree t1 s1, k_ev_agree t1 s2, t4]
      exact k_fof h s1 hz hn hk rfl
/-- gathering by what is known; a place of our own that isn't known is read -/
def k_nop (A : kA) (S : kS) (q : kH) : Bool := q.2.2.all (fun u => match pm_lk A u.1 with
  | some _ => true
  | none => false) && decide (k_hi S.1 (k_sb A q.1.1) < 0)
def k_gc1 (D : kDD) (q : kH) (A : kA) (S : kS) : kA × kS := cond (k_nop A S q) (A, S) (match k_fndF S (k_sb A q.1.1) (k_sb A q.1.2) with
    | some v => (k_gat S A q.2 v, S)
    | none => cond (decide (0 ≤ k_lo S.1 (k_sb A q.1.1)) && (k_wfe S.1.length (k_sb A q.1.1) && k_wfe S.1.length (k_sb A q.1.2))) (match k_co D S.1 (k_sb A q.1.1) with
      | some d => cond (k_ix S (k_sb A q.1.2) d.2.1) (match k_rdo S (k_sb A q.1.1) (k_sb A q.1.2) d with
        | some [z] => (k_gat z.2 A q.2 z.1, z.2)
        | _ => (A, S)) (A, S)
      | none => (A, S)) (k_gcf (A, S) q))
def k_gc (D : kDD) : List kH → kA × kS → kA × kS
  | [], r => r
  | q :: t, r => k_gc D t (k_prP r (k_gc1 D q))
/-- the frames fit -/
def k_fv1 (S : kS) (A : kA) (q p : kV) : Bool := Nat.beq q.1 p.1 && (Nat.ble 3 q.1 || k_eqv S.1 S.2.1 (k_sb A q.2) p.2)
def k_fl (S : kS) (A : kA) (cur : kLs) (l : kLs) : Bool := l.all (fun q => match pm_lk cur q.1 with
  | some p => k_fv1 S A q.2 p
  | none => false)
def k_ft (S : kS) (A : kA) : List kV → List kV → Bool
  | [], [] => true
  | q :: t, p :: r => k_fv1 S A q p && k_ft S A t r
  | _, _ => false
def k_ff (S : kS) (A : kA) : List kFn → List kFr → Bool
  | [], [] => true
  | f :: t, g :: r => (Nat.beq f.1 g.1 && Nat.beq f.2.1 g.2.2.1) && (k_fl S A g.2.2.2.1 f.2.2.1 && (k_ft S A f.2.2.2 g.2.2.2.2 && k_ff S A t r))
  | _, _ => false
def k_fg (S : kS) (A : kA) : List kE → List kE → Bool
  | [], [] => true
  | w :: t, e :: r => k_eqv S.1 S.2.1 (k_sb A w) e && k_fg S A t r
  | _, _ => false
/-- the state fits -/
def k_fb (A : kA) (S : kS) : Nat → kB → Bool
  | _, [] => true
  | a, w :: t => k_fit S.1 S.2.1 w.1 w.2 (k_at A a) && k_fb A S (a + 1) t
/-- a name for a word: it says nothing -/
def k_nam (c : kE) : Bool := k_cst c && (decide (c.1 < 0) && (Nat.beq (k_vi c) 14 && k_vok c))
theorem k_nam_ok {N : kN} {M : pM} {σ : Nat → Int} {c : kE} (s v : Int) (h : k_nam c = true) : kHas N M (k_ev σ c) s v := by
  unfold k_nam at h
  simp only [Bool.and_eq_true, decide_eq_true_eq] at h
  obtain ⟨h1, h2, h3, h4⟩ := h
  have e := k_ev_const (σ := σ) h1
  refine ⟨fun h0 => by omega, fun _ => kPhi_of (k_vok_ev h4) (k_vi_lt c) ?_⟩
  rw [pm_beq h3]
  exact trivial
def k_fS (A : kA) (S : kS) (T : kS) : Bool := k_fb A S 0 T.1 && (T.2.1.all (fun e => k_ge S.1 S.2.1 (k_sb A e)) && (T.2.2.1.all (fun e => k_nz S (k_sb A e)) && T.2.2.2.all (fun q => k_wfe S.1.length (k_sb A q.1.1) && (k_wfe S.1.length (k_sb A q.1.2) && ((k_nam (k_sb A q.1.1) || k_f60 S (k_sb A q.1.1) (k_sb A q.1.2)) || match k_fndF S (k_sb A q.1.1) (k_sb A q.1.2) with
  | some v => k_eqv S.1 S.2.1 (k_sb A q.2) v
  | none => false)))))
/-- a template at frames: the instance, and the state (grown by what was read) -/
def k_mtg (D : kDD) (k : kK) (S : kS) (fs : List kFr) (gh : List kE) : kA × kS := k_prP (k_gc D k.1.2.2.2 (k_gf S k.2.1 fs [(0, kv 0)], S)) (fun A S => k_fcA (k_gg S k.2.2.2.2.1 gh A) (fun A => (A, S)))
theorem k_mtg_eq (D : kDD) (k : kK) (S : kS) (fs : List kFr) (gh : List kE) : (k_mtg D k S fs gh).2 = (k_gc D k.1.2.2.2 (k_gf S k.2.1 fs [(0, kv 0)], S)).2 := by
  unfold k_mtg
  rw [k_prP_eq, k_fcA_eq]
def k_mtc (k : kK) (fs : List kFr) (r : kA × kS) : Bool := k_prB r (fun A S => k_eq (k_at A 0) (kv 0) && (k_ff S A k.2.1 fs && k_fS A S k.1))
section KMT
variable {E : pM} {N : kN} {D : kDD} {σ : Nat → Int} {M : pM} {S : kS} {A : kA} {n : Nat}
theorem k_gc_ok (hD : D.1 ≤ pmX) (hM : kMem D M) : ∀ (l : List kH) (A : kA) (S : kS) (σ : Nat → Int), kRS N σ S M → ∃ τ, kAgr S.1.length σ τ ∧ S.1.length ≤ (k_gc D l (A, S)).2.1.length ∧ kRS N τ (k_gc D l (A, S)).2 M
  | [], A, S, σ, h => ⟨σ, fun _ _ => rfl, Nat.le_refl _, h⟩
  | q :: t, A, S, σ, h => by
    show ∃ τ, kAgr S.1.length σ τ ∧ S.1.length ≤ (k_gc D t (k_gc1 D q A S)).2.1.length ∧ kRS N τ (k_gc D t (k_gc1 D q A S)).2 M
    unfold k_gc1
    cases c0 : k_nop A S q
    case true =>
      rw [cond_true]
      exact k_gc_ok hD hM t A S σ h
    rw [cond_false]
    split
    · exact k_gc_ok hD hM t _ S σ h
    · cases h1 : (decide (0 ≤ k_lo S.1 (k_sb A q.1.1)) && (k_wfe S.1.length (k_sb A q.1.1) && k_wfe S.1.length (k_sb A q.1.2))) with
      | false =>
        rw [cond_false]
        obtain ⟨τ, t1, t2, t3⟩ := k_gcf_ok (A := A) (q := q) h
        obtain ⟨τ', u1, u2, u3⟩ := k_gc_ok hD hM t (k_gcf (A, S) q).1 (k_gcf (A, S) q).2 τ t3
        exact ⟨τ', fun b hb => (u1 b (Nat.lt_of_lt_of_le hb t2)).trans (t1 b hb), Nat.le_trans t2 u2, u3⟩
      | true =>
        rw [cond_true]
        simp only [Bool.and_eq_true, decide_eq_true_eq] at h1
        obtain ⟨h0, w1, w2⟩ := h1
        split
        · rename_i d hd
          cases h2 : k_ix S (k_sb A q.1.2) d.2.1 with
          | false =>
            rw [cond_false]
            exact k_gc_ok hD hM t A S σ h
          | true =>
            rw [cond_true]
            split
            · rename_i z hz
              have hlo := k_lo_le h.2.1 (k_sb A q.1.1)
              obtain ⟨a, ha⟩ := Int.eq_ofNat_of_zero_le (show 0 ≤ k_ev σ (k_sb A q.1.1) by omega)
              have hi := k_ix_ok h h2
              obtain ⟨j, hj⟩ := Int.eq_ofNat_of_zero_le hi.1
              obtain ⟨c, f1, f2, f3, f4, f5⟩ := k_own_ok (E := []) hD h hM ha.symm hd
              obtain ⟨w, x, g1, g2, r, hr, τ, t1, t2, t3, t4, t5⟩ := k_rdo_ok (j := j) h (k_wfe_ok w1) (k_wfe_ok w2) ha.symm hj.symm f1 f2 (by omega) hz
              obtain rfl := List.mem_singleton.mp hr
              obtain ⟨τ', u1, u2, u3⟩ := k_gc_ok hD hM t (k_gat r.2 A q.2 r.1) r.2 τ t3
              exact ⟨τ', fun b hb => (u1 b (Nat.lt_of_lt_of_le hb t2)).trans (t1 b hb), Nat.le_trans t2 u2, u3⟩
            · exact k_gc_ok hD hM t A S σ h
        · exact k_gc_ok hD hM t A S σ h
theorem k_fv1_ok {q p : kV} {v : Value} {m : Nat} (hb : kBd σ S.1) (hF : kFs σ S.2.1) (hq : kSc n q.2) (hp : kRV E m σ p v) (h : k_fv1 S A q p = true) : kRV E n (k_si σ A n) q v := by
  obtain ⟨k, e⟩ := q
  obtain ⟨k', e'⟩ := p
  unfold k_fv1 at h
  obtain ⟨h1, h2⟩ := Bool.and_eq_true_iff.mp h
  have h1 : k = k' := pm_beq h1
  subst h1
  refine ⟨hq, ?_⟩
  have hv := hp.2
  have he : Nat.ble 3 k = true ∨ k_ev (k_si σ A n) e = k_ev σ e' := by
    rcases Bool.or_eq_true_iff.mp h2 with h2 | h2
    · exact Or.inl h2
    · have := k_eqv_ok hb hF h2
      rw [k_sb_ev hq] at this
      exact Or.inr this
  unfold kVal at hv ⊢
  match k, he, hv with
  | 0, he, hv =>
    rcases he with he | he
    · cases he
    · obtain ⟨x, rfl, hx⟩ := hv
      exact ⟨x, rfl, hx.trans he.symm⟩
  | 1, he, hv =>
    rcases he with he | he
    · cases he
    · obtain ⟨x, rfl, hx⟩ := hv
      exact ⟨x, rfl, hx.trans he.symm⟩
  | 2, he, hv =>
    rcases he with he | he
    · cases he
    · obtain ⟨x, rfl, hx, hx2⟩ := hv
      exact ⟨x, rfl, hx.trans he.symm, hx2⟩
  | k + 3, _, hv => exact hv
theorem k_fl_ok {cur l : kLs} {ls : pL} {m : Nat} (hb : kBd σ S.1) (hF : kFs σ S.2.1) (hl : kRL E m σ cur ls) (hw : ∀ q ∈ l, kSc n q.2.2) (h : k_fl S A cur l = true) : kRL E n (k_si σ A n) l ls := by
  intro i q hq
  have hm := pm_lk_mem hq
  have h1 := List.all_eq_true.mp h _ hm
  simp only at h1
  split at h1
  · rename_i p hp
    obtain ⟨v, hv, hr⟩ := hl i p hp
    exact ⟨v, hv, k_fv1_ok hb hF (hw _ hm) hr h1⟩
  · cases h1
theorem k_ft_ok {m : Nat} (hb : kBd σ S.1) (hF : kFs σ S.2.1) : ∀ {t r : List kV} {st : List Value}, kRT E m σ r st → (∀ q ∈ t, kSc n q.2) → k_ft S A t r = true → kRT E n (k_si σ A n) t st
  | [], [], [], _, _, _ => trivial
  | q :: t, p :: r, v :: st, hr, hw, h => by
    obtain ⟨h1, h2⟩ := Bool.and_eq_true_iff.mp h
    exact ⟨k_fv1_ok hb hF (hw q List.mem_cons_self) hr.1 h1, k_ft_ok hb hF hr.2 (fun q hq => hw q (List.mem_cons_of_mem _ hq)) h2⟩
  | [], _ :: _, _, _, _, h => by cases h
  | _ :: _, [], _, _, _, h => by cases h
  | [], [], _ :: _, hr, _, _ => hr.elim
  | _ :: _, _ :: _, [], hr, _, _ => hr.elim
theorem k_ff_ok {m : Nat} (hb : kBd σ S.1) (hF : kFs σ S.2.1) : ∀ {t : List kFn} {r : List kFr} {cs : List cF}, kRFs E m σ r cs → t.all (k_wfF n) = true → k_ff S A t r = true → kRNs E n (k_si σ A n) t cs
  | [], [], [], _, _, _ => trivial
  | f :: t, g :: r, c :: cs, hr, hw, h => by
    unfold k_ff at h
    simp only [Bool.and_eq_true] at h
    obtain ⟨⟨h1, h2⟩, h3, h4, h5⟩ := h
    rw [List.all_cons, Bool.and_eq_true] at hw
    obtain ⟨hw1, hw2⟩ := hw
    obtain ⟨hw3, hw4⟩ := Bool.and_eq_true_iff.mp hw1
    obtain ⟨⟨g1, g2, g3, g4, g5⟩, g6⟩ := hr
    exact ⟨⟨by rw [pm_beq h1, g2]; exact g1, by rw [pm_beq h2]; exact g3, k_fl_ok hb hF g4 (fun q hq => k_wfe_ok (List.all_eq_true.mp hw3 q hq)) h3, k_ft_ok hb hF g5 (fun q hq => k_wfe_ok (List.all_eq_true.mp hw4 q hq)) h4⟩, k_ff_ok hb hF g6 hw2 h5⟩
  | [], _ :: _, _, _, _, h => by cases h
  | _ :: _, [], _, _, _, h => by cases h
  | [], [], _ :: _, hr, _, _ => hr.elim
  | _ :: _, _ :: _, [], hr, _, _ => hr.elim
theorem k_fg_ok (hb : kBd σ S.1) (hF : kFs σ S.2.1) : ∀ {t r : List kE}, (∀ w ∈ t, kSc n w) → k_fg S A t r = true → t.map (k_ev (k_si σ A n)) = r.map (k_ev σ)
  | [], [], _, _ => rfl
  | w :: t, e :: r, hw, h => by
    obtain ⟨h1, h2⟩ := Bool.and_eq_true_iff.mp h
    have := k_eqv_ok hb hF h1
    rw [k_sb_ev (hw w List.mem_cons_self)] at this
    rw [List.map_cons, List.map_cons, this, k_fg_ok hb hF (fun w hw' => hw w (List.mem_cons_of_mem _ hw')) h2]
  | [], _ :: _, _, h => by cases h
  | _ :: _, [], _, h => by cases h
theorem k_fb_ok (hb : kBd σ S.1) (hF : kFs σ S.2.1) : ∀ (t : kB) (a : Nat), k_fb A S a t = true → ∀ (i : Nat) (w : Int × Int), t[i]? = some w → w.1 ≤ k_ev σ (k_at A (a + i)) ∧ k_ev σ (k_at A (a + i)) ≤ w.2
  | [], _, _, _, _, hw => by cases hw
  | x :: t, a, h, 0, w, hw => by
    cases hw
    unfold k_fb at h
    exact k_fit_ok hb hF (Bool.and_eq_true_iff.mp h).1
  | x :: t, a, h, i + 1, w, hw => by
    unfold k_fb at h
    have := k_fb_ok hb hF t (a + 1) (Bool.and_eq_true_iff.mp h).2 i w hw
    rw [show a + 1 + i = a + (i + 1) by omega] at this
    exact this
theorem k_fS_ok {T : kS} (h : kRS N σ S M) (h0 : k_ev σ (k_at A 0) = σ 0) (hT : kScS T.1.length T) (hpos : 0 < T.1.length) (hf : k_fS A S T = true) : kRS N (k_si σ A T.1.length) T M := by
  unfold k_fS at hf
  simp only [Bool.and_eq_true] at hf
  obtain ⟨f1, f2, f3, f4⟩ := hf
  refine ⟨⟨?_, hpos⟩, fun a => ?_, fun e he => ?_, fun e he => ?_, fun q hq => ?_, hT⟩
  · unfold k_si
    rw [if_pos hpos, h0]
    exact h.1.1
  · by_cases ha : a < T.1.length
    · have := k_fb_ok h.2.1 h.2.2.1 T.1 0 f1 a T.1[a] (List.getElem?_eq_getElem ha)
      rw [Nat.zero_add] at this
      unfold k_si
      rw [if_pos ha, List.getD_eq_getElem?_getD, List.getElem?_eq_getElem ha]
      exact this
    · unfold k_si
      rw [if_neg ha, List.getD_eq_getElem?_getD, List.getElem?_eq_none (by omega)]
      exact ⟨Int.le_refl _, Int.le_refl _⟩
  · have := k_ge_ok h.2.1 h.2.2.1 (List.all_eq_true.mp f2 e he)
    rw [k_sb_ev (hT.1 e he)] at this
    exact this
  · have := k_nz_ok h (List.all_eq_true.mp f3 e he)
    rw [k_sb_ev (hT.2.1 e he)] at this
    exact this
  · have h1 := List.all_eq_true.mp f4 q hq
    obtain ⟨s1, s2, s3⟩ := hT.2.2 q hq
    simp only [Bool.and_eq_true] at h1
    obtain ⟨w1, w2, h1⟩ := h1
    rcases Bool.or_eq_true_iff.mp h1 with h1 | h1
    · rw [← k_sb_ev s1]
      rcases Bool.or_eq_true_iff.mp h1 with h1 | h1
      · exact k_nam_ok _ _ h1
      · rw [← k_sb_ev s2]
        exact k_f60_ok h _ h1
    split at h1
    · rename_i v hv
      rw [k_fndF_eq] at hv
      have h2 := (k_fnd_ok h (k_wfe_ok w1) (k_wfe_ok w2) hv).2
      have h3 := k_eqv_ok h.2.1 h.2.2.1 h1
      rw [k_sb_ev s3] at h3
      rw [h3]
      rw [← k_sb_ev s1, ← k_sb_ev s2]
      exact h2
    · cases h1
theorem k_mt_ok {k : kK} {fs : List kFr} {cs : List cF} {gh : List kE} (hD : D.1 ≤ pmX) (hM : kMem D M) (hw : k_wfK k = true) (h : kRS N σ S M) (hfs : kRFs E S.1.length σ fs cs) (hm : k_mtc k fs (k_mtg D k S fs gh) = true) : ∃ τ, kAgr S.1.length σ τ ∧ S.1.length ≤ (k_mtg D k S fs gh).2.1.length ∧ kRS N τ (k_mtg D k S fs gh).2 M ∧ kRS N (k_si τ (k_mtg D k S fs gh).1 k.1.1.length) k.1 M ∧ kRNs E k.1.1.length (k_si τ (k_mtg D k S fs gh).1 k.1.1.length) k.2.1 cs := by
  obtain ⟨τ, t1, t2, t3⟩ := k_gc_ok (N := N) hD hM k.1.2.2.2 (k_gf S k.2.1 fs [(0, kv 0)]) S σ h
  rw [← k_mtg_eq D k S fs gh] at t2 t3
  unfold k_mtc at hm
  rw [k_prB_eq] at hm
  simp only [Bool.and_eq_true] at hm
  obtain ⟨h1, h2, h3⟩ := hm
  unfold k_wfK at hw
  simp only [Bool.and_eq_true] at hw
  obtain ⟨w1, w2, w3, w4, w5, w6⟩ := hw
  exact ⟨τ, t1, t2, t3, k_fS_ok t3 (by rw [k_eq_ok h1, k_ev_v]) (k_wfS_ok w1) (pm_blt w5) h3, k_ff_ok t3.2.1 t3.2.2.1 (hfs.agr t1 (Nat.le_refl _)) w2 h2⟩
end KMT
end
