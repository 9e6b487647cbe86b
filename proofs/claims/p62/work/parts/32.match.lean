/-! an instance of a contract's unknowns -/
abbrev kA : Type := List (Nat × kE)
def k_at (A : kA) (a : Nat) : kE := match pm_lk A a with
  | some e => e
  | none => kc 0
def k_sbl (A : kA) : List (Nat × Int) → kE
  | [] => kc 0
  | q :: t => k_add (k_mul q.2 (k_at A q.1)) (k_sbl A t)
def k_sb (A : kA) (e : kE) : kE := k_add (kc e.1) (k_sbl A e.2)
/-- the instance's values -/
def k_si (σ : Nat → Int) (A : kA) (n : Nat) : Nat → Int := fun a => if a < n then k_ev σ (k_at A a) else 0
theorem k_sbl_ev {σ : Nat → Int} {A : kA} {n : Nat} : ∀ l : List (Nat × Int), (∀ q ∈ l, q.1 < n) → k_ev σ (k_sbl A l) = k_evl (k_si σ A n) l
  | [], _ => k_ev_c σ 0
  | q :: t, h => by
    unfold k_sbl
    rw [k_ev_add, k_ev_mul, k_sbl_ev t (fun r hr => h r (List.mem_cons_of_mem _ hr))]
    show _ = q.2 * k_si σ A n q.1 + _
    unfold k_si
    rw [if_pos (h q List.mem_cons_self)]
theorem k_sb_ev {σ : Nat → Int} {A : kA} {n : Nat} {e : kE} (h : kSc n e) : k_ev σ (k_sb A e) = k_ev (k_si σ A n) e := by
  unfold k_sb
  rw [k_ev_add, k_ev_c, k_sbl_ev e.2 h]
  rfl
/-- the same word -/
def k_eq (e f : kE) : Bool := match k_sub e f with
  | (z, []) => decide (z = 0)
  | _ => false
theorem k_eq_ok {σ : Nat → Int} {e f : kE} (h : k_eq e f = true) : k_ev σ e = k_ev σ f := by
  unfold k_eq at h
  split at h
  · rename_i z hz
    have h := of_decide_eq_true h
    have h1 := k_ev_sub σ e f
    rw [hz] at h1
    have h2 : k_ev σ (z, []) = z := by simp [k_ev, k_evl]
    omega
  · cases h
/-- frames: method, its entry, place, locals, stack; a contract's frames have no entry -/
abbrev kFr : Type := Nat × pmMe × Nat × kLs × List kV
abbrev kFn : Type := Nat × Nat × kLs × List kV
abbrev kPo : Type := (Nat × Int × Int) × List kMd
abbrev kK : Type := kS × List kFn × kE × kE
abbrev kCt : Type := kK × kPo × List kK
def kRF (E : pM) (n : Nat) (σ : Nat → Int) (f : kFr) (g : cF) : Prop := pmPT[f.1]? = some f.2.1 ∧ g.1 = f.2.1 ∧ g.2.1 = f.2.2.1 ∧ kRL E n σ f.2.2.2.1 g.2.2.1 ∧ kRT E n σ f.2.2.2.2 g.2.2.2
def kRFs (E : pM) (n : Nat) (σ : Nat → Int) : List kFr → List cF → Prop
  | [], [] => True
  | f :: t, g :: r => kRF E n σ f g ∧ kRFs E n σ t r
  | _, _ => False
def kRN (E : pM) (n : Nat) (σ : Nat → Int) (f : kFn) (g : cF) : Prop := pmPT[f.1]? = some g.1 ∧ g.2.1 = f.2.1 ∧ kRL E n σ f.2.2.1 g.2.2.1 ∧ kRT E n σ f.2.2.2 g.2.2.2
def kRNs (E : pM) (n : Nat) (σ : Nat → Int) : List kFn → List cF → Prop
  | [], [] => True
  | f :: t, g :: r => kRN E n σ f g ∧ kRNs E n σ t r
  | _, _ => False
theorem kRFs.agr {E : pM} {n m : Nat} {σ τ : Nat → Int} (h : kAgr n σ τ) (hnm : n ≤ m) : ∀ {t : List kFr} {r : List cF}, kRFs E n σ t r → kRFs E m τ t r
  | [], [], _ => trivial
  | _ :: _, _ :: _, hr => ⟨⟨hr.1.1, hr.1.2.1, hr.1.2.2.1, hr.1.2.2.2.1.agr h hnm, hr.1.2.2.2.2.agr h hnm⟩, kRFs.agr h hnm hr.2⟩
  | [], _ :: _, hr => hr.elim
  | _ :: _, [], hr => hr.elim
/-- a contract's words are of its own unknowns -/
def k_wfe (n : Nat) (e : kE) : Bool := e.2.all (fun q => Nat.blt q.1 n)
theorem k_wfe_ok {n : Nat} {e : kE} (h : k_wfe n e = true) : kSc n e := fun q hq => pm_blt (List.all_eq_true.mp h q hq)
def k_wfS (S : kS) : Bool := S.2.1.all (k_wfe S.1.length) && (S.2.2.1.all (k_wfe S.1.length) && S.2.2.2.all (fun q => k_wfe S.1.length q.1.1 && (k_wfe S.1.length q.1.2 && k_wfe S.1.length q.2)))
theorem k_wfS_ok {S : kS} (h : k_wfS S = true) : kScS S.1.length S := by
  unfold k_wfS at h
  simp only [Bool.and_eq_true] at h
  obtain ⟨h1, h2, h3⟩ := h
  refine ⟨fun e he => k_wfe_ok (List.all_eq_true.mp h1 e he), fun e he => k_wfe_ok (List.all_eq_true.mp h2 e he), fun q hq => ?_⟩
  have h4 := List.all_eq_true.mp h3 q hq
  simp only [Bool.and_eq_true] at h4
  exact ⟨k_wfe_ok h4.1, k_wfe_ok h4.2.1, k_wfe_ok h4.2.2⟩
def k_wfF (n : Nat) (f : kFn) : Bool := f.2.2.1.all (fun q => k_wfe n q.2.2) && f.2.2.2.all (fun q => k_wfe n q.2)
def k_wfK (k : kK) : Bool := k_wfS k.1 && (k.2.1.all (k_wfF k.1.1.length) && (k_wfe k.1.1.length k.2.2.1 && (k_wfe k.1.1.length k.2.2.2 && Nat.blt 0 k.1.1.length)))
/-- gathering the instance -/
def k_g1 (q p : kV) (A : kA) : kA := match q.2 with
  | (0, [(a, 1)]) => (match pm_lk A a with
    | some _ => A
    | none => (a, p.2) :: A)
  | _ => A
def k_gl (cur : kLs) : kLs → kA → kA
  | [], A => A
  | q :: t, A => k_gl cur t (match pm_lk cur q.1 with
    | some p => k_g1 q.2 p A
    | none => A)
def k_gt : List kV → List kV → kA → kA
  | q :: t, p :: r, A => k_gt t r (k_g1 q p A)
  | _, _, A => A
def k_gf : List kFn → List kFr → kA → kA
  | f :: t, g :: r, A => k_gf t r (k_gt f.2.2.2 g.2.2.2.2 (k_gl g.2.2.2.1 f.2.2.1 A))
  | _, _, A => A
def k_gc (C : List kH) : List kH → kA → kA
  | [], A => A
  | q :: t, A => k_gc C t (match k_find (k_sb A q.1.1) (k_sb A q.1.2) C with
    | some v => k_g1 (0, q.2) (0, v) A
    | none => A)
/-- the frames fit -/
def k_fv1 (A : kA) (q p : kV) : Bool := Nat.beq q.1 p.1 && (Nat.beq q.1 1 || Nat.ble 3 q.1 || k_eq (k_sb A q.2) p.2)
def k_fl (A : kA) (cur : kLs) (l : kLs) : Bool := l.all (fun q => match pm_lk cur q.1 with
  | some p => k_fv1 A q.2 p
  | none => false)
def k_ft (A : kA) : List kV → List kV → Bool
  | [], [] => true
  | q :: t, p :: r => k_fv1 A q p && k_ft A t r
  | _, _ => false
def k_ff (A : kA) : List kFn → List kFr → Bool
  | [], [] => true
  | f :: t, g :: r => (Nat.beq f.1 g.1 && Nat.beq f.2.1 g.2.2.1) && (k_fl A g.2.2.2.1 f.2.2.1 && (k_ft A f.2.2.2 g.2.2.2.2 && k_ff A t r))
  | _, _ => false
/-- the state fits -/
def k_fb (A : kA) (S : kS) : Nat → kB → Bool
  | _, [] => true
  | a, w :: t => k_fit S.1 S.2.1 w.1 w.2 (k_at A a) && k_fb A S (a + 1) t
def k_fS (A : kA) (S : kS) (T : kS) : Bool := k_fb A S 0 T.1 && (T.2.1.all (fun e => k_ge S.1 S.2.1 (k_sb A e)) && (T.2.2.1.all (fun e => k_nz S (k_sb A e)) && T.2.2.2.all (fun q => match k_find (k_sb A q.1.1) (k_sb A q.1.2) S.2.2.2 with
  | some v => k_eq (k_sb A q.2) v
  | none => false)))
def k_mt (k : kK) (S : kS) (fs : List kFr) : Option kA :=
  let A := k_gc S.2.2.2 k.1.2.2.2 (k_gf k.2.1 fs [(0, kv 0)])
  cond (k_eq (k_at A 0) (kv 0) && (k_ff A k.2.1 fs && k_fS A S k.1)) (some A) none
section KMT
variable {E : pM} {N : Nat} {σ : Nat → Int} {M : pM} {S : kS} {A : kA} {n : Nat}
theorem k_fv1_ok {q p : kV} {v : Value} {m : Nat} (hq : kSc n q.2) (hp : kRV E m σ p v) (h : k_fv1 A q p = true) : kRV E n (k_si σ A n) q v := by
  unfold k_fv1 at h
  obtain ⟨h1, h2⟩ := Bool.and_eq_true_iff.mp h
  have h1 := pm_beq h1
  refine ⟨hq, ?_⟩
  obtain ⟨k, e⟩ := q
  obtain ⟨k', e'⟩ := p
  have h1 : k = k' := h1
  subst h1
  have hv := hp.2
  simp only [Bool.or_eq_true] at h2
  unfold kVal at hv ⊢
  match k, h2, hv with
  | 0, h2, hv =>
    rcases h2 with (h2 | h2) | h2
    · cases h2
    · cases h2
    · obtain ⟨x, rfl, hx⟩ := hv
      refine ⟨x, rfl, ?_⟩
      have := k_eq_ok (σ := σ) h2
      rw [k_sb_ev hq] at this
      exact hx.trans this.symm
  | 1, _, hv => exact hv
  | 2, h2, hv =>
    rcases h2 with (h2 | h2) | h2
    · cases h2
    · cases h2
    · obtain ⟨x, rfl, hx, hx2⟩ := hv
      refine ⟨x, rfl, ?_, hx2⟩
      have := k_eq_ok (σ := σ) h2
      rw [k_sb_ev hq] at this
      exact hx.trans this.symm
  | k + 3, _, hv => exact hv
theorem k_fl_ok {cur l : kLs} {ls : pL} {m : Nat} (hl : kRL E m σ cur ls) (hw : ∀ q ∈ l, kSc n q.2.2) (h : k_fl A cur l = true) : kRL E n (k_si σ A n) l ls := by
  intro i q hq
  have hm := pm_lk_mem hq
  have h1 := List.all_eq_true.mp h _ hm
  simp only at h1
  split at h1
  · rename_i p hp
    obtain ⟨v, hv, hr⟩ := hl i p hp
    exact ⟨v, hv, k_fv1_ok (hw _ hm) hr h1⟩
  · cases h1
theorem k_ft_ok {m : Nat} : ∀ {t r : List kV} {st : List Value}, kRT E m σ r st → (∀ q ∈ t, kSc n q.2) → k_ft A t r = true → kRT E n (k_si σ A n) t st
  | [], [], [], _, _, _ => trivial
  | q :: t, p :: r, v :: st, hr, hw, h => by
    obtain ⟨h1, h2⟩ := Bool.and_eq_true_iff.mp h
    exact ⟨k_fv1_ok (hw q List.mem_cons_self) hr.1 h1, k_ft_ok hr.2 (fun q hq => hw q (List.mem_cons_of_mem _ hq)) h2⟩
  | [], _ :: _, _, _, _, h => by cases h
  | _ :: _, [], _, _, _, h => by cases h
  | [], [], _ :: _, hr, _, _ => hr.elim
  | _ :: _, _ :: _, [], hr, _, _ => hr.elim
theorem k_ff_ok {m : Nat} : ∀ {t : List kFn} {r : List kFr} {cs : List cF}, kRFs E m σ r cs → t.all (k_wfF n) = true → k_ff A t r = true → kRNs E n (k_si σ A n) t cs
  | [], [], [], _, _, _ => trivial
  | f :: t, g :: r, c :: cs, hr, hw, h => by
    unfold k_ff at h
    simp only [Bool.and_eq_true] at h
    obtain ⟨⟨h1, h2⟩, h3, h4, h5⟩ := h
    rw [List.all_cons, Bool.and_eq_true] at hw
    obtain ⟨hw1, hw2⟩ := hw
    obtain ⟨hw3, hw4⟩ := Bool.and_eq_true_iff.mp hw1
    obtain ⟨⟨g1, g2, g3, g4, g5⟩, g6⟩ := hr
    exact ⟨⟨by rw [pm_beq h1, g2]; exact g1, by rw [pm_beq h2]; exact g3, k_fl_ok g4 (fun q hq => k_wfe_ok (List.all_eq_true.mp hw3 q hq)) h3, k_ft_ok g5 (fun q hq => k_wfe_ok (List.all_eq_true.mp hw4 q hq)) h4⟩, k_ff_ok g6 hw2 h5⟩
  | [], _ :: _, _, _, _, h => by cases h
  | _ :: _, [], _, _, _, h => by cases h
  | [], [], _ :: _, hr, _, _ => hr.elim
  | _ :: _, _ :: _, [], hr, _, _ => hr.elim
theorem k_fb_ok (hb : kBd σ S.1) (hF : kFs σ S.2.1) : ∀ (t : kB) (a : Nat), k_fb A S a t = true → ∀ (i : Nat) (w : Int × Int), t[i]? = some w → w.1 ≤ k_ev σ (k_at A (a + i)) ∧ k_ev σ (k_at A (a + i)) ≤ w.2
  | [], _, _, _, _, hw => by cases hw
  | x :: t, a, h, 0, w, hw => by
    cases hw
    unfold k_fb at h
    exact k_fit_ok hb hF (Bool.and_eq_true_iff.mp h).1
  | x :: t, a, h, i + 1, w, hw => by
    unfold k_fb at h
    have := k_fb_ok hb hF t (a + 1) (Bool.and_eq_true_iff.mp h).2 i w hw
    rw [show a + 1 + i = a + (i + 1) by omega] at this
    exact this
theorem k_fS_ok {T : kS} (h : kRS N σ S M) (h0 : k_eq (k_at A 0) (kv 0) = true) (hT : kScS T.1.length T) (hpos : 0 < T.1.length) (hf : k_fS A S T = true) : kRS N (k_si σ A T.1.length) T M := by
  unfold k_fS at hf
  simp only [Bool.and_eq_true] at hf
  obtain ⟨f1, f2, f3, f4⟩ := hf
  refine ⟨⟨?_, hpos⟩, fun a => ?_, fun e he => ?_, fun e he => ?_, fun q hq => ?_, hT⟩
  · unfold k_si
    rw [if_pos hpos, k_eq_ok h0, k_ev_v]
    exact h.1.1
  · by_cases ha : a < T.1.length
    · have := k_fb_ok h.2.1 h.2.2.1 T.1 0 f1 a T.1[a] (List.getElem?_eq_getElem ha)
      rw [Nat.zero_add] at this
      unfold k_si
      rw [if_pos ha, List.getD_eq_getElem?_getD, List.getElem?_eq_getElem ha]
      exact this
    · unfold k_si
      rw [if_neg ha, List.getD_eq_getElem?_getD, List.getElem?_eq_none (by omega)]
      exact ⟨Int.le_refl _, Int.le_refl _⟩
  · have := k_ge_ok h.2.1 h.2.2.1 (List.all_eq_true.mp f2 e he)
    rw [k_sb_ev (hT.1 e he)] at this
    exact this
  · have := k_nz_ok h (List.all_eq_true.mp f3 e he)
    rw [k_sb_ev (hT.2.1 e he)] at this
    exact this
  · have h1 := List.all_eq_true.mp f4 q hq
    obtain ⟨s1, s2, s3⟩ := hT.2.2 q hq
    split at h1
    · rename_i v hv
      have h2 := h.2.2.2.2.1 _ (k_find_in hv)
      have h3 := k_eq_ok (σ := σ) h1
      rw [k_sb_ev s3] at h3
      rw [h3]
      rw [← k_sb_ev s1, ← k_sb_ev s2]
      exact h2
    · cases h1
theorem k_mt_ok {k : kK} {fs : List kFr} {cs : List cF} (hw : k_wfK k = true) (h : kRS N σ S M) (hfs : kRFs E S.1.length σ fs cs) (hm : k_mt k S fs = some A) : kRS N (k_si σ A k.1.1.length) k.1 M ∧ kRNs E k.1.1.length (k_si σ A k.1.1.length) k.2.1 cs := by
  unfold k_mt at hm
  obtain ⟨h1, hm⟩ := pm_cs hm
  cases hm
  simp only [Bool.and_eq_true] at h1
  obtain ⟨h1, h2, h3⟩ := h1
  unfold k_wfK at hw
  simp only [Bool.and_eq_true] at hw
  obtain ⟨w1, w2, w3, w4, w5⟩ := hw
  exact ⟨k_fS_ok h h1 (k_wfS_ok w1) (pm_blt w5) h3, k_ff_ok hfs w2 h2⟩
end KMT
