noncomputable section
/-! all contracts of a table hold, when the executor allows each (or it is shown otherwise) -/
def k_fm : List kFn → Option (List kFr)
  | [] => some []
  | f :: t => match pmPT[f.1]?, k_fm t with
    | some me, some r => some ((f.1, me, f.2.1, f.2.2.1, f.2.2.2) :: r)
    | _, _ => none
def k_sp3 (f : Nat → kS → Bool) : List kE → Nat → kS → Bool
  | [], pn, S => f pn S
  | w :: t, pn, S => (match k_cn S .lt w with
    | some T => k_sp3 f t (Nat.add (Nat.mul pn 4) 1) T
    | none => true) && ((match k_cn S .eq w with
    | some T => k_sp3 f t (Nat.add (Nat.mul pn 4) 2) T
    | none => true) && (match k_cn S .gt w with
    | some T => k_sp3 f t (Nat.add (Nat.mul pn 4) 3) T
    | none => true))
def k_run (D : kDD) (X : List kDe) (env : List (List kCt)) (inl : Nat → Bool) (F : Nat) (H : List (Nat × Nat)) (po : kPo) (loops : kLt) (k : kK) : Bool := match k_fm k.2.1 with
  | some fs => k_sp3 (fun pn S => k_exe D X env inl H po loops k.2.2.2.2.1 F pn k.2.2.1 k.2.2.2.1 true S fs) k.2.2.2.2.2 1 k.1
  | none => false
def k_okK (D : kDD) (X : List kDe) (env : List (List kCt)) (inl : Nat → Bool) (F : Nat) (po : kPo) (loops : kLt) (k : kK) : Prop := ∃ H, k_run D X env inl F H po loops k = true
theorem k_okK_of {D : kDD} {X : List kDe} {env : List (List kCt)} {inl : Nat → Bool} {F : Nat} {po : kPo} {loops : kLt} {k : kK} (H : List (Nat × Nat)) (h : k_run D X env inl F H po loops k = true) : k_okK D X env inl F po loops k := ⟨H, h⟩
def k_okC (D : kDD) (X : List kDe) (env : List (List kCt)) (inl : Nat → Bool) (F : Nat) (ct : kCt) : Prop := Nat.beq ct.1.2.1.length 1 = true ∧ k_okK D X env inl F ct.2.1 ct.2.2 ct.1 ∧ ∀ k ∈ k_flt ct.2.2, k_okK D X env inl F ct.2.1 ct.2.2 k
def k_wfC (ct : kCt) : Bool := k_wfK ct.1 && (k_flt ct.2.2).all k_wfK
section KAL
variable {E : pM} {N : kN} {D : kDD} {X : List kDe} {env : List (List kCt)} {inl : Nat → Bool} {F : Nat}
theorem kRNs.len {n : Nat} {σ : Nat → Int} : ∀ {t : List kFn} {cs : List cF}, kRNs E n σ t cs → cs.length = t.length
  | [], [], _ => rfl
  | _ :: _, _ :: _, h => congrArg (· + 1) (kRNs.len h.2)
  | [], _ :: _, h => h.elim
  | _ :: _, [], h => h.elim
theorem k_fm_ok {n : Nat} {σ : Nat → Int} : ∀ {t : List kFn} {fs : List kFr} {cs : List cF}, kRNs E n σ t cs → k_fm t = some fs → kRFs E n σ fs cs
  | [], _, [], _, h => by cases h; trivial
  | f :: t, fs, c :: cs, hr, h => by
    unfold k_fm at h
    split at h
    · rename_i me r hme hr'
      cases h
      obtain ⟨⟨p1, p2, p3, p4⟩, p5⟩ := hr
      rw [hme] at p1
      have p1 : me = c.1 := Option.some.inj p1
      exact ⟨⟨hme, p1.symm, p2, p3, p4⟩, k_fm_ok p5 hr'⟩
    · cases h
  | [], _, _ :: _, hr, _ => hr.elim
  | _ :: _, _, [], hr, _ => hr.elim
theorem k_sp3_ok {f : Nat → kS → Bool} {M : pM} {σ : Nat → Int} : ∀ (l : List kE) (pn : Nat) (S : kS), kRS N σ S M → (∀ w ∈ l, kSc S.1.length w) → k_sp3 f l pn S = true → ∃ qn T, f qn T = true ∧ T.1.length = S.1.length ∧ kRS N σ T M
  | [], pn, S, h, _, hf => ⟨pn, S, hf, rfl, h⟩
  | w :: t, pn, S, h, hw, hf => by
    unfold k_sp3 at hf
    simp only [Bool.and_eq_true] at hf
    obtain ⟨h1, h2, h3⟩ := hf
    have sw := hw w List.mem_cons_self
    have fin : ∀ (c : ClassFile.Cond) (qn : Nat), k_cT c (k_ev σ w) → (match k_cn S c w with
      | some T => k_sp3 f t qn T
      | none => true) = true → ∃ qn T, f qn T = true ∧ T.1.length = S.1.length ∧ kRS N σ T M := by
      intro c qn hc hm
      obtain ⟨T, e1, e2, e3⟩ := k_cn_ok h sw hc
      rw [e1] at hm
      obtain ⟨rn, T2, f1, f2, f3⟩ := k_sp3_ok t qn T e3 (fun w' hw' => by rw [e2]; exact hw w' (List.mem_cons_of_mem _ hw')) hm
      exact ⟨rn, T2, f1, f2.trans e2, f3⟩
    by_cases a : k_ev σ w < 0
    · exact fin .lt _ a h1
    · by_cases b : k_ev σ w = 0
      · exact fin .eq _ b h2
      · exact fin .gt _ (show 0 < k_ev σ w by omega) h3
theorem k_all (hD : D.1 ≤ pmX) (hX : kExt X N E) (hwf : env.flatten.all k_wfC = true) (hok : ∀ ct ∈ env.flatten, k_okC D X env inl F ct ∨ ∀ d, (∀ d', d' < d → ∀ c ∈ env.flatten, kHold E N D d' c.1 c.2.1) → kHold E N D d ct.1 ct.2.1) : ∀ (d : Nat) (ct : kCt), ct ∈ env.flatten → kHold E N D d ct.1 ct.2.1 := by
  intro d
  induction d using Nat.strongRecOn with
  | _ d IH =>
  intro ct hct
  refine (hok ct hct).elim (fun hk => ?_) (fun hman => hman d (fun d' hd' c hc => IH d' hd' c hc))
  have hw := Bool.and_eq_true_iff.mp (List.all_eq_true.mp hwf ct hct)
  have hw2 : ∀ k ∈ k_flt ct.2.2, k_wfK k = true := List.all_eq_true.mp hw.2
  have hwm : ∀ c ∈ env.flatten, k_wfK c.1 = true := fun c hc => (Bool.and_eq_true_iff.mp (List.all_eq_true.mp hwf c hc)).1
  obtain ⟨hk0, hk1, hk2⟩ := hk
  have wfp : ∀ k : kK, k_wfK k = true → kSc k.1.1.length k.2.2.1 ∧ kSc k.1.1.length k.2.2.2.1 ∧ (∀ g ∈ k.2.2.2.2.1, kSc k.1.1.length g) ∧ ∀ g ∈ k.2.2.2.2.2, kSc k.1.1.length g := fun k hk => by
    unfold k_wfK at hk
    simp only [Bool.and_eq_true] at hk
    obtain ⟨w1, w2, w3, w4, w5, w6, w7⟩ := hk
    exact ⟨k_wfe_ok w3, k_wfe_ok w4, fun g hg => k_wfe_ok (List.all_eq_true.mp w6 g hg), fun g hg => k_wfe_ok (List.all_eq_true.mp w7 g hg)⟩
  have loopsOk : ∀ (n : Nat) (M0 : pM) (p : List Int), ∀ k ∈ k_flt ct.2.2, ∀ (d1 : Nat) (σ : Nat → Int) (M : pM) (cs : List cF), d1 + cs.length ≤ d + 1 → kRS N σ k.1 M → kMem D M → kRNs E k.1.1.length σ k.2.1 cs → kSame ct.2.1.1 M0 M → k.2.2.2.2.1.map (k_ev σ) = p → k_ev σ k.2.2.1 ≤ (d1 : Int) → k_ev σ k.2.2.2.1 < (n : Int) → 0 ≤ k_ev σ k.2.2.2.1 → kSem E (kPost E N D ct.2.1 p M0) d1 cs M := by
    intro n M0 p
    induction n with
    | zero => intro k _ d1 σ M cs _ _ _ _ _ _ _ h1 h2; omega
    | succ n ihn =>
      intro k hkin d1 σ M cs hd1 hS hM hR hs hp hdp h1 h2
      obtain ⟨H, hb⟩ := hk2 k hkin
      obtain ⟨q1, q2, q3, q4⟩ := wfp k (hw2 k hkin)
      unfold k_run at hb
      split at hb
      · rename_i fs hfs
        obtain ⟨pn, T, b1, b2, b3⟩ := k_sp3_ok _ 1 k.1 hS q4 hb
        have hF := k_fm_ok hR hfs
        rw [← b2] at hF q1 q2 q3
        exact k_exe_ok hD hX d (k_ev σ k.2.2.2.1) M0 p hwm hw2 (fun c hc d' hd' => IH d' hd' c hc) (fun k' hk' d' σ' M' cs' a1 a2 a3 a4 a5 a6 a7 a8 a9 => ihn k' hk' d' σ' M' cs' a1 a2 a3 a4 a5 a6 a7 (by omega) a9) F pn _ _ true T fs σ M cs d1 b1 b3 hM hF hs q3 hp q1 hdp hd1 q2 rfl
      · cases hb
  intro σ M M0 cs hS hM hR hs hdp
  have hlen := hR.len
  rw [pm_beq hk0] at hlen
  obtain ⟨q1, q2, q3, q4⟩ := wfp _ hw.1
  obtain ⟨H, hk1⟩ := hk1
  unfold k_run at hk1
  split at hk1
  · rename_i fs hfs
    obtain ⟨pn, T, b1, b2, b3⟩ := k_sp3_ok _ 1 ct.1.1 hS q4 hk1
    have hF := k_fm_ok hR hfs
    rw [← b2] at hF q1 q2 q3
    exact k_exe_ok hD hX d (k_ev σ ct.1.2.2.2.1) M0 _ hwm hw2 (fun c hc d' hd' => IH d' hd' c hc) (fun k' hk' d' σ' M' cs' a1 a2 a3 a4 a5 a6 a7 a8 a9 => loopsOk (k_ev σ ct.1.2.2.2.1).toNat M0 _ k' hk' d' σ' M' cs' a1 a2 a3 a4 a5 a6 a7 (by omega) a9) F pn _ _ true T fs σ M cs d b1 b3 hM hF hs q3 rfl q1 hdp (by omega) q2 rfl
  · cases hk1
end KAL
end
