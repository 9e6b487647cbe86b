/-! all contracts of a table hold, when the executor allows each -/
def k_fm : List kFn → Option (List kFr)
  | [] => some []
  | f :: t => match pmPT[f.1]?, k_fm t with
    | some me, some r => some ((f.1, me, f.2.1, f.2.2.1, f.2.2.2) :: r)
    | _, _ => none
def k_okK (D X : List kDe) (env : List kCt) (inl : Nat → Bool) (F : Nat) (po : kPo) (loops : List kK) (k : kK) : Bool := match k_fm k.2.1 with
  | some fs => k_exe D X env inl po loops F k.2.2.1 k.2.2.2 true k.1 fs
  | none => false
def k_okC (D X : List kDe) (env : List kCt) (inl : Nat → Bool) (F : Nat) (ct : kCt) : Bool := (Nat.beq ct.1.2.1.length 1 && k_okK D X env inl F ct.2.1 ct.2.2 ct.1) && ct.2.2.all (k_okK D X env inl F ct.2.1 ct.2.2)
def k_wfC (ct : kCt) : Bool := k_wfK ct.1 && ct.2.2.all k_wfK
section KAL
variable {E : pM} {N : Nat} {D X : List kDe} {env : List kCt} {inl : Nat → Bool} {F : Nat}
theorem kRNs.len {n : Nat} {σ : Nat → Int} : ∀ {t : List kFn} {cs : List cF}, kRNs E n σ t cs → cs.length = t.length
  | [], [], _ => rfl
  | _ :: _, _ :: _, h => congrArg (· + 1) (kRNs.len h.2)
  | [], _ :: _, h => h.elim
  | _ :: _, [], h => h.elim
theorem k_fm_ok {n : Nat} {σ : Nat → Int} : ∀ {t : List kFn} {fs : List kFr} {cs : List cF}, kRNs E n σ t cs → k_fm t = some fs → kRFs E n σ fs cs
  | [], _, [], _, h => by cases h; trivial
  | f :: t, fs, c :: cs, hr, h => by
    unfold k_fm at h
    split at h
    · rename_i me r hme hr'
      cases h
      obtain ⟨⟨p1, p2, p3, p4⟩, p5⟩ := hr
      rw [hme] at p1
      have p1 : me = c.1 := Option.some.inj p1
      exact ⟨⟨hme, p1.symm, p2, p3, p4⟩, k_fm_ok p5 hr'⟩
    · cases h
  | [], _, _ :: _, hr, _ => hr.elim
  | _ :: _, _, [], hr, _ => hr.elim
theorem k_all (hD : D.length ≤ pmX) (hX : kExt X N E) (hwf : env.all k_wfC = true) (hok : ∀ ct ∈ env, k_okC D X env inl F ct = true) : ∀ (d : Nat) (ct : kCt), ct ∈ env → kHold E N D d ct.1 ct.2.1 := by
  intro d
  induction d using Nat.strongRecOn with
  | _ d IH =>
  intro ct hct
  have hw := Bool.and_eq_true_iff.mp (List.all_eq_true.mp hwf ct hct)
  have hw2 : ∀ k ∈ ct.2.2, k_wfK k = true := List.all_eq_true.mp hw.2
  have hwm : ∀ c ∈ env, k_wfK c.1 = true := fun c hc => (Bool.and_eq_true_iff.mp (List.all_eq_true.mp hwf c hc)).1
  have hk := Bool.and_eq_true_iff.mp (hok ct hct)
  obtain ⟨hk1, hk2⟩ := hk
  obtain ⟨hk0, hk1⟩ := Bool.and_eq_true_iff.mp hk1
  have wfp : ∀ k : kK, k_wfK k = true → kSc k.1.1.length k.2.2.1 ∧ kSc k.1.1.length k.2.2.2 := fun k hk => by
    unfold k_wfK at hk
    simp only [Bool.and_eq_true] at hk
    exact ⟨k_wfe_ok hk.2.2.1, k_wfe_ok hk.2.2.2.1⟩
  have loopsOk : ∀ (n : Nat) (M0 : pM), ∀ k ∈ ct.2.2, ∀ (d1 : Nat) (σ : Nat → Int) (M : pM) (cs : List cF), d1 + cs.length ≤ d + 1 → kRS N σ k.1 M → kMem D M → kRNs E k.1.1.length σ k.2.1 cs → kSame ct.2.1.2 M0 M → k_ev σ k.2.2.1 ≤ (d1 : Int) → k_ev σ k.2.2.2 < (n : Int) → 0 ≤ k_ev σ k.2.2.2 → kSem E (kPost E D ct.2.1 M0) d1 cs M := by
    intro n M0
    induction n with
    | zero => intro k _ d1 σ M cs _ _ _ _ _ _ h1 h2; omega
    | succ n ihn =>
      intro k hkin d1 σ M cs hd1 hS hM hR hs hdp h1 h2
      have hb := List.all_eq_true.mp hk2 k hkin
      unfold k_okK at hb
      split at hb
      · rename_i fs hfs
        refine k_exe_ok hD hX d (k_ev σ k.2.2.2) M0 hwm hw2 (fun c hc d' hd' => IH d' hd' c hc) (fun k' hk' d' σ' M' cs' a1 a2 a3 a4 a5 a6 a7 a8 => ihn k' hk' d' σ' M' cs' a1 a2 a3 a4 a5 a6 (by omega) a8) F _ _ true k.1 fs σ M cs d1 hb hS hM (k_fm_ok hR hfs) hs (wfp k (hw2 k hkin)).1 hdp hd1 (wfp k (hw2 k hkin)).2 rfl
      · cases hb
  intro σ M M0 cs hS hM hR hs hdp
  have hlen := hR.len
  rw [pm_beq hk0] at hlen
  unfold k_okK at hk1
  split at hk1
  · rename_i fs hfs
    exact k_exe_ok hD hX d (k_ev σ ct.1.2.2.2) M0 hwm hw2 (fun c hc d' hd' => IH d' hd' c hc) (fun k' hk' d' σ' M' cs' a1 a2 a3 a4 a5 a6 a7 a8 => loopsOk (k_ev σ ct.1.2.2.2).toNat M0 k' hk' d' σ' M' cs' a1 a2 a3 a4 a5 a6 (by omega) a8) F _ _ true ct.1.1 fs σ M cs d hk1 hS hM (k_fm_ok hR hfs) hs (wfp _ hw.1).1 hdp (by omega) (wfp _ hw.1).2 rfl
  · cases hk1
end KAL
