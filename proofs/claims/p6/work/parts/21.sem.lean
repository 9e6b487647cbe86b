noncomputable section
/-! what it means that the pure machine ends well: by any fuel beyond some -/
def kLp (E : pM) (d : Nat) (me : pmMe) (pc : Nat) (ls : pL) (st : List Value) (M : pM) (P : Option Value → pM → Prop) : Prop := ∃ f0 F0 : Nat, ∃ (v : Option Value) (M' : pM), P v M' ∧ ∀ f F : Nat, f0 ≤ f → F0 ≤ F → pm_loop E (pm_run E F d) me f pc ls st M = some (v, M')
def kRun (E : pM) (d y : Nat) (as : List Value) (M : pM) (P : Option Value → pM → Prop) : Prop := ∃ F0 : Nat, ∃ (v : Option Value) (M' : pM), P v M' ∧ ∀ F : Nat, F0 ≤ F → pm_run E F d y as M = some (v, M')
section KSM
variable {E : pM} {d : Nat} {me : pmMe} {pc : Nat} {ls : pL} {st : List Value} {M : pM} {P : Option Value → pM → Prop}
theorem kLp.mono {P' : Option Value → pM → Prop} (h : kLp E d me pc ls st M P) (hp : ∀ v M', P v M' → P' v M') : kLp E d me pc ls st M P' := by
  obtain ⟨f0, F0, v, M', h1, h2⟩ := h
  exact ⟨f0, F0, v, M', hp v M' h1, h2⟩
theorem kRun.mono {y : Nat} {as : List Value} {P' : Option Value → pM → Prop} (h : kRun E d y as M P) (hp : ∀ v M', P v M' → P' v M') : kRun E d y as M P' := by
  obtain ⟨F0, v, M', h1, h2⟩ := h
  exact ⟨F0, v, M', hp v M' h1, h2⟩
theorem kLp_succ {z : pS} (h : ∀ (f F : Nat), pm_loop E (pm_run E F d) me (f + 1) pc ls st M = pm_loop E (pm_run E F d) me f z.1 z.2.1 z.2.2.1 z.2.2.2) (k : kLp E d me z.1 z.2.1 z.2.2.1 z.2.2.2 P) : kLp E d me pc ls st M P := by
  obtain ⟨f0, F0, v, M', h1, h2⟩ := k
  refine ⟨f0 + 1, F0, v, M', h1, fun f F hf hF => ?_⟩
  obtain ⟨g, rfl⟩ : ∃ g, f = g + 1 := ⟨f - 1, by omega⟩
  rw [h]
  exact h2 g F (by omega) hF
/-- a step -/
theorem kLp.stp {q : Instr × Nat} {z : pS} (hq : pm_lc me.2.2.2.2.2.2.2 pc = some q) (hi : pm_inv q.1 = none) (hr : pm_isr q.1 = false) (hs : pm_stp E me.1 me.2.2.2.1 (Nat.beq me.2.2.2.2.2.1 2) q.1 q.2 pc ls st M = some z) (k : kLp E d me z.1 z.2.1 z.2.2.1 z.2.2.2 P) : kLp E d me pc ls st M P := by
  refine kLp_succ (z := z) (fun f F => ?_) k
  show (match pm_lc me.2.2.2.2.2.2.2 pc with | none => _ | some q => _) = _
  rw [hq]
  simp only [hi, hr, cond_false, hs]
/-- the end of a body -/
theorem kLp.ret {q : Instr × Nat} {v : Option Value} (hq : pm_lc me.2.2.2.2.2.2.2 pc = some q) (hi : pm_inv q.1 = none) (hr : pm_isr q.1 = true) (hn : Nat.beq q.2 1 = true) (hs : pm_end E me.2.2.2.2.1 q.1 st = some v) (k : P v M) : kLp E d me pc ls st M P := by
  refine ⟨1, 0, v, M, k, fun f F hf _ => ?_⟩
  obtain ⟨g, rfl⟩ : ∃ g, f = g + 1 := ⟨f - 1, by omega⟩
  show (match pm_lc me.2.2.2.2.2.2.2 pc with | none => _ | some q => _) = _
  rw [hq]
  simp only [hi, hr, hn, cond_true, hs]
/-- a call that is none of ours -/
theorem kLp.inl {q : Instr × Nat} {j : Nat × Nat} {z : pS} (hq : pm_lc me.2.2.2.2.2.2.2 pc = some q) (hi : pm_inv q.1 = some j) (hn : Nat.beq q.2 3 = true) (hs : pm_call E j.1 me.1 j.2 pc ls st M = some (.inl z)) (k : kLp E d me z.1 z.2.1 z.2.2.1 z.2.2.2 P) : kLp E d me pc ls st M P := by
  refine kLp_succ (z := z) (fun f F => ?_) k
  show (match pm_lc me.2.2.2.2.2.2.2 pc with | none => _ | some q => _) = _
  rw [hq]
  simp only [hi, hn, cond_true, hs]
/-- a call of ours -/
theorem kLp.inr {q : Instr × Nat} {j : Nat × Nat} {z : Nat × List Value × List Value} (hq : pm_lc me.2.2.2.2.2.2.2 pc = some q) (hi : pm_inv q.1 = some j) (hn : Nat.beq q.2 3 = true) (hs : pm_call E j.1 me.1 j.2 pc ls st M = some (.inr z)) (k : kRun E d z.1 z.2.1 M (fun v M' => kLp E d me (pc + 3) ls (v.toList ++ z.2.2) M' P)) : kLp E d me pc ls st M P := by
  obtain ⟨F1, v1, M1, ⟨f0, F0, v, M', h1, h2⟩, h3⟩ := k
  refine ⟨f0 + 1, max F0 F1, v, M', h1, fun f F hf hF => ?_⟩
  obtain ⟨g, rfl⟩ : ∃ g, f = g + 1 := ⟨f - 1, by omega⟩
  have e1 := h3 F (by omega)
  have e2 := h2 g F (by omega) (by omega)
  show (match pm_lc me.2.2.2.2.2.2.2 pc with | none => _ | some q => _) = _
  rw [hq]
  simp only [hi, hn, cond_true, hs, e1, e2]
/-- a body is a call -/
theorem kRun.body {y : Nat} {as : List Value} (hy : pmPT[y]? = some me) (hc : Nat.ble (pm_cat as) me.2.2.2.1 = true) (k : kLp E d me 0 (lv_args 0 as) [] M P) : kRun E (d + 1) y as M P := by
  obtain ⟨f0, F0, v, M', h1, h2⟩ := k
  refine ⟨max f0 F0, v, M', h1, fun F hF => ?_⟩
  have e := h2 F F (by omega) (by omega)
  show (match pmPT[y]? with | none => _ | some me => _) = _
  rw [hy]
  simp only [hc, cond_true, e]
end KSM
/-- a frame of the pure machine: its method, place, locals, stack -/
abbrev cF : Type := pmMe × Nat × pL × List Value
/-- how a value comes back through the frames that wait -/
def kRet (E : pM) (P : Option Value → pM → Prop) : Nat → List cF → Option Value → pM → Prop
  | _, [], v, M => P v M
  | d, g :: r, v, M => kLp E (d + 1) g.1 (g.2.1 + 3) g.2.2.1 (v.toList ++ g.2.2.2) M (kRet E P (d + 1) r)
def kSem (E : pM) (P : Option Value → pM → Prop) (d : Nat) (fs : List cF) (M : pM) : Prop := match fs with
  | [] => False
  | g :: r => kLp E d g.1 g.2.1 g.2.2.1 g.2.2.2 M (kRet E P d r)
end
