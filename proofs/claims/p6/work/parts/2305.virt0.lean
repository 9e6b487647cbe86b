noncomputable section
/-! entries under negative cells: what a write, a call leaves of them -/
theorem k_gi_put {M : pM} {a j : Nat} {cl : pC} {w : Value} {x : Int} (hcl : M[a]? = some cl) (hjl : j < cl.2.length) (hw : kNum w x) : k_gi (pm_put M a j cl w) a j = some x := by
  have hal : a < M.length := (List.getElem?_eq_some_iff.mp hcl).1
  refine k_gi_of (c := (cl.1, cl.2.set j w)) (w := w) (by unfold pm_put; rw [List.getElem?_set_self hal]) ?_ hw
  show (cl.2.set j w)[j]? = some w
  rw [List.getElem?_set_self hjl]
theorem k_gi_put_ne {M : pM} {a j b i : Nat} {cl : pC} {w : Value} (hcl : M[a]? = some cl) (hne : ¬ (b = a ∧ i = j)) : k_gi (pm_put M a j cl w) b i = k_gi M b i := by
  have hal : a < M.length := (List.getElem?_eq_some_iff.mp hcl).1
  unfold k_gi pm_put
  by_cases hb : b = a
  · subst hb
    rw [List.getElem?_set_self hal, hcl]
    dsimp only
    rw [List.getElem?_set_ne (fun h => hne ⟨rfl, h.symm⟩)]
  · rw [List.getElem?_set_ne (Ne.symm hb)]
theorem kInt_put {M : pM} {a j : Nat} {cl : pC} {w : Value} {x b i : Int} (hcl : M[a]? = some cl) (hjl : j < cl.2.length) (hw : kNum w x) (hb : b = (a : Int)) (hi : i = (j : Int)) : kInt (pm_put M a j cl w) b i x := by
  subst hb
  subst hi
  exact ⟨by omega, by omega, k_gi_put hcl hjl hw⟩
theorem kInt_put_ne {M : pM} {a j : Nat} {cl : pC} {w : Value} {x b i : Int} (hcl : M[a]? = some cl) (h : kInt M b i x) (hne : ¬ (b = (a : Int) ∧ i = (j : Int))) : kInt (pm_put M a j cl w) b i x := by
  refine ⟨h.1, h.2.1, ?_⟩
  have h1 := h.1
  have h2 := h.2.1
  rw [k_gi_put_ne hcl (by omega)]
  exact h.2.2
theorem kHas.int {N : kN} {M : pM} {c s v : Int} (h : kHas N M c s v) (hc : 0 ≤ c) : kInt M c s v := by
  obtain ⟨a, j, q, w, rfl, rfl, h1, h2, h3⟩ := h.1 hc
  exact ⟨by omega, by omega, k_gi_of h1 h2 h3⟩
theorem k_find_int {N : kN} {σ : Nat → Int} {S : kS} {M : pM} {c s v : kE} (h : kRS N σ S M) (hv : k_find c s S.2.2.2 = some v) (hc : 0 ≤ k_ev σ c) : kInt M (k_ev σ c) (k_ev σ s) (k_ev σ v) := (h.2.2.2.2.1 _ (k_find_in hv)).int hc
theorem k_find_sc {N : kN} {σ : Nat → Int} {S : kS} {M : pM} {c s v : kE} (h : kRS N σ S M) (hv : k_find c s S.2.2.2 = some v) : kSc S.1.length v := (h.2.2.2.2.2.2.2 _ (k_find_in hv)).2.2
/-- which entry a negative cell means -/
def k_vi (c : kE) : Nat := (-c.1 % 16).toNat
def k_vp (c : kE) : kE := k_dv 16 (k_sub (k_mul (-1) c) (kc (-c.1 % 16)))
def k_vok (c : kE) : Bool := k_eq c (k_sub (kc (-(-c.1 % 16))) (k_mul 16 (k_vp c)))
theorem k_vi_lt (c : kE) : k_vi c < 16 := by
  unfold k_vi
  omega
theorem k_vok_ev {σ : Nat → Int} {c : kE} (h : k_vok c = true) : k_ev σ c = -((k_vi c : Int) + 16 * k_ev σ (k_vp c)) := by
  unfold k_vok at h
  have e := k_eq_ok (σ := σ) h
  rw [k_ev_sub, k_ev_c, k_ev_mul] at e
  unfold k_vi
  omega
theorem k_vp_sc {n : Nat} {c : kE} (h : kSc n c) : kSc n (k_vp c) := k_dv_sc (kSc_sub (kSc_mul h) kSc_c)
/-- wholly beside the cells lo .. hi -/
def k_off (b : kB) (c : kE) (lo hi : Int) : Bool := decide (k_hi b c < lo) || decide (hi < k_lo b c)
theorem k_off_ok {σ : Nat → Int} {b : kB} {c : kE} {lo hi : Int} (hb : kBd σ b) (h : k_off b c lo hi = true) : k_ev σ c < lo ∨ hi < k_ev σ c := by
  unfold k_off at h
  simp only [Bool.or_eq_true, decide_eq_true_eq] at h
  have h1 := k_lo_le hb c
  have h2 := k_hi_ge hb c
  omega
def k_is (c : kE) (z : Int) : Bool := k_cst c && decide (c.1 = z)
theorem k_is_ev {σ : Nat → Int} {c : kE} {z : Int} (h : k_is c z = true) : k_ev σ c = z := by
  unfold k_is at h
  obtain ⟨h1, h2⟩ := Bool.and_eq_true_iff.mp h
  rw [k_ev_const (σ := σ) h1]
  exact of_decide_eq_true h2
end
