/-! what the executor allows, the pure machine does -/
section KSD
variable {E : pM} {N : Nat} {D X : List kDe} {σ : Nat → Int} {M : pM} {S : kS} {kt : List kV} {st : List Value}
theorem kRT.len {n : Nat} : ∀ {t : List kV} {r : List Value}, kRT E n σ t r → t.length = r.length
  | [], [], _ => rfl
  | _ :: _, _ :: _, h => congrArg (· + 1) (kRT.len h.2)
  | [], _ :: _, h => h.elim
  | _ :: _, [], h => h.elim
theorem kRT.take {n : Nat} : ∀ (k : Nat) {t : List kV} {r : List Value}, kRT E n σ t r → kRT E n σ (t.take k) (r.take k)
  | 0, _, _, _ => trivial
  | _ + 1, [], [], _ => trivial
  | k + 1, _ :: _, _ :: _, h => ⟨h.1, kRT.take k h.2⟩
  | _ + 1, [], _ :: _, h => h.elim
  | _ + 1, _ :: _, [], h => h.elim
theorem kRT.drop {n : Nat} : ∀ (k : Nat) {t : List kV} {r : List Value}, kRT E n σ t r → kRT E n σ (t.drop k) (r.drop k)
  | 0, _, _, h => h
  | _ + 1, [], [], _ => trivial
  | k + 1, _ :: _, _ :: _, h => kRT.drop k h.2
  | _ + 1, [], _ :: _, h => h.elim
  | _ + 1, _ :: _, [], h => h.elim
theorem kRT.rev {n : Nat} : ∀ {t : List kV} {r : List Value}, kRT E n σ t r → kRT E n σ t.reverse r.reverse
  | [], [], _ => trivial
  | _ :: _, _ :: _, h => by
    rw [List.reverse_cons, List.reverse_cons]
    exact kRT.app (kRT.rev h.2) ⟨h.1, trivial⟩
  | [], _ :: _, h => h.elim
  | _ :: _, [], h => h.elim
theorem k_cl_ok {kd own idx pc : Nat} {ls : pL} {z : Nat × pmMe × List kV × List kV} (hD : D.length ≤ pmX) (hX : kExt X N E) (h : kRS N σ S M) (hM : kMem D M) (ht : kRT E S.1.length σ kt st) (hz : k_cl D X kd own idx S kt = some z) : ∃ as rest, pm_call E kd own idx pc ls st M = some (.inr (z.1, as, rest)) ∧ pmPT[z.1]? = some z.2.1 ∧ kRT E S.1.length σ z.2.2.1 as ∧ kRT E S.1.length σ z.2.2.2 rest := by
  unfold k_cl at hz
  split at hz
  · cases hz
  · rename_i t hti
    cases h9 : (Nat.beq t.1 9000 || Nat.beq t.1 9001) with
    | true =>
      rw [h9, cond_true] at hz
      cases hz
    | false =>
      rw [h9, cond_false] at hz
      obtain ⟨h90, h91⟩ := Bool.or_eq_false_iff.mp h9
      split at hz
      · cases hz
      · rename_i me hme
        have h00 := pm_cs hz
        clear hz
        obtain ⟨h1, hz⟩ := h00
        obtain ⟨h1, h2⟩ := Bool.and_eq_true_iff.mp h1
        have ha := (ht.take me.2.2.2.2.2.2.1).rev
        have hr := ht.drop me.2.2.2.2.2.2.1
        have hl := ha.len
        have h2' : Nat.beq (st.take me.2.2.2.2.2.2.1).reverse.length me.2.2.2.2.2.2.1 = true := by rw [← hl]; exact h2
        have go : ∀ w, pm_args E kd t.1 st M = some w → pm_call E kd own idx pc ls st M = some (.inr w) := by
          intro w hw
          unfold pm_call
          simp only [hti, h90, h91, cond_false, hw]
        cases hk0 : Nat.beq kd 0 with
        | true =>
          rw [hk0, cond_true] at hz
          have h00 := pm_cs hz
          clear hz
          obtain ⟨h3, hz⟩ := h00
          cases hz
          refine ⟨_, _, go _ ?_, hme, ha, hr⟩
          unfold pm_args
          rw [hme]
          simp only [h1, h2', hk0, Bool.and_true, cond_true, k_cat_ok hr, h3]
        | false =>
          rw [hk0, cond_false] at hz
          split at hz
          · rename_i c rk hdr
            rw [hdr] at hr
            obtain ⟨a, r, hst, s2, e2, hlt, hr2⟩ := hr.rf
            split at hz
            · rename_i d hd
              have h00 := pm_cs hz
              clear hz
              obtain ⟨h3, hz⟩ := h00
              obtain ⟨h3, h4⟩ := Bool.and_eq_true_iff.mp h3
              cases hz
              have hcell : ∃ q, pm_cell E M a = some q ∧ kCell d q := by
                split at hd
                · rename_i d' hd'
                  cases hd
                  obtain ⟨q, f1, f2, f3, f4, f5⟩ := k_own_ok (E := E) hD h hM e2 hd'
                  exact ⟨q, f5, f2⟩
                · obtain ⟨q, f1, f2, f3⟩ := k_ex_ok (M := M) hX e2 hd
                  exact ⟨q, f1, f2⟩
              obtain ⟨q, f1, f2⟩ := hcell
              refine ⟨.ref a :: (st.take me.2.2.2.2.2.2.1).reverse, r, go _ ?_, hme, ⟨⟨s2, a, rfl, e2, hlt⟩, ha⟩, hr2⟩
              unfold pm_args
              rw [hme]
              simp only [h1, h2', hk0, Bool.and_true, cond_true, cond_false]
              rw [hst]
              simp only [f1, f2.1, h3, k_cat_ok hr2, h4, Bool.and_true, cond_true]
            · cases hz
          · cases hz
end KSD
