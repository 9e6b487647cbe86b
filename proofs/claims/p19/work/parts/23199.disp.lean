noncomputable section
/-! tables and functions: a write -/
section KDQ
variable {N : kN} {σ : Nat → Int} {S : kS} {M : pM} {c s v : kE} {a j : Nat} {cl : pC} {w : Value} {q : kH}
def k_wdl (S : kS) (j X : kE) : Option kE := match k_lkf S (k_ff7 0 j) X with
  | some v => some v
  | none => k_wdf S j X
theorem k_wdl_ok (h : kRS N σ S M) {j X v : kE} (sj : kSc S.1.length j) (hv : k_wdl S j X = some v) : kSc S.1.length v ∧ kWd (k_ev σ j).toNat (k_ev σ X) = k_ev σ v := by
  unfold k_wdl at hv
  split at hv
  · rename_i v' hv'
    cases hv
    obtain ⟨a1, a2⟩ := k_lk7_ok h (by omega) (by omega) hv'
    exact ⟨a1, a2.symm⟩
  · exact k_wdf_ok h sj hv
def k_vtt (S : kS) (c s v : kE) (q : kH) (z : Nat × kE) : List kH := match z.1 with
  | 0 => k_tt0 S c q
  | 1 => k_tt1 S (k_wdl S s q.2) c s v q z.2
  | 2 => k_tt2 S c s q z.2
  | 3 => k_tt3 S c s v q
  | 4 => k_tt4 S c s v q z.2
  | 5 => k_tt5 S c s v q
  | 6 => k_tt6 S c s v q
  | 7 => k_tt7 S c s v q z.2
  | 8 => k_tt8 S c s q
  | 9 => k_tt9 S (k_bit6 S q.1.2 q.2) c s v q z.2
  | 10 => k_tt10 S c s v q z.2
  | 11 => k_tt11 S c s q
  | 12 => k_tt12 S c q z.2
  | _ => []
/-- a quick look: a function's cell; a table's -/
def k_qfn (c : kE) : Bool := Nat.beq (Nat.mod (k_zm c.1) 128) 78
def k_qtb (c : kE) : Bool := k_qm 894 c || k_qm 1022 c
def k_vtq (S : kS) (c s v : kE) (q : kH) : List kH := cond (k_qfn q.1.1) (match k_fev S q.1.1 with
  | some _ => [q]
  | none => k_vty S c s v q) (cond (k_qtb q.1.1) (match k_tev S q.1.1 with
  | some z => k_vtt S c s v q z
  | none => k_vty S c s v q) (k_vty S c s v q))
theorem k_vtq_ok (h : kRS N σ S M) (hs : kSc S.1.length s) (hv : kSc S.1.length v) (ha : (a : Int) = k_ev σ c) (hj : (j : Int) = k_ev σ s) (hcl : M[a]? = some cl) (hjl : j < cl.2.length) (hw : kNum w (k_ev σ v)) (hq : q ∈ S.2.2.2) (hn : k_ev σ q.1.1 < 0) : ∀ q' ∈ k_vtq S c s v q, kVw N σ S (pm_put M a j cl w) q' := by
  obtain ⟨s1, s2, s3⟩ := h.2.2.2.2.2.2.2 q hq
  have rest : ∀ q' ∈ k_vty S c s v q, kVw N σ S (pm_put M a j cl w) q' := k_vty_ok h ha hj hcl hjl hw hq hn
  unfold k_vtq
  cases c1 : k_qfn q.1.1 with
  | true =>
    rw [cond_true]
    split
    · rename_i z hz
      intro q' hq'
      rcases List.mem_singleton.mp hq' with rfl
      obtain ⟨-, H⟩ := k_fev_ok h s1 hn hz
      exact ⟨⟨s1, s2, s3⟩, (H _ _ _).mpr ((H M _ _).mp (h.2.2.2.2.1 q' hq))⟩
    · exact rest
  | false =>
    rw [cond_false]
    cases c2 : k_qtb q.1.1 with
    | false =>
      rw [cond_false]
      exact rest
    | true =>
      rw [cond_true]
      split
      · rename_i z hz
        obtain ⟨sz, H⟩ := k_tev_ok h s1 hn hz
        have old := (H M _ _).mp (h.2.2.2.2.1 q hq)
        obtain ⟨k, y⟩ := z
        have sz : kSc S.1.length y := sz
        have mk : kMk N σ S (pm_put M a j cl w) q k (k_ev σ y) := fun s' v' h1 h2 hT => ⟨⟨s1, h1, h2⟩, (H _ _ _).mpr hT⟩
        have old : kTab M k (k_ev σ y) (k_ev σ q.1.2) (k_ev σ q.2) := old
        clear H hz
        match k, old, mk with
        | 0, old, mk => exact k_tt0_ok h hs hv ha hj hcl hjl hw hq sz old mk
        | 1, old, mk => exact k_tt1_ok h hs hv ha hj hcl hjl hw hq sz (fun u hu _ _ => (k_wdl_ok h hs hu).2) old mk
        | 2, old, mk => exact k_tt2_ok h hs hv ha hj hcl hjl hw hq sz old mk
        | 3, old, mk => exact k_tt3_ok h hs hv ha hj hcl hjl hw hq sz old mk
        | 4, old, mk => exact k_tt4_ok h hs hv ha hj hcl hjl hw hq sz old mk
        | 5, old, mk => exact k_tt5_ok h hs hv ha hj hcl hjl hw hq sz old mk
        | 6, old, mk => exact k_tt6_ok h hs hv ha hj hcl hjl hw hq sz old mk
        | 7, old, mk => exact k_tt7_ok h hs hv ha hj hcl hjl hw hq sz old mk
        | 8, old, mk => exact k_tt8_ok h hs hv ha hj hcl hjl hw hq sz old mk
        | 9, old, mk => exact k_tt9_ok h hs hv ha hj hcl hjl hw hq sz (fun b hb _ _ => (k_bit6_ok h s3 hb).2) old mk
        | 10, old, mk => exact k_tt10_ok h hs hv ha hj hcl hjl hw hq sz old mk
        | 11, old, mk => exact k_tt11_ok h hs hv ha hj hcl hjl hw hq sz old mk
        | 12, old, mk => exact k_tt12_ok h hs hv ha hj hcl hjl hw hq sz old mk
        | _ + 13, old, _ => exact old.elim
      · exact rest
end KDQ
end
