/-! entries under negative cells: what a write, a call leaves of them -/
def k_vtr (S : kS) (c s v : kE) (q : kH) : List kH := []
theorem k_vtr_ok {N : Nat} {σ : Nat → Int} {S : kS} {M : pM} {c s v : kE} {a j : Nat} {cl : pC} {w : Value} {q : kH} (h : kRS N σ S M) (hc : kSc S.1.length c) (hs : kSc S.1.length s) (hv : kSc S.1.length v) (ha : (a : Int) = k_ev σ c) (hj : (j : Int) = k_ev σ s) (hcl : M[a]? = some cl) (hjl : j < cl.2.length) (hw : kNum w (k_ev σ v)) (hq : q ∈ S.2.2.2) (hn : k_ev σ q.1.1 < 0) :
    ∀ q' ∈ k_vtr S c s v q, (kSc S.1.length q'.1.1 ∧ kSc S.1.length q'.1.2 ∧ kSc S.1.length q'.2) ∧ kHas (pm_put M a j cl w) (k_ev σ q'.1.1) (k_ev σ q'.1.2) (k_ev σ q'.2) := fun q' hq' => by cases hq'
def k_vkp (S : kS) (mods : List kMd) (q : kH) : Bool := false
theorem k_vkp_ok {N : Nat} {σ : Nat → Int} {S : kS} {M M' : pM} {mods : List kMd} {q : kH} (h : kRS N σ S M) (hm : kSame mods M M') (hq : q ∈ S.2.2.2) (hn : k_ev σ q.1.1 < 0) (hk : k_vkp S mods q = true) : kHas M' (k_ev σ q.1.1) (k_ev σ q.1.2) (k_ev σ q.2) := by cases hk
