/-! what entries under negative cells tell of a number that is read -/
def k_vrd (S : kS) (c j : kE) (d : kDe) : Option (List (kE × kS)) := none
theorem k_vrd_ok {N : Nat} {σ : Nat → Int} {S : kS} {M : pM} {c j : kE} {d : kDe} {a i : Nat} {q : pC} {L : List (kE × kS)} (h : kRS N σ S M) (hc : kSc S.1.length c) (hs : kSc S.1.length j) (ha : (a : Int) = k_ev σ c) (hj : (i : Int) = k_ev σ j) (hq : M[a]? = some q) (hk : kCell d q) (hjl : i < d.2.1) (hr : k_vrd S c j d = some L) : ∃ (w : Value) (x : Int), q.2[i]? = some w ∧ kNum w x ∧ kGot N S.1.length σ M L x := by cases hr
def k_vtv (S : kS) (c s : kE) : Option kE := none
theorem k_vtv_ok {N : Nat} {σ : Nat → Int} {S : kS} {M : pM} {c s v : kE} (h : kRS N σ S M) (hc : kSc S.1.length c) (hs : kSc S.1.length s) (hn : k_ev σ c < 0) (hv : k_vtv S c s = some v) : kSc S.1.length v ∧ kHas M (k_ev σ c) (k_ev σ s) (k_ev σ v) := by cases hv
def k_vfd (S : kS) (c s : kE) : Option kE := none
theorem k_vfd_ok {N : Nat} {σ : Nat → Int} {S : kS} {M : pM} {c s v : kE} (h : kRS N σ S M) (hc : kSc S.1.length c) (hs : kSc S.1.length s) (hn : k_ev σ c < 0) (hv : k_vfd S c s = some v) : kSc S.1.length v ∧ kHas M (k_ev σ c) (k_ev σ s) (k_ev σ v) := by cases hv
def k_vcl (S : kS) : Option kS := some S
theorem k_vcl_ok {N : Nat} {σ : Nat → Int} {S : kS} {M : pM} (h : kRS N σ S M) : ∃ T, k_vcl S = some T ∧ T.1.length = S.1.length ∧ kRS N σ T M := ⟨S, rfl, rfl, h⟩
