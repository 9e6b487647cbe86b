/-! what may be known of cells beyond bounds: kept in the cache under negative cells -/
def kNum (w : Value) (x : Int) : Prop := (∃ y : Int32, w = .int y ∧ y.toInt = x) ∨ ∃ y : Int64, w = .long y ∧ y.toInt = x
def kInt (M : pM) (a j : Int) (x : Int) : Prop := ∃ (b i : Nat) (q : pC) (y : Int32), (b : Int) = a ∧ (i : Int) = j ∧ M[b]? = some q ∧ q.2[i]? = some (.int y) ∧ y.toInt = x
def kPhi (M : pM) (c s v : Int) : Prop := False
