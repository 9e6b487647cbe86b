/-! each step of the pure machine is a step of the machine -/
theorem pm_cs {α : Type} {b : Bool} {x : Option α} {y : α} (h : cond b x none = some y) : b = true ∧ x = some y := by
  cases b
  · cases h
  · exact ⟨rfl, h⟩
def pmWG : List Jvm.Cond := lw_tbl.filter goodWord
def pmOw (o : Nat) : String := pmOwn.getD o ""
def pmExt (base : Nat) (xv : Nat → Value) (a : Nat) (c : pC) (U : State) : Prop := match c.1 with
  | 0 => va_T .int a c.2.length (fun j => pmRn base xv (c.2.getD j .null)) (pmA base) U U.heap
  | 1 => va_T .long a c.2.length (fun j => pmRn base xv (c.2.getD j .null)) (pmA base) U U.heap
  | 2 => va_T .byte a c.2.length (fun j => pmRn base xv (c.2.getD j .null)) (pmA base) U U.heap
  | 29 => va_O "java/lang/String" a (pmA base) U U.heap ∧ va_OF "java/lang/String" "value" "[B" (pmRn base xv (c.2.getD 0 .null)) a (pmA base) U U.heap ∧ va_OF "java/lang/String" "coder" "B" (pmRn base xv (c.2.getD 1 .null)) a (pmA base) U U.heap
  | _ => False
def pmY (y : Nat) : MethodName := match pmPT[y]? with
  | some me => me.2.1
  | none => ⟨"", "", ""⟩
def pmEX (base : Nat) (xv : Nat → Value) (E : pM) (U : State) : Prop :=
  (∀ (k : Nat) (c : pC), E[k]? = some c → ∃ a : Nat, xv k = .ref a ∧ pmExt base xv a c U) ∧
  (∀ k, (xv k).category = 1) ∧
  (va_Z RX9 "PATTERNS" "[J" (xv 1) (pmA base) U U.heap ∧ va_Z "java/lang/String" "COMPACT_STRINGS" "Z" (.int 1) (pmA base) U U.heap ∧ va_Z "jdk/internal/util/Preconditions" "SIOOBE_FORMATTER" "Ljava/util/function/BiFunction;" (xv 90) (pmA base) U U.heap) ∧
  (∀ (j : Nat) (q : Nat × Nat × String × Nat), pmSR[j]? = some q → ∃ a : Nat, xv (2 + j) = .ref a ∧ vk_R (pmOw q.1) q.2.1 q.2.2.1 a U) ∧
  (∀ q ∈ pmNW, va_Nw (.methodLinkNest (pmOw q.1) q.2.1 (pmY q.2.2.1) q.2.2.2.2) U) ∧
  ((Cond.arrayOver (.array .int)).before #[] U = true ∧ (Cond.arrayOver (.array .long)).before #[] U = true)
def pmCx (base : Nat) (xv : Nat → Value) (cT : Nat → ClassId) (E : pM) (D : va_G) (p : Program) (R : Room) (s : State) (m : MethodId) (args : Array Value) (meth : Method) (c : Code) (me : pmMe) (L0 : Nat) : Prop :=
  p.tables.exec = Jvm.exec ∧ c.code = (pmBy me.2.2.1) ∧ c.maxLocals = me.2.2.2.1 ∧ s.vm.findClass (pmOw me.1) = some m.cls ∧ (∀ w ∈ pmWG, w.before args s = true) ∧ va_K D pmCl (pmTys cT) s ∧ pmEX base xv E s ∧ s.heap.size = base + L0 ∧ (Nat.beq me.2.2.2.2.2.1 2 = true → meth.name = "<init>") ∧ (1 ≤ R.frames ∧ 100 ≤ R.locals)
section PMW
variable {p : Program} {l : Launch} {e : Env} {R : Room} {s : State} {m : MethodId} {args : Array Value} {below : List Frame} {meth : Method} {c : Code} {Q : State → Prop}
variable {base : Nat} {xv : Nat → Value} {cT : Nat → ClassId} {E : pM} {D : va_G} {me : pmMe} {L0 S0 : Nat} {nL : Nat}
def pmWk (p : Program) (l : Launch) (e : Env) (R : Room) (s : State) (m : MethodId) (args : Array Value) (below : List Frame) (meth : Method) (c : Code) (Q : State → Prop) (base : Nat) (xv : Nat → Value) (cT : Nat → ClassId) (D : va_G) (L0 S0 nL : Nat) (z : Nat × pL × List Value × pM) : Prop :=
  ∀ (H : Heap) (locs : List Loc) (lsm : Array Slot), pmHP D base xv cT z.2.2.2 H → va_S (pmA base) s.heap H locs → lv_has lsm nL (z.2.1.map (fun q => (q.1, pmRn base xv q.2))) → W p l e R s m args below meth c H locs (z.2.2.2.length - L0) (pm_sz z.2.2.2 - S0) Q (F0 m z.1 lsm (z.2.2.1.map (pmRn base xv)))
theorem ws_j {pc : Nat} {off : Int} {ls : pL} {st : List Value} {M : pM} {z : Nat × pL × List Value × pM} (h : pmJ pc off ls st M = some z) : ∃ tgt : Nat, (pc : Int) + off = (tgt : Int) ∧ z = (tgt, ls, st, M) := by
  unfold pmJ at h
  obtain ⟨h1, h2⟩ := pm_cs h
  have h1 := of_decide_eq_true h1
  cases h2
  exact ⟨_, (Int.toNat_of_nonneg h1).symm, rfl⟩
theorem ws_i2 {f : Int32 → Int32 → Int32} {pc : Nat} {ls : pL} {st : List Value} {M : pM} {z : Nat × pL × List Value × pM} (hs : pm_i2 f pc ls st M = some z)
    (row : ∀ {x y : Int32} {rest : List Value} {H : Heap} {locs : List Loc} {cells slots : Nat} {lsm : Array Slot}, W p l e R s m args below meth c H locs cells slots Q (F0 m (pc + 1) lsm (.int (f x y) :: rest)) → W p l e R s m args below meth c H locs cells slots Q (F0 m pc lsm (.int y :: .int x :: rest)))
    (k : pmWk p l e R s m args below meth c Q base xv cT D L0 S0 nL z) : pmWk p l e R s m args below meth c Q base xv cT D L0 S0 nL (pc, ls, st, M) := by
  unfold pm_i2 at hs
  split at hs
  · cases hs
    exact fun H locs lsm a b c => row (k H locs lsm a b c)
  · cases hs
theorem ws_l2 {f : Int64 → Int64 → Int64} {pc : Nat} {ls : pL} {st : List Value} {M : pM} {z : Nat × pL × List Value × pM} (hs : pm_l2 f pc ls st M = some z)
    (row : ∀ {x y : Int64} {rest : List Value} {H : Heap} {locs : List Loc} {cells slots : Nat} {lsm : Array Slot}, W p l e R s m args below meth c H locs cells slots Q (F0 m (pc + 1) lsm (.long (f x y) :: rest)) → W p l e R s m args below meth c H locs cells slots Q (F0 m pc lsm (.long y :: .long x :: rest)))
    (k : pmWk p l e R s m args below meth c Q base xv cT D L0 S0 nL z) : pmWk p l e R s m args below meth c Q base xv cT D L0 S0 nL (pc, ls, st, M) := by
  unfold pm_l2 at hs
  split at hs
  · cases hs
    exact fun H locs lsm a b c => row (k H locs lsm a b c)
  · cases hs
theorem ws_li {f : Int64 → Int32 → Int64} {pc : Nat} {ls : pL} {st : List Value} {M : pM} {z : Nat × pL × List Value × pM} (hs : pm_li f pc ls st M = some z)
    (row : ∀ {x : Int64} {y : Int32} {rest : List Value} {H : Heap} {locs : List Loc} {cells slots : Nat} {lsm : Array Slot}, W p l e R s m args below meth c H locs cells slots Q (F0 m (pc + 1) lsm (.long (f x y) :: rest)) → W p l e R s m args below meth c H locs cells slots Q (F0 m pc lsm (.int y :: .long x :: rest)))
    (k : pmWk p l e R s m args below meth c Q base xv cT D L0 S0 nL z) : pmWk p l e R s m args below meth c Q base xv cT D L0 S0 nL (pc, ls, st, M) := by
  unfold pm_li at hs
  split at hs
  · cases hs
    exact fun H locs lsm a b c => row (k H locs lsm a b c)
  · cases hs
theorem ws_i1 {f : Int32 → Int32} {pc : Nat} {ls : pL} {st : List Value} {M : pM} {z : Nat × pL × List Value × pM} (hs : pm_i1 f pc ls st M = some z)
    (row : ∀ {x : Int32} {rest : List Value} {H : Heap} {locs : List Loc} {cells slots : Nat} {lsm : Array Slot}, W p l e R s m args below meth c H locs cells slots Q (F0 m (pc + 1) lsm (.int (f x) :: rest)) → W p l e R s m args below meth c H locs cells slots Q (F0 m pc lsm (.int x :: rest)))
    (k : pmWk p l e R s m args below meth c Q base xv cT D L0 S0 nL z) : pmWk p l e R s m args below meth c Q base xv cT D L0 S0 nL (pc, ls, st, M) := by
  unfold pm_i1 at hs
  split at hs
  · cases hs
    exact fun H locs lsm a b c => row (k H locs lsm a b c)
  · cases hs
theorem pm_isA_rn {v : Value} (hx : pmEX base xv E s) (h : pm_isA E v = true) : ∃ a : Nat, pmRn base xv v = .ref a := by
  cases v with
  | ref k =>
    simp only [pm_isA] at h
    have hk : k < pmX + E.length := pm_blt h
    unfold pmRn
    by_cases hlt : k < pmX
    · exact ⟨_, if_pos hlt⟩
    · have h2 : k - pmX < E.length := pm_xix hlt hk
      obtain ⟨a, ha, -⟩ := hx.1 (k - pmX) E[k - pmX] (List.getElem?_eq_getElem h2)
      exact ⟨a, by simp only [if_neg hlt]; exact ha⟩
  | _ => simp [pm_isA] at h
theorem ws_ld {ok : Value → Bool} {pc pc2 : Nat} {ls : pL} {i : Nat} {st : List Value} {M : pM} {z : Nat × pL × List Value × pM} (hs : pm_ld ok pc2 ls i st M = some z)
    (row : ∀ {v : Value} {rest : List Value} {H : Heap} {locs : List Loc} {cells slots : Nat} {lsm : Array Slot}, ok v = true → lsm[i]? = some (.val (pmRn base xv v)) → W p l e R s m args below meth c H locs cells slots Q (F0 m pc2 lsm (pmRn base xv v :: rest)) → W p l e R s m args below meth c H locs cells slots Q (F0 m pc lsm rest))
    (k : pmWk p l e R s m args below meth c Q base xv cT D L0 S0 nL z) : pmWk p l e R s m args below meth c Q base xv cT D L0 S0 nL (pc, ls, st, M) := by
  unfold pm_ld at hs
  split at hs
  · rename_i v hv
    obtain ⟨h1, h2⟩ := pm_cs hs
    cases h2
    exact fun H locs lsm a b c => row h1 (pm_lk_loc c hv) (k H locs lsm a b c)
  · cases hs
theorem ws_st1 {ok : Value → Bool} {pc pc2 : Nat} {ls : pL} {i : Nat} {st : List Value} {M : pM} {z : Nat × pL × List Value × pM} (hx : ∀ k, (xv k).category = 1) (hs : pm_sto1 ok nL pc2 ls i st M = some z)
    (row : ∀ {v : Value} {rest : List Value} {H : Heap} {locs : List Loc} {cells slots : Nat} {lsm : Array Slot} {lv : List (Nat × Value)}, ok v = true → i < nL → lv_has lsm nL lv → (∀ ls', lv_has ls' nL ((i, pmRn base xv v) :: lv.filter (fun q => !(q.1 == i) && !(q.1 + 1 == i && q.2.category == 2))) → W p l e R s m args below meth c H locs cells slots Q (F0 m pc2 ls' rest)) → W p l e R s m args below meth c H locs cells slots Q (F0 m pc lsm (pmRn base xv v :: rest)))
    (k : pmWk p l e R s m args below meth c Q base xv cT D L0 S0 nL z) : pmWk p l e R s m args below meth c Q base xv cT D L0 S0 nL (pc, ls, st, M) := by
  unfold pm_sto1 at hs
  split at hs
  · rename_i v r
    obtain ⟨h1, h2⟩ := pm_cs hs
    simp only [Bool.and_eq_true] at h1
    cases h2
    refine fun H locs lsm a b c => row h1.1 (pm_blt h1.2) c (fun ls' h => k H locs ls' a b ?_)
    show lv_has ls' nL ((pm_s1 ls i v).map _)
    rw [pm_map_s1 hx]
    exact h
  · cases hs
theorem ws_st2 {pc pc2 : Nat} {ls : pL} {i : Nat} {st : List Value} {M : pM} {z : Nat × pL × List Value × pM} (hx : ∀ k, (xv k).category = 1) (hs : pm_sto2 nL pc2 ls i st M = some z)
    (row : ∀ {x : Int64} {rest : List Value} {H : Heap} {locs : List Loc} {cells slots : Nat} {lsm : Array Slot} {lv : List (Nat × Value)}, i + 1 < nL → lv_has lsm nL lv → (∀ ls', lv_has ls' nL ((i, .long x) :: lv.filter (fun q => !(q.1 == i) && (!(q.1 == i + 1) && !(q.1 + 1 == i && q.2.category == 2)))) → W p l e R s m args below meth c H locs cells slots Q (F0 m pc2 ls' rest)) → W p l e R s m args below meth c H locs cells slots Q (F0 m pc lsm (.long x :: rest)))
    (k : pmWk p l e R s m args below meth c Q base xv cT D L0 S0 nL z) : pmWk p l e R s m args below meth c Q base xv cT D L0 S0 nL (pc, ls, st, M) := by
  unfold pm_sto2 at hs
  split at hs
  · rename_i v r
    obtain ⟨h1, h2⟩ := pm_cs hs
    simp only [Bool.and_eq_true] at h1
    cases v with
    | long x =>
      cases h2
      refine fun H locs lsm a b c => row (pm_blt h1.2) c (fun ls' h => k H locs ls' a b ?_)
      show lv_has ls' nL ((pm_s2 ls i (.long x)).map _)
      rw [pm_map_s2 hx]
      exact h
    | _ => simp [pm_isJ] at h1
  · cases hs
end PMW
