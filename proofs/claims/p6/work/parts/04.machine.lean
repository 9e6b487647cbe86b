/-! the pure machine: values are the kit's, references are numbers of cells (from pmX on: cells outside, which nobody writes) -/
abbrev pC : Type := Nat × List Value
abbrev pM : Type := List pC
abbrev pL : Type := List (Nat × Value)
abbrev pS : Type := Nat × pL × List Value × pM
def pmX : Nat := 4000
def pm_lk {α : Type} : List (Nat × α) → Nat → Option α
  | [], _ => none
  | q :: t, i => cond (Nat.beq q.1 i) (some q.2) (pm_lk t i)
/-- the same in stretches of 64 -/
def pm_lc {α : Type} (t : List (List (Nat × α))) (i : Nat) : Option α := match t[i / 64]? with
  | some c => pm_lk c i
  | none => none
def pm_tl {α : Type} (t : List (List (Nat × α))) (o i : Nat) : Option α := pm_lk (t.getD o []) i
def pm_cell (E M : pM) (r : Nat) : Option pC := cond (Nat.ble pmX r) E[r - pmX]? M[r]?
def pm_in (j : Int32) (n : Nat) : Bool := decide (0 ≤ j.toInt) && decide (j.toInt < (n : Int))
def pm_s1 (ls : pL) (i : Nat) (v : Value) : pL := (i, v) :: ls.filter (fun q => !(q.1 == i) && !(q.1 + 1 == i && q.2.category == 2))
def pm_s2 (ls : pL) (i : Nat) (v : Value) : pL := (i, v) :: ls.filter (fun q => !(q.1 == i) && (!(q.1 == i + 1) && !(q.1 + 1 == i && q.2.category == 2)))
def pmN (pc : Nat) (ls : pL) (st : List Value) (M : pM) : Option pS := some (pc, ls, st, M)
def pmJ (pc : Nat) (off : Int) (ls : pL) (st : List Value) (M : pM) : Option pS := cond (decide (0 ≤ (pc : Int) + off)) (pmN ((pc : Int) + off).toNat ls st M) none
def pm_c0 (c : ClassFile.Cond) (x : Int32) : Bool := match c with
  | .eq => decide (x = 0)
  | .ne => !decide (x = 0)
  | .lt => decide (x < 0)
  | .ge => decide (0 ≤ x)
  | .gt => decide (0 < x)
  | .le => decide (x ≤ 0)
def pm_c2 (c : ClassFile.Cond) (x y : Int32) : Bool := match c with
  | .eq => decide (x = y)
  | .ne => !decide (x = y)
  | .lt => decide (x < y)
  | .ge => decide (y ≤ x)
  | .gt => decide (y < x)
  | .le => decide (x ≤ y)
/-- loads: an int, a long, a reference that stands for an address -/
def pm_isI : Value → Bool
  | .int _ => true
  | _ => false
def pm_isJ : Value → Bool
  | .long _ => true
  | _ => false
def pm_isA (E : pM) : Value → Bool
  | .ref k => Nat.blt k (pmX + E.length)
  | _ => false
/-- a reference to a cell of our own -/
def pm_isO : Value → Bool
  | .ref k => Nat.blt k pmX
  | _ => false
def pm_ld (ok : Value → Bool) (pc : Nat) (ls : pL) (i : Nat) (st : List Value) (M : pM) : Option pS :=
  match pm_lk ls i with
  | some v => cond (ok v) (pmN pc ls (v :: st) M) none
  | none => none
def pm_sto1 (ok : Value → Bool) (nL pc : Nat) (ls : pL) (i : Nat) (st : List Value) (M : pM) : Option pS :=
  match st with
  | v :: r => cond (ok v && Nat.blt i nL) (pmN pc (pm_s1 ls i v) r M) none
  | [] => none
def pm_sto2 (nL pc : Nat) (ls : pL) (i : Nat) (st : List Value) (M : pM) : Option pS :=
  match st with
  | v :: r => cond (pm_isJ v && Nat.blt (i + 1) nL) (pmN pc (pm_s2 ls i v) r M) none
  | [] => none
def pm_i2 (f : Int32 → Int32 → Int32) (pc : Nat) (ls : pL) (st : List Value) (M : pM) : Option pS :=
  match st with
  | .int y :: .int x :: r => pmN (pc + 1) ls (.int (f x y) :: r) M
  | _ => none
def pm_l2 (f : Int64 → Int64 → Int64) (pc : Nat) (ls : pL) (st : List Value) (M : pM) : Option pS :=
  match st with
  | .long y :: .long x :: r => pmN (pc + 1) ls (.long (f x y) :: r) M
  | _ => none
def pm_li (f : Int64 → Int32 → Int64) (pc : Nat) (ls : pL) (st : List Value) (M : pM) : Option pS :=
  match st with
  | .int y :: .long x :: r => pmN (pc + 1) ls (.long (f x y) :: r) M
  | _ => none
def pm_i1 (f : Int32 → Int32) (pc : Nat) (ls : pL) (st : List Value) (M : pM) : Option pS :=
  match st with
  | .int x :: r => pmN (pc + 1) ls (.int (f x) :: r) M
  | _ => none
/-- an element of a row of tag in ts -/
def pm_ald (ts : Nat → Bool) (ok : Value → Bool) (E : pM) (pc : Nat) (ls : pL) (st : List Value) (M : pM) : Option pS :=
  match st with
  | .int j :: .ref a :: r =>
    match pm_cell E M a with
    | some c => cond (ts c.1 && pm_in j c.2.length) (match c.2[j.toNatClampNeg]? with | some v => cond (ok v) (pmN (pc + 1) ls (v :: r) M) none | none => none) none
    | none => none
  | _ => none
def pm_put (M : pM) (a k : Nat) (c : pC) (v : Value) : pM := M.set a (c.1, c.2.set k v)
def pm_ast (f : Nat → Value → Option Value) (pc : Nat) (ls : pL) (st : List Value) (M : pM) : Option pS :=
  match st with
  | v :: .int j :: .ref a :: r =>
    match M[a]? with
    | some c => cond (pm_in j c.2.length) (match f c.1 v with | some w => pmN (pc + 1) ls r (pm_put M a j.toNatClampNeg c w) | none => none) none
    | none => none
  | _ => none
def pm_fI (t : Nat) (v : Value) : Option Value := match t, v with
  | 0, .int x => some (.int x)
  | _, _ => none
def pm_fJ (t : Nat) (v : Value) : Option Value := match t, v with
  | 1, .long x => some (.long x)
  | _, _ => none
def pm_fB (t : Nat) (v : Value) : Option Value := match t, v with
  | 2, .int x => some (.int (vp_nar .byte x))
  | 3, .int x => some (.int (vp_nar .boolean x))
  | _, _ => none
/-- what a field of a type may hold -/
def pm_fits (E : pM) (ty : FieldType) (v : Value) : Bool := match ty, v with
  | .int, .int _ => true
  | .boolean, .int x => x == 0 || x == 1
  | .long, .long _ => true
  | .object _, .ref k => Nat.blt k (pmX + E.length)
  | .array _, .ref k => Nat.blt k (pmX + E.length)
  | _, _ => false
def pm_getf (E : pM) (own idx pc : Nat) (ls : pL) (st : List Value) (M : pM) : Option pS :=
  match pm_tl pmFT own idx, st with
  | some t, .ref a :: r =>
    match pm_cell E M a with
    | some c => cond (Nat.beq c.1 (16 + t.1)) (match c.2[t.2.1]? with | some v => pmN (pc + 3) ls (v :: r) M | none => none) none
    | none => none
  | _, _ => none
def pm_fin (ct : Bool) (own t k : Nat) : Bool := match pmCl[t]? with
  | some q => cond (q.2.1 k).2.2.2 (ct && Nat.beq own t) true
  | none => false
def pm_putf (E : pM) (ct : Bool) (own idx pc : Nat) (ls : pL) (st : List Value) (M : pM) : Option pS :=
  match pm_tl pmFT own idx, st with
  | some t, v :: .ref a :: r =>
    match M[a]? with
    | some c => cond (Nat.beq c.1 (16 + t.1) && Nat.blt t.2.1 c.2.length && pm_fits E (pmTy t.1 t.2.1) v && pm_fin ct own t.1 t.2.1) (pmN (pc + 3) ls r (pm_put M a t.2.1 c v)) none
    | none => none
  | _, _ => none
def pm_stat (own idx : Nat) : Option Value := match pm_tl pmST own idx with
  | some (0, _) => some (.ref (pmX + 1))
  | some (1, _) => some (.int 1)
  | some (2, _) => some (.ref (pmX + 90))
  | _ => none
def pm_def : FieldType → Value
  | .int => .int 0
  | .boolean => .int 0
  | .long => .long 0
  | _ => .null
def pm_new (own idx pc : Nat) (ls : pL) (st : List Value) (M : pM) : Option pS :=
  match pm_tl pmCT own idx with
  | some t => match pmCl[t.1 - 16]? with
    | some q => cond (Nat.ble 16 t.1 && Nat.blt M.length pmX) (pmN (pc + 3) ls (.ref M.length :: st) (M ++ [(t.1, (List.range q.2.2).map (fun k => pm_def (pmTy (t.1 - 16) k)))])) none
    | none => none
  | none => none
def pm_atag : ArrayType → Option (Nat × Value)
  | .int => some (0, .int 0)
  | .long => some (1, .long 0)
  | .byte => some (2, .int 0)
  | .boolean => some (3, .int 0)
  | _ => none
def pm_newa (t : ArrayType) (pc : Nat) (ls : pL) (st : List Value) (M : pM) : Option pS :=
  match pm_atag t, st with
  | some q, .int n :: r => cond (decide (0 ≤ n.toInt) && decide (n.toInt ≤ 100000) && Nat.blt M.length pmX) (pmN (pc + 2) ls (.ref M.length :: r) (M ++ [(q.1, List.replicate n.toNatClampNeg q.2)])) none
  | _, _ => none
def pm_mna (own idx pc : Nat) (ls : pL) (st : List Value) (M : pM) : Option pS :=
  match pm_tl pmCT own idx, st with
  | some t, .int k :: .int n :: r =>
    cond ((Nat.beq t.1 4 || Nat.beq t.1 5) && decide (0 ≤ n.toInt) && decide (n.toInt ≤ 1000) && decide (0 ≤ k.toInt) && decide (k.toInt ≤ 1000) && Nat.blt (M.length + 2000) pmX)
      (pmN (pc + 4) ls (.ref M.length :: r)
        (M ++ ((t.1, (List.range n.toNatClampNeg).map (fun i => .ref (M.length + 1 + i))) :: List.replicate n.toNatClampNeg (t.1 - 4, List.replicate k.toNatClampNeg (cond (Nat.beq t.1 4) (.int 0) (.long 0))))))
      none
  | _, _ => none
def pm_cat (st : List Value) : Nat := (st.map fun v => v.category).sum
/-- the copy of a stretch -/
def pm_cpyL (f g : List Value) (sp dp n : Nat) : List Value := (List.range g.length).map (fun k => cond (Nat.ble dp k && Nat.blt k (dp + n)) (f.getD (sp + (k - dp)) .null) (g.getD k .null))
def pm_copy (pc : Nat) (ls : pL) (st : List Value) (M : pM) : Option pS :=
  match st with
  | .int n :: .int dp :: .ref a :: .int sp :: .ref b :: r =>
    match M[b]?, M[a]? with
    | some c, some d => cond (Nat.beq c.1 d.1 && (Nat.beq c.1 0 || Nat.beq c.1 1 || Nat.beq c.1 3) && decide (0 ≤ sp.toInt) && decide (0 ≤ dp.toInt) && decide (0 ≤ n.toInt) && Nat.ble (sp.toNatClampNeg + n.toNatClampNeg) c.2.length && Nat.ble (dp.toNatClampNeg + n.toNatClampNeg) d.2.length && Nat.ble (pm_cat r) 8
        && (!(Nat.beq c.1 3) || c.2.all (fun v => v == .int 0 || v == .int 1)))
        (some (pc + 3, ls, r, M.set a (d.1, pm_cpyL c.2 d.2 sp.toNatClampNeg dp.toNatClampNeg n.toNatClampNeg))) none
    | _, _ => none
  | _ => none
/-- a call: its arguments off the stack; a receiver of the right kind -/
def pm_args (E : pM) (k y : Nat) (st : List Value) (M : pM) : Option (Nat × List Value × List Value) :=
  match pmPT[y]? with
  | none => none
  | some me =>
    cond (Nat.beq me.2.2.2.2.2.1 k && Nat.beq (st.take me.2.2.2.2.2.2.1).reverse.length me.2.2.2.2.2.2.1)
      (cond (Nat.beq k 0) (cond (Nat.ble (pm_cat (st.drop me.2.2.2.2.2.2.1)) 8) (some (y, (st.take me.2.2.2.2.2.2.1).reverse, st.drop me.2.2.2.2.2.2.1)) none)
        (match st.drop me.2.2.2.2.2.2.1 with
        | .ref a :: r2 => match pm_cell E M a with
          | some c => cond (Nat.beq c.1 (16 + me.1) && Nat.ble (pm_cat r2) 8) (some (y, .ref a :: (st.take me.2.2.2.2.2.2.1).reverse, r2)) none
          | none => none
        | _ => none)) none
def pm_call (E : pM) (k : Nat) (own idx pc : Nat) (ls : pL) (st : List Value) (M : pM) : Option (pS ⊕ (Nat × List Value × List Value)) :=
  match pm_tl pmMT own idx with
  | none => none
  | some t =>
    cond (Nat.beq t.1 9000) (match st with | .ref a :: r => cond (Nat.beq k 2 && Nat.blt a M.length && Nat.ble (pm_cat r) 8) (some (.inl (pc + 3, ls, r, M))) none | _ => none)
    (cond (Nat.beq t.1 9001) (cond (Nat.beq k 0) (match pm_copy pc ls st M with | some z => some (.inl z) | none => none) none)
    (match pm_args E k t.1 st M with | some z => some (.inr z) | none => none))
def pm_inv : Instr → Option (Nat × Nat)
  | .invokestatic j => some (0, j)
  | .invokevirtual j => some (1, j)
  | .invokespecial j => some (2, j)
  | _ => none
def pm_isr : Instr → Bool
  | .ireturn => true
  | .lreturn => true
  | .areturn => true
  | .return_ => true
  | _ => false
def pm_ret (ty : Option FieldType) (st : List Value) : Option (Option Value) := match ty, st with
  | some .int, [.int x] => some (some (.int x))
  | some .boolean, [.int x] => cond (x == 0 || x == 1) (some (some (.int x))) none
  | some .byte, [.int x] => cond (vp_nar .byte x == x) (some (some (.int x))) none
  | some .char, [.int x] => cond (vp_nar .char x == x) (some (some (.int x))) none
  | _, _ => none
def pm_lret (ret : Option FieldType) (st : List Value) : Option (Option Value) := match ret, st with
  | some .long, [.long x] => some (some (.long x))
  | _, _ => none
def pm_aret (E : pM) (ret : Option FieldType) (st : List Value) : Option (Option Value) := match ret, st with
  | some (.array _), [.ref k] => cond (Nat.blt k (pmX + E.length)) (some (some (.ref k))) none
  | _, _ => none
def pm_vret (ret : Option FieldType) (st : List Value) : Option (Option Value) := match ret, st with
  | none, [] => some none
  | _, _ => none
def pm_end (E : pM) (ret : Option FieldType) (i : Instr) (st : List Value) : Option (Option Value) := match i with
  | .ireturn => pm_ret ret st
  | .lreturn => pm_lret ret st
  | .areturn => pm_aret E ret st
  | .return_ => pm_vret ret st
  | _ => none
def pm_sw (pc : Nat) (d lo hi : Int) (offs : Array Int) (ls : pL) (st : List Value) (M : pM) : Option pS :=
  match st with
  | .int x :: r => cond (decide (x.toInt < lo) || decide (hi < x.toInt)) (pmJ pc d ls r M) (match offs[(x.toInt - lo).toNat]? with | some off => pmJ pc off ls r M | none => none)
  | _ => none
def pm_ldc (E : pM) (own j pc : Nat) (ls : pL) (st : List Value) (M : pM) : Option pS := match pm_tl pmKT own j with | some v => cond (pm_isI v.1 || pm_isA E v.1) (pmN (pc + 2) ls (v.1 :: st) M) none | none => none
def pm_ldcw (own j pc : Nat) (ls : pL) (st : List Value) (M : pM) : Option pS := match pm_tl pmKT own j with | some v => cond (pm_isI v.1) (pmN (pc + 3) ls (v.1 :: st) M) none | none => none
def pm_ldc2 (own j pc : Nat) (ls : pL) (st : List Value) (M : pM) : Option pS := match pm_tl pmKT own j with | some v => cond (pm_isJ v.1) (pmN (pc + 3) ls (v.1 :: st) M) none | none => none
def pm_iinc (j : Nat) (k : Int) (pc : Nat) (ls : pL) (st : List Value) (M : pM) : Option pS := match pm_lk ls j with | some (.int x) => pmN (pc + 3) (pm_s1 ls j (.int (x + Int32.ofInt k))) st M | _ => none
def pm_pop (pc : Nat) (ls : pL) (st : List Value) (M : pM) : Option pS := match st with | v :: r => cond (Nat.beq v.category 1) (pmN (pc + 1) ls r M) none | _ => none
def pm_dup (pc : Nat) (ls : pL) (st : List Value) (M : pM) : Option pS := match st with | v :: r => cond (Nat.beq v.category 1) (pmN (pc + 1) ls (v :: v :: r) M) none | _ => none
def pm_dupx (pc : Nat) (ls : pL) (st : List Value) (M : pM) : Option pS := match st with | v :: w :: r => cond (Nat.beq v.category 1 && Nat.beq w.category 1) (pmN (pc + 1) ls (v :: w :: v :: r) M) none | _ => none
def pm_dup2 (pc : Nat) (ls : pL) (st : List Value) (M : pM) : Option pS := match st with
    | v :: r => cond (Nat.beq v.category 2) (pmN (pc + 1) ls (v :: v :: r) M) (match r with | w :: r => cond (Nat.beq v.category 1 && Nat.beq w.category 1) (pmN (pc + 1) ls (v :: w :: v :: w :: r) M) none | _ => none)
    | _ => none
def pm_idiv (pc : Nat) (ls : pL) (st : List Value) (M : pM) : Option pS := match st with | .int y :: .int x :: r => cond (decide (y = 0)) none (pmN (pc + 1) ls (.int (x / y) :: r) M) | _ => none
def pm_irem (pc : Nat) (ls : pL) (st : List Value) (M : pM) : Option pS := match st with | .int y :: .int x :: r => cond (decide (y = 0)) none (pmN (pc + 1) ls (.int (x - x / y * y) :: r) M) | _ => none
def pm_lneg (pc : Nat) (ls : pL) (st : List Value) (M : pM) : Option pS := match st with | .long x :: r => pmN (pc + 1) ls (.long (-x) :: r) M | _ => none
def pm_lcmp (pc : Nat) (ls : pL) (st : List Value) (M : pM) : Option pS := match st with | .long y :: .long x :: r => pmN (pc + 1) ls (.int (lg_cmp x y) :: r) M | _ => none
def pm_i2l (pc : Nat) (ls : pL) (st : List Value) (M : pM) : Option pS := match st with | .int x :: r => pmN (pc + 1) ls (.long x.toInt64 :: r) M | _ => none
def pm_l2i (pc : Nat) (ls : pL) (st : List Value) (M : pM) : Option pS := match st with | .long x :: r => pmN (pc + 1) ls (.int x.toInt32 :: r) M | _ => none
def pm_if0 (c : ClassFile.Cond) (off : Int) (pc : Nat) (ls : pL) (st : List Value) (M : pM) : Option pS := match st with | .int x :: r => cond (pm_c0 c x) (pmN ((pc : Int) + off).toNat ls r M) (pmN (pc + 3) ls r M) | _ => none
def pm_if2 (c : ClassFile.Cond) (off : Int) (pc : Nat) (ls : pL) (st : List Value) (M : pM) : Option pS := match st with | .int y :: .int x :: r => cond (pm_c2 c x y) (pmN ((pc : Int) + off).toNat ls r M) (pmN (pc + 3) ls r M) | _ => none
def pm_alen (E : pM) (pc : Nat) (ls : pL) (st : List Value) (M : pM) : Option pS := match st with | .ref a :: r => (match pm_cell E M a with | some c => cond (Nat.blt c.1 6) (pmN (pc + 1) ls (.int (Int32.ofNat c.2.length) :: r) M) none | none => none) | _ => none
def pm_gets (own j pc : Nat) (ls : pL) (st : List Value) (M : pM) : Option pS := match pm_stat own j with | some v => pmN (pc + 3) ls (v :: st) M | none => none
def pm_stp (E : pM) (own nL : Nat) (ct : Bool) (i : Instr) (n pc : Nat) (ls : pL) (st : List Value) (M : pM) : Option pS :=
  match i with
  | .iconst k => cond (Nat.beq n 1) (pmN (pc + 1) ls (.int (Int32.ofInt k) :: st) M) none
  | .bipush k => cond (Nat.beq n 2) (pmN (pc + 2) ls (.int (Int8.ofInt k).toInt32 :: st) M) none
  | .sipush k => cond (Nat.beq n 3) (pmN (pc + 3) ls (.int (Int16.ofInt k).toInt32 :: st) M) none
  | .lconst k => cond (Nat.beq n 1) (pmN (pc + 1) ls (.long (Int64.ofNat (k : Nat)) :: st) M) none
  | .ldc j => cond (Nat.beq n 2) (pm_ldc E own j pc ls st M) none
  | .ldc_w j => cond (Nat.beq n 3) (pm_ldcw own j pc ls st M) none
  | .ldc2_w j => cond (Nat.beq n 3) (pm_ldc2 own j pc ls st M) none
  | .iload j => cond (Nat.beq n 2) (pm_ld pm_isI (pc + 2) ls j st M) none
  | .iload_n j => cond (Nat.beq n 1) (pm_ld pm_isI (pc + 1) ls j st M) none
  | .lload j => cond (Nat.beq n 2) (pm_ld pm_isJ (pc + 2) ls j st M) none
  | .lload_n j => cond (Nat.beq n 1) (pm_ld pm_isJ (pc + 1) ls j st M) none
  | .aload j => cond (Nat.beq n 2) (pm_ld (pm_isA E) (pc + 2) ls j st M) none
  | .aload_n j => cond (Nat.beq n 1) (pm_ld (pm_isA E) (pc + 1) ls j st M) none
  | .istore j => cond (Nat.beq n 2) (pm_sto1 pm_isI nL (pc + 2) ls j st M) none
  | .istore_n j => cond (Nat.beq n 1) (pm_sto1 pm_isI nL (pc + 1) ls j st M) none
  | .lstore j => cond (Nat.beq n 2) (pm_sto2 nL (pc + 2) ls j st M) none
  | .lstore_n j => cond (Nat.beq n 1) (pm_sto2 nL (pc + 1) ls j st M) none
  | .astore j => cond (Nat.beq n 2) (pm_sto1 (pm_isA E) nL (pc + 2) ls j st M) none
  | .astore_n j => cond (Nat.beq n 1) (pm_sto1 (pm_isA E) nL (pc + 1) ls j st M) none
  | .iinc j k => cond (Nat.beq n 3 && Nat.blt j nL) (pm_iinc j k pc ls st M) none
  | .pop => cond (Nat.beq n 1) (pm_pop pc ls st M) none
  | .dup => cond (Nat.beq n 1) (pm_dup pc ls st M) none
  | .dup_x1 => cond (Nat.beq n 1) (pm_dupx pc ls st M) none
  | .dup2 => cond (Nat.beq n 1) (pm_dup2 pc ls st M) none
  | .iadd => cond (Nat.beq n 1) (pm_i2 (fun x y => x + y) pc ls st M) none
  | .isub => cond (Nat.beq n 1) (pm_i2 (fun x y => x - y) pc ls st M) none
  | .imul => cond (Nat.beq n 1) (pm_i2 (fun x y => x * y) pc ls st M) none
  | .idiv => cond (Nat.beq n 1) (pm_idiv pc ls st M) none
  | .irem => cond (Nat.beq n 1) (pm_irem pc ls st M) none
  | .ineg => cond (Nat.beq n 1) (pm_i1 (fun x => -x) pc ls st M) none
  | .iand => cond (Nat.beq n 1) (pm_i2 (fun x y => x &&& y) pc ls st M) none
  | .ior => cond (Nat.beq n 1) (pm_i2 (fun x y => x ||| y) pc ls st M) none
  | .ixor => cond (Nat.beq n 1) (pm_i2 (fun x y => x ^^^ y) pc ls st M) none
  | .ishl => cond (Nat.beq n 1) (pm_i2 (fun x y => x <<< (y &&& 31)) pc ls st M) none
  | .ishr => cond (Nat.beq n 1) (pm_i2 (fun x y => x >>> (y &&& 31)) pc ls st M) none
  | .iushr => cond (Nat.beq n 1) (pm_i2 (fun x y => (x.toUInt32 >>> (y.toUInt32 &&& Int32.toUInt32 31)).toInt32) pc ls st M) none
  | .ladd => cond (Nat.beq n 1) (pm_l2 (fun x y => x + y) pc ls st M) none
  | .lsub => cond (Nat.beq n 1) (pm_l2 (fun x y => x - y) pc ls st M) none
  | .lmul => cond (Nat.beq n 1) (pm_l2 (fun x y => x * y) pc ls st M) none
  | .land => cond (Nat.beq n 1) (pm_l2 (fun x y => x &&& y) pc ls st M) none
  | .lor => cond (Nat.beq n 1) (pm_l2 (fun x y => x ||| y) pc ls st M) none
  | .lxor => cond (Nat.beq n 1) (pm_l2 (fun x y => x ^^^ y) pc ls st M) none
  | .lshl => cond (Nat.beq n 1) (pm_li (fun x y => x <<< (y.toInt64 &&& 63)) pc ls st M) none
  | .lushr => cond (Nat.beq n 1) (pm_li (fun x y => (x.toUInt64 >>> (y.toInt64.toUInt64 &&& Int64.toUInt64 63)).toInt64) pc ls st M) none
  | .lneg => cond (Nat.beq n 1) (pm_lneg pc ls st M) none
  | .lcmp => cond (Nat.beq n 1) (pm_lcmp pc ls st M) none
  | .i2l => cond (Nat.beq n 1) (pm_i2l pc ls st M) none
  | .l2i => cond (Nat.beq n 1) (pm_l2i pc ls st M) none
  | .i2b => cond (Nat.beq n 1) (pm_i1 (fun x => x.toInt8.toInt32) pc ls st M) none
  | .i2s => cond (Nat.beq n 1) (pm_i1 (fun x => x.toInt16.toInt32) pc ls st M) none
  | .i2c => cond (Nat.beq n 1) (pm_i1 (fun x => (x.toUInt32 % 65536).toInt32) pc ls st M) none
  | .goto off => cond (Nat.beq n 3) (pmJ pc off ls st M) none
  | .ifCond c off => cond (Nat.beq n 3 && decide (0 ≤ (pc : Int) + off)) (pm_if0 c off pc ls st M) none
  | .if_icmp c off => cond (Nat.beq n 3 && decide (0 ≤ (pc : Int) + off)) (pm_if2 c off pc ls st M) none
  | .tableswitch d lo hi offs => pm_sw pc d lo hi offs ls st M
  | .iaload => cond (Nat.beq n 1) (pm_ald (fun t => Nat.beq t 0) pm_isI E pc ls st M) none
  | .laload => cond (Nat.beq n 1) (pm_ald (fun t => Nat.beq t 1) pm_isJ E pc ls st M) none
  | .baload => cond (Nat.beq n 1) (pm_ald (fun t => Nat.beq t 2 || Nat.beq t 3) pm_isI E pc ls st M) none
  | .aaload => cond (Nat.beq n 1) (pm_ald (fun t => Nat.beq t 4 || Nat.beq t 5) pm_isO E pc ls st M) none
  | .iastore => cond (Nat.beq n 1) (pm_ast pm_fI pc ls st M) none
  | .lastore => cond (Nat.beq n 1) (pm_ast pm_fJ pc ls st M) none
  | .bastore => cond (Nat.beq n 1) (pm_ast pm_fB pc ls st M) none
  | .arraylength => cond (Nat.beq n 1) (pm_alen E pc ls st M) none
  | .newarray t => cond (Nat.beq n 2) (pm_newa t pc ls st M) none
  | .multianewarray j d => cond (Nat.beq n 4 && Nat.beq d 2) (pm_mna own j pc ls st M) none
  | .getfield j => cond (Nat.beq n 3) (pm_getf E own j pc ls st M) none
  | .putfield j => cond (Nat.beq n 3) (pm_putf E ct own j pc ls st M) none
  | .getstatic j => cond (Nat.beq n 3) (pm_gets own j pc ls st M) none
  | .new j => cond (Nat.beq n 3) (pm_new own j pc ls st M) none
  | _ => none
/-- a method's body, f steps at most; its calls by cl -/
def pm_loop (E : pM) (cl : Nat → List Value → pM → Option (Option Value × pM)) (me : pmMe) : Nat → Nat → pL → List Value → pM → Option (Option Value × pM)
  | 0, _, _, _, _ => none
  | f + 1, pc, ls, st, M =>
    match pm_lc me.2.2.2.2.2.2.2 pc with
    | none => none
    | some q => match pm_inv q.1 with
      | some j => cond (Nat.beq q.2 3) (match pm_call E j.1 me.1 j.2 pc ls st M with
        | none => none
        | some (.inl z) => pm_loop E cl me f z.1 z.2.1 z.2.2.1 z.2.2.2
        | some (.inr z) => match cl z.1 z.2.1 M with
          | none => none
          | some w => pm_loop E cl me f (pc + 3) ls (w.1.toList ++ z.2.2) w.2) none
      | none => cond (pm_isr q.1)
        (cond (Nat.beq q.2 1) (match pm_end E me.2.2.2.2.1 q.1 st with
          | none => none
          | some v => some (v, M)) none)
        (match pm_stp E me.1 me.2.2.2.1 (Nat.beq me.2.2.2.2.2.1 2) q.1 q.2 pc ls st M with
          | none => none
          | some z => pm_loop E cl me f z.1 z.2.1 z.2.2.1 z.2.2.2)
/-- a method called, d deep at most -/
def pm_run (E : pM) (F : Nat) : Nat → Nat → List Value → pM → Option (Option Value × pM)
  | 0, _, _, _ => none
  | d + 1, y, as, M => match pmPT[y]? with
    | none => none
    | some me => cond (Nat.ble (pm_cat as) me.2.2.2.1) (pm_loop E (pm_run E F d) me F 0 (lv_args 0 as) [] M) none
