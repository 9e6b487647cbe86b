noncomputable section
/-! the bytes of an instruction, and what decode says of them -/
theorem pm_bind {α β : Type} (r : Decoder α) (f : α → Decoder β) (b : ByteArray) (p : Nat) : (r >>= f).runAt b p = (match r.runAt b p with
    | .ok (a, q) => (f a).runAt b q
    | .error e => .error e) := by
  show Except.bind (r b p) (fun a => f a.1 b a.2) = (match r b p with
    | .ok (a, q) => f a b q
    | .error e => .error e)
  cases r b p <;> rfl
theorem pm_map {α β : Type} (f : α → β) (r : Decoder α) (b : ByteArray) (p : Nat) {a : α} {q : Nat} (h : r.runAt b p = .ok (a, q)) : (f <$> r).runAt b p = .ok (f a, q) := by
  have h : r b p = .ok (a, q) := h
  show (f <$> r) b p = _
  have e : (f <$> r) b p = Except.bind (r b p) (fun z => .ok (f z.1, z.2)) := by
    show Except.map (fun z => (f z.1, z.2)) (r b p) = _
    cases r b p <;> rfl
  rw [e, h]
  rfl
theorem pm_u1 {b : ByteArray} {p : Nat} {x : UInt8} (h : b.data.toList[p]? = some x) : (Reader.u1 : Decoder Nat).runAt b p = .ok (x.toNat, p + 1) := by
  obtain ⟨hp, hx⟩ := List.getElem?_eq_some_iff.mp h
  have hp : p < b.size := hp
  have hx : b[p] = x := hx
  have e : (Reader.u1 : Decoder Nat).runAt b p = (if g : p < b.size then (fun (n : Nat) => (do set n; pure (b[p]'g).toNat : Decoder Nat).runAt b p) (p + 1) else (throw (HasTruncated.truncated p) : Decoder Nat).runAt b p) := by
    show (if g : p < b.size then _ else _ : Decoder Nat) b p = _
    by_cases g : p < b.size
    · rw [dif_pos g, dif_pos g]
      rfl
    · exact absurd hp g
  rw [e, dif_pos hp, hx]
  rfl
theorem pm_u2 {b : ByteArray} {p : Nat} {x y : UInt8} (h : b.data.toList[p]? = some x) (h2 : b.data.toList[p + 1]? = some y) : (Reader.u2 : Decoder Nat).runAt b p = .ok (x.toNat * 256 + y.toNat, p + 2) := by
  unfold Reader.u2
  rw [pm_bind, pm_u1 h]
  show (Reader.u1 >>= _ : Decoder Nat).runAt b (p + 1) = _
  rw [pm_bind, pm_u1 h2]
  rfl
theorem pm_rs1 {b : ByteArray} {p : Nat} {x : UInt8} (h : b.data.toList[p]? = some x) : (Reader.s1 : Decoder Int).runAt b p = .ok (Reader.signed 8 x.toNat, p + 1) := pm_map _ _ _ _ (pm_u1 h)
theorem pm_rs2 {b : ByteArray} {p : Nat} {x y : UInt8} (h : b.data.toList[p]? = some x) (h2 : b.data.toList[p + 1]? = some y) : (Reader.s2 : Decoder Int).runAt b p = .ok (Reader.signed 16 (x.toNat * 256 + y.toNat), p + 2) := pm_map _ _ _ _ (pm_u2 h h2)
theorem pm_dc {b : ByteArray} {pc n : Nat} {i : Instr} (h : (Decoder.instr pc).runAt b pc = .ok (i, pc + n)) : decode b pc = .ok (i, n) := by
  unfold decode
  show Except.bind ((Decoder.instr pc).runAt b pc) (fun z => .ok (z.1, z.2 - pc)) = _
  rw [h]
  show Except.ok (i, pc + n - pc) = _
  rw [Nat.add_sub_cancel_left]
theorem pm_dr {b : List UInt8} {p : Nat} {x : UInt8} {t : List UInt8} (h : b.drop p = x :: t) : b[p]? = some x ∧ b.drop (p + 1) = t := by
  have h1 : (b.drop p)[0]? = some x := by rw [h]; rfl
  rw [List.getElem?_drop] at h1
  refine ⟨h1, ?_⟩
  rw [show p + 1 = p + 1 from rfl, ← List.drop_drop, h]
  rfl
/-- one byte; one with a byte, two bytes, a byte of a sign, two of a sign behind it -/
def pmq1 (op n : Nat) (l : List UInt8) : Bool := match l with
  | x :: _ => Nat.beq n 1 && Nat.beq x.toNat op
  | [] => false
def pmqu (op k n : Nat) (l : List UInt8) : Bool := match l with
  | x :: y :: _ => Nat.beq n 2 && (Nat.beq x.toNat op && Nat.beq y.toNat k)
  | _ => false
def pmqv (op k n : Nat) (l : List UInt8) : Bool := match l with
  | x :: y :: z :: _ => Nat.beq n 3 && (Nat.beq x.toNat op && Nat.beq (y.toNat * 256 + z.toNat) k)
  | _ => false
def pmqs (op : Nat) (k : Int) (n : Nat) (l : List UInt8) : Bool := match l with
  | x :: y :: _ => Nat.beq n 2 && (Nat.beq x.toNat op && decide (Reader.signed 8 y.toNat = k))
  | _ => false
def pmqt (op : Nat) (k : Int) (n : Nat) (l : List UInt8) : Bool := match l with
  | x :: y :: z :: _ => Nat.beq n 3 && (Nat.beq x.toNat op && decide (Reader.signed 16 (y.toNat * 256 + z.toNat) = k))
  | _ => false
def pmqi (op j : Nat) (k : Int) (n : Nat) (l : List UInt8) : Bool := match l with
  | x :: y :: z :: _ => Nat.beq n 3 && (Nat.beq x.toNat op && (Nat.beq y.toNat j && decide (Reader.signed 8 z.toNat = k)))
  | _ => false
def pmqm (op k j n : Nat) (l : List UInt8) : Bool := match l with
  | x :: y :: z :: w :: _ => Nat.beq n 4 && (Nat.beq x.toNat op && (Nat.beq (y.toNat * 256 + z.toNat) k && (Nat.beq w.toNat j && !(Nat.beq j 0))))
  | _ => false
section PMQ
variable {b : ByteArray} {pc n op : Nat} {l : List UInt8} {i : Instr}
theorem pmq1_ok (hl : b.data.toList.drop pc = l) (h : pmq1 op n l = true) (hi : ∀ x, b.data.toList[pc]? = some x → x.toNat = op → (Decoder.instr pc).runAt b pc = .ok (i, pc + 1)) : decode b pc = .ok (i, n) := by
  unfold pmq1 at h
  split at h
  · rename_i x t
    simp only [Bool.and_eq_true] at h
    obtain rfl := Nat.eq_of_beq_eq_true h.1
    exact pm_dc (hi x (pm_dr hl).1 (Nat.eq_of_beq_eq_true h.2))
  · cases h
theorem pmqu_ok {k : Nat} (hl : b.data.toList.drop pc = l) (h : pmqu op k n l = true) (hi : ∀ x y, b.data.toList[pc]? = some x → b.data.toList[pc + 1]? = some y → x.toNat = op → y.toNat = k → (Decoder.instr pc).runAt b pc = .ok (i, pc + 2)) : decode b pc = .ok (i, n) := by
  unfold pmqu at h
  split at h
  · rename_i x y t
    simp only [Bool.and_eq_true] at h
    obtain rfl := Nat.eq_of_beq_eq_true h.1
    obtain ⟨h1, h2⟩ := pm_dr hl
    exact pm_dc (hi x y h1 (pm_dr h2).1 (Nat.eq_of_beq_eq_true h.2.1) (Nat.eq_of_beq_eq_true h.2.2))
  · cases h
theorem pmqv_ok {k : Nat} (hl : b.data.toList.drop pc = l) (h : pmqv op k n l = true) (hi : ∀ x y z, b.data.toList[pc]? = some x → b.data.toList[pc + 1]? = some y → b.data.toList[pc + 1 + 1]? = some z → x.toNat = op → y.toNat * 256 + z.toNat = k → (Decoder.instr pc).runAt b pc = .ok (i, pc + 3)) : decode b pc = .ok (i, n) := by
  unfold pmqv at h
  split at h
  · rename_i x y z t
    simp only [Bool.and_eq_true] at h
    obtain rfl := Nat.eq_of_beq_eq_true h.1
    obtain ⟨h1, h2⟩ := pm_dr hl
    obtain ⟨h3, h4⟩ := pm_dr h2
    exact pm_dc (hi x y z h1 h3 (pm_dr h4).1 (Nat.eq_of_beq_eq_true h.2.1) (Nat.eq_of_beq_eq_true h.2.2))
  · cases h
theorem pmqs_ok {k : Int} (hl : b.data.toList.drop pc = l) (h : pmqs op k n l = true) (hi : ∀ x y, b.data.toList[pc]? = some x → b.data.toList[pc + 1]? = some y → x.toNat = op → Reader.signed 8 y.toNat = k → (Decoder.instr pc).runAt b pc = .ok (i, pc + 2)) : decode b pc = .ok (i, n) := by
  unfold pmqs at h
  split at h
  · rename_i x y t
    simp only [Bool.and_eq_true, decide_eq_true_eq] at h
    obtain rfl := Nat.eq_of_beq_eq_true h.1
    obtain ⟨h1, h2⟩ := pm_dr hl
    exact pm_dc (hi x y h1 (pm_dr h2).1 (Nat.eq_of_beq_eq_true h.2.1) h.2.2)
  · cases h
theorem pmqt_ok {k : Int} (hl : b.data.toList.drop pc = l) (h : pmqt op k n l = true) (hi : ∀ x y z, b.data.toList[pc]? = some x → b.data.toList[pc + 1]? = some y → b.data.toList[pc + 1 + 1]? = some z → x.toNat = op → Reader.signed 16 (y.toNat * 256 + z.toNat) = k → (Decoder.instr pc).runAt b pc = .ok (i, pc + 3)) : decode b pc = .ok (i, n) := by
  unfold pmqt at h
  split at h
  · rename_i x y z t
    simp only [Bool.and_eq_true, decide_eq_true_eq] at h
    obtain rfl := Nat.eq_of_beq_eq_true h.1
    obtain ⟨h1, h2⟩ := pm_dr hl
    obtain ⟨h3, h4⟩ := pm_dr h2
    exact pm_dc (hi x y z h1 h3 (pm_dr h4).1 (Nat.eq_of_beq_eq_true h.2.1) h.2.2)
  · cases h
theorem pmqi_ok {j : Nat} {k : Int} (hl : b.data.toList.drop pc = l) (h : pmqi op j k n l = true) (hi : ∀ x y z, b.data.toList[pc]? = some x → b.data.toList[pc + 1]? = some y → b.data.toList[pc + 1 + 1]? = some z → x.toNat = op → y.toNat = j → Reader.signed 8 z.toNat = k → (Decoder.instr pc).runAt b pc = .ok (i, pc + 3)) : decode b pc = .ok (i, n) := by
  unfold pmqi at h
  split at h
  · rename_i x y z t
    simp only [Bool.and_eq_true, decide_eq_true_eq] at h
    obtain rfl := Nat.eq_of_beq_eq_true h.1
    obtain ⟨h1, h2⟩ := pm_dr hl
    obtain ⟨h3, h4⟩ := pm_dr h2
    exact pm_dc (hi x y z h1 h3 (pm_dr h4).1 (Nat.eq_of_beq_eq_true h.2.1) (Nat.eq_of_beq_eq_true h.2.2.1) h.2.2.2)
  · cases h
theorem pmqm_ok {k j : Nat} (hl : b.data.toList.drop pc = l) (h : pmqm op k j n l = true) (hi : ∀ x y z w, b.data.toList[pc]? = some x → b.data.toList[pc + 1]? = some y → b.data.toList[pc + 1 + 1]? = some z → b.data.toList[pc + 1 + 1 + 1]? = some w → x.toNat = op → y.toNat * 256 + z.toNat = k → w.toNat = j → j ≠ 0 → (Decoder.instr pc).runAt b pc = .ok (i, pc + 4)) : decode b pc = .ok (i, n) := by
  unfold pmqm at h
  split at h
  · rename_i x y z w t
    simp only [Bool.and_eq_true, Bool.not_eq_true'] at h
    obtain rfl := Nat.eq_of_beq_eq_true h.1
    obtain ⟨h1, h2⟩ := pm_dr hl
    obtain ⟨h3, h4⟩ := pm_dr h2
    obtain ⟨h5, h6⟩ := pm_dr h4
    refine pm_dc (hi x y z w h1 h3 h5 (pm_dr h6).1 (Nat.eq_of_beq_eq_true h.2.1) (Nat.eq_of_beq_eq_true h.2.2.1) (Nat.eq_of_beq_eq_true h.2.2.2.1) ?_)
    intro e
    rw [e] at h
    exact absurd h.2.2.2.2 (by decide)
  · cases h
end PMQ
theorem pmo_aaload {b : ByteArray} {pc n : Nat} {l : List UInt8} (hl : b.data.toList.drop pc = l) (h : pmq1 50 n l = true) : decode b pc = .ok (.aaload, n) := by
  refine pmq1_ok hl h fun x h0 e => ?_
  unfold Decoder.instr
  rw [pm_bind, pm_u1 h0, e]
  rfl
theorem pmo_areturn {b : ByteArray} {pc n : Nat} {l : List UInt8} (hl : b.data.toList.drop pc = l) (h : pmq1 176 n l = true) : decode b pc = .ok (.areturn, n) := by
  refine pmq1_ok hl h fun x h0 e => ?_
  unfold Decoder.instr
  rw [pm_bind, pm_u1 h0, e]
  rfl
theorem pmo_arraylength {b : ByteArray} {pc n : Nat} {l : List UInt8} (hl : b.data.toList.drop pc = l) (h : pmq1 190 n l = true) : decode b pc = .ok (.arraylength, n) := by
  refine pmq1_ok hl h fun x h0 e => ?_
  unfold Decoder.instr
  rw [pm_bind, pm_u1 h0, e]
  rfl
theorem pmo_athrow {b : ByteArray} {pc n : Nat} {l : List UInt8} (hl : b.data.toList.drop pc = l) (h : pmq1 191 n l = true) : decode b pc = .ok (.athrow, n) := by
  refine pmq1_ok hl h fun x h0 e => ?_
  unfold Decoder.instr
  rw [pm_bind, pm_u1 h0, e]
  rfl
theorem pmo_baload {b : ByteArray} {pc n : Nat} {l : List UInt8} (hl : b.data.toList.drop pc = l) (h : pmq1 51 n l = true) : decode b pc = .ok (.baload, n) := by
  refine pmq1_ok hl h fun x h0 e => ?_
  unfold Decoder.instr
  rw [pm_bind, pm_u1 h0, e]
  rfl
theorem pmo_bastore {b : ByteArray} {pc n : Nat} {l : List UInt8} (hl : b.data.toList.drop pc = l) (h : pmq1 84 n l = true) : decode b pc = .ok (.bastore, n) := by
  refine pmq1_ok hl h fun x h0 e => ?_
  unfold Decoder.instr
  rw [pm_bind, pm_u1 h0, e]
  rfl
theorem pmo_dup {b : ByteArray} {pc n : Nat} {l : List UInt8} (hl : b.data.toList.drop pc = l) (h : pmq1 89 n l = true) : decode b pc = .ok (.dup, n) := by
  refine pmq1_ok hl h fun x h0 e => ?_
  unfold Decoder.instr
  rw [pm_bind, pm_u1 h0, e]
  rfl
theorem pmo_dup_x1 {b : ByteArray} {pc n : Nat} {l : List UInt8} (hl : b.data.toList.drop pc = l) (h : pmq1 90 n l = true) : decode b pc = .ok (.dup_x1, n) := by
  refine pmq1_ok hl h fun x h0 e => ?_
  unfold Decoder.instr
  rw [pm_bind, pm_u1 h0, e]
  rfl
theorem pmo_dup2 {b : ByteArray} {pc n : Nat} {l : List UInt8} (hl : b.data.toList.drop pc = l) (h : pmq1 92 n l = true) : decode b pc = .ok (.dup2, n) := by
  refine pmq1_ok hl h fun x h0 e => ?_
  unfold Decoder.instr
  rw [pm_bind, pm_u1 h0, e]
  rfl
theorem pmo_i2b {b : ByteArray} {pc n : Nat} {l : List UInt8} (hl : b.data.toList.drop pc = l) (h : pmq1 145 n l = true) : decode b pc = .ok (.i2b, n) := by
  refine pmq1_ok hl h fun x h0 e => ?_
  unfold Decoder.instr
  rw [pm_bind, pm_u1 h0, e]
  rfl
theorem pmo_i2c {b : ByteArray} {pc n : Nat} {l : List UInt8} (hl : b.data.toList.drop pc = l) (h : pmq1 146 n l = true) : decode b pc = .ok (.i2c, n) := by
  refine pmq1_ok hl h fun x h0 e => ?_
  unfold Decoder.instr
  rw [pm_bind, pm_u1 h0, e]
  rfl
theorem pmo_i2l {b : ByteArray} {pc n : Nat} {l : List UInt8} (hl : b.data.toList.drop pc = l) (h : pmq1 133 n l = true) : decode b pc = .ok (.i2l, n) := by
  refine pmq1_ok hl h fun x h0 e => ?_
  unfold Decoder.instr
  rw [pm_bind, pm_u1 h0, e]
  rfl
theorem pmo_i2s {b : ByteArray} {pc n : Nat} {l : List UInt8} (hl : b.data.toList.drop pc = l) (h : pmq1 147 n l = true) : decode b pc = .ok (.i2s, n) := by
  refine pmq1_ok hl h fun x h0 e => ?_
  unfold Decoder.instr
  rw [pm_bind, pm_u1 h0, e]
  rfl
theorem pmo_iadd {b : ByteArray} {pc n : Nat} {l : List UInt8} (hl : b.data.toList.drop pc = l) (h : pmq1 96 n l = true) : decode b pc = .ok (.iadd, n) := by
  refine pmq1_ok hl h fun x h0 e => ?_
  unfold Decoder.instr
  rw [pm_bind, pm_u1 h0, e]
  rfl
theorem pmo_iaload {b : ByteArray} {pc n : Nat} {l : List UInt8} (hl : b.data.toList.drop pc = l) (h : pmq1 46 n l = true) : decode b pc = .ok (.iaload, n) := by
  refine pmq1_ok hl h fun x h0 e => ?_
  unfold Decoder.instr
  rw [pm_bind, pm_u1 h0, e]
  rfl
theorem pmo_iand {b : ByteArray} {pc n : Nat} {l : List UInt8} (hl : b.data.toList.drop pc = l) (h : pmq1 126 n l = true) : decode b pc = .ok (.iand, n) := by
  refine pmq1_ok hl h fun x h0 e => ?_
  unfold Decoder.instr
  rw [pm_bind, pm_u1 h0, e]
  rfl
theorem pmo_iastore {b : ByteArray} {pc n : Nat} {l : List UInt8} (hl : b.data.toList.drop pc = l) (h : pmq1 79 n l = true) : decode b pc = .ok (.iastore, n) := by
  refine pmq1_ok hl h fun x h0 e => ?_
  unfold Decoder.instr
  rw [pm_bind, pm_u1 h0, e]
  rfl
theorem pmo_idiv {b : ByteArray} {pc n : Nat} {l : List UInt8} (hl : b.data.toList.drop pc = l) (h : pmq1 108 n l = true) : decode b pc = .ok (.idiv, n) := by
  refine pmq1_ok hl h fun x h0 e => ?_
  unfold Decoder.instr
  rw [pm_bind, pm_u1 h0, e]
  rfl
theorem pmo_imul {b : ByteArray} {pc n : Nat} {l : List UInt8} (hl : b.data.toList.drop pc = l) (h : pmq1 104 n l = true) : decode b pc = .ok (.imul, n) := by
  refine pmq1_ok hl h fun x h0 e => ?_
  unfold Decoder.instr
  rw [pm_bind, pm_u1 h0, e]
  rfl
theorem pmo_ineg {b : ByteArray} {pc n : Nat} {l : List UInt8} (hl : b.data.toList.drop pc = l) (h : pmq1 116 n l = true) : decode b pc = .ok (.ineg, n) := by
  refine pmq1_ok hl h fun x h0 e => ?_
  unfold Decoder.instr
  rw [pm_bind, pm_u1 h0, e]
  rfl
theorem pmo_ior {b : ByteArray} {pc n : Nat} {l : List UInt8} (hl : b.data.toList.drop pc = l) (h : pmq1 128 n l = true) : decode b pc = .ok (.ior, n) := by
  refine pmq1_ok hl h fun x h0 e => ?_
  unfold Decoder.instr
  rw [pm_bind, pm_u1 h0, e]
  rfl
theorem pmo_irem {b : ByteArray} {pc n : Nat} {l : List UInt8} (hl : b.data.toList.drop pc = l) (h : pmq1 112 n l = true) : decode b pc = .ok (.irem, n) := by
  refine pmq1_ok hl h fun x h0 e => ?_
  unfold Decoder.instr
  rw [pm_bind, pm_u1 h0, e]
  rfl
theorem pmo_ireturn {b : ByteArray} {pc n : Nat} {l : List UInt8} (hl : b.data.toList.drop pc = l) (h : pmq1 172 n l = true) : decode b pc = .ok (.ireturn, n) := by
  refine pmq1_ok hl h fun x h0 e => ?_
  unfold Decoder.instr
  rw [pm_bind, pm_u1 h0, e]
  rfl
theorem pmo_ishl {b : ByteArray} {pc n : Nat} {l : List UInt8} (hl : b.data.toList.drop pc = l) (h : pmq1 120 n l = true) : decode b pc = .ok (.ishl, n) := by
  refine pmq1_ok hl h fun x h0 e => ?_
  unfold Decoder.instr
  rw [pm_bind, pm_u1 h0, e]
  rfl
theorem pmo_ishr {b : ByteArray} {pc n : Nat} {l : List UInt8} (hl : b.data.toList.drop pc = l) (h : pmq1 122 n l = true) : decode b pc = .ok (.ishr, n) := by
  refine pmq1_ok hl h fun x h0 e => ?_
  unfold Decoder.instr
  rw [pm_bind, pm_u1 h0, e]
  rfl
theorem pmo_isub {b : ByteArray} {pc n : Nat} {l : List UInt8} (hl : b.data.toList.drop pc = l) (h : pmq1 100 n l = true) : decode b pc = .ok (.isub, n) := by
  refine pmq1_ok hl h fun x h0 e => ?_
  unfold Decoder.instr
  rw [pm_bind, pm_u1 h0, e]
  rfl
theorem pmo_iushr {b : ByteArray} {pc n : Nat} {l : List UInt8} (hl : b.data.toList.drop pc = l) (h : pmq1 124 n l = true) : decode b pc = .ok (.iushr, n) := by
  refine pmq1_ok hl h fun x h0 e => ?_
  unfold Decoder.instr
  rw [pm_bind, pm_u1 h0, e]
  rfl
theorem pmo_ixor {b : ByteArray} {pc n : Nat} {l : List UInt8} (hl : b.data.toList.drop pc = l) (h : pmq1 130 n l = true) : decode b pc = .ok (.ixor, n) := by
  refine pmq1_ok hl h fun x h0 e => ?_
  unfold Decoder.instr
  rw [pm_bind, pm_u1 h0, e]
  rfl
theorem pmo_l2i {b : ByteArray} {pc n : Nat} {l : List UInt8} (hl : b.data.toList.drop pc = l) (h : pmq1 136 n l = true) : decode b pc = .ok (.l2i, n) := by
  refine pmq1_ok hl h fun x h0 e => ?_
  unfold Decoder.instr
  rw [pm_bind, pm_u1 h0, e]
  rfl
theorem pmo_ladd {b : ByteArray} {pc n : Nat} {l : List UInt8} (hl : b.data.toList.drop pc = l) (h : pmq1 97 n l = true) : decode b pc = .ok (.ladd, n) := by
  refine pmq1_ok hl h fun x h0 e => ?_
  unfold Decoder.instr
  rw [pm_bind, pm_u1 h0, e]
  rfl
theorem pmo_laload {b : ByteArray} {pc n : Nat} {l : List UInt8} (hl : b.data.toList.drop pc = l) (h : pmq1 47 n l = true) : decode b pc = .ok (.laload, n) := by
  refine pmq1_ok hl h fun x h0 e => ?_
  unfold Decoder.instr
  rw [pm_bind, pm_u1 h0, e]
  rfl
theorem pmo_land {b : ByteArray} {pc n : Nat} {l : List UInt8} (hl : b.data.toList.drop pc = l) (h : pmq1 127 n l = true) : decode b pc = .ok (.land, n) := by
  refine pmq1_ok hl h fun x h0 e => ?_
  unfold Decoder.instr
  rw [pm_bind, pm_u1 h0, e]
  rfl
theorem pmo_lastore {b : ByteArray} {pc n : Nat} {l : List UInt8} (hl : b.data.toList.drop pc = l) (h : pmq1 80 n l = true) : decode b pc = .ok (.lastore, n) := by
  refine pmq1_ok hl h fun x h0 e => ?_
  unfold Decoder.instr
  rw [pm_bind, pm_u1 h0, e]
  rfl
theorem pmo_lcmp {b : ByteArray} {pc n : Nat} {l : List UInt8} (hl : b.data.toList.drop pc = l) (h : pmq1 148 n l = true) : decode b pc = .ok (.lcmp, n) := by
  refine pmq1_ok hl h fun x h0 e => ?_
  unfold Decoder.instr
  rw [pm_bind, pm_u1 h0, e]
  rfl
theorem pmo_lmul {b : ByteArray} {pc n : Nat} {l : List UInt8} (hl : b.data.toList.drop pc = l) (h : pmq1 105 n l = true) : decode b pc = .ok (.lmul, n) := by
  refine pmq1_ok hl h fun x h0 e => ?_
  unfold Decoder.instr
  rw [pm_bind, pm_u1 h0, e]
  rfl
theorem pmo_lneg {b : ByteArray} {pc n : Nat} {l : List UInt8} (hl : b.data.toList.drop pc = l) (h : pmq1 117 n l = true) : decode b pc = .ok (.lneg, n) := by
  refine pmq1_ok hl h fun x h0 e => ?_
  unfold Decoder.instr
  rw [pm_bind, pm_u1 h0, e]
  rfl
theorem pmo_lor {b : ByteArray} {pc n : Nat} {l : List UInt8} (hl : b.data.toList.drop pc = l) (h : pmq1 129 n l = true) : decode b pc = .ok (.lor, n) := by
  refine pmq1_ok hl h fun x h0 e => ?_
  unfold Decoder.instr
  rw [pm_bind, pm_u1 h0, e]
  rfl
theorem pmo_lreturn {b : ByteArray} {pc n : Nat} {l : List UInt8} (hl : b.data.toList.drop pc = l) (h : pmq1 173 n l = true) : decode b pc = .ok (.lreturn, n) := by
  refine pmq1_ok hl h fun x h0 e => ?_
  unfold Decoder.instr
  rw [pm_bind, pm_u1 h0, e]
  rfl
theorem pmo_lshl {b : ByteArray} {pc n : Nat} {l : List UInt8} (hl : b.data.toList.drop pc = l) (h : pmq1 121 n l = true) : decode b pc = .ok (.lshl, n) := by
  refine pmq1_ok hl h fun x h0 e => ?_
  unfold Decoder.instr
  rw [pm_bind, pm_u1 h0, e]
  rfl
theorem pmo_lsub {b : ByteArray} {pc n : Nat} {l : List UInt8} (hl : b.data.toList.drop pc = l) (h : pmq1 101 n l = true) : decode b pc = .ok (.lsub, n) := by
  refine pmq1_ok hl h fun x h0 e => ?_
  unfold Decoder.instr
  rw [pm_bind, pm_u1 h0, e]
  rfl
theorem pmo_lushr {b : ByteArray} {pc n : Nat} {l : List UInt8} (hl : b.data.toList.drop pc = l) (h : pmq1 125 n l = true) : decode b pc = .ok (.lushr, n) := by
  refine pmq1_ok hl h fun x h0 e => ?_
  unfold Decoder.instr
  rw [pm_bind, pm_u1 h0, e]
  rfl
theorem pmo_lxor {b : ByteArray} {pc n : Nat} {l : List UInt8} (hl : b.data.toList.drop pc = l) (h : pmq1 131 n l = true) : decode b pc = .ok (.lxor, n) := by
  refine pmq1_ok hl h fun x h0 e => ?_
  unfold Decoder.instr
  rw [pm_bind, pm_u1 h0, e]
  rfl
theorem pmo_pop {b : ByteArray} {pc n : Nat} {l : List UInt8} (hl : b.data.toList.drop pc = l) (h : pmq1 87 n l = true) : decode b pc = .ok (.pop, n) := by
  refine pmq1_ok hl h fun x h0 e => ?_
  unfold Decoder.instr
  rw [pm_bind, pm_u1 h0, e]
  rfl
theorem pmo_return_ {b : ByteArray} {pc n : Nat} {l : List UInt8} (hl : b.data.toList.drop pc = l) (h : pmq1 177 n l = true) : decode b pc = .ok (.return_, n) := by
  refine pmq1_ok hl h fun x h0 e => ?_
  unfold Decoder.instr
  rw [pm_bind, pm_u1 h0, e]
  rfl
theorem pmo_aload_n0 {b : ByteArray} {pc n : Nat} {l : List UInt8} (hl : b.data.toList.drop pc = l) (h : pmq1 42 n l = true) : decode b pc = .ok (.aload_n 0, n) := by
  refine pmq1_ok hl h fun x h0 e => ?_
  unfold Decoder.instr
  rw [pm_bind, pm_u1 h0, e]
  rfl
theorem pmo_aload_n1 {b : ByteArray} {pc n : Nat} {l : List UInt8} (hl : b.data.toList.drop pc = l) (h : pmq1 43 n l = true) : decode b pc = .ok (.aload_n 1, n) := by
  refine pmq1_ok hl h fun x h0 e => ?_
  unfold Decoder.instr
  rw [pm_bind, pm_u1 h0, e]
  rfl
theorem pmo_aload_n2 {b : ByteArray} {pc n : Nat} {l : List UInt8} (hl : b.data.toList.drop pc = l) (h : pmq1 44 n l = true) : decode b pc = .ok (.aload_n 2, n) := by
  refine pmq1_ok hl h fun x h0 e => ?_
  unfold Decoder.instr
  rw [pm_bind, pm_u1 h0, e]
  rfl
theorem pmo_aload_n3 {b : ByteArray} {pc n : Nat} {l : List UInt8} (hl : b.data.toList.drop pc = l) (h : pmq1 45 n l = true) : decode b pc = .ok (.aload_n 3, n) := by
  refine pmq1_ok hl h fun x h0 e => ?_
  unfold Decoder.instr
  rw [pm_bind, pm_u1 h0, e]
  rfl
theorem pmo_astore_n0 {b : ByteArray} {pc n : Nat} {l : List UInt8} (hl : b.data.toList.drop pc = l) (h : pmq1 75 n l = true) : decode b pc = .ok (.astore_n 0, n) := by
  refine pmq1_ok hl h fun x h0 e => ?_
  unfold Decoder.instr
  rw [pm_bind, pm_u1 h0, e]
  rfl
theorem pmo_astore_n1 {b : ByteArray} {pc n : Nat} {l : List UInt8} (hl : b.data.toList.drop pc = l) (h : pmq1 76 n l = true) : decode b pc = .ok (.astore_n 1, n) := by
  refine pmq1_ok hl h fun x h0 e => ?_
  unfold Decoder.instr
  rw [pm_bind, pm_u1 h0, e]
  rfl
theorem pmo_astore_n2 {b : ByteArray} {pc n : Nat} {l : List UInt8} (hl : b.data.toList.drop pc = l) (h : pmq1 77 n l = true) : decode b pc = .ok (.astore_n 2, n) := by
  refine pmq1_ok hl h fun x h0 e => ?_
  unfold Decoder.instr
  rw [pm_bind, pm_u1 h0, e]
  rfl
theorem pmo_astore_n3 {b : ByteArray} {pc n : Nat} {l : List UInt8} (hl : b.data.toList.drop pc = l) (h : pmq1 78 n l = true) : decode b pc = .ok (.astore_n 3, n) := by
  refine pmq1_ok hl h fun x h0 e => ?_
  unfold Decoder.instr
  rw [pm_bind, pm_u1 h0, e]
  rfl
theorem pmo_iload_n0 {b : ByteArray} {pc n : Nat} {l : List UInt8} (hl : b.data.toList.drop pc = l) (h : pmq1 26 n l = true) : decode b pc = .ok (.iload_n 0, n) := by
  refine pmq1_ok hl h fun x h0 e => ?_
  unfold Decoder.instr
  rw [pm_bind, pm_u1 h0, e]
  rfl
theorem pmo_iload_n1 {b : ByteArray} {pc n : Nat} {l : List UInt8} (hl : b.data.toList.drop pc = l) (h : pmq1 27 n l = true) : decode b pc = .ok (.iload_n 1, n) := by
  refine pmq1_ok hl h fun x h0 e => ?_
  unfold Decoder.instr
  rw [pm_bind, pm_u1 h0, e]
  rfl
theorem pmo_iload_n2 {b : ByteArray} {pc n : Nat} {l : List UInt8} (hl : b.data.toList.drop pc = l) (h : pmq1 28 n l = true) : decode b pc = .ok (.iload_n 2, n) := by
  refine pmq1_ok hl h fun x h0 e => ?_
  unfold Decoder.instr
  rw [pm_bind, pm_u1 h0, e]
  rfl
theorem pmo_iload_n3 {b : ByteArray} {pc n : Nat} {l : List UInt8} (hl : b.data.toList.drop pc = l) (h : pmq1 29 n l = true) : decode b pc = .ok (.iload_n 3, n) := by
  refine pmq1_ok hl h fun x h0 e => ?_
  unfold Decoder.instr
  rw [pm_bind, pm_u1 h0, e]
  rfl
theorem pmo_istore_n0 {b : ByteArray} {pc n : Nat} {l : List UInt8} (hl : b.data.toList.drop pc = l) (h : pmq1 59 n l = true) : decode b pc = .ok (.istore_n 0, n) := by
  refine pmq1_ok hl h fun x h0 e => ?_
  unfold Decoder.instr
  rw [pm_bind, pm_u1 h0, e]
  rfl
theorem pmo_istore_n1 {b : ByteArray} {pc n : Nat} {l : List UInt8} (hl : b.data.toList.drop pc = l) (h : pmq1 60 n l = true) : decode b pc = .ok (.istore_n 1, n) := by
  refine pmq1_ok hl h fun x h0 e => ?_
  unfold Decoder.instr
  rw [pm_bind, pm_u1 h0, e]
  rfl
theorem pmo_istore_n2 {b : ByteArray} {pc n : Nat} {l : List UInt8} (hl : b.data.toList.drop pc = l) (h : pmq1 61 n l = true) : decode b pc = .ok (.istore_n 2, n) := by
  refine pmq1_ok hl h fun x h0 e => ?_
  unfold Decoder.instr
  rw [pm_bind, pm_u1 h0, e]
  rfl
theorem pmo_istore_n3 {b : ByteArray} {pc n : Nat} {l : List UInt8} (hl : b.data.toList.drop pc = l) (h : pmq1 62 n l = true) : decode b pc = .ok (.istore_n 3, n) := by
  refine pmq1_ok hl h fun x h0 e => ?_
  unfold Decoder.instr
  rw [pm_bind, pm_u1 h0, e]
  rfl
theorem pmo_lload_n0 {b : ByteArray} {pc n : Nat} {l : List UInt8} (hl : b.data.toList.drop pc = l) (h : pmq1 30 n l = true) : decode b pc = .ok (.lload_n 0, n) := by
  refine pmq1_ok hl h fun x h0 e => ?_
  unfold Decoder.instr
  rw [pm_bind, pm_u1 h0, e]
  rfl
theorem pmo_lload_n1 {b : ByteArray} {pc n : Nat} {l : List UInt8} (hl : b.data.toList.drop pc = l) (h : pmq1 31 n l = true) : decode b pc = .ok (.lload_n 1, n) := by
  refine pmq1_ok hl h fun x h0 e => ?_
  unfold Decoder.instr
  rw [pm_bind, pm_u1 h0, e]
  rfl
theorem pmo_lload_n2 {b : ByteArray} {pc n : Nat} {l : List UInt8} (hl : b.data.toList.drop pc = l) (h : pmq1 32 n l = true) : decode b pc = .ok (.lload_n 2, n) := by
  refine pmq1_ok hl h fun x h0 e => ?_
  unfold Decoder.instr
  rw [pm_bind, pm_u1 h0, e]
  rfl
theorem pmo_lload_n3 {b : ByteArray} {pc n : Nat} {l : List UInt8} (hl : b.data.toList.drop pc = l) (h : pmq1 33 n l = true) : decode b pc = .ok (.lload_n 3, n) := by
  refine pmq1_ok hl h fun x h0 e => ?_
  unfold Decoder.instr
  rw [pm_bind, pm_u1 h0, e]
  rfl
theorem pmo_lstore_n0 {b : ByteArray} {pc n : Nat} {l : List UInt8} (hl : b.data.toList.drop pc = l) (h : pmq1 63 n l = true) : decode b pc = .ok (.lstore_n 0, n) := by
  refine pmq1_ok hl h fun x h0 e => ?_
  unfold Decoder.instr
  rw [pm_bind, pm_u1 h0, e]
  rfl
theorem pmo_lstore_n1 {b : ByteArray} {pc n : Nat} {l : List UInt8} (hl : b.data.toList.drop pc = l) (h : pmq1 64 n l = true) : decode b pc = .ok (.lstore_n 1, n) := by
  refine pmq1_ok hl h fun x h0 e => ?_
  unfold Decoder.instr
  rw [pm_bind, pm_u1 h0, e]
  rfl
theorem pmo_lstore_n2 {b : ByteArray} {pc n : Nat} {l : List UInt8} (hl : b.data.toList.drop pc = l) (h : pmq1 65 n l = true) : decode b pc = .ok (.lstore_n 2, n) := by
  refine pmq1_ok hl h fun x h0 e => ?_
  unfold Decoder.instr
  rw [pm_bind, pm_u1 h0, e]
  rfl
theorem pmo_lstore_n3 {b : ByteArray} {pc n : Nat} {l : List UInt8} (hl : b.data.toList.drop pc = l) (h : pmq1 66 n l = true) : decode b pc = .ok (.lstore_n 3, n) := by
  refine pmq1_ok hl h fun x h0 e => ?_
  unfold Decoder.instr
  rw [pm_bind, pm_u1 h0, e]
  rfl
theorem pmo_lconst0 {b : ByteArray} {pc n : Nat} {l : List UInt8} (hl : b.data.toList.drop pc = l) (h : pmq1 9 n l = true) : decode b pc = .ok (.lconst 0, n) := by
  refine pmq1_ok hl h fun x h0 e => ?_
  unfold Decoder.instr
  rw [pm_bind, pm_u1 h0, e]
  rfl
theorem pmo_lconst1 {b : ByteArray} {pc n : Nat} {l : List UInt8} (hl : b.data.toList.drop pc = l) (h : pmq1 10 n l = true) : decode b pc = .ok (.lconst 1, n) := by
  refine pmq1_ok hl h fun x h0 e => ?_
  unfold Decoder.instr
  rw [pm_bind, pm_u1 h0, e]
  rfl
theorem pmo_iconst0 {b : ByteArray} {pc n : Nat} {l : List UInt8} (hl : b.data.toList.drop pc = l) (h : pmq1 2 n l = true) : decode b pc = .ok (.iconst (-1), n) := by
  refine pmq1_ok hl h fun x h0 e => ?_
  unfold Decoder.instr
  rw [pm_bind, pm_u1 h0, e]
  rfl
theorem pmo_iconst1 {b : ByteArray} {pc n : Nat} {l : List UInt8} (hl : b.data.toList.drop pc = l) (h : pmq1 3 n l = true) : decode b pc = .ok (.iconst (0), n) := by
  refine pmq1_ok hl h fun x h0 e => ?_
  unfold Decoder.instr
  rw [pm_bind, pm_u1 h0, e]
  rfl
theorem pmo_iconst2 {b : ByteArray} {pc n : Nat} {l : List UInt8} (hl : b.data.toList.drop pc = l) (h : pmq1 4 n l = true) : decode b pc = .ok (.iconst (1), n) := by
  refine pmq1_ok hl h fun x h0 e => ?_
  unfold Decoder.instr
  rw [pm_bind, pm_u1 h0, e]
  rfl
theorem pmo_iconst3 {b : ByteArray} {pc n : Nat} {l : List UInt8} (hl : b.data.toList.drop pc = l) (h : pmq1 5 n l = true) : decode b pc = .ok (.iconst (2), n) := by
  refine pmq1_ok hl h fun x h0 e => ?_
  unfold Decoder.instr
  rw [pm_bind, pm_u1 h0, e]
  rfl
theorem pmo_iconst4 {b : ByteArray} {pc n : Nat} {l : List UInt8} (hl : b.data.toList.drop pc = l) (h : pmq1 6 n l = true) : decode b pc = .ok (.iconst (3), n) := by
  refine pmq1_ok hl h fun x h0 e => ?_
  unfold Decoder.instr
  rw [pm_bind, pm_u1 h0, e]
  rfl
theorem pmo_iconst5 {b : ByteArray} {pc n : Nat} {l : List UInt8} (hl : b.data.toList.drop pc = l) (h : pmq1 7 n l = true) : decode b pc = .ok (.iconst (4), n) := by
  refine pmq1_ok hl h fun x h0 e => ?_
  unfold Decoder.instr
  rw [pm_bind, pm_u1 h0, e]
  rfl
theorem pmo_iconst6 {b : ByteArray} {pc n : Nat} {l : List UInt8} (hl : b.data.toList.drop pc = l) (h : pmq1 8 n l = true) : decode b pc = .ok (.iconst (5), n) := by
  refine pmq1_ok hl h fun x h0 e => ?_
  unfold Decoder.instr
  rw [pm_bind, pm_u1 h0, e]
  rfl
theorem pmo_aload {b : ByteArray} {pc n : Nat} {l : List UInt8} {k : Nat} (hl : b.data.toList.drop pc = l) (h : pmqu 25 k n l = true) : decode b pc = .ok (.aload k, n) := by
  refine pmqu_ok hl h fun x y h0 h1 e e1 => ?_
  subst e1
  unfold Decoder.instr
  rw [pm_bind, pm_u1 h0, e]
  show (Reader.u1 >>= _ : Decoder Instr).runAt b (pc + 1) = _
  rw [pm_bind, pm_u1 h1]
  rfl
theorem pmo_astore {b : ByteArray} {pc n : Nat} {l : List UInt8} {k : Nat} (hl : b.data.toList.drop pc = l) (h : pmqu 58 k n l = true) : decode b pc = .ok (.astore k, n) := by
  refine pmqu_ok hl h fun x y h0 h1 e e1 => ?_
  subst e1
  unfold Decoder.instr
  rw [pm_bind, pm_u1 h0, e]
  show (Reader.u1 >>= _ : Decoder Instr).runAt b (pc + 1) = _
  rw [pm_bind, pm_u1 h1]
  rfl
theorem pmo_iload {b : ByteArray} {pc n : Nat} {l : List UInt8} {k : Nat} (hl : b.data.toList.drop pc = l) (h : pmqu 21 k n l = true) : decode b pc = .ok (.iload k, n) := by
  refine pmqu_ok hl h fun x y h0 h1 e e1 => ?_
  subst e1
  unfold Decoder.instr
  rw [pm_bind, pm_u1 h0, e]
  show (Reader.u1 >>= _ : Decoder Instr).runAt b (pc + 1) = _
  rw [pm_bind, pm_u1 h1]
  rfl
theorem pmo_istore {b : ByteArray} {pc n : Nat} {l : List UInt8} {k : Nat} (hl : b.data.toList.drop pc = l) (h : pmqu 54 k n l = true) : decode b pc = .ok (.istore k, n) := by
  refine pmqu_ok hl h fun x y h0 h1 e e1 => ?_
  subst e1
  unfold Decoder.instr
  rw [pm_bind, pm_u1 h0, e]
  show (Reader.u1 >>= _ : Decoder Instr).runAt b (pc + 1) = _
  rw [pm_bind, pm_u1 h1]
  rfl
theorem pmo_lload {b : ByteArray} {pc n : Nat} {l : List UInt8} {k : Nat} (hl : b.data.toList.drop pc = l) (h : pmqu 22 k n l = true) : decode b pc = .ok (.lload k, n) := by
  refine pmqu_ok hl h fun x y h0 h1 e e1 => ?_
  subst e1
  unfold Decoder.instr
  rw [pm_bind, pm_u1 h0, e]
  show (Reader.u1 >>= _ : Decoder Instr).runAt b (pc + 1) = _
  rw [pm_bind, pm_u1 h1]
  rfl
theorem pmo_lstore {b : ByteArray} {pc n : Nat} {l : List UInt8} {k : Nat} (hl : b.data.toList.drop pc = l) (h : pmqu 55 k n l = true) : decode b pc = .ok (.lstore k, n) := by
  refine pmqu_ok hl h fun x y h0 h1 e e1 => ?_
  subst e1
  unfold Decoder.instr
  rw [pm_bind, pm_u1 h0, e]
  show (Reader.u1 >>= _ : Decoder Instr).runAt b (pc + 1) = _
  rw [pm_bind, pm_u1 h1]
  rfl
theorem pmo_ldc {b : ByteArray} {pc n : Nat} {l : List UInt8} {k : Nat} (hl : b.data.toList.drop pc = l) (h : pmqu 18 k n l = true) : decode b pc = .ok (.ldc k, n) := by
  refine pmqu_ok hl h fun x y h0 h1 e e1 => ?_
  subst e1
  unfold Decoder.instr
  rw [pm_bind, pm_u1 h0, e]
  show (Reader.u1 >>= _ : Decoder Instr).runAt b (pc + 1) = _
  rw [pm_bind, pm_u1 h1]
  rfl
theorem pmo_getfield {b : ByteArray} {pc n : Nat} {l : List UInt8} {k : Nat} (hl : b.data.toList.drop pc = l) (h : pmqv 180 k n l = true) : decode b pc = .ok (.getfield k, n) := by
  refine pmqv_ok hl h fun x y z h0 h1 h2 e e1 => ?_
  subst e1
  unfold Decoder.instr
  rw [pm_bind, pm_u1 h0, e]
  show (Reader.u2 >>= _ : Decoder Instr).runAt b (pc + 1) = _
  rw [pm_bind, pm_u2 h1 h2]
  rfl
theorem pmo_putfield {b : ByteArray} {pc n : Nat} {l : List UInt8} {k : Nat} (hl : b.data.toList.drop pc = l) (h : pmqv 181 k n l = true) : decode b pc = .ok (.putfield k, n) := by
  refine pmqv_ok hl h fun x y z h0 h1 h2 e e1 => ?_
  subst e1
  unfold Decoder.instr
  rw [pm_bind, pm_u1 h0, e]
  show (Reader.u2 >>= _ : Decoder Instr).runAt b (pc + 1) = _
  rw [pm_bind, pm_u2 h1 h2]
  rfl
theorem pmo_getstatic {b : ByteArray} {pc n : Nat} {l : List UInt8} {k : Nat} (hl : b.data.toList.drop pc = l) (h : pmqv 178 k n l = true) : decode b pc = .ok (.getstatic k, n) := by
  refine pmqv_ok hl h fun x y z h0 h1 h2 e e1 => ?_
  subst e1
  unfold Decoder.instr
  rw [pm_bind, pm_u1 h0, e]
  show (Reader.u2 >>= _ : Decoder Instr).runAt b (pc + 1) = _
  rw [pm_bind, pm_u2 h1 h2]
  rfl
theorem pmo_invokespecial {b : ByteArray} {pc n : Nat} {l : List UInt8} {k : Nat} (hl : b.data.toList.drop pc = l) (h : pmqv 183 k n l = true) : decode b pc = .ok (.invokespecial k, n) := by
  refine pmqv_ok hl h fun x y z h0 h1 h2 e e1 => ?_
  subst e1
  unfold Decoder.instr
  rw [pm_bind, pm_u1 h0, e]
  show (Reader.u2 >>= _ : Decoder Instr).runAt b (pc + 1) = _
  rw [pm_bind, pm_u2 h1 h2]
  rfl
theorem pmo_invokestatic {b : ByteArray} {pc n : Nat} {l : List UInt8} {k : Nat} (hl : b.data.toList.drop pc = l) (h : pmqv 184 k n l = true) : decode b pc = .ok (.invokestatic k, n) := by
  refine pmqv_ok hl h fun x y z h0 h1 h2 e e1 => ?_
  subst e1
  unfold Decoder.instr
  rw [pm_bind, pm_u1 h0, e]
  show (Reader.u2 >>= _ : Decoder Instr).runAt b (pc + 1) = _
  rw [pm_bind, pm_u2 h1 h2]
  rfl
theorem pmo_invokevirtual {b : ByteArray} {pc n : Nat} {l : List UInt8} {k : Nat} (hl : b.data.toList.drop pc = l) (h : pmqv 182 k n l = true) : decode b pc = .ok (.invokevirtual k, n) := by
  refine pmqv_ok hl h fun x y z h0 h1 h2 e e1 => ?_
  subst e1
  unfold Decoder.instr
  rw [pm_bind, pm_u1 h0, e]
  show (Reader.u2 >>= _ : Decoder Instr).runAt b (pc + 1) = _
  rw [pm_bind, pm_u2 h1 h2]
  rfl
theorem pmo_ldc_w {b : ByteArray} {pc n : Nat} {l : List UInt8} {k : Nat} (hl : b.data.toList.drop pc = l) (h : pmqv 19 k n l = true) : decode b pc = .ok (.ldc_w k, n) := by
  refine pmqv_ok hl h fun x y z h0 h1 h2 e e1 => ?_
  subst e1
  unfold Decoder.instr
  rw [pm_bind, pm_u1 h0, e]
  show (Reader.u2 >>= _ : Decoder Instr).runAt b (pc + 1) = _
  rw [pm_bind, pm_u2 h1 h2]
  rfl
theorem pmo_ldc2_w {b : ByteArray} {pc n : Nat} {l : List UInt8} {k : Nat} (hl : b.data.toList.drop pc = l) (h : pmqv 20 k n l = true) : decode b pc = .ok (.ldc2_w k, n) := by
  refine pmqv_ok hl h fun x y z h0 h1 h2 e e1 => ?_
  subst e1
  unfold Decoder.instr
  rw [pm_bind, pm_u1 h0, e]
  show (Reader.u2 >>= _ : Decoder Instr).runAt b (pc + 1) = _
  rw [pm_bind, pm_u2 h1 h2]
  rfl
theorem pmo_new {b : ByteArray} {pc n : Nat} {l : List UInt8} {k : Nat} (hl : b.data.toList.drop pc = l) (h : pmqv 187 k n l = true) : decode b pc = .ok (.new k, n) := by
  refine pmqv_ok hl h fun x y z h0 h1 h2 e e1 => ?_
  subst e1
  unfold Decoder.instr
  rw [pm_bind, pm_u1 h0, e]
  show (Reader.u2 >>= _ : Decoder Instr).runAt b (pc + 1) = _
  rw [pm_bind, pm_u2 h1 h2]
  rfl
theorem pmo_bipush {b : ByteArray} {pc n : Nat} {l : List UInt8} {k : Int} (hl : b.data.toList.drop pc = l) (h : pmqs 16 k n l = true) : decode b pc = .ok (.bipush k, n) := by
  refine pmqs_ok hl h fun x y h0 h1 e e1 => ?_
  subst e1
  unfold Decoder.instr
  rw [pm_bind, pm_u1 h0, e]
  show (Reader.s1 >>= _ : Decoder Instr).runAt b (pc + 1) = _
  rw [pm_bind, pm_rs1 h1]
  rfl
theorem pmo_goto {b : ByteArray} {pc n : Nat} {l : List UInt8} {k : Int} (hl : b.data.toList.drop pc = l) (h : pmqt 167 k n l = true) : decode b pc = .ok (.goto k, n) := by
  refine pmqt_ok hl h fun x y z h0 h1 h2 e e1 => ?_
  subst e1
  unfold Decoder.instr
  rw [pm_bind, pm_u1 h0, e]
  show (Reader.s2 >>= _ : Decoder Instr).runAt b (pc + 1) = _
  rw [pm_bind, pm_rs2 h1 h2]
  rfl
theorem pmo_sipush {b : ByteArray} {pc n : Nat} {l : List UInt8} {k : Int} (hl : b.data.toList.drop pc = l) (h : pmqt 17 k n l = true) : decode b pc = .ok (.sipush k, n) := by
  refine pmqt_ok hl h fun x y z h0 h1 h2 e e1 => ?_
  subst e1
  unfold Decoder.instr
  rw [pm_bind, pm_u1 h0, e]
  show (Reader.s2 >>= _ : Decoder Instr).runAt b (pc + 1) = _
  rw [pm_bind, pm_rs2 h1 h2]
  rfl
theorem pmo_ifCond_eq {b : ByteArray} {pc n : Nat} {l : List UInt8} {k : Int} (hl : b.data.toList.drop pc = l) (h : pmqt 153 k n l = true) : decode b pc = .ok (.ifCond .eq k, n) := by
  refine pmqt_ok hl h fun x y z h0 h1 h2 e e1 => ?_
  subst e1
  unfold Decoder.instr
  rw [pm_bind, pm_u1 h0, e]
  show (Reader.s2 >>= _ : Decoder Instr).runAt b (pc + 1) = _
  rw [pm_bind, pm_rs2 h1 h2]
  rfl
theorem pmo_ifCond_ne {b : ByteArray} {pc n : Nat} {l : List UInt8} {k : Int} (hl : b.data.toList.drop pc = l) (h : pmqt 154 k n l = true) : decode b pc = .ok (.ifCond .ne k, n) := by
  refine pmqt_ok hl h fun x y z h0 h1 h2 e e1 => ?_
  subst e1
  unfold Decoder.instr
  rw [pm_bind, pm_u1 h0, e]
  show (Reader.s2 >>= _ : Decoder Instr).runAt b (pc + 1) = _
  rw [pm_bind, pm_rs2 h1 h2]
  rfl
theorem pmo_ifCond_lt {b : ByteArray} {pc n : Nat} {l : List UInt8} {k : Int} (hl : b.data.toList.drop pc = l) (h : pmqt 155 k n l = true) : decode b pc = .ok (.ifCond .lt k, n) := by
  refine pmqt_ok hl h fun x y z h0 h1 h2 e e1 => ?_
  subst e1
  unfold Decoder.instr
  rw [pm_bind, pm_u1 h0, e]
  show (Reader.s2 >>= _ : Decoder Instr).runAt b (pc + 1) = _
  rw [pm_bind, pm_rs2 h1 h2]
  rfl
theorem pmo_ifCond_ge {b : ByteArray} {pc n : Nat} {l : List UInt8} {k : Int} (hl : b.data.toList.drop pc = l) (h : pmqt 156 k n l = true) : decode b pc = .ok (.ifCond .ge k, n) := by
  refine pmqt_ok hl h fun x y z h0 h1 h2 e e1 => ?_
  subst e1
  unfold Decoder.instr
  rw [pm_bind, pm_u1 h0, e]
  show (Reader.s2 >>= _ : Decoder Instr).runAt b (pc + 1) = _
  rw [pm_bind, pm_rs2 h1 h2]
  rfl
theorem pmo_ifCond_gt {b : ByteArray} {pc n : Nat} {l : List UInt8} {k : Int} (hl : b.data.toList.drop pc = l) (h : pmqt 157 k n l = true) : decode b pc = .ok (.ifCond .gt k, n) := by
  refine pmqt_ok hl h fun x y z h0 h1 h2 e e1 => ?_
  subst e1
  unfold Decoder.instr
  rw [pm_bind, pm_u1 h0, e]
  show (Reader.s2 >>= _ : Decoder Instr).runAt b (pc + 1) = _
  rw [pm_bind, pm_rs2 h1 h2]
  rfl
theorem pmo_ifCond_le {b : ByteArray} {pc n : Nat} {l : List UInt8} {k : Int} (hl : b.data.toList.drop pc = l) (h : pmqt 158 k n l = true) : decode b pc = .ok (.ifCond .le k, n) := by
  refine pmqt_ok hl h fun x y z h0 h1 h2 e e1 => ?_
  subst e1
  unfold Decoder.instr
  rw [pm_bind, pm_u1 h0, e]
  show (Reader.s2 >>= _ : Decoder Instr).runAt b (pc + 1) = _
  rw [pm_bind, pm_rs2 h1 h2]
  rfl
theorem pmo_if_icmp_eq {b : ByteArray} {pc n : Nat} {l : List UInt8} {k : Int} (hl : b.data.toList.drop pc = l) (h : pmqt 159 k n l = true) : decode b pc = .ok (.if_icmp .eq k, n) := by
  refine pmqt_ok hl h fun x y z h0 h1 h2 e e1 => ?_
  subst e1
  unfold Decoder.instr
  rw [pm_bind, pm_u1 h0, e]
  show (Reader.s2 >>= _ : Decoder Instr).runAt b (pc + 1) = _
  rw [pm_bind, pm_rs2 h1 h2]
  rfl
theorem pmo_if_icmp_ne {b : ByteArray} {pc n : Nat} {l : List UInt8} {k : Int} (hl : b.data.toList.drop pc = l) (h : pmqt 160 k n l = true) : decode b pc = .ok (.if_icmp .ne k, n) := by
  refine pmqt_ok hl h fun x y z h0 h1 h2 e e1 => ?_
  subst e1
  unfold Decoder.instr
  rw [pm_bind, pm_u1 h0, e]
  show (Reader.s2 >>= _ : Decoder Instr).runAt b (pc + 1) = _
  rw [pm_bind, pm_rs2 h1 h2]
  rfl
theorem pmo_if_icmp_lt {b : ByteArray} {pc n : Nat} {l : List UInt8} {k : Int} (hl : b.data.toList.drop pc = l) (h : pmqt 161 k n l = true) : decode b pc = .ok (.if_icmp .lt k, n) := by
  refine pmqt_ok hl h fun x y z h0 h1 h2 e e1 => ?_
  subst e1
  unfold Decoder.instr
  rw [pm_bind, pm_u1 h0, e]
  show (Reader.s2 >>= _ : Decoder Instr).runAt b (pc + 1) = _
  rw [pm_bind, pm_rs2 h1 h2]
  rfl
theorem pmo_if_icmp_ge {b : ByteArray} {pc n : Nat} {l : List UInt8} {k : Int} (hl : b.data.toList.drop pc = l) (h : pmqt 162 k n l = true) : decode b pc = .ok (.if_icmp .ge k, n) := by
  refine pmqt_ok hl h fun x y z h0 h1 h2 e e1 => ?_
  subst e1
  unfold Decoder.instr
  rw [pm_bind, pm_u1 h0, e]
  show (Reader.s2 >>= _ : Decoder Instr).runAt b (pc + 1) = _
  rw [pm_bind, pm_rs2 h1 h2]
  rfl
theorem pmo_if_icmp_gt {b : ByteArray} {pc n : Nat} {l : List UInt8} {k : Int} (hl : b.data.toList.drop pc = l) (h : pmqt 163 k n l = true) : decode b pc = .ok (.if_icmp .gt k, n) := by
  refine pmqt_ok hl h fun x y z h0 h1 h2 e e1 => ?_
  subst e1
  unfold Decoder.instr
  rw [pm_bind, pm_u1 h0, e]
  show (Reader.s2 >>= _ : Decoder Instr).runAt b (pc + 1) = _
  rw [pm_bind, pm_rs2 h1 h2]
  rfl
theorem pmo_if_icmp_le {b : ByteArray} {pc n : Nat} {l : List UInt8} {k : Int} (hl : b.data.toList.drop pc = l) (h : pmqt 164 k n l = true) : decode b pc = .ok (.if_icmp .le k, n) := by
  refine pmqt_ok hl h fun x y z h0 h1 h2 e e1 => ?_
  subst e1
  unfold Decoder.instr
  rw [pm_bind, pm_u1 h0, e]
  show (Reader.s2 >>= _ : Decoder Instr).runAt b (pc + 1) = _
  rw [pm_bind, pm_rs2 h1 h2]
  rfl
theorem pmo_iinc {b : ByteArray} {pc n : Nat} {l : List UInt8} {j : Nat} {k : Int} (hl : b.data.toList.drop pc = l) (h : pmqi 132 j k n l = true) : decode b pc = .ok (.iinc j k, n) := by
  refine pmqi_ok hl h fun x y z h0 h1 h2 e e1 e2 => ?_
  subst e1
  subst e2
  unfold Decoder.instr
  rw [pm_bind, pm_u1 h0, e]
  show (Reader.u1 >>= _ : Decoder Instr).runAt b (pc + 1) = _
  rw [pm_bind, pm_u1 h1]
  show (Reader.s1 >>= _ : Decoder Instr).runAt b (pc + 1 + 1) = _
  rw [pm_bind, pm_rs1 h2]
  rfl
theorem pmo_newarray_boolean {b : ByteArray} {pc n : Nat} {l : List UInt8} (hl : b.data.toList.drop pc = l) (h : pmqu 188 4 n l = true) : decode b pc = .ok (.newarray .boolean, n) := by
  refine pmqu_ok hl h fun x y h0 h1 e e1 => ?_
  unfold Decoder.instr
  rw [pm_bind, pm_u1 h0, e]
  show (Decoder.newarray pc).runAt b (pc + 1) = _
  unfold Decoder.newarray
  rw [pm_bind, pm_u1 h1, e1]
  rfl
theorem pmo_newarray_char {b : ByteArray} {pc n : Nat} {l : List UInt8} (hl : b.data.toList.drop pc = l) (h : pmqu 188 5 n l = true) : decode b pc = .ok (.newarray .char, n) := by
  refine pmqu_ok hl h fun x y h0 h1 e e1 => ?_
  unfold Decoder.instr
  rw [pm_bind, pm_u1 h0, e]
  show (Decoder.newarray pc).runAt b (pc + 1) = _
  unfold Decoder.newarray
  rw [pm_bind, pm_u1 h1, e1]
  rfl
theorem pmo_newarray_float {b : ByteArray} {pc n : Nat} {l : List UInt8} (hl : b.data.toList.drop pc = l) (h : pmqu 188 6 n l = true) : decode b pc = .ok (.newarray .float, n) := by
  refine pmqu_ok hl h fun x y h0 h1 e e1 => ?_
  unfold Decoder.instr
  rw [pm_bind, pm_u1 h0, e]
  show (Decoder.newarray pc).runAt b (pc + 1) = _
  unfold Decoder.newarray
  rw [pm_bind, pm_u1 h1, e1]
  rfl
theorem pmo_newarray_double {b : ByteArray} {pc n : Nat} {l : List UInt8} (hl : b.data.toList.drop pc = l) (h : pmqu 188 7 n l = true) : decode b pc = .ok (.newarray .double, n) := by
  refine pmqu_ok hl h fun x y h0 h1 e e1 => ?_
  unfold Decoder.instr
  rw [pm_bind, pm_u1 h0, e]
  show (Decoder.newarray pc).runAt b (pc + 1) = _
  unfold Decoder.newarray
  rw [pm_bind, pm_u1 h1, e1]
  rfl
theorem pmo_newarray_byte {b : ByteArray} {pc n : Nat} {l : List UInt8} (hl : b.data.toList.drop pc = l) (h : pmqu 188 8 n l = true) : decode b pc = .ok (.newarray .byte, n) := by
  refine pmqu_ok hl h fun x y h0 h1 e e1 => ?_
  unfold Decoder.instr
  rw [pm_bind, pm_u1 h0, e]
  show (Decoder.newarray pc).runAt b (pc + 1) = _
  unfold Decoder.newarray
  rw [pm_bind, pm_u1 h1, e1]
  rfl
theorem pmo_newarray_short {b : ByteArray} {pc n : Nat} {l : List UInt8} (hl : b.data.toList.drop pc = l) (h : pmqu 188 9 n l = true) : decode b pc = .ok (.newarray .short, n) := by
  refine pmqu_ok hl h fun x y h0 h1 e e1 => ?_
  unfold Decoder.instr
  rw [pm_bind, pm_u1 h0, e]
  show (Decoder.newarray pc).runAt b (pc + 1) = _
  unfold Decoder.newarray
  rw [pm_bind, pm_u1 h1, e1]
  rfl
theorem pmo_newarray_int {b : ByteArray} {pc n : Nat} {l : List UInt8} (hl : b.data.toList.drop pc = l) (h : pmqu 188 10 n l = true) : decode b pc = .ok (.newarray .int, n) := by
  refine pmqu_ok hl h fun x y h0 h1 e e1 => ?_
  unfold Decoder.instr
  rw [pm_bind, pm_u1 h0, e]
  show (Decoder.newarray pc).runAt b (pc + 1) = _
  unfold Decoder.newarray
  rw [pm_bind, pm_u1 h1, e1]
  rfl
theorem pmo_newarray_long {b : ByteArray} {pc n : Nat} {l : List UInt8} (hl : b.data.toList.drop pc = l) (h : pmqu 188 11 n l = true) : decode b pc = .ok (.newarray .long, n) := by
  refine pmqu_ok hl h fun x y h0 h1 e e1 => ?_
  unfold Decoder.instr
  rw [pm_bind, pm_u1 h0, e]
  show (Decoder.newarray pc).runAt b (pc + 1) = _
  unfold Decoder.newarray
  rw [pm_bind, pm_u1 h1, e1]
  rfl
def pmZq (n : Nat) (l : List UInt8) (i : Instr) : Bool := match i with
  | .aaload => pmq1 50 n l
  | .areturn => pmq1 176 n l
  | .arraylength => pmq1 190 n l
  | .athrow => pmq1 191 n l
  | .baload => pmq1 51 n l
  | .bastore => pmq1 84 n l
  | .dup => pmq1 89 n l
  | .dup_x1 => pmq1 90 n l
  | .dup2 => pmq1 92 n l
  | .i2b => pmq1 145 n l
  | .i2c => pmq1 146 n l
  | .i2l => pmq1 133 n l
  | .i2s => pmq1 147 n l
  | .iadd => pmq1 96 n l
  | .iaload => pmq1 46 n l
  | .iand => pmq1 126 n l
  | .iastore => pmq1 79 n l
  | .idiv => pmq1 108 n l
  | .imul => pmq1 104 n l
  | .ineg => pmq1 116 n l
  | .ior => pmq1 128 n l
  | .irem => pmq1 112 n l
  | .ireturn => pmq1 172 n l
  | .ishl => pmq1 120 n l
  | .ishr => pmq1 122 n l
  | .isub => pmq1 100 n l
  | .iushr => pmq1 124 n l
  | .ixor => pmq1 130 n l
  | .l2i => pmq1 136 n l
  | .ladd => pmq1 97 n l
  | .laload => pmq1 47 n l
  | .land => pmq1 127 n l
  | .lastore => pmq1 80 n l
  | .lcmp => pmq1 148 n l
  | .lmul => pmq1 105 n l
  | .lneg => pmq1 117 n l
  | .lor => pmq1 129 n l
  | .lreturn => pmq1 173 n l
  | .lshl => pmq1 121 n l
  | .lsub => pmq1 101 n l
  | .lushr => pmq1 125 n l
  | .lxor => pmq1 131 n l
  | .pop => pmq1 87 n l
  | .return_ => pmq1 177 n l
  | .aload_n k => pmq1 (42 + k.val) n l
  | .astore_n k => pmq1 (75 + k.val) n l
  | .iload_n k => pmq1 (26 + k.val) n l
  | .istore_n k => pmq1 (59 + k.val) n l
  | .lload_n k => pmq1 (30 + k.val) n l
  | .lstore_n k => pmq1 (63 + k.val) n l
  | .lconst k => pmq1 (9 + k.val) n l
  | .iconst k => match k with
    | .ofNat m => Nat.ble m 5 && pmq1 (3 + m) n l
    | .negSucc m => Nat.beq m 0 && pmq1 2 n l
  | .aload k => pmqu 25 k n l
  | .astore k => pmqu 58 k n l
  | .iload k => pmqu 21 k n l
  | .istore k => pmqu 54 k n l
  | .lload k => pmqu 22 k n l
  | .lstore k => pmqu 55 k n l
  | .ldc k => pmqu 18 k n l
  | .getfield k => pmqv 180 k n l
  | .putfield k => pmqv 181 k n l
  | .getstatic k => pmqv 178 k n l
  | .invokespecial k => pmqv 183 k n l
  | .invokestatic k => pmqv 184 k n l
  | .invokevirtual k => pmqv 182 k n l
  | .ldc_w k => pmqv 19 k n l
  | .ldc2_w k => pmqv 20 k n l
  | .new k => pmqv 187 k n l
  | .bipush k => pmqs 16 k n l
  | .goto k => pmqt 167 k n l
  | .sipush k => pmqt 17 k n l
  | .ifCond c k => match c with
    | .eq => pmqt 153 k n l
    | .ne => pmqt 154 k n l
    | .lt => pmqt 155 k n l
    | .ge => pmqt 156 k n l
    | .gt => pmqt 157 k n l
    | .le => pmqt 158 k n l
  | .if_icmp c k => match c with
    | .eq => pmqt 159 k n l
    | .ne => pmqt 160 k n l
    | .lt => pmqt 161 k n l
    | .ge => pmqt 162 k n l
    | .gt => pmqt 163 k n l
    | .le => pmqt 164 k n l
  | .iinc j k => pmqi 132 j k n l
  | .newarray c => match c with
    | .boolean => pmqu 188 4 n l
    | .char => pmqu 188 5 n l
    | .float => pmqu 188 6 n l
    | .double => pmqu 188 7 n l
    | .byte => pmqu 188 8 n l
    | .short => pmqu 188 9 n l
    | .int => pmqu 188 10 n l
    | .long => pmqu 188 11 n l
  | _ => false
theorem pmZq_ok {b : ByteArray} {pc n : Nat} {l : List UInt8} {i : Instr} (hl : b.data.toList.drop pc = l) (h : pmZq n l i = true) : decode b pc = .ok (i, n) := by
  cases i
  case aaload => exact pmo_aaload hl h
  case areturn => exact pmo_areturn hl h
  case arraylength => exact pmo_arraylength hl h
  case athrow => exact pmo_athrow hl h
  case baload => exact pmo_baload hl h
  case bastore => exact pmo_bastore hl h
  case dup => exact pmo_dup hl h
  case dup_x1 => exact pmo_dup_x1 hl h
  case dup2 => exact pmo_dup2 hl h
  case i2b => exact pmo_i2b hl h
  case i2c => exact pmo_i2c hl h
  case i2l => exact pmo_i2l hl h
  case i2s => exact pmo_i2s hl h
  case iadd => exact pmo_iadd hl h
  case iaload => exact pmo_iaload hl h
  case iand => exact pmo_iand hl h
  case iastore => exact pmo_iastore hl h
  case idiv => exact pmo_idiv hl h
  case imul => exact pmo_imul hl h
  case ineg => exact pmo_ineg hl h
  case ior => exact pmo_ior hl h
  case irem => exact pmo_irem hl h
  case ireturn => exact pmo_ireturn hl h
  case ishl => exact pmo_ishl hl h
  case ishr => exact pmo_ishr hl h
  case isub => exact pmo_isub hl h
  case iushr => exact pmo_iushr hl h
  case ixor => exact pmo_ixor hl h
  case l2i => exact pmo_l2i hl h
  case ladd => exact pmo_ladd hl h
  case laload => exact pmo_laload hl h
  case land => exact pmo_land hl h
  case lastore => exact pmo_lastore hl h
  case lcmp => exact pmo_lcmp hl h
  case lmul => exact pmo_lmul hl h
  case lneg => exact pmo_lneg hl h
  case lor => exact pmo_lor hl h
  case lreturn => exact pmo_lreturn hl h
  case lshl => exact pmo_lshl hl h
  case lsub => exact pmo_lsub hl h
  case lushr => exact pmo_lushr hl h
  case lxor => exact pmo_lxor hl h
  case pop => exact pmo_pop hl h
  case return_ => exact pmo_return_ hl h
  case aload_n k =>
    match k, h with
    | ⟨0, _⟩, h => exact pmo_aload_n0 hl h
    | ⟨1, _⟩, h => exact pmo_aload_n1 hl h
    | ⟨2, _⟩, h => exact pmo_aload_n2 hl h
    | ⟨3, _⟩, h => exact pmo_aload_n3 hl h
  case astore_n k =>
    match k, h with
    | ⟨0, _⟩, h => exact pmo_astore_n0 hl h
    | ⟨1, _⟩, h => exact pmo_astore_n1 hl h
    | ⟨2, _⟩, h => exact pmo_astore_n2 hl h
    | ⟨3, _⟩, h => exact pmo_astore_n3 hl h
  case iload_n k =>
    match k, h with
    | ⟨0, _⟩, h => exact pmo_iload_n0 hl h
    | ⟨1, _⟩, h => exact pmo_iload_n1 hl h
    | ⟨2, _⟩, h => exact pmo_iload_n2 hl h
    | ⟨3, _⟩, h => exact pmo_iload_n3 hl h
  case istore_n k =>
    match k, h with
    | ⟨0, _⟩, h => exact pmo_istore_n0 hl h
    | ⟨1, _⟩, h => exact pmo_istore_n1 hl h
    | ⟨2, _⟩, h => exact pmo_istore_n2 hl h
    | ⟨3, _⟩, h => exact pmo_istore_n3 hl h
  case lload_n k =>
    match k, h with
    | ⟨0, _⟩, h => exact pmo_lload_n0 hl h
    | ⟨1, _⟩, h => exact pmo_lload_n1 hl h
    | ⟨2, _⟩, h => exact pmo_lload_n2 hl h
    | ⟨3, _⟩, h => exact pmo_lload_n3 hl h
  case lstore_n k =>
    match k, h with
    | ⟨0, _⟩, h => exact pmo_lstore_n0 hl h
    | ⟨1, _⟩, h => exact pmo_lstore_n1 hl h
    | ⟨2, _⟩, h => exact pmo_lstore_n2 hl h
    | ⟨3, _⟩, h => exact pmo_lstore_n3 hl h
  case lconst k =>
    match k, h with
    | ⟨0, _⟩, h => exact pmo_lconst0 hl h
    | ⟨1, _⟩, h => exact pmo_lconst1 hl h
  case iconst k =>
    cases k with
    | ofNat m =>
      obtain ⟨h1, h⟩ := Bool.and_eq_true_iff.mp (show (Nat.ble m 5 && pmq1 (3 + m) n l) = true from h)
      have h1 := Nat.le_of_ble_eq_true h1
      match m, h1, h with
      | 0, _, h => exact pmo_iconst1 hl h
      | 1, _, h => exact pmo_iconst2 hl h
      | 2, _, h => exact pmo_iconst3 hl h
      | 3, _, h => exact pmo_iconst4 hl h
      | 4, _, h => exact pmo_iconst5 hl h
      | 5, _, h => exact pmo_iconst6 hl h
      | k + 6, h1, _ => omega
    | negSucc m =>
      obtain ⟨h1, h⟩ := Bool.and_eq_true_iff.mp (show (Nat.beq m 0 && pmq1 2 n l) = true from h)
      obtain rfl := Nat.eq_of_beq_eq_true h1
      exact pmo_iconst0 hl h
  case aload => exact pmo_aload hl h
  case astore => exact pmo_astore hl h
  case iload => exact pmo_iload hl h
  case istore => exact pmo_istore hl h
  case lload => exact pmo_lload hl h
  case lstore => exact pmo_lstore hl h
  case ldc => exact pmo_ldc hl h
  case getfield => exact pmo_getfield hl h
  case putfield => exact pmo_putfield hl h
  case getstatic => exact pmo_getstatic hl h
  case invokespecial => exact pmo_invokespecial hl h
  case invokestatic => exact pmo_invokestatic hl h
  case invokevirtual => exact pmo_invokevirtual hl h
  case ldc_w => exact pmo_ldc_w hl h
  case ldc2_w => exact pmo_ldc2_w hl h
  case new => exact pmo_new hl h
  case bipush => exact pmo_bipush hl h
  case goto => exact pmo_goto hl h
  case sipush => exact pmo_sipush hl h
  case ifCond c k =>
    cases c
    · exact pmo_ifCond_eq hl h
    · exact pmo_ifCond_ne hl h
    · exact pmo_ifCond_lt hl h
    · exact pmo_ifCond_ge hl h
    · exact pmo_ifCond_gt hl h
    · exact pmo_ifCond_le hl h
  case if_icmp c k =>
    cases c
    · exact pmo_if_icmp_eq hl h
    · exact pmo_if_icmp_ne hl h
    · exact pmo_if_icmp_lt hl h
    · exact pmo_if_icmp_ge hl h
    · exact pmo_if_icmp_gt hl h
    · exact pmo_if_icmp_le hl h
  case iinc => exact pmo_iinc hl h
  case newarray c =>
    cases c
    · exact pmo_newarray_boolean hl h
    · exact pmo_newarray_char hl h
    · exact pmo_newarray_float hl h
    · exact pmo_newarray_double hl h
    · exact pmo_newarray_byte hl h
    · exact pmo_newarray_short hl h
    · exact pmo_newarray_int hl h
    · exact pmo_newarray_long hl h
  all_goals exact (Bool.false_ne_true h).elim
def pmdr (n : Nat) (l : List UInt8) : List UInt8 := Nat.rec (motive := fun _ => List UInt8) l (fun _ ih => match ih with
  | [] => []
  | _ :: t => t) n
theorem pmdr_eq : ∀ (n : Nat) (l : List UInt8), pmdr n l = l.drop n
  | 0, _ => rfl
  | n + 1, l => by
    show (match pmdr n l with
      | [] => []
      | _ :: t => t) = _
    rw [pmdr_eq n l, ← List.drop_drop]
    cases l.drop n <;> rfl
/-- rows one behind the other, along the bytes -/
def pmEk (b : ByteArray) : List (Nat × Instr × Nat) → Nat → List UInt8 → Bool
  | [], _, _ => true
  | q :: t, p, l => Nat.ble p q.1 && (match pmdr (q.1 - p) l with
    | [] => false
    | x :: r => (pmZq q.2.2 (x :: r) q.2.1 || decide (decode b q.1 = .ok (q.2.1, q.2.2))) && pmEk b t q.1 (x :: r))
theorem pmEk_ok {b : ByteArray} : ∀ (rows : List (Nat × Instr × Nat)) (p : Nat), pmEk b rows p (b.data.toList.drop p) = true → ∀ q ∈ rows, decode b q.1 = .ok (q.2.1, q.2.2)
  | [], _, _, _, hq => by cases hq
  | r :: t, p, h, q, hq => by
    unfold pmEk at h
    obtain ⟨h1, h⟩ := Bool.and_eq_true_iff.mp h
    have h1 := Nat.le_of_ble_eq_true h1
    rw [pmdr_eq, List.drop_drop, show p + (r.1 - p) = r.1 by omega] at h
    cases hd : b.data.toList.drop r.1 with
    | nil =>
      rw [hd] at h
      cases h
    | cons x l =>
      rw [hd] at h
      obtain ⟨h2, h3⟩ := Bool.and_eq_true_iff.mp h
      rcases List.mem_cons.mp hq with rfl | hq
      · rcases Bool.or_eq_true_iff.mp h2 with h2 | h2
        · exact pmZq_ok hd h2
        · exact of_decide_eq_true h2
      · exact pmEk_ok t r.1 (by rw [hd]; exact h3) q hq
def pmEk1 (b : ByteArray) (t : List (List (Nat × Instr × Nat))) : Bool := pmEk b t.flatten 0 b.data.toList
theorem pmEk1_ok {b : ByteArray} {t : List (List (Nat × Instr × Nat))} (h : pmEk1 b t = true) : pmDok1 b t = true := by
  have h := pmEk_ok t.flatten 0 h
  exact List.all_eq_true.mpr fun c hc => List.all_eq_true.mpr fun q hq => decide_eq_true (h q (List.mem_flatten.mpr ⟨c, hc, hq⟩))
def pmEk2 (y : Nat) : Bool := match pmPT[y]? with
  | some me => pmEk1 (pmBy me.2.2.1) me.2.2.2.2.2.2.2
  | none => false
theorem pmEk2_ok {y : Nat} (h : pmEk2 y = true) : pmDok2 y = true := by
  unfold pmEk2 at h
  unfold pmDok2
  split at h
  · rename_i me hm
    rw [hm]
    exact pmEk1_ok h
  · cases h
def pmEok (a n : Nat) : Bool := (List.range n).all fun i => pmEk2 (a + i)
theorem pmEok_ok {a n : Nat} (h : pmEok a n = true) (y : Nat) (h1 : a ≤ y) (h2 : y < a + n) : pmDok2 y = true := by
  have := List.all_eq_true.mp h (y - a) (List.mem_range.mpr (by omega))
  rw [show a + (y - a) = y by omega] at this
  exact pmEk2_ok this
end
