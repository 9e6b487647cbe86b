/-! the executor -/
def k_eI (ret : Option FieldType) (S : kS) (kt : List kV) : Option (List kV) := match ret, kt with
  | some .int, [(0, e)] => some [(0, e)]
  | some .boolean, [(0, e)] => cond (k_fit S.1 S.2.1 0 1 e) (some [(0, e)]) none
  | some .byte, [(0, e)] => cond (k_fit S.1 S.2.1 (-128) 127 e) (some [(0, e)]) none
  | some .char, [(0, e)] => cond (k_fit S.1 S.2.1 0 65535 e) (some [(0, e)]) none
  | _, _ => none
def k_eJ (ret : Option FieldType) (kt : List kV) : Option (List kV) := match ret, kt with
  | some .long, [(1, e)] => some [(1, e)]
  | _, _ => none
def k_eA (ret : Option FieldType) (kt : List kV) : Option (List kV) := match ret, kt with
  | some (.array _), [(2, e)] => some [(2, e)]
  | _, _ => none
def k_eV (ret : Option FieldType) (kt : List kV) : Option (List kV) := match ret, kt with
  | none, [] => some []
  | _, _ => none
def k_end (ret : Option FieldType) (i : Instr) (S : kS) (kt : List kV) : Option (List kV) := match i with
  | .ireturn => k_eI ret S kt
  | .lreturn => k_eJ ret kt
  | .areturn => k_eA ret kt
  | .return_ => k_eV ret kt
  | _ => none
def k_fin (S : kS) (r : Nat × Int × Int) (w : List kV) : Bool := match r.1, w with
  | 0, [(0, e)] => k_fit S.1 S.2.1 r.2.1 r.2.2 e
  | 1, [(1, _)] => true
  | 2, [(2, e)] => k_eq e (kc r.2.1) && decide (0 ≤ r.2.1)
  | 3, [] => true
  | _, _ => false
def k_jmp (S : kS) (fs : List kFr) (dc rk : kE) (k : kK) : Bool := match k_mt k S fs with
  | some A => k_ge S.1 S.2.1 (k_sub dc (k_sb A k.2.2.1)) && (k_ge S.1 S.2.1 (k_sb A k.2.2.2) && k_ge S.1 S.2.1 (k_sub (k_sub rk (kc 1)) (k_sb A k.2.2.2)))
  | none => false
def k_here : List kFn → List kFr → Bool
  | [], [] => true
  | f :: t, g :: r => Nat.beq f.2.1 g.2.2.1 && (Nat.beq f.1 g.1 && k_here t r)
  | _, _ => false
def k_head (loops : List kK) (fs : List kFr) : Option kK := loops.find? (fun k => k_here k.2.1 fs)
def k_cl (D X : List kDe) (kd own idx : Nat) (S : kS) (kt : List kV) : Option (Nat × pmMe × List kV × List kV) := match pm_tl pmMT own idx with
  | none => none
  | some t => cond (Nat.beq t.1 9000 || Nat.beq t.1 9001) none (match pmPT[t.1]? with
    | none => none
    | some me => cond (Nat.beq me.2.2.2.2.2.1 kd && Nat.beq (kt.take me.2.2.2.2.2.2.1).reverse.length me.2.2.2.2.2.2.1)
      (cond (Nat.beq kd 0) (cond (Nat.ble (k_cat (kt.drop me.2.2.2.2.2.2.1)) 8) (some (t.1, me, (kt.take me.2.2.2.2.2.2.1).reverse, kt.drop me.2.2.2.2.2.2.1)) none)
        (match kt.drop me.2.2.2.2.2.2.1 with
        | (2, c) :: r => (match (match k_co D S.1 c with
            | some d => some d
            | none => k_ex X c) with
          | some d => cond (Nat.beq d.1 (16 + me.1) && Nat.ble (k_cat r) 8) (some (t.1, me, (2, c) :: (kt.take me.2.2.2.2.2.2.1).reverse, r)) none
          | none => none)
        | _ => none)) none)
def k_try (y : Nat) (S : kS) (fr : kFr) (dc : kE) (mods : List kMd) (ct : kCt) : Bool := (match ct.1.2.1 with
  | f :: _ => Nat.beq f.1 y
  | [] => false) && (match k_mt ct.1 S [fr] with
  | some A => k_ge S.1 S.2.1 (k_sub (k_sub dc (kc 1)) (k_sb A ct.1.2.2.1)) && (k_ge S.1 S.2.1 (k_sub dc (kc 1)) && k_rin ct.2.1.2 mods)
  | none => false)
def k_exe (D X : List kDe) (env : List kCt) (inl : Nat → Bool) (po : kPo) (loops : List kK) : Nat → kE → kE → Bool → kS → List kFr → Bool
  | 0, _, _, _, _, _ => false
  | f + 1, dc, rk, first, S, fs => match fs with
    | [] => false
    | g :: rest => match cond first none (k_head loops (g :: rest)) with
      | some k => k_jmp S (g :: rest) dc rk k
      | none => match pm_lk g.2.1.2.2.2.2.2.2.2 g.2.2.1 with
        | none => false
        | some q => match pm_inv q.1 with
          | some j => Nat.beq q.2 3 && (match k_cl D X j.1 g.2.1.1 j.2 S g.2.2.2.2 with
            | none => false
            | some z => Nat.ble (k_cat z.2.2.1) z.2.1.2.2.2.1 && (cond (inl z.1)
              (k_ge S.1 S.2.1 (k_sub dc (kc 1)) && k_exe D X env inl po loops f (k_sub dc (kc 1)) rk false S ((z.1, z.2.1, 0, k_args 0 z.2.2.1, []) :: (g.1, g.2.1, g.2.2.1, g.2.2.2.1, z.2.2.2) :: rest))
              (match env.find? (k_try z.1 S (z.1, z.2.1, 0, k_args 0 z.2.2.1, []) dc po.2) with
                | none => false
                | some ct => k_exe D X env inl po loops f dc rk false (k_pr (k_drop S ct.2.1.2) ct.2.1.1).2 ((g.1, g.2.1, g.2.2.1 + 3, g.2.2.2.1, (k_pr (k_drop S ct.2.1.2) ct.2.1.1).1 ++ z.2.2.2) :: rest))))
          | none => cond (pm_isr q.1)
            (Nat.beq q.2 1 && (match k_end g.2.1.2.2.2.2.1 q.1 S g.2.2.2.2 with
              | none => false
              | some w => (match rest with
                | [] => k_fin S po.1 w
                | g2 :: r2 => k_exe D X env inl po loops f (k_add dc (kc 1)) rk false S ((g2.1, g2.2.1, g2.2.2.1 + 3, g2.2.2.2.1, w ++ g2.2.2.2.2) :: r2))))
            (match k_stp D X po.2 S g.2.1.1 g.2.1.2.2.2.1 (Nat.beq g.2.1.2.2.2.2.2.1 2) q.1 q.2 g.2.2.1 g.2.2.2.1 g.2.2.2.2 with
              | none => false
              | some L => L.all (fun r => k_exe D X env inl po loops f dc rk false r.1 ((g.1, g.2.1, r.2.1, r.2.2.1, r.2.2.2) :: rest)))
section KEX
variable {E : pM} {N : Nat} {D X : List kDe} {σ : Nat → Int} {M : pM} {S : kS} {kt : List kV} {st : List Value}
theorem kI_char {x : Int32} (h1 : 0 ≤ x.toInt) (h2 : x.toInt ≤ 65535) : (vp_nar .char x == x) = true := by
  have : vp_nar .char x = x := by
    show (x.toUInt32 % 65536).toInt32 = x
    exact Int32.toInt_inj.mp ((kI_i2c x).2.2 h1 h2)
  rw [this]
  exact beq_self_eq_true x
theorem k_end_ok {ret : Option FieldType} {i : Instr} {w : List kV} (h : kRS N σ S M) (ht : kRT E S.1.length σ kt st) (hw : k_end ret i S kt = some w) : ∃ v, pm_end E ret i st = some v ∧ kRT E S.1.length σ w v.toList := by
  have one : ∀ {q : kV} {st : List Value}, kRT E S.1.length σ [q] st → ∃ v, st = [v] ∧ kRV E S.1.length σ q v := by
    intro q st ht
    obtain ⟨v, r, rfl, h1, h2⟩ := ht.cons
    match r, h2 with
    | [], _ => exact ⟨v, rfl, h1⟩
    | _ :: _, h2 => exact h2.elim
  cases i with
  | ireturn =>
    replace hw : k_eI ret S kt = some w := hw
    unfold k_eI at hw
    split at hw
    · obtain ⟨v, rfl, hv, x, rfl, hx⟩ := one ht
      cases hw
      exact ⟨some (.int x), rfl, ⟨⟨hv, x, rfl, hx⟩, trivial⟩⟩
    · rename_i e
      obtain ⟨v, rfl, hv, x, rfl, hx⟩ := one ht
      have h00 := pm_cs hw
      clear hw
      obtain ⟨h1, hw⟩ := h00
      cases hw
      have h1 := k_fit_ok h.2.1 h.2.2.1 h1
      have hx' : x.toInt = k_ev σ e := hx
      refine ⟨some (.int x), ?_, ⟨⟨hv, x, rfl, hx⟩, trivial⟩⟩
      show cond (x == 0 || x == 1) _ _ = _
      rcases kI_01 (x := x) (by omega) (by omega) with rfl | rfl <;> rfl
    · rename_i e
      obtain ⟨v, rfl, hv, x, rfl, hx⟩ := one ht
      have h00 := pm_cs hw
      clear hw
      obtain ⟨h1, hw⟩ := h00
      cases hw
      have h1 := k_fit_ok h.2.1 h.2.2.1 h1
      have hx' : x.toInt = k_ev σ e := hx
      refine ⟨some (.int x), ?_, ⟨⟨hv, x, rfl, hx⟩, trivial⟩⟩
      show cond (vp_nar .byte x == x) _ _ = _
      have : vp_nar .byte x = x := by
        rw [vp_nar_byte]
        exact Int32.toInt_inj.mp ((kI_i2b x).2.2 (by omega) (by omega))
      rw [this, beq_self_eq_true]
      rfl
    · rename_i e
      obtain ⟨v, rfl, hv, x, rfl, hx⟩ := one ht
      have h00 := pm_cs hw
      clear hw
      obtain ⟨h1, hw⟩ := h00
      cases hw
      have h1 := k_fit_ok h.2.1 h.2.2.1 h1
      have hx' : x.toInt = k_ev σ e := hx
      refine ⟨some (.int x), ?_, ⟨⟨hv, x, rfl, hx⟩, trivial⟩⟩
      show cond (vp_nar .char x == x) _ _ = _
      rw [kI_char (by omega) (by omega)]
      rfl
    · cases hw
  | lreturn =>
    replace hw : k_eJ ret kt = some w := hw
    unfold k_eJ at hw
    split at hw
    · obtain ⟨v, rfl, hv, x, rfl⟩ := one ht
      cases hw
      exact ⟨some (.long x), rfl, ⟨⟨hv, x, rfl⟩, trivial⟩⟩
    · cases hw
  | areturn =>
    replace hw : k_eA ret kt = some w := hw
    unfold k_eA at hw
    split at hw
    · obtain ⟨v, rfl, hv, x, rfl, hx, hx2⟩ := one ht
      cases hw
      refine ⟨some (.ref x), ?_, ⟨⟨hv, x, rfl, hx, hx2⟩, trivial⟩⟩
      show cond (Nat.blt x (pmX + E.length)) _ _ = _
      rw [show Nat.blt x (pmX + E.length) = true from Nat.ble_eq_true_of_le hx2]
      rfl
    · cases hw
  | return_ =>
    replace hw : k_eV ret kt = some w := hw
    unfold k_eV at hw
    split at hw
    · cases hw
      match st, ht with
      | [], _ => exact ⟨none, rfl, trivial⟩
    · cases hw
  | _ => cases hw
theorem k_fin_ok {r : Nat × Int × Int} {w : List kV} {v : Option Value} (h : kRS N σ S M) (hw : kRT E S.1.length σ w v.toList) (hf : k_fin S r w = true) : kRetV E r v := by
  obtain ⟨k, lo, hi⟩ := r
  unfold k_fin at hf
  split at hf
  · rename_i e hk
    have hk : k = 0 := hk
    subst hk
    cases v with
    | none => exact hw.elim
    | some v =>
      obtain ⟨⟨-, x, rfl, hx⟩, -⟩ := hw
      have := k_fit_ok h.2.1 h.2.2.1 hf
      have hx : x.toInt = k_ev σ e := hx
      have this : lo ≤ k_ev σ e ∧ k_ev σ e ≤ hi := this
      exact ⟨x, rfl, by show lo ≤ x.toInt; omega, by show x.toInt ≤ hi; omega⟩
  · rename_i e hk
    have hk : k = 1 := hk
    subst hk
    cases v with
    | none => exact hw.elim
    | some v =>
      obtain ⟨⟨-, x, rfl⟩, -⟩ := hw
      exact ⟨x, rfl⟩
  · rename_i e hk
    have hk : k = 2 := hk
    subst hk
    cases v with
    | none => exact hw.elim
    | some v =>
      obtain ⟨⟨-, x, rfl, hx, hx2⟩, -⟩ := hw
      obtain ⟨h1, h2⟩ := Bool.and_eq_true_iff.mp hf
      have h1 := k_eq_ok (σ := σ) h1
      rw [k_ev_c] at h1
      have h2 : 0 ≤ lo := of_decide_eq_true h2
      have hx : (x : Int) = k_ev σ e := hx
      have h1 : k_ev σ e = lo := h1
      have : lo.toNat = x := by omega
      refine ⟨?_, h2, ?_⟩
      · show some (Value.ref x) = some (.ref lo.toNat)
        rw [this]
      · show lo.toNat < _
        rw [this]
        exact hx2
  · rename_i hk
    have hk : k = 3 := hk
    subst hk
    cases v with
    | none => rfl
    | some v => exact hw.elim
  · cases hf
end KEX
