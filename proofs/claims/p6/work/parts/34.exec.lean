noncomputable section
/-! the executor -/
def k_eI (ret : Option FieldType) (S : kS) (kt : List kV) : Option (List kV) := match ret, kt with
  | some .int, [(0, e)] => some [(0, e)]
  | some .boolean, [(0, e)] => cond (k_fit S.1 S.2.1 0 1 e) (some [(0, e)]) none
  | some .byte, [(0, e)] => cond (k_fit S.1 S.2.1 (-128) 127 e) (some [(0, e)]) none
  | some .char, [(0, e)] => cond (k_fit S.1 S.2.1 0 65535 e) (some [(0, e)]) none
  | _, _ => none
def k_eJ (ret : Option FieldType) (kt : List kV) : Option (List kV) := match ret, kt with
  | some .long, [(1, e)] => some [(1, e)]
  | _, _ => none
def k_eA (ret : Option FieldType) (kt : List kV) : Option (List kV) := match ret, kt with
  | some (.array _), [(2, e)] => some [(2, e)]
  | _, _ => none
def k_eV (ret : Option FieldType) (kt : List kV) : Option (List kV) := match ret, kt with
  | none, [] => some []
  | _, _ => none
def k_end (ret : Option FieldType) (i : Instr) (S : kS) (kt : List kV) : Option (List kV) := match i with
  | .ireturn => k_eI ret S kt
  | .lreturn => k_eJ ret kt
  | .areturn => k_eA ret kt
  | .return_ => k_eV ret kt
  | _ => none
/-- the parameters' words -/
def k_pgh : Nat → List kE → kA
  | _, [] => []
  | i, g :: t => (i, g) :: k_pgh (i + 1) t
def k_fpa (A : kA) : Nat → List kE → Bool
  | _, [] => true
  | i, g :: t => k_eq (k_at A i) g && k_fpa A (i + 1) t
def k_rtw (S : kS) (w : List kV) (e : kE) (A : kA) : kA := match w with
  | [q] => k_gat S A e q.2
  | _ => A
def k_rtc (S : kS) (w : List kV) (kd : Nat) (e : kE) (A : kA) : Bool := match w with
  | [] => Nat.ble 3 kd
  | [q] => Nat.beq q.1 kd && (Nat.blt kd 3 && k_eqv S.1 S.2.1 (k_sb A e) q.2)
  | _ => false
def k_fing (D : kDD) (S : kS) (gh : List kE) (w : List kV) (al : kAl) : kA × kS := k_prP (k_gc D al.1.2.2.2 (k_rtw S w al.2.2 (k_pgh 0 gh), S)) (fun A S => k_fcA A (fun A => (A, S)))
theorem k_fing_eq (D : kDD) (S : kS) (gh : List kE) (w : List kV) (al : kAl) : k_fing D S gh w al = k_gc D al.1.2.2.2 (k_rtw S w al.2.2 (k_pgh 0 gh), S) := by
  unfold k_fing
  rw [k_prP_eq, k_fcA_eq]
def k_finc (gh : List kE) (w : List kV) (al : kAl) (r : kA × kS) : Bool := k_prB r (fun A S => k_wfA gh.length al && (k_eq (k_at A 0) (kv 0) && (k_fpa A 0 gh && (k_rtc S w al.2.1 al.2.2 A && k_fS A S al.1))))
def k_jmpc (fs : List kFr) (gh : List kE) (dc rk : kE) (k : kK) (r : kA × kS) : Bool := k_prB r (fun A S => k_mtc k fs (A, S) && (k_fg S A k.2.2.2.2.1 gh && (k_ge S.1 S.2.1 (k_sub dc (k_sb A k.2.2.1)) && (k_ge S.1 S.2.1 (k_sb A k.2.2.2.1) && k_ge S.1 S.2.1 (k_sub (k_sub rk (kc 1)) (k_sb A k.2.2.2.1))))))
def k_here : List kFn → List kFr → Bool
  | [], [] => true
  | f :: t, g :: r => Nat.beq f.2.1 g.2.2.1 && (Nat.beq f.1 g.1 && k_here t r)
  | _, _ => false
def k_cl (D : kDD) (X : List kDe) (kd own idx : Nat) (S : kS) (kt : List kV) : Option (Nat × pmMe × List kV × List kV) := match pm_tl pmMT own idx with
  | none => none
  | some t => cond (Nat.beq t.1 9000 || Nat.beq t.1 9001) none (match pmPT[t.1]? with
    | none => none
    | some me => cond (Nat.beq me.2.2.2.2.2.1 kd && Nat.beq (kt.take me.2.2.2.2.2.2.1).reverse.length me.2.2.2.2.2.2.1)
      (cond (Nat.beq kd 0) (cond (Nat.ble (k_cat (kt.drop me.2.2.2.2.2.2.1)) 8) (some (t.1, me, (kt.take me.2.2.2.2.2.2.1).reverse, kt.drop me.2.2.2.2.2.2.1)) none)
        (match kt.drop me.2.2.2.2.2.2.1 with
        | (2, c) :: r => (match (match k_co D S.1 c with
            | some d => some d
            | none => k_ex X c) with
          | some d => cond (Nat.beq d.1 (16 + me.1) && Nat.ble (k_cat r) 8) (some (t.1, me, (2, c) :: (kt.take me.2.2.2.2.2.2.1).reverse, r)) none
          | none => none)
        | _ => none)) none)
/-- a quick look: numbers that differ -/
def k_prv (p q : kE) : Bool := !(k_cst p && (k_cst q && !(decide (p.1 = q.1))))
def k_prf : List kFn → List kFr → Bool
  | f :: t, g :: r => f.2.2.1.all (fun q => match pm_lk g.2.2.2.1 q.1 with
    | some p => k_prv q.2.2 p.2
    | none => true) && k_prf t r
  | _, _ => true
def k_prc (S : kS) (C : List kH) : Bool := C.all (fun q => !(k_cst q.2 && (k_cst q.1.1 && k_cst q.1.2)) || (match k_find q.1.1 q.1.2 S.2.2.2 with
  | some v => k_prv q.2 v
  | none => true))
def k_pre (S : kS) (k : kK) (fs : List kFr) : Bool := k_prf k.2.1 fs && k_prc S k.1.2.2.2
def k_pra (S : kS) (w : List kV) (al : kAl) : Bool := (match w with
  | [q] => k_prv al.2.2 (k_nv S.1 q.2)
  | _ => true) && k_prc S al.1.2.2.2
def k_callc (dc : kE) (mods : List kMd) (fr : kFr) (ct : kCt) (r : kA × kS) : Option (kCt × kA × kS) := Prod.rec (motive := fun _ => Option (kCt × kA × kS)) (fun A S => cond (k_mtc ct.1 [fr] (A, S) && (k_ge S.1 S.2.1 (k_sub (k_sub dc (kc 1)) (k_sb A ct.1.2.2.1)) && (k_ge S.1 S.2.1 (k_sub dc (kc 1)) && k_rin ct.2.1.1 mods))) (some (ct, A, S)) none) r
theorem k_callc_eq (dc : kE) (mods : List kMd) (fr : kFr) (ct : kCt) (r : kA × kS) : k_callc dc mods fr ct r = cond (k_mtc ct.1 [fr] r && (k_ge r.2.1 r.2.2.1 (k_sub (k_sub dc (kc 1)) (k_sb r.1 ct.1.2.2.1)) && (k_ge r.2.1 r.2.2.1 (k_sub dc (kc 1)) && k_rin ct.2.1.1 mods))) (some (ct, r)) none := by
  cases r
  rfl
def k_en (env : List (List kCt)) (y : Nat) : List kCt := match env[y / 8]? with
  | some c => c
  | none => []
theorem k_en_in {env : List (List kCt)} {y : Nat} {ct : kCt} (h : ct ∈ k_en env y) : ct ∈ env.flatten := by
  unfold k_en at h
  split at h
  · rename_i c hc
    exact List.mem_flatten.mpr ⟨c, List.mem_of_getElem? hc, h⟩
  · cases h
def k_env (D : kDD) (env : List (List kCt)) (ix y : Nat) (S : kS) (fr : kFr) (dc : kE) (mods : List kMd) : Option (kCt × kA × kS) := (k_pck ix (k_en env y)).findSome? (fun ct => cond (match ct.1.2.1 with
  | f :: _ => Nat.beq f.1 y && k_pre S ct.1 [fr]
  | [] => false) (k_callc dc mods fr ct (k_mtg D ct.1 S [fr] [])) none)
/-- a stretch copied -/
def k_cpg (c d : kDe) : Option (kSg × kSg) := match c.2.2, d.2.2 with
  | [g], [h] => cond (Nat.beq g.1 0 && (Nat.beq h.1 0 && (Nat.ble c.2.1 g.2.1 && (Nat.beq g.2.2.1 h.2.2.1 && (k_leq g.2.2.2 h.2.2.2 && g.2.2.2.all (fun q => (Nat.beq q.1 0 || Nat.beq q.1 1) && (!(Nat.beq c.1 3) || (Nat.beq q.1 0 && (decide (0 ≤ q.2.1) && decide (q.2.2 ≤ 1)))))))))) (some (g, h)) none
  | _, _ => none
def k_rec (S : kS) (a : kE) (n : Nat) : List kMd := [(((k_lo S.1 a).toNat, (k_hi S.1 a).toNat), (0, n))]
/-- what the row copied is known to be like, the copy is -/
def k_cp9 (a b : kE) (q : kH) : List kH := cond (decide (q.1.1.1 < 0) && (k_cst q.1.1 && (k_vok q.1.1 && Nat.beq (k_vi q.1.1) 9))) (match k_rlw q.1.1 with
  | some r => cond (decide (r.1.1 = b.1) && !(decide (r.2.1.1 = a.1))) (kRel.zipIdx.filterMap (fun z => cond (decide (z.1.1.1 = a.1) && (decide (z.1.1.2 = r.1.2) && decide (z.1.2 = r.2))) (some ((kc (-9 - 16 * (z.2 : Int)), q.1.2), q.2)) none)) []
  | none => []) []
def k_cpm (S : kS) (n dp a sp b : kE) (c d : kDe) : List kH := cond (k_cst a && (k_cst b && (k_eq n (kc (d.2.1 : Int)) && (Nat.beq c.2.1 d.2.1 && (k_eq sp (kc 0) && k_eq dp (kc 0)))))) (S.2.2.2.flatMap (k_cp9 a b)) []
def k_adl (S : kS) (l : List kH) : kS := (S.1, S.2.1, S.2.2.1, l ++ S.2.2.2)
def k_cpy (D : kDD) (mods : List kMd) (S : kS) (kt : List kV) : Option (kS × List kV) := match kt with
  | (0, n) :: (0, dp) :: (2, a) :: (0, sp) :: (2, b) :: r => (match k_co D S.1 b, k_co D S.1 a with
    | some c, some d => (match k_cpg c d with
      | some gh => cond ((Nat.beq c.1 d.1 && (Nat.beq c.1 0 || (Nat.beq c.1 1 || Nat.beq c.1 3))) && ((k_ge S.1 S.2.1 n && (k_ge S.1 S.2.1 dp && k_ge S.1 S.2.1 sp)) && ((k_ge S.1 S.2.1 (k_sub (kc (c.2.1 : Int)) (k_add sp n)) && k_ge S.1 S.2.1 (k_sub (kc (d.2.1 : Int)) (k_add dp n))) && (Nat.ble (k_cat r) 8 && ((k_eq sp dp || Nat.beq gh.1.2.2.1 1) && k_rin (k_rec S a (d.2.1 - 1)) mods))))) (some (k_adl (k_drop S (k_rec S a (d.2.1 - 1))) (k_cpm S n dp a sp b c d), r)) none
      | none => none)
    | _, _ => none)
  | _ => none
def k_cp (D : kDD) (mods : List kMd) (kd own idx : Nat) (S : kS) (kt : List kV) : Option (kS × List kV) := match pm_tl pmMT own idx with
  | some t => cond (!(Nat.beq t.1 9000) && (Nat.beq t.1 9001 && Nat.beq kd 0)) (k_cpy D mods S kt) none
  | none => none
/-- a comparison of longs and the branch on it -/
def k_fu (me : pmMe) (pc : Nat) (q : Instr × Nat) : Option (ClassFile.Cond × Int) := match q with
  | (.lcmp, 1) => (match pm_lc me.2.2.2.2.2.2.2 (pc + 1) with
    | some (.ifCond c off, 3) => cond (decide (0 ≤ ((pc + 1 : Nat) : Int) + off)) (some (c, off)) none
    | _ => none)
  | _ => none
def k_fus (S : kS) (u : ClassFile.Cond × Int) (pc : Nat) (kl : kLs) (kt : List kV) : Option (List kR) := k_bj (fun x y t => some (k_br S u.1 (k_sub x y) (((pc + 1 : Nat) : Int) + u.2).toNat (pc + 1 + 3) kl t)) kt
def k_one (D : kDD) (X : List kDe) (mods : List kMd) (S : kS) (y : Nat) (me : pmMe) (q : Instr × Nat) (pc : Nat) (kl : kLs) (kt : List kV) : Option (List kR) := match k_fu me pc q with
  | some u => k_fus S u pc kl kt
  | none => match k_luf S me q pc kl kt with
    | some L => some L
    | none => cond (k_spp y pc) (k_spl2 S q pc kl kt) (k_stp D X mods S me.1 me.2.2.2.1 (Nat.beq me.2.2.2.2.2.1 2) q.1 q.2 pc kl kt)
/-- the templates of a place, by the top frame's pc -/
def k_lps (t : kLt) (pc : Nat) : List kK := match pm_lc t pc with
  | some l => l
  | none => []
def k_flt (t : kLt) : List kK := t.flatten.flatMap (fun q => q.2)
theorem k_lps_in {t : kLt} {pc : Nat} {k : kK} (h : k ∈ k_lps t pc) : k ∈ k_flt t := by
  unfold k_lps at h
  split at h
  · rename_i l hl
    unfold pm_lc at hl
    split at hl
    · rename_i c hc
      exact List.mem_flatMap.mpr ⟨(pc, l), List.mem_flatten.mpr ⟨c, List.mem_of_getElem? hc, pm_lk_mem hl⟩, h⟩
    · cases hl
  · cases h
def k_exe (D : kDD) (X : List kDe) (env : List (List kCt)) (inl : Nat → Bool) (H : List (Nat × Nat)) (po : kPo) (loops : kLt) (gh : List kE) : Nat → Nat → kE → kE → Bool → kS → List kFr → Bool
  | 0, _, _, _, _, _, _ => false
  | f + 1, pn, dc, rk, first, S, fs => match fs with
    | [] => false
    | g :: rest => cond (!first && (k_lps loops g.2.2.1).any (fun k => k_here k.2.1 (g :: rest))) (match k_adx H pn f S with
        | none => true
        | some S1 => (k_pck (k_hix H pn f) (k_lps loops g.2.2.1)).any (fun k => k_here k.2.1 (g :: rest) && (k_pre S1 k (g :: rest) && k_jmpc (g :: rest) gh dc rk k (k_mtg D k S1 (g :: rest) gh))) || k_dead S1.1 S1.2.1)
      (cond (Nat.beq (k_hnk H pn f) 8) (k_fcS S (fun S => (k_pck (k_hix H pn f) (k_lps loops (Nat.add g.2.2.1 4096))).any (fun k => k_here k.2.1 (g :: rest) && (k_pre S k (g :: rest) && k_jmpc (g :: rest) gh dc rk k (k_mtg D k (k_nma S) (g :: rest) gh)))))
      (match pm_lc g.2.1.2.2.2.2.2.2.2 g.2.2.1 with
        | none => false
        | some q => match pm_inv q.1 with
          | some j => Nat.beq q.2 3 && (match k_cp D po.1 j.1 g.2.1.1 j.2 S g.2.2.2.2 with
            | some z => k_exe D X env inl H po loops gh f pn dc rk false z.1 ((g.1, g.2.1, g.2.2.1 + 3, g.2.2.2.1, z.2) :: rest)
            | none => match k_cl D X j.1 g.2.1.1 j.2 S g.2.2.2.2 with
              | none => false
              | some z => Nat.ble (k_cat z.2.2.1) z.2.1.2.2.2.1 && (cond (inl z.1)
                (k_ge S.1 S.2.1 (k_sub dc (kc 1)) && k_exe D X env inl H po loops gh f pn (k_sub dc (kc 1)) rk false S ((z.1, z.2.1, 0, k_args 0 z.2.2.1, []) :: (g.1, g.2.1, g.2.2.1, g.2.2.2.1, z.2.2.2) :: rest))
                (match k_adx H pn f S with
                  | none => true
                  | some S1 => match k_env D env (k_hix H pn f) z.1 S1 (z.1, z.2.1, 0, k_args 0 z.2.2.1, []) dc po.1 with
                  | none => false
                  | some r => k_al1 pn r.1.2.1.2 (fun pn al => match k_aft (k_drop r.2.2 r.1.2.1.1) r.2.1 r.1.1.2.2.2.2.1 al with
                    | none => false
                    | some G => G.all (fun z2 => k_fcS z2.2 (fun S2 => k_exe D X env inl H po loops gh f pn dc rk false S2 ((g.1, g.2.1, g.2.2.1 + 3, g.2.2.2.1, z2.1 ++ z.2.2.2) :: rest)))))))
          | none => cond (pm_isr q.1)
            (match k_vcl S with
              | none => true
              | some S1 => Nat.beq q.2 1 && (match k_end g.2.1.2.2.2.2.1 q.1 S1 g.2.2.2.2 with
                | none => false
                | some w => (match rest with
                  | [] => (match k_adx H pn f S1 with
                    | none => true
                    | some S2 => (k_pck (k_hix H pn f) po.2).any (fun al => k_pra S2 w al && k_finc gh w al (k_fing D S2 gh w al)) || k_dead S2.1 S2.2.1)
                  | g2 :: r2 => k_exe D X env inl H po loops gh f pn (k_add dc (kc 1)) rk false S1 ((g2.1, g2.2.1, g2.2.2.1 + 3, g2.2.2.2.1, w ++ g2.2.2.2.2) :: r2))))
            (match k_adr H pn f q.1 S with
              | none => true
              | some S1 => match k_one D X po.1 S1 g.1 g.2.1 q g.2.2.1 g.2.2.2.1 g.2.2.2.2 with
              | none => false
              | some L => k_al1 pn L (fun pn r => k_exe D X env inl H po loops gh f pn dc rk false r.1 ((g.1, g.2.1, r.2.1, r.2.2.1, r.2.2.2) :: rest)))))
section KEX
variable {E : pM} {N : kN} {D : kDD} {X : List kDe} {σ : Nat → Int} {M : pM} {S : kS} {kt : List kV} {st : List Value}
theorem kI_char {x : Int32} (h1 : 0 ≤ x.toInt) (h2 : x.toInt ≤ 65535) : (vp_nar .char x == x) = true := by
  have : vp_nar .char x = x := by
    show (x.toUInt32 % 65536).toInt32 = x
    exact Int32.toInt_inj.mp ((kI_i2c x).2.2 h1 h2)
  rw [this]
  exact beq_self_eq_true x
theorem k_end_ok {ret : Option FieldType} {i : Instr} {w : List kV} (h : kRS N σ S M) (ht : kRT E S.1.length σ kt st) (hw : k_end ret i S kt = some w) : ∃ v, pm_end E ret i st = some v ∧ kRT E S.1.length σ w v.toList := by
  have one : ∀ {q : kV} {st : List Value}, kRT E S.1.length σ [q] st → ∃ v, st = [v] ∧ kRV E S.1.length σ q v := by
    intro q st ht
    obtain ⟨v, r, rfl, h1, h2⟩ := ht.cons
    match r, h2 with
    | [], _ => exact ⟨v, rfl, h1⟩
    | _ :: _, h2 => exact h2.elim
  cases i with
  | ireturn =>
    replace hw : k_eI ret S kt = some w := hw
    unfold k_eI at hw
    split at hw
    · obtain ⟨v, rfl, hv, x, rfl, hx⟩ := one ht
      cases hw
      exact ⟨some (.int x), rfl, ⟨⟨hv, x, rfl, hx⟩, trivial⟩⟩
    · rename_i e
      obtain ⟨v, rfl, hv, x, rfl, hx⟩ := one ht
      have h00 := pm_cs hw
      clear hw
      obtain ⟨h1, hw⟩ := h00
      cases hw
      have h1 := k_fit_ok h.2.1 h.2.2.1 h1
      have hx' : x.toInt = k_ev σ e := hx
      refine ⟨some (.int x), ?_, ⟨⟨hv, x, rfl, hx⟩, trivial⟩⟩
      show cond (x == 0 || x == 1) _ _ = _
      rcases kI_01 (x := x) (by omega) (by omega) with rfl | rfl <;> rfl
    · rename_i e
      obtain ⟨v, rfl, hv, x, rfl, hx⟩ := one ht
      have h00 := pm_cs hw
      clear hw
      obtain ⟨h1, hw⟩ := h00
      cases hw
      have h1 := k_fit_ok h.2.1 h.2.2.1 h1
      have hx' : x.toInt = k_ev σ e := hx
      refine ⟨some (.int x), ?_, ⟨⟨hv, x, rfl, hx⟩, trivial⟩⟩
      show cond (vp_nar .byte x == x) _ _ = _
      have : vp_nar .byte x = x := by
        rw [vp_nar_byte]
        exact Int32.toInt_inj.mp ((kI_i2b x).2.2 (by omega) (by omega))
      rw [this, beq_self_eq_true]
      rfl
    · rename_i e
      obtain ⟨v, rfl, hv, x, rfl, hx⟩ := one ht
      have h00 := pm_cs hw
      clear hw
      obtain ⟨h1, hw⟩ := h00
      cases hw
      have h1 := k_fit_ok h.2.1 h.2.2.1 h1
      have hx' : x.toInt = k_ev σ e := hx
      refine ⟨some (.int x), ?_, ⟨⟨hv, x, rfl, hx⟩, trivial⟩⟩
      show cond (vp_nar .char x == x) _ _ = _
      rw [kI_char (by omega) (by omega)]
      rfl
    · cases hw
  | lreturn =>
    replace hw : k_eJ ret kt = some w := hw
    unfold k_eJ at hw
    split at hw
    · obtain ⟨v, rfl, hv, x, rfl, hx⟩ := one ht
      cases hw
      exact ⟨some (.long x), rfl, ⟨⟨hv, x, rfl, hx⟩, trivial⟩⟩
    · cases hw
  | areturn =>
    replace hw : k_eA ret kt = some w := hw
    unfold k_eA at hw
    split at hw
    · obtain ⟨v, rfl, hv, x, rfl, hx, hx2⟩ := one ht
      cases hw
      refine ⟨some (.ref x), ?_, ⟨⟨hv, x, rfl, hx, hx2⟩, trivial⟩⟩
      show cond (Nat.blt x (pmX + E.length)) _ _ = _
      rw [show Nat.blt x (pmX + E.length) = true from Nat.ble_eq_true_of_le hx2]
      rfl
    · cases hw
  | return_ =>
    replace hw : k_eV ret kt = some w := hw
    unfold k_eV at hw
    split at hw
    · cases hw
      match st, ht with
      | [], _ => exact ⟨none, rfl, trivial⟩
    · cases hw
  | _ => cases hw
end KEX
end
