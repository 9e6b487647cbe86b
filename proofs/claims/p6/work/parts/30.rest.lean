noncomputable section
section KRE
variable {E : pM} {N : kN} {mods : List kMd} {D : kDD} {X : List kDe} {σ : Nat → Int} {M : pM} {S : kS} {kl : kLs} {kt : List kV} {ls : pL} {st : List Value} {pc : Nat} {L : List kR}
/-- a field written -/
def k_pw1 (mods : List kMd) (S : kS) (kd : Nat) (c v : kE) (k : Nat) (d : kDe) (pc : Nat) (kl : kLs) (r : List kV) : Option (List kR) := match k_wro mods S c (kc (k : Int)) d v kd with
  | some T => k_1 T (pc + 3) kl r
  | none => none
def k_pwf (mods : List kMd) (S : kS) (kd : Nat) (ty : FieldType) (c v : kE) (k : Nat) (d : kDe) (pc : Nat) (kl : kLs) (r : List kV) : Option (List kR) := match kd, ty with
  | 0, .int => k_pw1 mods S 0 c v k d pc kl r
  | 0, .boolean => cond (k_fit S.1 S.2.1 0 1 v) (k_pw1 mods S 0 c v k d pc kl r) none
  | 1, .long => k_pw1 mods S 1 c v k d pc kl r
  | _, _ => none
def k_putf (D : kDD) (mods : List kMd) (S : kS) (ct : Bool) (own idx pc : Nat) (kl : kLs) (kt : List kV) : Option (List kR) := match pm_tl pmFT own idx, kt with
  | some t, (kd, v) :: (2, c) :: r => (match k_co D S.1 c with
    | some d => cond (Nat.beq d.1 (16 + t.1) && Nat.blt t.2.1 d.2.1 && pm_fin ct own t.1 t.2.1) (k_pwf mods S kd (pmTy t.1 t.2.1) c v t.2.1 d pc kl r) none
    | none => none)
  | _, _ => none
theorem kTy_big {n : Nat} {v : Value} (h : 4 ≤ n) : kTy n v := by
  obtain ⟨m, rfl⟩ : ∃ m, n = m + 4 := ⟨n - 4, by omega⟩
  exact trivial
theorem kI_01 {x : Int32} (h1 : 0 ≤ x.toInt) (h2 : x.toInt ≤ 1) : x = 0 ∨ x = 1 := by
  by_cases h : x.toInt = 0
  · exact Or.inl (Int32.toInt_inj.mp (h.trans Int32.toInt_zero.symm))
  · refine Or.inr (Int32.toInt_inj.mp ?_)
    rw [show (1 : Int32).toInt = 1 from rfl]
    omega
theorem k_putf_ok {ct : Bool} {own idx : Nat} (hD : D.1 ≤ pmX) (h : kRS N σ S M) (hM : kMem D M) (hl : kRL E S.1.length σ kl ls) (ht : kRT E S.1.length σ kt st) (hL : k_putf D mods S ct own idx pc kl kt = some L) : kTo E N mods D S.1.length σ M L (pm_putf E ct own idx pc ls st M) := by
  unfold k_putf at hL
  split at hL
  · rename_i t kd v c rk hti
    obtain ⟨w, r0, rfl, hw, h0⟩ := ht.cons
    obtain ⟨a, r, rfl, s2, e2, hlt, hr⟩ := h0.rf
    split at hL
    · rename_i d hd
      have h00 := pm_cs hL
      clear hL
      obtain ⟨h1, hL⟩ := h00
      simp only [Bool.and_eq_true] at h1
      obtain ⟨⟨h1, h2⟩, h4⟩ := h1
      obtain ⟨q, f1, f2, f3, f4, f5⟩ := k_own_ok (E := E) hD h hM e2 hd
      have hlen : t.2.1 < q.2.length := by rw [f2.2.1]; exact pm_blt h2
      have hblt : Nat.blt t.2.1 q.2.length = true := Nat.ble_eq_true_of_le hlen
      have htyw : kTy d.1 w := kTy_big (by rw [pm_beq h1]; omega)
      have hgo : ∀ u : Value, pm_fits E (pmTy t.1 t.2.1) u = true → pm_putf E ct own idx pc ls (u :: .ref a :: r) M = some (pc + 3, ls, r, pm_put M a t.2.1 q u) := by
        intro u hu
        unfold pm_putf
        simp only [hti, f1, f2.1, h1, hblt, hu, h4, Bool.and_true, cond_true]
        rfl
      have put1 : ∀ k : Nat, kNum w (k_ev σ v) → kKd k w → pm_fits E (pmTy t.1 t.2.1) w = true → k_pw1 mods S k c v t.2.1 d pc kl rk = some L → kSc S.1.length v → kTo E N mods D S.1.length σ M L (pm_putf E ct own idx pc ls (w :: .ref a :: r) M) := by
        intro k hn hk hfit hL sv
        unfold k_pw1 at hL
        split at hL
        · rename_i T hT
          cases hL
          obtain ⟨g1, g2, g3, g4⟩ := k_wro_ok (w := w) (j := t.2.1) h hM s2 kSc_c sv e2 (by rw [k_ev_c]) f1 f3 hlen htyw hn hk hT
          exact ⟨_, hgo _ hfit, _, List.mem_singleton.mpr rfl, σ, fun _ _ => rfl, by rw [g1]; exact Nat.le_refl _, g2, rfl, by rw [g1]; exact hl, by rw [g1]; exact hr, g4, g3⟩
        · cases hL
      unfold k_pwf at hL
      split at hL
      · rename_i hty
        obtain ⟨sv, x, rfl, ex⟩ := hw
        exact put1 0 (Or.inl ⟨x, rfl, ex⟩) (Or.inl ⟨rfl, x, rfl⟩) (by rw [hty]; rfl) hL sv
      · rename_i hty
        obtain ⟨h5, hL⟩ := pm_cs hL
        have h5 := k_fit_ok h.2.1 h.2.2.1 h5
        obtain ⟨sv, x, rfl, ex⟩ := hw
        have ex : x.toInt = k_ev σ v := ex
        refine put1 0 (Or.inl ⟨x, rfl, ex⟩) (Or.inl ⟨rfl, x, rfl⟩) ?_ hL sv
        rw [hty]
        rcases kI_01 (x := x) (by omega) (by omega) with rfl | rfl <;> rfl
      · rename_i hty
        obtain ⟨sv, x, rfl, ex⟩ := hw
        exact put1 1 (Or.inr ⟨x, rfl, ex⟩) (Or.inr ⟨rfl, x, rfl⟩) (by rw [hty]; rfl) hL sv
      · cases hL
    · cases hL
  · cases hL
/-- constants -/
def k_val (X : List kDe) (v : Value) : Option kV := match v with
  | .int x => some (0, kc x.toInt)
  | .long x => some (1, kc x.toInt)
  | .ref k => cond (Nat.blt k (pmX + X.length + 1)) (some (2, kc (k : Int))) (some (3, kc 0))
  | _ => none
theorem k_val_ok {v : Value} {q : kV} {n : Nat} (hX : kExt X N E) (h : k_val X v = some q) : kRV E n σ q v := by
  unfold k_val at h
  split at h
  · cases h
    exact ⟨kSc_c, _, rfl, by rw [k_ev_c]⟩
  · cases h
    exact ⟨kSc_c, _, rfl, by rw [k_ev_c]⟩
  · rename_i k
    cases hb : Nat.blt k (pmX + X.length + 1) with
    | true =>
      rw [hb, cond_true] at h
      cases h
      have := pm_blt hb
      exact ⟨kSc_c, k, rfl, by rw [k_ev_c], by rw [hX.1]; omega⟩
    | false =>
      rw [hb, cond_false] at h
      cases h
      exact ⟨kSc_c, k, rfl⟩
  · cases h
def k_gets (X : List kDe) (S : kS) (own j pc : Nat) (kl : kLs) (kt : List kV) : Option (List kR) := match pm_stat own j with
  | some v => (match k_val X v with
    | some q => k_1 S (pc + 3) kl (q :: kt)
    | none => none)
  | none => none
theorem k_gets_ok {own j : Nat} (hX : kExt X N E) (h : kRS N σ S M) (hM : kMem D M) (hl : kRL E S.1.length σ kl ls) (ht : kRT E S.1.length σ kt st) (hL : k_gets X S own j pc kl kt = some L) : kTo E N mods D S.1.length σ M L (pm_gets own j pc ls st M) := by
  unfold k_gets at hL
  split at hL
  · rename_i v hv
    split at hL
    · rename_i q hq
      refine ⟨(pc + 3, ls, v :: st, M), ?_, kNx.one (kt := q :: kt) (st := v :: st) h hM hl ⟨k_val_ok hX hq, ht⟩ hL⟩
      unfold pm_gets
      simp only [hv]
      rfl
    · cases hL
  · cases hL
def k_ldc (X : List kDe) (S : kS) (own j n pc : Nat) (kl : kLs) (kt : List kV) : Option (List kR) := match pm_tl pmKT own j with
  | some v => (match k_val X v.1 with
    | some q => cond (Nat.beq q.1 n || (Nat.beq n 0 && Nat.beq q.1 2)) (k_1 S pc kl (q :: kt)) none
    | none => none)
  | none => none
theorem k_ldc_ok {own j : Nat} (hX : kExt X N E) (h : kRS N σ S M) (hM : kMem D M) (hl : kRL E S.1.length σ kl ls) (ht : kRT E S.1.length σ kt st) (hL : k_ldc X S own j 0 (pc + 2) kl kt = some L) : kTo E N mods D S.1.length σ M L (pm_ldc E own j pc ls st M) := by
  unfold k_ldc at hL
  split at hL
  · rename_i v hv
    split at hL
    · rename_i q hq
      obtain ⟨h1, hL⟩ := pm_cs hL
      have hr : kRV E S.1.length σ q v.1 := k_val_ok hX hq
      refine ⟨(pc + 2, ls, v.1 :: st, M), ?_, kNx.one (kt := q :: kt) (st := v.1 :: st) h hM hl ⟨hr, ht⟩ hL⟩
      have : (pm_isI v.1 || pm_isA E v.1) = true := by
        simp only [Bool.or_eq_true, Bool.and_eq_true] at h1 ⊢
        rcases h1 with h1 | h1
        · exact Or.inl (hr.2.isI (pm_beq h1))
        · exact Or.inr (hr.2.isA (pm_beq h1.2))
      unfold pm_ldc
      simp only [hv, this, cond_true]
      rfl
    · cases hL
  · cases hL
def k_ldk (S : kS) (own j n pc : Nat) (kl : kLs) (kt : List kV) : Option (List kR) := match pm_tl pmKT own j with
  | some (.int x, _) => cond (Nat.beq n 0) (k_1 S pc kl ((0, kc x.toInt) :: kt)) none
  | some (.long x, _) => cond (Nat.beq n 1) (k_1 S pc kl ((1, kc x.toInt) :: kt)) none
  | _ => none
theorem k_ldkw_ok {own j : Nat} (h : kRS N σ S M) (hM : kMem D M) (hl : kRL E S.1.length σ kl ls) (ht : kRT E S.1.length σ kt st) (hL : k_ldk S own j 0 (pc + 3) kl kt = some L) : kTo E N mods D S.1.length σ M L (pm_ldcw own j pc ls st M) := by
  unfold k_ldk at hL
  split at hL
  · rename_i x p hv
    obtain ⟨-, hL⟩ := pm_cs hL
    refine ⟨(pc + 3, ls, .int x :: st, M), ?_, kNx.cst h hM hl ht rfl hL⟩
    unfold pm_ldcw
    simp only [hv]
    rfl
  · obtain ⟨h1, -⟩ := pm_cs hL
    cases h1
  · cases hL
theorem k_ldk2_ok {own j : Nat} (h : kRS N σ S M) (hM : kMem D M) (hl : kRL E S.1.length σ kl ls) (ht : kRT E S.1.length σ kt st) (hL : k_ldk S own j 1 (pc + 3) kl kt = some L) : kTo E N mods D S.1.length σ M L (pm_ldc2 own j pc ls st M) := by
  unfold k_ldk at hL
  split at hL
  · obtain ⟨h1, -⟩ := pm_cs hL
    cases h1
  · rename_i x p hv
    obtain ⟨-, hL⟩ := pm_cs hL
    refine ⟨(pc + 3, ls, .long x :: st, M), ?_, kNx.lng h hM hl ht kSc_c (by rw [k_ev_c]) hL⟩
    unfold pm_ldc2
    simp only [hv]
    rfl
  · cases hL
/-- a switch -/
def k_sel (S : kS) (c : ClassFile.Cond) (e : kE) (tgt : Nat) (kl : kLs) (t : List kV) : List kR := match k_cn S c e with
  | some T => [(T, tgt, kl, t)]
  | none => []
theorem k_sel_ok {c : ClassFile.Cond} {e : kE} {tgt : Nat} {Ls : List kR} (h : kRS N σ S M) (hM : kMem D M) (hl : kRL E S.1.length σ kl ls) (ht : kRT E S.1.length σ kt st) (hs : kSc S.1.length e) (hc : k_cT c (k_ev σ e)) (hin : ∀ r ∈ k_sel S c e tgt kl kt, r ∈ Ls) : kNx E N mods D S.1.length σ M Ls (tgt, ls, st, M) := by
  obtain ⟨T, h1, h2, h3⟩ := k_cn_ok h hs hc
  refine ⟨(T, tgt, kl, kt), hin _ ?_, σ, fun _ _ => rfl, by rw [h2]; exact Nat.le_refl _, h3, rfl, by rw [h2]; exact hl, by rw [h2]; exact ht, kSame.rf, hM⟩
  unfold k_sel
  rw [h1]
  exact List.mem_singleton.mpr rfl
def k_swl (S : kS) (x : kE) (pc : Nat) (kl : kLs) (t : List kV) : Int → List Int → List kR
  | _, [] => []
  | v, o :: os => k_sel S .eq (k_sub x (kc v)) ((pc : Int) + o).toNat kl t ++ k_swl S x pc kl t (v + 1) os
theorem k_swl_in {x : kE} {t : List kV} : ∀ (os : List Int) (v : Int) (i : Nat) (o : Int), os[i]? = some o → ∀ r ∈ k_sel S .eq (k_sub x (kc (v + (i : Int)))) ((pc : Int) + o).toNat kl t, r ∈ k_swl S x pc kl t v os
  | [], _, _, _, h, _, _ => by cases h
  | o' :: os, v, 0, o, h, r, hr => by
    cases h
    unfold k_swl
    rw [show v + ((0 : Nat) : Int) = v by omega] at hr
    exact List.mem_append_left _ hr
  | o' :: os, v, i + 1, o, h, r, hr => by
    unfold k_swl
    refine List.mem_append_right _ (k_swl_in os (v + 1) i o h r ?_)
    rw [show v + 1 + (i : Int) = v + ((i + 1 : Nat) : Int) by omega]
    exact hr
def k_sw (S : kS) (pc : Nat) (d lo hi : Int) (offs : Array Int) (kl : kLs) (kt : List kV) : Option (List kR) := k_un (fun x t => cond (decide (0 ≤ (pc : Int) + d) && offs.toList.all (fun o => decide (0 ≤ (pc : Int) + o)) && decide (hi - lo < (offs.toList.length : Int)))
  (some (k_sel S .lt (k_sub x (kc lo)) ((pc : Int) + d).toNat kl t ++ (k_sel S .gt (k_sub x (kc hi)) ((pc : Int) + d).toNat kl t ++ k_swl S x pc kl t lo offs.toList))) none) kt
theorem k_sw_ok {d lo hi : Int} {offs : Array Int} (h : kRS N σ S M) (hM : kMem D M) (hl : kRL E S.1.length σ kl ls) (ht : kRT E S.1.length σ kt st) (hL : k_sw S pc d lo hi offs kl kt = some L) : kTo E N mods D S.1.length σ M L (pm_sw pc d lo hi offs ls st M) := by
  obtain ⟨ex, t, x, r, rfl, s1, e1, hr, hg⟩ := k_un_ok ht hL
  obtain ⟨h1, hg⟩ := pm_cs hg
  simp only [Bool.and_eq_true, decide_eq_true_eq] at h1
  obtain ⟨⟨h1, h2⟩, h3⟩ := h1
  cases hg
  cases hc : (decide (x.toInt < lo) || decide (hi < x.toInt)) with
  | true =>
    refine ⟨(((pc : Int) + d).toNat, ls, r, M), ?_, ?_⟩
    · unfold pm_sw
      simp only [hc, cond_true]
      unfold pmJ
      rw [show decide (0 ≤ (pc : Int) + d) = true from decide_eq_true h1]
      rfl
    · simp only [Bool.or_eq_true, decide_eq_true_eq] at hc
      rcases hc with hc | hc
      · exact k_sel_ok h hM hl hr (c := .lt) (kSc_sub s1 kSc_c) (by show k_ev σ (k_sub ex (kc lo)) < 0; rw [k_ev_sub, k_ev_c]; omega) (fun r hr => List.mem_append_left _ hr)
      · exact k_sel_ok h hM hl hr (c := .gt) (kSc_sub s1 kSc_c) (by show 0 < k_ev σ (k_sub ex (kc hi)); rw [k_ev_sub, k_ev_c]; omega) (fun r hr => List.mem_append_right _ (List.mem_append_left _ hr))
  | false =>
    have hc' := hc
    simp only [Bool.or_eq_false_iff, decide_eq_false_iff_not] at hc
    have hi' : (x.toInt - lo).toNat < offs.toList.length := by omega
    have ho : offs.toList[(x.toInt - lo).toNat]? = some offs.toList[(x.toInt - lo).toNat] := List.getElem?_eq_getElem hi'
    generalize offs.toList[(x.toInt - lo).toNat] = o at ho
    have h0 := of_decide_eq_true (List.all_eq_true.mp h2 o (List.mem_of_getElem? ho))
    refine ⟨(((pc : Int) + o).toNat, ls, r, M), ?_, ?_⟩
    · unfold pm_sw
      simp only [hc', cond_false]
      rw [show offs[(x.toInt - lo).toNat]? = some o by rw [← Array.getElem?_toList]; exact ho]
      simp only
      unfold pmJ
      rw [show decide (0 ≤ (pc : Int) + o) = true from decide_eq_true h0]
      rfl
    · exact k_sel_ok h hM hl hr (c := .eq) (e := k_sub ex (kc (lo + ((x.toInt - lo).toNat : Int)))) (kSc_sub s1 kSc_c) (by show k_ev σ (k_sub ex _) = 0; rw [k_ev_sub, k_ev_c]; omega) (fun r hr => List.mem_append_right _ (List.mem_append_right _ (k_swl_in _ lo _ o ho r hr)))
end KRE
end
