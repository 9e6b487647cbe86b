noncomputable section
/-! what entries under negative cells tell of a number that is read -/
theorem kRS_put {N : kN} {σ : Nat → Int} {S : kS} {M : pM} {q : kH} (h : kRS N σ S M) (hs : kSc S.1.length q.1.1 ∧ kSc S.1.length q.1.2 ∧ kSc S.1.length q.2) (hh : kHas N M (k_ev σ q.1.1) (k_ev σ q.1.2) (k_ev σ q.2)) : kRS N σ (k_put S q) M := by
  obtain ⟨g0, gb, gf, gn, gc, gs⟩ := h
  refine ⟨g0, gb, gf, gn, fun e he => ?_, gs.1, gs.2.1, fun e he => ?_⟩
  · rcases List.mem_cons.mp he with rfl | he
    · exact hh
    · exact gc e he
  · rcases List.mem_cons.mp he with rfl | he
    · exact hs
    · exact gs.2.2 e he
theorem kHas_at {N : kN} {M : pM} {c s v : Int} {a i : Nat} {q : pC} {w : Value} (ha : (a : Int) = c) (hi : (i : Int) = s) (hq : M[a]? = some q) (hw : q.2[i]? = some w) (hn : kNum w v) : kHas N M c s v := ⟨fun _ => ⟨a, i, q, w, ha, hi, hq, hw, hn⟩, fun hl => by omega⟩
theorem kGot.app {N : kN} {n : Nat} {σ : Nat → Int} {M : pM} {L L' : List (kE × kS)} {x : Int} (h : kGot N n σ M L x) (hs : ∀ r ∈ L, r ∈ L') : kGot N n σ M L' x := by
  obtain ⟨r, hr, k⟩ := h
  exact ⟨r, hs r hr, k⟩
theorem kGot.one {N : kN} {σ : Nat → Int} {S T : kS} {M : pM} {e : kE} {x : Int} (h : kRS N σ T M) (hl : T.1.length = S.1.length) (he : kSc T.1.length e) (hx : k_ev σ e = x) : kGot N S.1.length σ M [(e, T)] x := ⟨_, List.mem_singleton.mpr rfl, σ, fun _ _ => rfl, Nat.le_of_eq hl.symm, h, hx, he⟩
theorem k_gi_at {M : pM} {a i : Nat} {x : Int} {q : pC} (h : k_gi M a i = some x) (hq : M[a]? = some q) : ∃ w : Value, q.2[i]? = some w ∧ kNum w x := by
  obtain ⟨c, w, h1, h2, h3⟩ := k_gi_some h
  rw [hq] at h1
  cases h1
  exact ⟨w, h2, h3⟩
theorem kInt_at {M : pM} {b j x : Int} {a i : Nat} {q : pC} (h : kInt M b j x) (hb : b = (a : Int)) (hj : j = (i : Int)) (hq : M[a]? = some q) : ∃ w : Value, q.2[i]? = some w ∧ kNum w x := by
  subst hb
  subst hj
  exact k_gi_at h.2.2 hq
def k_neg (S : kS) (i : Nat) (q : kH) : Bool := decide (q.1.1.1 < 0) && (k_vok q.1.1 && (Nat.beq (k_vi q.1.1) i && decide (k_hi S.1 q.1.1 < 0)))
theorem k_neg_ok {N : kN} {σ : Nat → Int} {S : kS} {M : pM} {q : kH} {i : Nat} (h : kRS N σ S M) (hq : q ∈ S.2.2.2) (hk : k_neg S i q = true) : kPh N i M (k_ev σ (k_vp q.1.1)) (k_ev σ q.1.2) (k_ev σ q.2) := by
  unfold k_neg at hk
  simp only [Bool.and_eq_true] at hk
  obtain ⟨-, h1, h2, h3⟩ := hk
  have h3 := of_decide_eq_true h3
  have := k_hi_ge h.2.1 q.1.1
  have e := kVq.now h hq (by omega) h1
  rw [pm_beq h2] at e
  exact e
def k_vr1 (S : kS) (c j : kE) : Option (List (kE × kS)) := match S.2.2.2.find? (fun q => k_neg S 1 q && (k_eqv S.1 S.2.1 j q.1.2 && (k_ge S.1 S.2.1 (k_sub (k_sub c (kc 403)) (k_vp q.1.1)) && k_ge S.1 S.2.1 (k_sub q.2 (k_sub c (kc 403)))))) with
  | none => none
  | some q => some [(k_sub q.2 (k_sub c (kc 403)), S)]
def k_row (j : kE) : kE := (j.1 / 41, (j.2.filter (fun q => decide (q.2 % 41 = 0))).map (fun q => (q.1, q.2 / 41)))
def k_vr2 (S : kS) (j : kE) : Option (List (kE × kS)) := match S.2.2.2.find? (fun q => k_neg S 2 q && (k_eqv S.1 S.2.1 (k_sub j (k_mul 41 (k_row j))) q.1.2 && (k_ge S.1 S.2.1 (k_sub (k_row j) (k_vp q.1.1)) && k_ge S.1 S.2.1 (k_sub q.2 (k_row j))))) with
  | none => none
  | some q => some [(k_sub q.2 (k_row j), S)]
def k_r3a (S : kS) (c j n : kE) : List (kE × kS) := match k_asm S (k_sub (kc 198) n) with
  | none => []
  | some T => [((k_new T 0 11).1, k_put (k_put (k_new T 0 11).2 ((kc (-3), k_add j (kc 1)), k_add n (kc 1))) ((c, j), (k_new T 0 11).1))]
def k_r3b (S : kS) (c j n z : kE) : List (kE × kS) := match k_asm S (k_sub (kc 198) n) with
  | none => []
  | some T => (match k_asm (k_new T 0 397).2 (k_sub (k_sub z (k_add j (kc 3))) (k_new T 0 397).1) with
    | none => []
    | some U => [(kc 30, k_put (k_put (k_put U ((kc (-3), k_add (k_add j (kc 3)) (k_new T 0 397).1), k_add n (kc 1))) ((c, k_add j (kc 2)), (k_new T 0 397).1)) ((c, j), kc 30))])
def k_r3c (S : kS) (c j n : kE) : List (kE × kS) := match k_asm S (k_sub n (kc 1)) with
  | none => []
  | some T => [(kc 20, k_put (k_put T ((kc (-3), k_add j (kc 1)), n)) ((c, j), kc 20))]
def k_r3d (S : kS) (c j n : kE) : List (kE × kS) := match k_asm S (k_sub n (kc 2)) with
  | none => []
  | some T => [((k_new T 21 23).1, k_put (k_put (k_new T 21 23).2 ((kc (-3), k_add j (kc 1)), k_sub n (kc 1))) ((c, j), (k_new T 21 23).1))]
def k_vr3 (S : kS) (c j : kE) : Option (List (kE × kS)) := match k_find c j S.2.2.2 with
  | some _ => none
  | none => match S.2.2.2.find? (fun q => k_is q.1.1 (-3) && k_eqv S.1 S.2.1 q.1.2 j) with
    | none => none
    | some me => match S.2.2.2.find? (fun q => k_is q.1.1 (-3) && k_ge S.1 S.2.1 (k_sub (k_sub q.1.2 j) (kc 1))) with
      | none => none
      | some fa => some (k_r3a S c j me.2 ++ (k_r3b S c j me.2 fa.1.2 ++ (k_r3c S c j me.2 ++ k_r3d S c j me.2)))
def k_asm3 (S : kS) (a o j : kE) : Option kS := (k_asm S a).bind (fun T => (k_asm T o).bind (fun U => k_asm U (k_sub (k_sub j a) o)))
def k_r4 (S : kS) (c j a o x : kE) : List (kE × kS) := match k_asm3 S a o j with
  | none => []
  | some T => [(x, k_put (k_put (k_put T ((kc (-5), j), o)) ((kc (-4), j), a)) ((c, j), x))]
def k_r4b (S : kS) (c j a o : kE) : List (kE × kS) := match k_asm3 S a o j with
  | none => []
  | some T => [((k_new T 21 23).1, k_put (k_put (k_put (k_new T 21 23).2 ((kc (-5), j), o)) ((kc (-4), j), a)) ((c, j), (k_new T 21 23).1))]
def k_vr4 (S : kS) (c j : kE) : Option (List (kE × kS)) := match k_find c j S.2.2.2 with
  | some _ => none
  | none => match S.2.2.2.find? (fun q => k_is q.1.1 (-4) && k_eqv S.1 S.2.1 q.1.2 (k_add j (kc 1))) with
    | none => none
    | some A => match S.2.2.2.find? (fun q => k_is q.1.1 (-5) && k_eqv S.1 S.2.1 q.1.2 (k_add j (kc 1))) with
      | none => none
      | some O => some (k_r4 S c j A.2 O.2 (kc 20) ++ (k_r4b S c j (k_sub A.2 (kc 1)) O.2 ++ k_r4 S c j A.2 (k_sub O.2 (kc 1)) (kc 24)))
/-- the letter that asks: its version is w -/
def k_vr6l (S : kS) (w : kE) (q r : kH) : Option kE := cond (decide (r.1.1 = kc 453)) (match k_rs S.1 12 r.1.2 with
  | [1] => cond (k_eq r.2 w && k_eq (k_add (k_mul 12 (k_dv 12 (k_sub r.1.2 (kc 1)))) (kc 1)) r.1.2) (match k_find (kc 453) (k_add (k_mul 12 (k_dv 12 (k_sub r.1.2 (kc 1)))) (kc 6)) S.2.2.2 with
    | none => none
    | some x => cond (k_ge S.1 S.2.1 (k_dv 12 (k_sub r.1.2 (kc 1))) && k_ge S.1 S.2.1 (k_sub (k_sub q.1.2 (kc 1)) (k_dv 12 (k_sub r.1.2 (kc 1))))) (some x) none) none
  | _ => none) none
def k_vr6 (S : kS) (c j : kE) (d : kDe) : Option (List (kE × kS)) := match k_find c j S.2.2.2 with
  | some _ => none
  | none => match k_rs S.1 26 j with
    | [3] => cond (k_eq (k_add (k_mul 26 (k_dv 26 (k_sub j (kc 3)))) (kc 3)) j) (match S.2.2.2.findSome? (fun q => cond (k_is q.1.1 (-6)) (S.2.2.2.findSome? (fun r => k_vr6l S (k_dv 26 (k_sub j (kc 3))) q r)) none) with
      | none => none
      | some x => (match k_rdo S c j d with
        | none => none
        | some L => some (L.flatMap (fun r => match k_asm r.2 (k_sub r.1 x) with
          | none => []
          | some T => [(r.1, T)])))) none
    | _ => none
/-- the letter set in is an elder one -/
def k_vr8 (S : kS) (c j : kE) (d : kDe) : Option (List (kE × kS)) := match k_find c j S.2.2.2 with
  | some _ => none
  | none => match k_rs S.1 12 j with
    | [8] => cond (k_eq (k_add (k_mul 12 (k_dv 12 (k_sub j (kc 8)))) (kc 8)) j && (k_ge S.1 S.2.1 (k_dv 12 (k_sub j (kc 8))) && S.2.2.2.any (fun q => k_is q.1.1 (-6) && k_ge S.1 S.2.1 (k_sub (k_sub q.1.2 (kc 1)) (k_dv 12 (k_sub j (kc 8))))))) (match k_rdo S c j d with
      | none => none
      | some L => some (L.flatMap (fun r => match k_asm r.2 (k_sub (k_sub (k_dv 12 (k_sub j (kc 8))) (kc 1)) r.1) with
        | none => []
        | some T => [(r.1, T)]))) none
    | _ => none
def k_vrd0 (S : kS) (c j : kE) (d : kDe) : Option (List (kE × kS)) := cond (k_cst c) (cond (decide (c.1 = 450)) (k_vr6 S c j d) (cond (decide (c.1 = 453)) (k_vr8 S c j d) (cond (decide (c.1 = 471)) (k_vr2 S j) (cond (decide (c.1 = 461)) (k_vr3 S c j) (cond (decide (c.1 = 462)) (k_vr4 S c j) (cond (decide (403 ≤ c.1) && decide (c.1 ≤ 439)) (k_vr1 S c j) none))))))
  (cond (decide (403 ≤ k_lo S.1 c) && decide (k_hi S.1 c ≤ 439)) (k_vr1 S c j) none)
section KVR
variable {N : kN} {σ : Nat → Int} {S : kS} {M : pM} {c j : kE} {d : kDe} {a i : Nat} {q : pC} {L : List (kE × kS)}
def kRdd (N : kN) (σ : Nat → Int) (S : kS) (M : pM) (q : pC) (i : Nat) (L : List (kE × kS)) : Prop := ∃ (w : Value) (x : Int), q.2[i]? = some w ∧ kNum w x ∧ kGot N S.1.length σ M L x
theorem k_vr1_ok (h : kRS N σ S M) (hc : kSc S.1.length c) (ha : (a : Int) = k_ev σ c) (hj : (i : Int) = k_ev σ j) (hq : M[a]? = some q) (h1 : 403 ≤ k_ev σ c) (h2 : k_ev σ c ≤ 439) (hr : k_vr1 S c j = some L) : kRdd N σ S M q i L := by
  unfold k_vr1 at hr
  split at hr
  · cases hr
  · rename_i r hr2
    cases hr
    have hin := List.mem_of_find?_eq_some hr2
    have hf := List.find?_some hr2
    simp only [Bool.and_eq_true] at hf
    obtain ⟨f1, f2, f3, f4⟩ := hf
    have p := k_neg_ok h hin f1
    have e2 := k_eqv_ok h.2.1 h.2.2.1 f2
    have e3 := k_ge_ok h.2.1 h.2.2.1 f3
    have e4 := k_ge_ok h.2.1 h.2.2.1 f4
    rw [k_ev_sub, k_ev_sub, k_ev_c] at e3 e4
    have z : kInt M (403 + (k_ev σ c - 403)) (k_ev σ r.1.2) (k_ev σ r.2 - (k_ev σ c - 403)) := p (k_ev σ c - 403) (by omega) (by omega) (by omega) (by omega)
    obtain ⟨w, w1, w2⟩ := kInt_at (a := a) (i := i) z (by omega) (by omega) hq
    exact ⟨w, _, w1, w2, kGot.one h rfl (kSc_sub (h.2.2.2.2.2.2.2 _ hin).2.2 (kSc_sub hc kSc_c)) (by rw [k_ev_sub, k_ev_sub, k_ev_c])⟩
theorem k_row_sc {n : Nat} {j : kE} (h : kSc n j) : kSc n (k_row j) := fun q hq => by
  obtain ⟨r, hr, rfl⟩ := List.mem_map.mp hq
  exact h r (List.mem_filter.mp hr).1
theorem k_vr2_ok (h : kRS N σ S M) (hs : kSc S.1.length j) (ha : a = 471) (hj : (i : Int) = k_ev σ j) (hq : M[a]? = some q) (hr : k_vr2 S j = some L) : kRdd N σ S M q i L := by
  unfold k_vr2 at hr
  split at hr
  · cases hr
  · rename_i r hr2
    cases hr
    have hin := List.mem_of_find?_eq_some hr2
    have hf := List.find?_some hr2
    simp only [Bool.and_eq_true] at hf
    obtain ⟨f1, f2, f3, f4⟩ := hf
    have p := k_neg_ok h hin f1
    have e2 := k_eqv_ok h.2.1 h.2.2.1 f2
    have e3 := k_ge_ok h.2.1 h.2.2.1 f3
    have e4 := k_ge_ok h.2.1 h.2.2.1 f4
    rw [k_ev_sub] at e3 e4
    rw [k_ev_sub, k_ev_mul] at e2
    have z : kInt M 471 (41 * k_ev σ (k_row j) + k_ev σ r.1.2) (k_ev σ r.2 - k_ev σ (k_row j)) := p (k_ev σ (k_row j)) (by omega) (by omega)
    obtain ⟨w, w1, w2⟩ := kInt_at (a := a) (i := i) z (by omega) (by omega) hq
    exact ⟨w, _, w1, w2, kGot.one h rfl (kSc_sub (h.2.2.2.2.2.2.2 _ hin).2.2 (k_row_sc hs)) (by rw [k_ev_sub])⟩
theorem kZi_prev {t : Nat} {r : Nat × Int} (h : kZi M (t + 1) = some r) : ∃ p, kZi M t = some p ∧ kZs M p = some r ∧ p.1 < r.1 := by
  have h : (kZi M t).bind (kZs M) = some r := h
  cases hp : kZi M t with
  | none =>
    rw [hp] at h
    cases h
  | some p =>
    rw [hp] at h
    exact ⟨p, rfl, h, (kZs.fr (M' := M) h fun _ _ => rfl).1⟩
theorem kZi_down {t : Nat} : ∀ {u : Nat} {r : Nat × Int}, kZi M (t + u) = some r → ∃ p, kZi M t = some p ∧ p.1 ≤ r.1
  | 0, r, h => ⟨r, h, Nat.le_refl _⟩
  | u + 1, r, h => by
    obtain ⟨p, h1, -, h2⟩ := kZi_prev (t := t + u) h
    obtain ⟨p', h3, h4⟩ := kZi_down h1
    exact ⟨p', h3, by omega⟩
theorem kZi_next {t t2 k k2 : Nat} {n n2 : Int} (h1 : kZi M t = some (k, n)) (h2 : kZi M t2 = some (k2, n2)) (hl : k < k2) : ∃ r, kZs M (k, n) = some r ∧ kZi M (t + 1) = some r ∧ r.1 ≤ k2 := by
  by_cases ht : t < t2
  · obtain ⟨u, rfl⟩ : ∃ u, t2 = t + 1 + u := ⟨t2 - (t + 1), by omega⟩
    obtain ⟨r, e1, e2⟩ := kZi_down h2
    obtain ⟨p, e3, e4, -⟩ := kZi_prev e1
    rw [h1] at e3
    cases e3
    exact ⟨r, e4, e1, e2⟩
  · obtain ⟨u, rfl⟩ : ∃ u, t = t2 + u := ⟨t - t2, by omega⟩
    obtain ⟨p, e1, e2⟩ := kZi_down h1
    rw [h2] at e1
    cases e1
    have e2 : k2 ≤ k := e2
    omega
theorem k_m3 {x : kE × kS} {S : kS} {c j n z : kE} : (x ∈ k_r3a S c j n → x ∈ k_r3a S c j n ++ (k_r3b S c j n z ++ (k_r3c S c j n ++ k_r3d S c j n))) ∧ (x ∈ k_r3b S c j n z → x ∈ k_r3a S c j n ++ (k_r3b S c j n z ++ (k_r3c S c j n ++ k_r3d S c j n))) ∧ (x ∈ k_r3c S c j n → x ∈ k_r3a S c j n ++ (k_r3b S c j n z ++ (k_r3c S c j n ++ k_r3d S c j n))) ∧ (x ∈ k_r3d S c j n → x ∈ k_r3a S c j n ++ (k_r3b S c j n z ++ (k_r3c S c j n ++ k_r3d S c j n))) := by
  simp only [List.mem_append]
  exact ⟨fun h => Or.inl h, fun h => Or.inr (Or.inl h), fun h => Or.inr (Or.inr (Or.inl h)), fun h => Or.inr (Or.inr (Or.inr h))⟩
theorem k_is_eq {c : kE} {z : Int} (h : k_is c z = true) : c = kc z := by
  unfold k_is at h
  obtain ⟨h1, h2⟩ := Bool.and_eq_true_iff.mp h
  have h2 := of_decide_eq_true h2
  obtain ⟨y, l⟩ := c
  rw [k_cst_eq] at h1
  have := List.eq_nil_of_length_eq_zero (pm_beq h1)
  have this : l = [] := this
  subst this
  have h2 : y = z := h2
  subst h2
  rfl
theorem kHas_3 {t k : Nat} {g x y : Int} (h : kZi M t = some (k, g)) (hx : (k : Int) = x) (hy : g = y) : kHas N M (-3) x y := kHas.neg (by omega) (kPhi_of (i := 3) (p := 0) rfl (by omega) ⟨t, k, hx, by rw [← hy]; exact h⟩)
theorem kHas_3' {c s v : kE} (h : kRS N σ S M) (hin : ((c, s), v) ∈ S.2.2.2) (hc : k_is c (-3) = true) : ∃ t k : Nat, (k : Int) = k_ev σ s ∧ kZi M t = some (k, k_ev σ v) := by
  have e := h.2.2.2.2.1 _ hin
  have e2 := k_is_ev (σ := σ) hc
  have e : kHas N M (k_ev σ c) (k_ev σ s) (k_ev σ v) := e
  rw [e2] at e
  exact kPhi_to (i := 3) (p := 0) rfl (by omega) (e.2 (by omega))
theorem k_vr3_ok (h : kRS N σ S M) (hc : kSc S.1.length c) (hs : kSc S.1.length j) (ha : (a : Int) = k_ev σ c) (ha2 : a = 461) (hj : (i : Int) = k_ev σ j) (hq : M[a]? = some q) (hr : k_vr3 S c j = some L) : kRdd N σ S M q i L := by
  unfold k_vr3 at hr
  split at hr
  · cases hr
  · split at hr
    · cases hr
    · rename_i me hme
      split at hr
      · cases hr
      · rename_i fa hfa
        cases hr
        have hin1 := List.mem_of_find?_eq_some hme
        have hin2 := List.mem_of_find?_eq_some hfa
        have f1 := List.find?_some hme
        have f2 := List.find?_some hfa
        obtain ⟨f1, f3⟩ := Bool.and_eq_true_iff.mp f1
        obtain ⟨f2, f4⟩ := Bool.and_eq_true_iff.mp f2
        have e3 := k_eqv_ok h.2.1 h.2.2.1 f3
        have e4 := k_ge_ok h.2.1 h.2.2.1 f4
        rw [k_ev_sub, k_ev_sub, k_ev_c] at e4
        obtain ⟨t1, k1, a1, a2⟩ : ∃ t k : Nat, (k : Int) = k_ev σ me.1.2 ∧ kZi M t = some (k, k_ev σ me.2) := kHas_3' (c := me.1.1) (s := me.1.2) (v := me.2) h hin1 f1
        obtain ⟨t2, k2, b1, b2⟩ : ∃ t k : Nat, (k : Int) = k_ev σ fa.1.2 ∧ kZi M t = some (k, k_ev σ fa.2) := kHas_3' (c := fa.1.1) (s := fa.1.2) (v := fa.2) h hin2 f2
        have hk : k1 = i := by omega
        subst hk
        obtain ⟨r, r1, r2, r3⟩ := kZi_next a2 b2 (by omega)
        have sn := (h.2.2.2.2.2.2.2 _ hin1).2.2
        have sz := (h.2.2.2.2.2.2.2 _ hin2).2.1
        unfold kZs at r1
        split at r1
        · cases r1
        · rename_i x hx
          have hx : k_gi M 461 k1 = some x := hx
          subst ha2
          obtain ⟨w, w1, w2⟩ := k_gi_at hx hq
          refine ⟨w, x, w1, w2, ?_⟩
          by_cases c1 : 0 ≤ x ∧ x ≤ 11 ∧ k_ev σ me.2 ≤ 198
          · have r1 := (if_pos c1).symm.trans r1
            cases r1
            obtain ⟨T, z1, z2, z3⟩ := k_asm_ok h (e := k_sub (kc 198) me.2) (kSc_sub kSc_c sn) (by rw [k_ev_sub, k_ev_c]; omega)
            obtain ⟨τ, y1, y2, y3, y4, y5⟩ := k_new_ok z3 (x := x) (lo := 0) (hi := 11) c1.1 c1.2.1
            rw [z2] at y1 y2
            refine kGot.app (L := k_r3a S c j me.2) ?_ fun _ => k_m3.1
            unfold k_r3a
            rw [z1]
            refine ⟨_, List.mem_singleton.mpr rfl, τ, y1, y2, kRS_put (kRS_put y3 ⟨kSc_c, kSc_add (hs.mono y2) kSc_c, kSc_add (sn.mono y2) kSc_c⟩ ?_) ⟨hc.mono y2, hs.mono y2, y5⟩ ?_, y4, y5⟩
            · show kHas N M (k_ev τ (kc (-3))) (k_ev τ (k_add j (kc 1))) (k_ev τ (k_add me.2 (kc 1)))
              rw [k_ev_c, k_ev_add, k_ev_add, k_ev_c, k_ev_agree y1 hs, k_ev_agree y1 sn]
              exact kHas_3 r2 (by omega) rfl
            · show kHas N M (k_ev τ c) (k_ev τ j) (k_ev τ (k_new T 0 11).1)
              rw [y4, k_ev_agree y1 hs, k_ev_agree y1 hc]
              exact kHas_at ha hj hq w1 w2
          · have r1 := (if_neg c1).symm.trans r1
            by_cases c2 : x = 20 ∧ 1 ≤ k_ev σ me.2
            · have r1 := (if_pos c2).symm.trans r1
              cases r1
              obtain ⟨T, z1, z2, z3⟩ := k_asm_ok h (e := k_sub me.2 (kc 1)) (kSc_sub sn kSc_c) (by rw [k_ev_sub, k_ev_c]; omega)
              refine kGot.app (L := k_r3c S c j me.2) ?_ fun _ => k_m3.2.2.1
              unfold k_r3c
              rw [z1]
              refine kGot.one (kRS_put (kRS_put z3 ⟨kSc_c, kSc_add (by rw [z2]; exact hs) kSc_c, by rw [z2]; exact sn⟩ ?_) ⟨by rw [show (k_put T ((kc (-3), k_add j (kc 1)), me.2)).1 = T.1 from rfl, z2]; exact hc, by rw [show (k_put T ((kc (-3), k_add j (kc 1)), me.2)).1 = T.1 from rfl, z2]; exact hs, kSc_c⟩ ?_) z2 kSc_c (by rw [k_ev_c]; omega)
              · show kHas N M (k_ev σ (kc (-3))) (k_ev σ (k_add j (kc 1))) (k_ev σ me.2)
                rw [k_ev_c, k_ev_add, k_ev_c]
                exact kHas_3 r2 (by omega) rfl
              · show kHas N M (k_ev σ c) (k_ev σ j) (k_ev σ (kc 20))
                rw [k_ev_c, ← c2.1]
                exact kHas_at ha hj hq w1 w2
            · have r1 := (if_neg c2).symm.trans r1
              by_cases c3 : 21 ≤ x ∧ x ≤ 23 ∧ 2 ≤ k_ev σ me.2
              · have r1 := (if_pos c3).symm.trans r1
                cases r1
                obtain ⟨T, z1, z2, z3⟩ := k_asm_ok h (e := k_sub me.2 (kc 2)) (kSc_sub sn kSc_c) (by rw [k_ev_sub, k_ev_c]; omega)
                obtain ⟨τ, y1, y2, y3, y4, y5⟩ := k_new_ok z3 (x := x) (lo := 21) (hi := 23) c3.1 c3.2.1
                rw [z2] at y1 y2
                refine kGot.app (L := k_r3d S c j me.2) ?_ fun _ => k_m3.2.2.2
                unfold k_r3d
                rw [z1]
                refine ⟨_, List.mem_singleton.mpr rfl, τ, y1, y2, kRS_put (kRS_put y3 ⟨kSc_c, kSc_add (hs.mono y2) kSc_c, kSc_sub (sn.mono y2) kSc_c⟩ ?_) ⟨hc.mono y2, hs.mono y2, y5⟩ ?_, y4, y5⟩
                · show kHas N M (k_ev τ (kc (-3))) (k_ev τ (k_add j (kc 1))) (k_ev τ (k_sub me.2 (kc 1)))
                  rw [k_ev_c, k_ev_add, k_ev_sub, k_ev_c, k_ev_agree y1 hs, k_ev_agree y1 sn]
                  exact kHas_3 r2 (by omega) rfl
                · show kHas N M (k_ev τ c) (k_ev τ j) (k_ev τ (k_new T 21 23).1)
                  rw [y4, k_ev_agree y1 hs, k_ev_agree y1 hc]
                  exact kHas_at ha hj hq w1 w2
              · have r1 := (if_neg c3).symm.trans r1
                by_cases c4 : x = 30 ∧ k_ev σ me.2 ≤ 198
                · have r1 := (if_pos c4).symm.trans r1
                  split at r1
                  · cases r1
                  · rename_i y hy
                    have hy : k_gi M 461 (k1 + 2) = some y := hy
                    by_cases c5 : 0 ≤ y ∧ y ≤ 397
                    · have r1 := (if_pos c5).symm.trans r1
                      cases r1
                      have r3 : k1 + 3 + y.toNat ≤ k2 := r3
                      obtain ⟨w', w3, w4⟩ := k_gi_at hy hq
                      obtain ⟨T, z1, z2, z3⟩ := k_asm_ok h (e := k_sub (kc 198) me.2) (kSc_sub kSc_c sn) (by rw [k_ev_sub, k_ev_c]; omega)
                      obtain ⟨τ, y1, y2, y3, y4, y5⟩ := k_new_ok z3 (x := y) (lo := 0) (hi := 397) c5.1 c5.2
                      rw [z2] at y1 y2
                      obtain ⟨U, u1, u2, u3⟩ := k_asm_ok y3 (e := k_sub (k_sub fa.1.2 (k_add j (kc 3))) (k_new T 0 397).1) (kSc_sub (kSc_sub (sz.mono y2) (kSc_add (hs.mono y2) kSc_c)) y5) (by rw [k_ev_sub, k_ev_sub, k_ev_add, k_ev_c, y4, k_ev_agree y1 hs, k_ev_agree y1 sz]; omega)
                      refine kGot.app (L := k_r3b S c j me.2 fa.1.2) ?_ fun _ => k_m3.2.1
                      unfold k_r3b
                      rw [z1]
                      dsimp only
                      rw [u1]
                      have hl : S.1.length ≤ U.1.length := by rw [u2]; exact y2
                      have y5 : kSc U.1.length (k_new T 0 397).1 := by rw [u2]; exact y5
                      refine ⟨_, List.mem_singleton.mpr rfl, τ, y1, hl, kRS_put (kRS_put (kRS_put u3 ⟨kSc_c, kSc_add (kSc_add (hs.mono hl) kSc_c) y5, kSc_add (sn.mono hl) kSc_c⟩ ?_) ⟨hc.mono hl, kSc_add (hs.mono hl) kSc_c, y5⟩ ?_) ⟨hc.mono hl, hs.mono hl, kSc_c⟩ ?_, by rw [k_ev_c]; omega, kSc_c⟩
                      · show kHas N M (k_ev τ (kc (-3))) (k_ev τ (k_add (k_add j (kc 3)) (k_new T 0 397).1)) (k_ev τ (k_add me.2 (kc 1)))
                        rw [k_ev_c, k_ev_add, k_ev_add, k_ev_add, k_ev_c, k_ev_c, y4, k_ev_agree y1 hs, k_ev_agree y1 sn]
                        exact kHas_3 r2 (by show ((k1 + 3 + y.toNat : Nat) : Int) = _; omega) rfl
                      · show kHas N M (k_ev τ c) (k_ev τ (k_add j (kc 2))) (k_ev τ (k_new T 0 397).1)
                        rw [y4, k_ev_add, k_ev_c, k_ev_agree y1 hs, k_ev_agree y1 hc]
                        exact kHas_at ha (by omega) hq w3 w4
                      · show kHas N M (k_ev τ c) (k_ev τ j) (k_ev τ (kc 30))
                        rw [k_ev_c, k_ev_agree y1 hs, k_ev_agree y1 hc, ← c4.1]
                        exact kHas_at ha hj hq w1 w2
                    · have r1 := (if_neg c5).symm.trans r1
                      cases r1
                · have r1 := (if_neg c4).symm.trans r1
                  cases r1
theorem kWt_uq {lo hi : Int} : ∀ {k : Nat} {x y : Int}, kWt M lo hi k x → kWt M lo hi k y → x = y
  | 0, _, _, h1, h2 => h1.trans h2.symm
  | k + 1, x, y, ⟨z, a1, a2, a3⟩, ⟨z', b1, b2, b3⟩ => by
    rw [a1] at b1
    cases b1
    rcases a3 with ⟨c1, c2, c3⟩ | ⟨c1, c3⟩
    · rcases b3 with ⟨d1, d2, d3⟩ | ⟨d1, d3⟩
      · have := kWt_uq c3 d3
        omega
      · exact (d1 ⟨c1, c2⟩).elim
    · rcases b3 with ⟨d1, d2, d3⟩ | ⟨d1, d3⟩
      · exact (c1 ⟨d1, d2⟩).elim
      · exact kWt_uq c3 d3
theorem kWt_rng : ∀ {k : Nat} {x y : Int}, kWt M 21 23 k x → kWt M 24 24 k y → 0 ≤ x ∧ 0 ≤ y ∧ x + y ≤ (k : Int)
  | 0, x, y, h1, h2 => by
    have h1 : x = 0 := h1
    have h2 : y = 0 := h2
    omega
  | k + 1, x, y, ⟨z, a1, a2, a3⟩, ⟨z', b1, b2, b3⟩ => by
    rw [a1] at b1
    cases b1
    rcases a3 with ⟨c1, c2, c3⟩ | ⟨c1, c3⟩
    · rcases b3 with ⟨d1, d2, d3⟩ | ⟨d1, d3⟩
      · omega
      · have := kWt_rng c3 d3
        omega
    · rcases b3 with ⟨d1, d2, d3⟩ | ⟨d1, d3⟩
      · have := kWt_rng c3 d3
        omega
      · have := kWt_rng c3 d3
        omega
theorem kHas_4 {k : Nat} {x y : Int} (h : kWt M 21 23 k y) (hx : (k : Int) = x) : kHas N M (-4) x y := kHas.neg (by omega) (kPhi_of (i := 4) (p := 0) rfl (by omega) ⟨k, hx, h⟩)
theorem kHas_5 {k : Nat} {x y : Int} (h : kWt M 24 24 k y) (hx : (k : Int) = x) : kHas N M (-5) x y := kHas.neg (by omega) (kPhi_of (i := 5) (p := 0) rfl (by omega) ⟨k, hx, h⟩)
theorem k_asm3_ok {e f g : kE} (h : kRS N σ S M) (s1 : kSc S.1.length e) (s2 : kSc S.1.length f) (s3 : kSc S.1.length g) (h1 : 0 ≤ k_ev σ e) (h2 : 0 ≤ k_ev σ f) (h3 : 0 ≤ k_ev σ g - k_ev σ e - k_ev σ f) : ∃ T, k_asm3 S e f g = some T ∧ T.1.length = S.1.length ∧ kRS N σ T M := by
  obtain ⟨T, a1, a2, a3⟩ := k_asm_ok h s1 h1
  obtain ⟨U, b1, b2, b3⟩ := k_asm_ok a3 (by rw [a2]; exact s2) h2
  obtain ⟨V, c1, c2, c3⟩ := k_asm_ok b3 (e := k_sub (k_sub g e) f) (by rw [b2, a2]; exact kSc_sub (kSc_sub s3 s1) s2) (by rw [k_ev_sub, k_ev_sub]; exact h3)
  refine ⟨V, ?_, by rw [c2, b2, a2], c3⟩
  unfold k_asm3
  rw [a1]
  show (k_asm T f).bind _ = _
  rw [b1]
  exact c1
theorem k_r4_ok {A O x : kE} {k : Nat} {w : Value} (h : kRS N σ S M) (hc : kSc S.1.length c) (hs : kSc S.1.length j) (sa : kSc S.1.length A) (so : kSc S.1.length O) (sx : kSc S.1.length x) (ha : (a : Int) = k_ev σ c) (hj : (k : Int) = k_ev σ j) (hq : M[a]? = some q) (h1 : kWt M 21 23 k (k_ev σ A)) (h2 : kWt M 24 24 k (k_ev σ O)) (hw : q.2[k]? = some w) (hn : kNum w (k_ev σ x)) : kGot N S.1.length σ M (k_r4 S c j A O x) (k_ev σ x) := by
  have r := kWt_rng h1 h2
  obtain ⟨T, z1, z2, z3⟩ := k_asm3_ok h sa so hs r.1 r.2.1 (by omega)
  unfold k_r4
  rw [z1]
  have hc : kSc T.1.length c := by rw [z2]; exact hc
  have hs : kSc T.1.length j := by rw [z2]; exact hs
  have sa : kSc T.1.length A := by rw [z2]; exact sa
  have so : kSc T.1.length O := by rw [z2]; exact so
  have sx : kSc T.1.length x := by rw [z2]; exact sx
  refine kGot.one (kRS_put (kRS_put (kRS_put z3 ⟨kSc_c, hs, so⟩ ?_) ⟨kSc_c, hs, sa⟩ ?_) ⟨hc, hs, sx⟩ ?_) z2 sx rfl
  · show kHas N M (k_ev σ (kc (-5))) (k_ev σ j) (k_ev σ O)
    rw [k_ev_c]
    exact kHas_5 h2 hj
  · show kHas N M (k_ev σ (kc (-4))) (k_ev σ j) (k_ev σ A)
    rw [k_ev_c]
    exact kHas_4 h1 hj
  · exact kHas_at ha hj hq hw hn
theorem k_r4b_ok {A O : kE} {k : Nat} {w : Value} {x : Int} (h : kRS N σ S M) (hc : kSc S.1.length c) (hs : kSc S.1.length j) (sa : kSc S.1.length A) (so : kSc S.1.length O) (ha : (a : Int) = k_ev σ c) (hj : (k : Int) = k_ev σ j) (hq : M[a]? = some q) (h1 : kWt M 21 23 k (k_ev σ A)) (h2 : kWt M 24 24 k (k_ev σ O)) (hw : q.2[k]? = some w) (hn : kNum w x) (hx1 : 21 ≤ x) (hx2 : x ≤ 23) : kGot N S.1.length σ M (k_r4b S c j A O) x := by
  have r := kWt_rng h1 h2
  obtain ⟨T, z1, z2, z3⟩ := k_asm3_ok h sa so hs r.1 r.2.1 (by omega)
  obtain ⟨τ, y1, y2, y3, y4, y5⟩ := k_new_ok z3 (x := x) (lo := 21) (hi := 23) hx1 hx2
  rw [z2] at y1 y2
  unfold k_r4b
  rw [z1]
  refine ⟨_, List.mem_singleton.mpr rfl, τ, y1, y2, kRS_put (kRS_put (kRS_put y3 ⟨kSc_c, hs.mono y2, so.mono y2⟩ ?_) ⟨kSc_c, hs.mono y2, sa.mono y2⟩ ?_) ⟨hc.mono y2, hs.mono y2, y5⟩ ?_, y4, y5⟩
  · show kHas N M (k_ev τ (kc (-5))) (k_ev τ j) (k_ev τ O)
    rw [k_ev_c, k_ev_agree y1 hs, k_ev_agree y1 so]
    exact kHas_5 h2 hj
  · show kHas N M (k_ev τ (kc (-4))) (k_ev τ j) (k_ev τ A)
    rw [k_ev_c, k_ev_agree y1 hs, k_ev_agree y1 sa]
    exact kHas_4 h1 hj
  · show kHas N M (k_ev τ c) (k_ev τ j) (k_ev τ (k_new T 21 23).1)
    rw [y4, k_ev_agree y1 hs, k_ev_agree y1 hc]
    exact kHas_at ha hj hq hw hn
theorem k_vr4_ok (h : kRS N σ S M) (hc : kSc S.1.length c) (hs : kSc S.1.length j) (ha : (a : Int) = k_ev σ c) (ha2 : a = 462) (hj : (i : Int) = k_ev σ j) (hq : M[a]? = some q) (hr : k_vr4 S c j = some L) : kRdd N σ S M q i L := by
  unfold k_vr4 at hr
  split at hr
  · cases hr
  · split at hr
    · cases hr
    · rename_i A hA
      split at hr
      · cases hr
      · rename_i O hO
        cases hr
        have hin1 := List.mem_of_find?_eq_some hA
        have hin2 := List.mem_of_find?_eq_some hO
        have f1 := List.find?_some hA
        have f2 := List.find?_some hO
        obtain ⟨f1, f3⟩ := Bool.and_eq_true_iff.mp f1
        obtain ⟨f2, f4⟩ := Bool.and_eq_true_iff.mp f2
        have e3 := k_eqv_ok h.2.1 h.2.2.1 f3
        have e4 := k_eqv_ok h.2.1 h.2.2.1 f4
        rw [k_ev_add, k_ev_c] at e3 e4
        have g1 := h.2.2.2.2.1 _ hin1
        have g2 := h.2.2.2.2.1 _ hin2
        rw [k_is_ev (σ := σ) f1] at g1
        rw [k_is_ev (σ := σ) f2] at g2
        obtain ⟨k1, a1, a2⟩ : ∃ k : Nat, (k : Int) = k_ev σ A.1.2 ∧ kWt M 21 23 k (k_ev σ A.2) := kPhi_to (i := 4) (p := 0) rfl (by omega) (g1.2 (by omega))
        obtain ⟨k2, b1, b2⟩ : ∃ k : Nat, (k : Int) = k_ev σ O.1.2 ∧ kWt M 24 24 k (k_ev σ O.2) := kPhi_to (i := 5) (p := 0) rfl (by omega) (g2.2 (by omega))
        have : k1 = i + 1 := by omega
        subst this
        have : k2 = i + 1 := by omega
        subst this
        have sA := (h.2.2.2.2.2.2.2 _ hin1).2.2
        have sO := (h.2.2.2.2.2.2.2 _ hin2).2.2
        obtain ⟨x, x1, x2, x3⟩ := a2
        obtain ⟨y, y1, y2, y3⟩ := b2
        rw [x1] at y1
        cases y1
        subst ha2
        obtain ⟨w, w1, w2⟩ := k_gi_at x1 hq
        refine ⟨w, x, w1, w2, ?_⟩
        rcases x3 with ⟨z1, z2, z3⟩ | ⟨z1, z3⟩
        · have y3 : kWt M 24 24 i (k_ev σ O.2) := by
            rcases y3 with ⟨u1, u2, u3⟩ | ⟨u1, u3⟩
            · omega
            · exact u3
          refine kGot.app (L := k_r4b S c j (k_sub A.2 (kc 1)) O.2) ?_ fun r hr => List.mem_append.mpr (Or.inr (List.mem_append.mpr (Or.inl hr)))
          exact k_r4b_ok h hc hs (kSc_sub sA kSc_c) sO ha hj hq (by rw [k_ev_sub, k_ev_c]; exact z3) y3 w1 w2 z1 z2
        · rcases y3 with ⟨u1, u2, u3⟩ | ⟨u1, u3⟩
          · refine kGot.app (L := k_r4 S c j A.2 (k_sub O.2 (kc 1)) (kc 24)) ?_ fun r hr => List.mem_append.mpr (Or.inr (List.mem_append.mpr (Or.inr hr)))
            have hx : x = k_ev σ (kc 24) := by
              rw [k_ev_c]
              omega
            rw [hx] at w2 ⊢
            exact k_r4_ok h hc hs sA (kSc_sub sO kSc_c) kSc_c ha hj hq z3 (by rw [k_ev_sub, k_ev_c]; exact u3) w1 w2
          · refine kGot.app (L := k_r4 S c j A.2 O.2 (kc 20)) ?_ fun r hr => List.mem_append.mpr (Or.inl hr)
            have hx : x = k_ev σ (kc 20) := by
              rw [k_ev_c]
              omega
            rw [hx] at w2 ⊢
            exact k_r4_ok h hc hs sA sO kSc_c ha hj hq z3 u3 w1 w2
theorem k_vr6l_ok {w x : kE} {p r : kH} (h : kRS N σ S M) (hp : p ∈ S.2.2.2) (hr : r ∈ S.2.2.2) (h6 : k_is p.1.1 (-6) = true) (hk : k_vr6l S w p r = some x) : kSc S.1.length x ∧ ∃ y, kInt M 450 (26 * k_ev σ w + 3) y ∧ k_ev σ x ≤ y := by
  unfold k_vr6l at hk
  cases c1 : decide (r.1.1 = kc 453) with
  | false =>
    rw [c1, cond_false] at hk
    cases hk
  | true =>
    rw [c1, cond_true] at hk
    have c1 := of_decide_eq_true c1
    split at hk
    · cases c2 : (k_eq r.2 w && k_eq (k_add (k_mul 12 (k_dv 12 (k_sub r.1.2 (kc 1)))) (kc 1)) r.1.2) with
      | false =>
        rw [c2, cond_false] at hk
        cases hk
      | true =>
        rw [c2, cond_true] at hk
        obtain ⟨c2, c3⟩ := Bool.and_eq_true_iff.mp c2
        have e2 := k_eq_ok (σ := σ) c2
        have e3 := k_eq_ok (σ := σ) c3
        generalize k_dv 12 (k_sub r.1.2 (kc 1)) = l at e3 hk
        rw [k_ev_add, k_ev_mul, k_ev_c] at e3
        split at hk
        · cases hk
        · rename_i x' hx'
          cases c4 : (k_ge S.1 S.2.1 l && k_ge S.1 S.2.1 (k_sub (k_sub p.1.2 (kc 1)) l)) with
          | false =>
            rw [c4, cond_false] at hk
            cases hk
          | true =>
            rw [c4, cond_true] at hk
            cases hk
            obtain ⟨c4, c5⟩ := Bool.and_eq_true_iff.mp c4
            have e4 := k_ge_ok h.2.1 h.2.2.1 c4
            have e5 := k_ge_ok h.2.1 h.2.2.1 c5
            rw [k_ev_sub, k_ev_sub, k_ev_c] at e5
            refine ⟨k_find_sc h hx', ?_⟩
            have g := h.2.2.2.2.1 _ hp
            rw [k_is_ev (σ := σ) h6] at g
            have g : kSx M 453 0 450 0 (k_ev σ p.1.2) (k_ev σ p.2) := kPhi_to (i := 6) (p := 0) rfl (by omega) (g.2 (by omega))
            obtain ⟨e, x2, y, z8, b1, b2, b3, b4, b5, b6, -, -⟩ := g.1 (k_ev σ l) e4 (by omega)
            have i1 := k_find_int h hx' (by rw [k_ev_c]; omega)
            rw [k_ev_c, k_ev_add, k_ev_mul, k_ev_c] at i1
            rw [Int.zero_add] at b1 b4 b5
            have i2 : kInt M (k_ev σ r.1.1) (k_ev σ r.1.2) (k_ev σ r.2) := (h.2.2.2.2.1 _ hr).int (by rw [c1, k_ev_c]; omega)
            rw [c1, k_ev_c, ← e3] at i2
            have ex := b4.uq i1
            have ee := b1.uq i2
            exact ⟨y, by rw [← e2, ← ee]; exact b5, by omega⟩
    · cases hk
theorem k_vr6_ok (h : kRS N σ S M) (hc : kSc S.1.length c) (hs : kSc S.1.length j) (ha : (a : Int) = k_ev σ c) (ha2 : a = 450) (hj : (i : Int) = k_ev σ j) (hq : M[a]? = some q) (hk : kCell d q) (hjl : i < d.2.1) (hr : k_vr6 S c j d = some L) : kRdd N σ S M q i L := by
  unfold k_vr6 at hr
  split at hr
  · cases hr
  · split at hr
    · cases c2 : k_eq (k_add (k_mul 26 (k_dv 26 (k_sub j (kc 3)))) (kc 3)) j with
      | false =>
        rw [c2, cond_false] at hr
        cases hr
      | true =>
        rw [c2, cond_true] at hr
        have e2 := k_eq_ok (σ := σ) c2
        rw [k_ev_add, k_ev_mul, k_ev_c] at e2
        split at hr
        · cases hr
        · rename_i x hx
          split at hr
          · cases hr
          · rename_i G hG
            cases hr
            obtain ⟨p, hp, hx⟩ := List.exists_of_findSome?_eq_some hx
            cases c6 : k_is p.1.1 (-6) with
            | false =>
              rw [c6, cond_false] at hx
              cases hx
            | true =>
              rw [c6, cond_true] at hx
              obtain ⟨r, hr, hx⟩ := List.exists_of_findSome?_eq_some hx
              obtain ⟨sx, y, y1, y2⟩ := k_vr6l_ok h hp hr c6 hx
              obtain ⟨w, x', w1, w2, g, hg, τ, t1, t2, t3, t4, t5⟩ := k_rdo_ok h hc hs ha hj hq hk hjl hG
              have hxy : x' = y := by
                have z1 : k_gi M a i = some x' := k_gi_of hq w1 w2
                have z2 := y1.2.2
                have : (26 * k_ev σ (k_dv 26 (k_sub j (kc 3))) + 3).toNat = i := by omega
                rw [this] at z2
                have z2 : k_gi M 450 i = some y := z2
                rw [← ha2, z1] at z2
                exact Option.some.inj z2
              refine ⟨w, x', w1, w2, ?_⟩
              obtain ⟨T, u1, u2, u3⟩ := k_asm_ok t3 (e := k_sub g.1 x) (kSc_sub t5 (sx.mono t2)) (by rw [k_ev_sub, t4, k_ev_agree t1 sx]; omega)
              refine ⟨(g.1, T), List.mem_flatMap.mpr ⟨g, hg, ?_⟩, τ, t1, by show S.1.length ≤ T.1.length; rw [u2]; exact t2, u3, t4, by show kSc T.1.length g.1; rw [u2]; exact t5⟩
              rw [u1]
              exact List.mem_singleton.mpr rfl
    · cases hr
theorem k_vr8_ok (h : kRS N σ S M) (hc : kSc S.1.length c) (hs : kSc S.1.length j) (ha : (a : Int) = k_ev σ c) (ha2 : a = 453) (hj : (i : Int) = k_ev σ j) (hq : M[a]? = some q) (hk : kCell d q) (hjl : i < d.2.1) (hr : k_vr8 S c j d = some L) : kRdd N σ S M q i L := by
  unfold k_vr8 at hr
  split at hr
  · cases hr
  · split at hr
    · cases c2 : (k_eq (k_add (k_mul 12 (k_dv 12 (k_sub j (kc 8)))) (kc 8)) j && (k_ge S.1 S.2.1 (k_dv 12 (k_sub j (kc 8))) && S.2.2.2.any (fun q => k_is q.1.1 (-6) && k_ge S.1 S.2.1 (k_sub (k_sub q.1.2 (kc 1)) (k_dv 12 (k_sub j (kc 8))))))) with
      | false =>
        rw [c2, cond_false] at hr
        cases hr
      | true =>
        rw [c2, cond_true] at hr
        simp only [Bool.and_eq_true] at c2
        obtain ⟨c2, c3, c4⟩ := c2
        have e2 := k_eq_ok (σ := σ) c2
        have e3 := k_ge_ok h.2.1 h.2.2.1 c3
        obtain ⟨p, hp, c4⟩ := List.any_eq_true.mp c4
        obtain ⟨c4, c5⟩ := Bool.and_eq_true_iff.mp c4
        have e5 := k_ge_ok h.2.1 h.2.2.1 c5
        have sl : kSc S.1.length (k_dv 12 (k_sub j (kc 8))) := k_dv_sc (kSc_sub hs kSc_c)
        generalize k_dv 12 (k_sub j (kc 8)) = l at e2 e3 e5 sl hr
        rw [k_ev_add, k_ev_mul, k_ev_c] at e2
        rw [k_ev_sub, k_ev_sub, k_ev_c] at e5
        have g := h.2.2.2.2.1 _ hp
        rw [k_is_ev (σ := σ) c4] at g
        have g : kSx M 453 0 450 0 (k_ev σ p.1.2) (k_ev σ p.2) := kPhi_to (i := 6) (p := 0) rfl (by omega) (g.2 (by omega))
        obtain ⟨e, x2, y, z, -, -, -, -, -, -, b7, b8⟩ := g.1 (k_ev σ l) e3 (by omega)
        split at hr
        · cases hr
        · rename_i G hG
          cases hr
          obtain ⟨w, x', w1, w2, gg, hg, τ, t1, t2, t3, t4, t5⟩ := k_rdo_ok h hc hs ha hj hq hk hjl hG
          have hxz : x' = z := by
            have z1 : k_gi M a i = some x' := k_gi_of hq w1 w2
            have z2 := b7.2.2
            have : ((0 : Int) + (12 * k_ev σ l + 8)).toNat = i := by omega
            rw [this] at z2
            have z2 : k_gi M 453 i = some z := z2
            rw [← ha2, z1] at z2
            exact Option.some.inj z2
          refine ⟨w, x', w1, w2, ?_⟩
          obtain ⟨T, u1, u2, u3⟩ := k_asm_ok t3 (e := k_sub (k_sub l (kc 1)) gg.1) (kSc_sub (kSc_sub (sl.mono t2) kSc_c) t5) (by rw [k_ev_sub, k_ev_sub, k_ev_c, t4, k_ev_agree t1 sl]; omega)
          refine ⟨(gg.1, T), List.mem_flatMap.mpr ⟨gg, hg, ?_⟩, τ, t1, by show S.1.length ≤ T.1.length; rw [u2]; exact t2, u3, t4, by show kSc T.1.length gg.1; rw [u2]; exact t5⟩
          rw [u1]
          exact List.mem_singleton.mpr rfl
    · cases hr
theorem k_vrd0_ok (h : kRS N σ S M) (hc : kSc S.1.length c) (hs : kSc S.1.length j) (ha : (a : Int) = k_ev σ c) (hj : (i : Int) = k_ev σ j) (hq : M[a]? = some q) (hk : kCell d q) (hjl : i < d.2.1) (hr : k_vrd0 S c j d = some L) : ∃ (w : Value) (x : Int), q.2[i]? = some w ∧ kNum w x ∧ kGot N S.1.length σ M L x := by
  unfold k_vrd0 at hr
  cases h1 : k_cst c with
  | true =>
    rw [h1, cond_true] at hr
    have ec : k_ev σ c = c.1 := k_ev_const h1
    cases c1 : decide (c.1 = 450) with
    | true =>
      rw [c1, cond_true] at hr
      have := of_decide_eq_true c1
      exact k_vr6_ok h hc hs ha (by omega) hj hq hk hjl hr
    | false =>
      rw [c1, cond_false] at hr
      cases c8 : decide (c.1 = 453) with
      | true =>
        rw [c8, cond_true] at hr
        have := of_decide_eq_true c8
        exact k_vr8_ok h hc hs ha (by omega) hj hq hk hjl hr
      | false =>
      rw [c8, cond_false] at hr
      cases c2 : decide (c.1 = 471) with
      | true =>
        rw [c2, cond_true] at hr
        have := of_decide_eq_true c2
        exact k_vr2_ok h hs (by omega) hj hq hr
      | false =>
        rw [c2, cond_false] at hr
        cases c3 : decide (c.1 = 461) with
        | true =>
          rw [c3, cond_true] at hr
          have := of_decide_eq_true c3
          exact k_vr3_ok h hc hs ha (by omega) hj hq hr
        | false =>
          rw [c3, cond_false] at hr
          cases c4 : decide (c.1 = 462) with
          | true =>
            rw [c4, cond_true] at hr
            have := of_decide_eq_true c4
            exact k_vr4_ok h hc hs ha (by omega) hj hq hr
          | false =>
            rw [c4, cond_false] at hr
            cases c5 : (decide (403 ≤ c.1) && decide (c.1 ≤ 439)) with
            | true =>
              rw [c5, cond_true] at hr
              simp only [Bool.and_eq_true, decide_eq_true_eq] at c5
              exact k_vr1_ok h hc ha hj hq (by omega) (by omega) hr
            | false =>
              rw [c5, cond_false] at hr
              cases hr
  | false =>
    rw [h1, cond_false] at hr
    cases c5 : (decide (403 ≤ k_lo S.1 c) && decide (k_hi S.1 c ≤ 439)) with
    | true =>
      rw [c5, cond_true] at hr
      simp only [Bool.and_eq_true, decide_eq_true_eq] at c5
      have := k_lo_le h.2.1 c
      have := k_hi_ge h.2.1 c
      exact k_vr1_ok h hc ha hj hq (by omega) (by omega) hr
    | false =>
      rw [c5, cond_false] at hr
      cases hr
theorem kHas_int {N : kN} {M : pM} {c s v : Int} (h : kInt M c s v) : kHas N M c s v := by
  obtain ⟨h1, h2, h3⟩ := h
  obtain ⟨q, w, e1, e2, e3⟩ := k_gi_some h3
  exact ⟨fun _ => ⟨c.toNat, s.toNat, q, w, Int.toNat_of_nonneg h1, Int.toNat_of_nonneg h2, e1, e2, e3⟩, fun hl => by omega⟩
/-! a byte of the text, on either side -/
def k_b255 (l : List (Int × Int)) : Bool := match l with
  | [z] => decide (z.1 = 0) && decide (z.2 = 255)
  | _ => false
def k_vrf (c j : kE) (z : kE × kS) (r : Int × Int) : List (kE × kS) := match (k_asm z.2 (k_sub z.1 (kc r.1))).bind (fun U => k_asm U (k_sub (kc r.2) z.1)) with
  | some U => [(z.1, k_put U ((c, j), z.1))]
  | none => []
def k_vrm (S : kS) (c j : kE) (d : kDe) : Option (List (kE × kS)) := cond (S.2.2.2.any (fun q => k_wq q.1.1 c && k_eqS S q.1.2 j) || !(Nat.ble d.2.1 400)) none (match k_ad0 S with
  | none => some []
  | some T => cond (k_b255 (k_brg T j true)) none (match k_rdz T c j d with
    | some [z] => cond (decide (0 ≤ k_lo z.2.1 z.1) && decide (k_hi z.2.1 z.1 ≤ 255)) (some ((k_brg T j true).flatMap (k_vrf c j z))) none
    | _ => none))
def k_trq (S : kS) (j : kE) (q : kH) : Bool := k_is q.1.1 (-95) && k_geS S (k_sub (k_sub q.1.2 (kc 1)) j)
def k_vrw (T : kS) (c j w : kE) : List (kE × kS) := (match k_asm T (k_sub (kc 127) w) with
    | some U => [(w, k_put U ((c, j), w))]
    | none => []) ++ (match k_asm T (k_sub w (kc 128)) with
    | some U => [(k_sub w (kc 256), k_put U ((c, j), k_sub w (kc 256)))]
    | none => [])
def k_vrn (T : kS) (c j : kE) (z : Int × Int) : kE × kS := cond (decide (z.2 < 128)) ((k_new T z.1 z.2).1, k_put (k_put (k_new T z.1 z.2).2 ((kc 460, j), (k_new T z.1 z.2).1)) ((c, j), (k_new T z.1 z.2).1))
  (k_sub (k_new T z.1 z.2).1 (kc 256), k_put (k_put (k_new T z.1 z.2).2 ((kc 460, j), (k_new T z.1 z.2).1)) ((c, j), k_sub (k_new T z.1 z.2).1 (kc 256)))
def k_vrx (S : kS) (c j : kE) (d : kDe) : Option (List (kE × kS)) := match k_find c j S.2.2.2 with
  | some _ => none
  | none => cond (Nat.ble d.2.1 400) (match k_ad0 S with
    | none => some []
    | some T => cond (T.2.2.2.any (k_trq T j)) (match k_find (kc 460) j T.2.2.2 with
      | some w => some (k_vrw T c j w)
      | none => some ((k_brg T j false).map (k_vrn T c j))) none) none
def k_vr15 (S : kS) (c j : kE) (d : kDe) : Option (List (kE × kS)) := cond (k_is c 460) (k_vrm S c j d) (cond (k_is c 364) (k_vrx S c j d) none)
theorem k_vrm_ok (h : kRS N σ S M) (hc : kSc S.1.length c) (hs : kSc S.1.length j) (ha : (a : Int) = k_ev σ c) (ha2 : a = 460) (hj : (i : Int) = k_ev σ j) (hq : M[a]? = some q) (hk : kCell d q) (hjl : i < d.2.1) (hr : k_vrm S c j d = some L) : kRdd N σ S M q i L := by
  unfold k_vrm at hr
  cases c0 : (S.2.2.2.any (fun q => k_wq q.1.1 c && k_eqS S q.1.2 j) || !(Nat.ble d.2.1 400)) with
  | true =>
    rw [c0, cond_true] at hr
    cases hr
  | false =>
    rw [c0, cond_false] at hr
    have d4 : d.2.1 ≤ 400 := by
      have := (Bool.or_eq_false_iff.mp c0).2
      rw [Bool.not_eq_false'] at this
      exact Nat.le_of_ble_eq_true this
    obtain ⟨T, t1, t2, t3⟩ := k_ad0_ok h
    rw [t1] at hr
    dsimp only at hr
    cases c1 : k_b255 (k_brg T j true) with
    | true =>
      rw [c1, cond_true] at hr
      cases hr
    | false =>
      rw [c1, cond_false] at hr
      split at hr
      · rename_i z hz
        obtain ⟨g, hr⟩ := pm_cs hr
        cases hr
        simp only [Bool.and_eq_true, decide_eq_true_eq] at g
        obtain ⟨w, x, w1, w2, g1⟩ := k_rdz_ok (c := c) t3 (by rw [t2]; exact hs) hj hk hjl hz
        obtain ⟨r, hr, τ, u1, u2, u3, u4, u5⟩ := g1
        obtain rfl := List.mem_singleton.mp hr
        have hx : (kTt M).1 i = x := by
          show (k_gi M 460 i).getD 0 = x
          rw [ha2] at hq
          rw [k_gi_of hq w1 w2]
          rfl
        have lo := k_lo_le u3.2.1 r.1
        have hi := k_hi_ge u3.2.1 r.1
        rw [u4] at lo hi
        obtain ⟨b, hb, b1, b2⟩ := k_brg_ok t3 (wh := true) (p := i) (by omega) hj (by omega) (by omega)
        rw [hx] at b1 b2
        rw [t2] at u1 u2
        obtain ⟨U, v1, v2, v3⟩ := k_asm_ok u3 (e := k_sub r.1 (kc b.1)) (kSc_sub u5 kSc_c) (by rw [k_ev_sub, k_ev_c, u4]; omega)
        obtain ⟨V, x1, x2, x3⟩ := k_asm_ok v3 (e := k_sub (kc b.2) r.1) (by rw [v2]; exact kSc_sub kSc_c u5) (by rw [k_ev_sub, k_ev_c, u4]; omega)
        have len : V.1.length = r.2.1.length := x2.trans v2
        refine ⟨w, x, w1, w2, (r.1, k_put V ((c, j), r.1)), List.mem_flatMap.mpr ⟨b, hb, ?_⟩, τ, u1, by show _ ≤ V.1.length; rw [len]; exact u2, ?_, u4, by show kSc V.1.length r.1; rw [len]; exact u5⟩
        · unfold k_vrf
          rw [v1]
          show _ ∈ (match k_asm U (k_sub (kc b.2) r.1) with
            | some U => [(r.1, k_put U ((c, j), r.1))]
            | none => [])
          rw [x1]
          exact List.mem_singleton.mpr rfl
        · exact kRS_know x3 (by rw [len]; exact hc.mono u2) (by rw [len]; exact hs.mono u2) (by rw [len]; exact u5) (by rw [k_ev_agree u1 hc]; exact ha) (by rw [k_ev_agree u1 hs]; exact hj) hq w1 (by rw [u4]; exact w2)
      · cases hr
theorem k_vrx_ok (h : kRS N σ S M) (hc : kSc S.1.length c) (hs : kSc S.1.length j) (ha : (a : Int) = k_ev σ c) (ha2 : a = 364) (hj : (i : Int) = k_ev σ j) (hq : M[a]? = some q) (hjl : i < d.2.1) (hr : k_vrx S c j d = some L) : kRdd N σ S M q i L := by
  unfold k_vrx at hr
  split at hr
  · cases hr
  · obtain ⟨d4, hr⟩ := pm_cs hr
    have d4 := Nat.le_of_ble_eq_true d4
    obtain ⟨T, t1, t2, t3⟩ := k_ad0_ok h
    rw [t1] at hr
    dsimp only at hr
    obtain ⟨c1, hr⟩ := pm_cs hr
    obtain ⟨p, hp, c1⟩ := List.any_eq_true.mp c1
    obtain ⟨c1, c2⟩ := Bool.and_eq_true_iff.mp c1
    have c1 := k_is_ev (σ := σ) c1
    have c2 := k_ge_ok t3.2.1 t3.2.2.1 c2
    rw [k_ev_sub, k_ev_sub, k_ev_c] at c2
    have hh := t3.2.2.2.2.1 p hp
    rw [c1] at hh
    have hh : kPtx M 5 (k_ev σ p.1.2) (k_ev σ p.2) := kPhi_to (i := 15) (p := 5) (by omega) (by omega) (hh.2 (by omega))
    obtain ⟨b, b1, b2, b3, b4⟩ := (kPtx_5 (by decide)).mp hh i (by omega)
    subst ha2
    obtain ⟨w, w1, w2⟩ := k_gi_at b3 hq
    have hsT : kSc T.1.length j := by rw [t2]; exact hs
    have hcT : kSc T.1.length c := by rw [t2]; exact hc
    have i460 : kInt M 460 (k_ev σ j) b := ⟨by omega, by omega, by rw [← hj]; exact b4⟩
    refine ⟨w, kSgb b, w1, w2, ?_⟩
    split at hr
    · rename_i e he
      cases hr
      have e1 := k_find_int t3 he (by rw [k_ev_c]; omega)
      rw [k_ev_c] at e1
      have eb := i460.uq e1
      have es := k_find_sc t3 he
      unfold kSgb at w2 ⊢
      by_cases hb : b ≤ 127
      · rw [if_pos hb] at w2 ⊢
        obtain ⟨U, v1, v2, v3⟩ := k_asm_ok t3 (e := k_sub (kc 127) e) (kSc_sub kSc_c es) (by rw [k_ev_sub, k_ev_c]; omega)
        refine ⟨(e, k_put U ((c, j), e)), ?_, σ, fun _ _ => rfl, by show S.1.length ≤ U.1.length; rw [v2, t2]; exact Nat.le_refl _, ?_, eb.symm, by show kSc U.1.length e; rw [v2]; exact es⟩
        · unfold k_vrw
          rw [v1]
          exact List.mem_append_left _ (List.mem_singleton.mpr rfl)
        · exact kRS_know v3 (by rw [v2]; exact hcT) (by rw [v2]; exact hsT) (by rw [v2]; exact es) ha hj hq w1 (by rw [← eb]; exact w2)
      · rw [if_neg hb] at w2 ⊢
        obtain ⟨U, v1, v2, v3⟩ := k_asm_ok t3 (e := k_sub e (kc 128)) (kSc_sub es kSc_c) (by rw [k_ev_sub, k_ev_c]; omega)
        have ev : k_ev σ (k_sub e (kc 256)) = b - 256 := by
          rw [k_ev_sub, k_ev_c]
          omega
        refine ⟨(k_sub e (kc 256), k_put U ((c, j), k_sub e (kc 256))), ?_, σ, fun _ _ => rfl, by show S.1.length ≤ U.1.length; rw [v2, t2]; exact Nat.le_refl _, ?_, ev, by show kSc U.1.length _; rw [v2]; exact kSc_sub es kSc_c⟩
        · unfold k_vrw
          rw [v1]
          exact List.mem_append_right _ (List.mem_singleton.mpr rfl)
        · exact kRS_know v3 (by rw [v2]; exact hcT) (by rw [v2]; exact hsT) (by rw [v2]; exact kSc_sub es kSc_c) ha hj hq w1 (by rw [ev]; exact w2)
    · cases hr
      have hx : (kTt M).1 i = b := by
        show (k_gi M 460 i).getD 0 = b
        rw [b4]
        rfl
      obtain ⟨z, hz, z1, z2⟩ := k_brg_ok t3 (wh := false) (p := i) (by omega) hj (by omega) (by omega)
      rw [hx] at z1 z2
      obtain ⟨τ, u1, u2, u3, u4, u5⟩ := k_new_ok t3 z1 z2
      have agc : k_ev τ c = k_ev σ c := k_ev_agree u1 hcT
      have agj : k_ev τ j = k_ev σ j := k_ev_agree u1 hsT
      have p1 : kRS N τ (k_put (k_new T z.1 z.2).2 ((kc 460, j), (k_new T z.1 z.2).1)) M := kRS_put u3 ⟨kSc_c, hsT.mono u2, u5⟩ (kHas_int (by
        show kInt M (k_ev τ (kc 460)) (k_ev τ j) (k_ev τ (k_new T z.1 z.2).1)
        rw [k_ev_c, agj, u4]
        exact i460))
      refine ⟨_, List.mem_map.mpr ⟨z, hz, rfl⟩, τ, fun b hb => u1 b (by rw [t2]; exact hb), ?_⟩
      unfold k_vrn
      unfold kSgb at w2 ⊢
      cases c3 : decide (z.2 < 128) with
      | true =>
        have c3 := of_decide_eq_true c3
        rw [if_pos (by omega)] at w2 ⊢
        exact ⟨by show S.1.length ≤ (k_new T z.1 z.2).2.1.length; rw [← t2]; exact u2, kRS_know p1 (hcT.mono u2) (hsT.mono u2) u5 (by rw [agc]; exact ha) (by rw [agj]; exact hj) hq w1 (by rw [u4]; exact w2), u4, u5⟩
      | false =>
        have c3 := of_decide_eq_false c3
        have zr : 128 ≤ z.1 := k_brg_hi hz c3
        rw [if_neg (by omega)] at w2 ⊢
        have ev : k_ev τ (k_sub (k_new T z.1 z.2).1 (kc 256)) = b - 256 := by rw [k_ev_sub, k_ev_c, u4]
        exact ⟨by show S.1.length ≤ (k_new T z.1 z.2).2.1.length; rw [← t2]; exact u2, kRS_know p1 (hcT.mono u2) (hsT.mono u2) (kSc_sub u5 kSc_c) (by rw [agc]; exact ha) (by rw [agj]; exact hj) hq w1 (by rw [ev]; exact w2), ev, kSc_sub u5 kSc_c⟩
theorem k_vr15_ok (h : kRS N σ S M) (hc : kSc S.1.length c) (hs : kSc S.1.length j) (ha : (a : Int) = k_ev σ c) (hj : (i : Int) = k_ev σ j) (hq : M[a]? = some q) (hk : kCell d q) (hjl : i < d.2.1) (hr : k_vr15 S c j d = some L) : kRdd N σ S M q i L := by
  unfold k_vr15 at hr
  cases c1 : k_is c 460 with
  | true =>
    rw [c1, cond_true] at hr
    have := k_is_ev (σ := σ) c1
    exact k_vrm_ok h hc hs ha (by omega) hj hq hk hjl hr
  | false =>
    rw [c1, cond_false] at hr
    obtain ⟨c2, hr⟩ := pm_cs hr
    have := k_is_ev (σ := σ) c2
    exact k_vrx_ok h hc hs ha (by omega) hj hq hjl hr
/-! a row read that is known to hold what another does -/
def k_r9 (S : kS) (t u : Int × Int × Int) (j sw : kE) : Option (Int × kE) := cond (decide (1 ≤ t.2.2) && (decide (0 ≤ u.1) && (k_eq (k_add (k_mul t.2.2 (k_dv t.2.2 (k_sub j (kc t.2.1)))) (kc t.2.1)) j && (k_ge S.1 S.2.1 (k_dv t.2.2 (k_sub j (kc t.2.1))) && k_ge S.1 S.2.1 (k_sub (k_sub sw (kc 1)) (k_dv t.2.2 (k_sub j (kc t.2.1)))))))) (some (u.1, k_add (k_mul u.2.2 (k_dv t.2.2 (k_sub j (kc t.2.1)))) (kc u.2.1))) none
def k_c9 (S : kS) (c j : kE) (q : kH) : Option (Int × kE) := cond (k_neg S 9 q) (match k_rlw q.1.1 with
  | none => none
  | some r => cond (k_is c r.1.1) (k_r9 S r.1 r.2.1 j q.1.2) (cond (k_is c r.2.1.1) (k_r9 S r.2.1 r.1 j q.1.2) none)) none
def k_vr9 (S : kS) (c j : kE) (d : kDe) : Option (List (kE × kS)) := match k_fq S c j with
  | some _ => none
  | none => match S.2.2.2.findSome? (k_c9 S c j) with
    | none => none
    | some z => (match k_fq S (kc z.1) z.2 with
      | some y => some [(y, k_put S ((c, j), y))]
      | none => (match k_rdz S c j d with
        | none => none
        | some L => some (L.map (fun r => (r.1, k_put (k_put r.2 ((c, j), r.1)) ((kc z.1, z.2), r.1))))))
def k_vrd (S : kS) (c j : kE) (d : kDe) : Option (List (kE × kS)) := match k_vr15 S c j d with
  | some L => some L
  | none => match k_vrd0 S c j d with
    | some L => some L
    | none => cond (k_cst c) (k_vr9 S c j d) none
theorem k_r9_ok {t u : Int × Int × Int} {sw : kE} {z : Int × kE} (h : kRS N σ S M) (hs : kSc S.1.length j) (hj : k_ev σ c = t.1) (hold : ∀ i : Int, 0 ≤ i → i < k_ev σ sw → kPq M t u i) (hz : k_r9 S t u j sw = some z) : 0 ≤ z.1 ∧ kSc S.1.length z.2 ∧ ∃ x, kInt M (k_ev σ c) (k_ev σ j) x ∧ kInt M z.1 (k_ev σ z.2) x := by
  unfold k_r9 at hz
  obtain ⟨h1, hz⟩ := pm_cs hz
  cases hz
  simp only [Bool.and_eq_true, decide_eq_true_eq] at h1
  obtain ⟨p0, p1, p2, p3, p4⟩ := h1
  have sx : kSc S.1.length (k_dv t.2.2 (k_sub j (kc t.2.1))) := k_dv_sc (kSc_sub hs kSc_c)
  generalize k_dv t.2.2 (k_sub j (kc t.2.1)) = x at p2 p3 p4 sx
  have e2 := k_eq_ok (σ := σ) p2
  have e3 := k_ge_ok h.2.1 h.2.2.1 p3
  have e4 := k_ge_ok h.2.1 h.2.2.1 p4
  rw [k_ev_add, k_ev_mul, k_ev_c] at e2
  rw [k_ev_sub, k_ev_sub, k_ev_c] at e4
  refine ⟨p1, kSc_add (kSc_mul sx) kSc_c, ?_⟩
  obtain ⟨y, a1, a2⟩ := hold (k_ev σ x) e3 (by omega)
  refine ⟨y, ?_, ?_⟩
  · have e5 : kSl t (k_ev σ x) = k_ev σ j := by
      unfold kSl
      omega
    rw [hj, ← e5]
    exact a1
  · show kInt M u.1 (k_ev σ (k_add (k_mul u.2.2 x) (kc u.2.1))) y
    rw [k_ev_add, k_ev_mul, k_ev_c, Int.add_comm]
    exact a2
theorem k_c9_ok {p : kH} {z : Int × kE} (h : kRS N σ S M) (hs : kSc S.1.length j) (hp : p ∈ S.2.2.2) (hz : k_c9 S c j p = some z) : 0 ≤ z.1 ∧ kSc S.1.length z.2 ∧ ∃ x, kInt M (k_ev σ c) (k_ev σ j) x ∧ kInt M z.1 (k_ev σ z.2) x := by
  unfold k_c9 at hz
  obtain ⟨h1, hz⟩ := pm_cs hz
  have hp : kRl M (k_ev σ (k_vp p.1.1)) (k_ev σ p.1.2) (fun _ => True) := k_neg_ok h hp h1
  split at hz
  · cases hz
  · rename_i r hr
    obtain ⟨p0, p1⟩ := k_rlw_ok (σ := σ) hr
    obtain ⟨r', a1, a2, a3, a4⟩ := hp
    rw [p1] at a2
    cases a2
    cases c2 : k_is c r.1.1 with
    | true =>
      rw [c2, cond_true] at hz
      exact k_r9_ok h hs (k_is_ev c2) (fun i b1 b2 => a4 i b1 b2 trivial) hz
    | false =>
      rw [c2, cond_false] at hz
      obtain ⟨c3, hz⟩ := pm_cs hz
      exact k_r9_ok h hs (k_is_ev c3) (fun i b1 b2 => (a4 i b1 b2 trivial).symm) hz
theorem k_vr9_ok (h : kRS N σ S M) (hc : kSc S.1.length c) (hs : kSc S.1.length j) (ha : (a : Int) = k_ev σ c) (hj : (i : Int) = k_ev σ j) (hq : M[a]? = some q) (hk : kCell d q) (hjl : i < d.2.1) (hr : k_vr9 S c j d = some L) : kRdd N σ S M q i L := by
  unfold k_vr9 at hr
  split at hr
  · cases hr
  · split at hr
    · cases hr
    · rename_i z hz
      obtain ⟨p, hp, hz⟩ := List.exists_of_findSome?_eq_some hz
      obtain ⟨z0, z1, x, x1, x2⟩ := k_c9_ok h hs hp hz
      obtain ⟨w, w1, w2⟩ := kInt_at (a := a) (i := i) x1 ha.symm hj.symm hq
      split at hr
      · rename_i y hy
        cases hr
        obtain ⟨sy, i0⟩ := k_fq_ok h hy
        have i1 := i0.int (by rw [k_ev_c]; exact z0)
        rw [k_ev_c] at i1
        have e := x2.uq i1
        subst e
        exact ⟨w, _, w1, w2, kGot.one (kRS_put h ⟨hc, hs, sy⟩ (kHas_int x1)) rfl sy rfl⟩
      · split at hr
        · cases hr
        · rename_i L' hL'
          cases hr
          obtain ⟨w', x', e1, e2, r, hr, τ, t1, t2, t3, t4, t5⟩ := k_rdz_ok h hs hj hk hjl hL'
          have ex : x' = x := by
            have g1 := k_gi_of hq e1 e2
            have g2 := x1.2.2
            rw [← ha, ← hj, Int.toNat_natCast, Int.toNat_natCast, g1] at g2
            exact Option.some.inj g2
          subst ex
          refine ⟨w', x', e1, e2, _, List.mem_map.mpr ⟨r, hr, rfl⟩, τ, t1, t2, ?_, t4, t5⟩
          refine kRS_put (kRS_know t3 (hc.mono t2) (hs.mono t2) t5 (by rw [k_ev_agree t1 hc]; exact ha) (by rw [k_ev_agree t1 hs]; exact hj) hq e1 (by rw [t4]; exact e2)) ⟨kSc_c, z1.mono t2, t5⟩ (kHas_int ?_)
          show kInt M (k_ev τ (kc z.1)) (k_ev τ z.2) (k_ev τ r.1)
          rw [k_ev_c, t4, k_ev_agree t1 z1]
          exact x2
theorem k_vrd_ok (h : kRS N σ S M) (hc : kSc S.1.length c) (hs : kSc S.1.length j) (ha : (a : Int) = k_ev σ c) (hj : (i : Int) = k_ev σ j) (hq : M[a]? = some q) (hk : kCell d q) (hjl : i < d.2.1) (hr : k_vrd S c j d = some L) : ∃ (w : Value) (x : Int), q.2[i]? = some w ∧ kNum w x ∧ kGot N S.1.length σ M L x := by
  unfold k_vrd at hr
  split at hr
  · rename_i L' hL'
    cases hr
    exact k_vr15_ok h hc hs ha hj hq hk hjl hL'
  · split at hr
    · rename_i L' hL'
      cases hr
      exact k_vrd0_ok h hc hs ha hj hq hk hjl hL'
    · obtain ⟨-, hr⟩ := pm_cs hr
      exact k_vr9_ok h hc hs ha hj hq hk hjl hr
end KVR
/-! what is known of a virtual place without an entry -/
def k_vtv0 (S : kS) (c s : kE) : Option kE := cond (k_vok c && (Nat.ble 3 (k_vi c) && (Nat.ble (k_vi c) 7 && (!(Nat.beq (k_vi c) 6) && decide (k_nv S.1 s = kc 0))))) (some (kc 0)) none
theorem k_vtv0_ok {N : kN} {σ : Nat → Int} {S : kS} {M : pM} {c s v : kE} (h : kRS N σ S M) (hc : kSc S.1.length c) (hs : kSc S.1.length s) (hn : k_ev σ c < 0) (hv : k_vtv0 S c s = some v) : kSc S.1.length v ∧ kHas N M (k_ev σ c) (k_ev σ s) (k_ev σ v) := by
  unfold k_vtv0 at hv
  cases hk : (k_vok c && (Nat.ble 3 (k_vi c) && (Nat.ble (k_vi c) 7 && (!(Nat.beq (k_vi c) 6) && decide (k_nv S.1 s = kc 0))))) with
  | false =>
    rw [hk, cond_false] at hv
    cases hv
  | true =>
    rw [hk, cond_true] at hv
    cases hv
    simp only [Bool.and_eq_true] at hk
    obtain ⟨h1, h2, h3, h4, h5⟩ := hk
    have h2 := Nat.le_of_ble_eq_true h2
    have h3 := Nat.le_of_ble_eq_true h3
    have h5 := of_decide_eq_true h5
    have e := k_nv_ok (e := s) h.2.1
    rw [h5, k_ev_c] at e
    refine ⟨kSc_c, kHas.neg hn (kPhi_of (k_vok_ev h1) (k_vi_lt c) ?_)⟩
    rw [← e, k_ev_c]
    generalize k_vi c = z at h2 h3 h4
    match z, h2, h3, h4 with
    | 3, _, _, _ => exact ⟨0, 0, rfl, rfl⟩
    | 4, _, _, _ => exact ⟨0, rfl, rfl⟩
    | 5, _, _, _ => exact ⟨0, rfl, rfl⟩
    | 6, _, _, h4 => cases h4
    | 7, _, _, _ => exact ⟨0, rfl, rfl⟩
    | 0, h2, _, _ => exact absurd h2 (by omega)
    | 1, h2, _, _ => exact absurd h2 (by omega)
    | 2, h2, _, _ => exact absurd h2 (by omega)
    | z + 8, _, h3, _ => exact absurd h3 (by omega)
def k_rl0 (c : kE) : Bool := match k_rlw c with
  | none => false
  | some r => decide (0 ≤ r.2.2)
def k_vtvA (S : kS) (c s : kE) : Option kE := match k_vtv0 S c s with
  | some v => some v
  | none => cond (k_vok c && (Nat.beq (k_vi c) 9 && (decide (k_nv S.1 s = kc 0) && k_rl0 c))) (some (kc 0)) none
theorem k_vtvA_ok {N : kN} {σ : Nat → Int} {S : kS} {M : pM} {c s v : kE} (h : kRS N σ S M) (hc : kSc S.1.length c) (hs : kSc S.1.length s) (hn : k_ev σ c < 0) (hv : k_vtvA S c s = some v) : kSc S.1.length v ∧ kHas N M (k_ev σ c) (k_ev σ s) (k_ev σ v) := by
  unfold k_vtvA at hv
  split at hv
  · rename_i v' hv'
    cases hv
    exact k_vtv0_ok h hc hs hn hv'
  · obtain ⟨h1, hv⟩ := pm_cs hv
    cases hv
    simp only [Bool.and_eq_true] at h1
    obtain ⟨h1, h2, h3, h4⟩ := h1
    have h2 := pm_beq h2
    have h3 := of_decide_eq_true h3
    have e := k_nv_ok (e := s) h.2.1
    rw [h3, k_ev_c] at e
    unfold k_rl0 at h4
    split at h4
    · cases h4
    · rename_i r hr
      obtain ⟨p0, p1⟩ := k_rlw_ok (σ := σ) hr
      refine ⟨kSc_c, kHas.neg hn (kPhi_of (i := 9) (by rw [← h2]; exact k_vok_ev h1) (by omega) ?_)⟩
      rw [← e]
      exact ⟨r, p0, p1, of_decide_eq_true h4, fun i a1 a2 _ => by omega⟩
def k_vtv (S : kS) (c s : kE) : Option kE := match k_vtvA S c s with
  | some v => some v
  | none => (match k_vt13 S c s with
    | some v => some v
    | none => k_vt15 c s S)
theorem k_vtv_ok {N : kN} {σ : Nat → Int} {S : kS} {M : pM} {c s v : kE} (h : kRS N σ S M) (hc : kSc S.1.length c) (hs : kSc S.1.length s) (hn : k_ev σ c < 0) (hv : k_vtv S c s = some v) : kSc S.1.length v ∧ kHas N M (k_ev σ c) (k_ev σ s) (k_ev σ v) := by
  unfold k_vtv at hv
  split at hv
  · rename_i v' hv'
    cases hv
    exact k_vtvA_ok h hc hs hn hv'
  · split at hv
    · rename_i v' hv'
      cases hv
      exact k_vt13_ok h hc hn hv'
    · exact k_vt15_ok h hn hv
def k_vf7 (S : kS) (c s : kE) (q : kH) : Option kE := cond (decide (q.1.1 = c) && k_eq s (k_add q.1.2 (kc 1))) (match k_find (kc 457) (k_mul 2 q.1.2) S.2.2.2 with
  | none => none
  | some x => cond (k_eqv S.1 S.2.1 x (k_vp c)) (some (k_add q.2 (kc 1))) (cond (k_nzv S (k_sub x (k_vp c))) (some q.2) none)) none
def k_vf3 (S : kS) (s : kE) (q : kH) : Option kE := cond (k_is q.1.1 (-3)) (match k_find (kc 461) q.1.2 S.2.2.2 with
  | none => none
  | some y => cond (decide (y = kc 30)) (match k_find (kc 461) (k_add q.1.2 (kc 2)) S.2.2.2 with
    | none => none
    | some x => cond (k_eqv S.1 S.2.1 s (k_add (k_add q.1.2 (kc 3)) x) && (k_ge S.1 S.2.1 x && (k_ge S.1 S.2.1 (k_sub (kc 397) x) && k_ge S.1 S.2.1 (k_sub (kc 198) q.2)))) (some (k_add q.2 (kc 1))) none) none) none
def k_ful (S : kS) (c n : Int) : Bool := S.2.2.2.any (fun q => k_is q.1.1 c && k_ge S.1 S.2.1 (k_sub q.1.2 (kc n)))
/-- a relation that holds whole -/
def k_fle (S : kS) (q : kH) : Option kRw := cond (decide (q.1.1.1 < 0) && (k_cst q.1.1 && (k_vok q.1.1 && Nat.beq (k_vi q.1.1) 9))) (match k_rlw q.1.1 with
  | some r => cond (k_ge S.1 S.2.1 (k_sub q.1.2 (kc r.2.2))) (some r) none
  | none => none) none
theorem k_fle_ok {N : kN} {σ : Nat → Int} {S : kS} {M : pM} {q : kH} {r : kRw} (h : kRS N σ S M) (hq : q ∈ S.2.2.2) (hf : k_fle S q = some r) : ∀ i : Int, 0 ≤ i → i < r.2.2 → kPq M r.1 r.2.1 i := by
  unfold k_fle at hf
  have h00 := pm_cs hf
  clear hf
  obtain ⟨h1, hf⟩ := h00
  simp only [Bool.and_eq_true, decide_eq_true_eq] at h1
  obtain ⟨h1, h2, h3, h4⟩ := h1
  have h4 := pm_beq h4
  split at hf
  · rename_i r' hr
    have h00 := pm_cs hf
    clear hf
    obtain ⟨h5, hf⟩ := h00
    cases hf
    have h5 := k_ge_ok h.2.1 h.2.2.1 h5
    rw [k_ev_sub, k_ev_c] at h5
    have hp := kVq.now h hq (by rw [k_ev_const h2]; exact h1) h3
    rw [h4] at hp
    obtain ⟨r2, p0, p1, p2, p3⟩ := hp
    obtain ⟨-, e2⟩ := k_rlw_ok (σ := σ) hr
    rw [e2] at p1
    cases p1
    exact fun i a b => p3 i a (by omega) trivial
  · cases hf
/-- two relations make a third -/
def k_chu (r r1 : kRw) (u w : Int × Int × Int) (n2 : Int) : Bool := decide (r1.1 = r.1) && (decide (r.2.2 ≤ r1.2.2) && (decide (u.1 = r1.2.1.1) && (decide (w.1 = r.2.1.1) && (decide (u.2.2 = 1) && (decide (w.2.2 = 1) && (decide (r1.2.1.2.2 = r.2.1.2.2) && (decide (w.2.1 - u.2.1 + r1.2.1.2.1 = r.2.1.2.1) && (decide (0 ≤ r1.2.1.2.1 - u.2.1) && (decide (0 ≤ r1.2.1.2.2) && decide (r1.2.1.2.1 - u.2.1 + r1.2.1.2.2 * (r.2.2 - 1) < n2))))))))))
theorem k_chu_ok {M : pM} {r r1 : kRw} {u w : Int × Int × Int} {n2 : Int} (hc : k_chu r r1 u w n2 = true) (h1 : ∀ i : Int, 0 ≤ i → i < r1.2.2 → kPq M r1.1 r1.2.1 i) (h2 : ∀ i : Int, 0 ≤ i → i < n2 → kPq M u w i) : ∀ i : Int, 0 ≤ i → i < r.2.2 → kPq M r.1 r.2.1 i := by
  intro i a b
  unfold k_chu at hc
  simp only [Bool.and_eq_true, decide_eq_true_eq] at hc
  obtain ⟨c1, c2, c3, c4, c5, c6, c7, c8, c9, c10, c11⟩ := hc
  obtain ⟨x, e1, e2⟩ := h1 i a (by omega)
  have m1 : 0 ≤ r1.2.1.2.2 * i := Int.mul_nonneg c10 a
  have m2 : r1.2.1.2.2 * i ≤ r1.2.1.2.2 * (r.2.2 - 1) := Int.mul_le_mul_of_nonneg_left (by omega) c10
  obtain ⟨y, f1, f2⟩ := h2 (r1.2.1.2.1 - u.2.1 + r1.2.1.2.2 * i) (by omega) (by omega)
  unfold kSl at e2 f1 f2
  rw [c5, Int.one_mul, c3, show u.2.1 + (r1.2.1.2.1 - u.2.1 + r1.2.1.2.2 * i) = r1.2.1.2.1 + r1.2.1.2.2 * i by omega] at f1
  rw [c6, Int.one_mul, c4, show w.2.1 + (r1.2.1.2.1 - u.2.1 + r1.2.1.2.2 * i) = r.2.1.2.1 + r1.2.1.2.2 * i by omega, c7] at f2
  have := e2.uq f1
  subst this
  exact ⟨x, by rw [← c1]; exact e1, f2⟩
def k_chs (r : kRw) (l : List kRw) : Bool := l.any (fun r1 => decide (r1.1 = r.1) && l.any (fun r2 => k_chu r r1 r2.1 r2.2.1 r2.2.2 || k_chu r r1 r2.2.1 r2.1 r2.2.2))
theorem k_chs_ok {M : pM} {r : kRw} {l : List kRw} (hl : ∀ r1 ∈ l, ∀ i : Int, 0 ≤ i → i < r1.2.2 → kPq M r1.1 r1.2.1 i) (hc : k_chs r l = true) : ∀ i : Int, 0 ≤ i → i < r.2.2 → kPq M r.1 r.2.1 i := by
  obtain ⟨r1, m1, hc⟩ := List.any_eq_true.mp hc
  obtain ⟨-, hc⟩ := Bool.and_eq_true_iff.mp hc
  obtain ⟨r2, m2, hc⟩ := List.any_eq_true.mp hc
  rcases Bool.or_eq_true_iff.mp hc with hc | hc
  · exact k_chu_ok hc (hl r1 m1) (hl r2 m2)
  · exact k_chu_ok hc (hl r1 m1) (fun i a b => (hl r2 m2 i a b).symm)
def k_vf9 (S : kS) (c s : kE) : Option kE := cond (S.2.2.2.any (fun q => decide (q.1.1 = c) && k_ge S.1 S.2.1 (k_sub q.1.2 s))) (some (kc 0)) (match k_rlw c with
  | some r => cond (decide (s = kc r.2.2) && k_chs r (S.2.2.2.filterMap (k_fle S))) (some (kc 0)) none
  | none => none)
def k_vf68 (S : kS) (z : Int) (s : kE) : Option kE := cond (k_ful S (-9) 416 && k_ful S (-25) 288) (S.2.2.2.findSome? (fun q => cond (k_is q.1.1 z && (k_eqv S.1 S.2.1 q.1.2 s && (k_ge S.1 S.2.1 (k_sub (kc 24) q.1.2) && k_ge S.1 S.2.1 (k_sub (kc 16) q.2)))) (some q.2) none)) none
theorem kSx_go {M : pM} {L l0 V v0 L' l0' V' v0' s v : Int} (h : kSx M L l0 V v0 s v) (h24 : s ≤ 24) (h16 : v ≤ 16) (hl : ∀ i : Int, 0 ≤ i → i < 288 → kPq M (L, l0, 1) (L', l0', 1) i) (hv : ∀ i : Int, 0 ≤ i → i < 416 → kPq M (V, v0, 1) (V', v0', 1) i) : kSx M L' l0' V' v0' s v := by
  have go : ∀ {A a0 B b0 n i x : Int}, (∀ i : Int, 0 ≤ i → i < n → kPq M (A, a0, 1) (B, b0, 1) i) → 0 ≤ i → i < n → kInt M A (a0 + i) x → kInt M B (b0 + i) x := fun {A a0 B b0 n i x} hh h0 h1 hx => by
    obtain ⟨y, e, f⟩ := hh i h0 h1
    have e : kInt M A (a0 + 1 * i) y := e
    have f : kInt M B (b0 + 1 * i) y := f
    rw [Int.one_mul] at e f
    rw [hx.uq e]
    exact f
  refine ⟨fun l h1 h2 => ?_, fun k h1 h2 => ?_⟩
  · obtain ⟨e, x, y, z8, a1, a2, a3, a4, a5, a6, a7, a8⟩ := h.1 l h1 h2
    exact ⟨e, x, y, z8, go hl (by omega) (by omega) a1, a2, a3, go hl (by omega) (by omega) a4, go hv (by omega) (by omega) a5, a6, go hl (by omega) (by omega) a7, a8⟩
  · obtain ⟨y, a1, a2⟩ := h.2 k h1 h2
    exact ⟨y, go hv (by omega) (by omega) a1, a2⟩
theorem k_ful_ok {N : kN} {σ : Nat → Int} {S : kS} {M : pM} {c n p : Int} (h : kRS N σ S M) (hp : c = -(9 + 16 * p)) (hp0 : 0 ≤ p) (hf : k_ful S c n = true) : ∃ s, n ≤ s ∧ kRl M p s (fun _ => True) := by
  obtain ⟨q, hq, hf⟩ := List.any_eq_true.mp hf
  obtain ⟨f1, f2⟩ := Bool.and_eq_true_iff.mp hf
  have e1 := k_is_ev (σ := σ) f1
  have e2 := k_ge_ok h.2.1 h.2.2.1 f2
  rw [k_ev_sub, k_ev_c] at e2
  exact ⟨_, by omega, kPhi_to (i := 9) (p := p) (by rw [e1, hp]; omega) (by omega) ((h.2.2.2.2.1 _ hq).2 (by omega))⟩
theorem k_vf68_ok {N : kN} {σ : Nat → Int} {S : kS} {M : pM} {z : Int} {s v : kE} (h : kRS N σ S M) (hz : z = -6 ∨ z = -8) (hv : k_vf68 S z s = some v) : kSc S.1.length v ∧ kPh N (cond (decide (z = -6)) 8 6) M 0 (k_ev σ s) (k_ev σ v) := by
  unfold k_vf68 at hv
  obtain ⟨h1, hv⟩ := pm_cs hv
  obtain ⟨f1, f2⟩ := Bool.and_eq_true_iff.mp h1
  obtain ⟨s1, n1, r1, -, a2, -, a4⟩ := k_ful_ok (p := 0) h rfl (by omega) f1
  obtain ⟨s2, n2, r2, -, b2, -, b4⟩ := k_ful_ok (p := 1) h rfl (by omega) f2
  cases a2
  cases b2
  obtain ⟨q, hq, hf⟩ := List.exists_of_findSome?_eq_some hv
  obtain ⟨g, hf⟩ := pm_cs hf
  cases hf
  simp only [Bool.and_eq_true] at g
  obtain ⟨g1, g2, g3, g4⟩ := g
  have e1 := k_is_ev (σ := σ) g1
  have e2 := k_eqv_ok h.2.1 h.2.2.1 g2
  have e3 := k_ge_ok h.2.1 h.2.2.1 g3
  have e4 := k_ge_ok h.2.1 h.2.2.1 g4
  rw [k_ev_sub, k_ev_c] at e3 e4
  have hn : k_ev σ q.1.1 < 0 := by omega
  have hp := (h.2.2.2.2.1 _ hq).2 hn
  have hV : ∀ i : Int, 0 ≤ i → i < 416 → kPq M (450, 0, 1) (477, 300, 1) i := fun i c1 c2 => a4 i c1 (by omega) trivial
  have hL : ∀ i : Int, 0 ≤ i → i < 288 → kPq M (453, 0, 1) (477, 740, 1) i := fun i c1 c2 => b4 i c1 (by omega) trivial
  refine ⟨(h.2.2.2.2.2.2.2 _ hq).2.2, ?_⟩
  rcases hz with rfl | rfl
  · have k : kSx M 453 0 450 0 (k_ev σ q.1.2) (k_ev σ q.2) := kPhi_to (i := 6) (p := 0) (by rw [e1]; rfl) (by omega) hp
    rw [← e2]
    exact kSx_go k (by omega) (by omega) hL hV
  · have k : kSx M 477 740 477 300 (k_ev σ q.1.2) (k_ev σ q.2) := kPhi_to (i := 8) (p := 0) (by rw [e1]; rfl) (by omega) hp
    rw [← e2]
    exact kSx_go k (by omega) (by omega) (fun i c1 c2 => (hL i c1 c2).symm) (fun i c1 c2 => (hV i c1 c2).symm)
def k_vfd (S : kS) (c s : kE) : Option kE := cond (k_vok c) (match k_vi c with
  | 1 => some (k_sub (k_vp c) (kc 1))
  | 2 => some (k_sub (k_vp c) (kc 1))
  | 3 => cond (k_is c (-3)) (S.2.2.2.findSome? (k_vf3 S s)) none
  | 7 => S.2.2.2.findSome? (k_vf7 S c s)
  | 6 => k_vf68 S (-8) s
  | 8 => k_vf68 S (-6) s
  | 9 => k_vf9 S c s
  | 13 => k_vf13 S c s
  | 15 => k_vf15 S c s
  | _ => none) none
theorem k_vfd_ok {N : kN} {σ : Nat → Int} {S : kS} {M : pM} {c s v : kE} (h : kRS N σ S M) (hc : kSc S.1.length c) (hs : kSc S.1.length s) (hn : k_ev σ c < 0) (hv : k_vfd S c s = some v) : kSc S.1.length v ∧ kHas N M (k_ev σ c) (k_ev σ s) (k_ev σ v) := by
  unfold k_vfd at hv
  cases hk : k_vok c with
  | false =>
    rw [hk, cond_false] at hv
    cases hv
  | true =>
    rw [hk, cond_true] at hv
    have ev := k_vok_ev (σ := σ) hk
    split at hv
    · rename_i hi
      cases hv
      refine ⟨kSc_sub (k_vp_sc hc) kSc_c, kHas.neg hn (kPhi_of ev (k_vi_lt c) ?_)⟩
      rw [hi, k_ev_sub, k_ev_c]
      exact fun r g1 g2 => by omega
    · rename_i hi
      cases hv
      refine ⟨kSc_sub (k_vp_sc hc) kSc_c, kHas.neg hn (kPhi_of ev (k_vi_lt c) ?_)⟩
      rw [hi, k_ev_sub, k_ev_c]
      exact fun r g1 g2 => by omega
    · cases h3 : k_is c (-3) with
      | false =>
        rw [h3, cond_false] at hv
        cases hv
      | true =>
        rw [h3, cond_true] at hv
        obtain ⟨q, hq, hf⟩ := List.exists_of_findSome?_eq_some hv
        unfold k_vf3 at hf
        cases c1 : k_is q.1.1 (-3) with
        | false =>
          rw [c1, cond_false] at hf
          cases hf
        | true =>
          rw [c1, cond_true] at hf
          split at hf
          · cases hf
          · rename_i y hy
            cases c2 : decide (y = kc 30) with
            | false =>
              rw [c2, cond_false] at hf
              cases hf
            | true =>
              rw [c2, cond_true] at hf
              have c2 := of_decide_eq_true c2
              subst c2
              split at hf
              · cases hf
              · rename_i x hx
                cases c3 : (k_eqv S.1 S.2.1 s (k_add (k_add q.1.2 (kc 3)) x) && (k_ge S.1 S.2.1 x && (k_ge S.1 S.2.1 (k_sub (kc 397) x) && k_ge S.1 S.2.1 (k_sub (kc 198) q.2)))) with
                | false =>
                  rw [c3, cond_false] at hf
                  cases hf
                | true =>
                  rw [c3, cond_true] at hf
                  cases hf
                  simp only [Bool.and_eq_true] at c3
                  obtain ⟨c3, c4, c5, c6⟩ := c3
                  have e3 := k_eqv_ok h.2.1 h.2.2.1 c3
                  have e4 := k_ge_ok h.2.1 h.2.2.1 c4
                  have e5 := k_ge_ok h.2.1 h.2.2.1 c5
                  have e6 := k_ge_ok h.2.1 h.2.2.1 c6
                  rw [k_ev_add, k_ev_add, k_ev_c] at e3
                  rw [k_ev_sub, k_ev_c] at e5 e6
                  have sq := h.2.2.2.2.2.2.2 _ hq
                  refine ⟨kSc_add sq.2.2 kSc_c, ?_⟩
                  obtain ⟨t, k, a1, a2⟩ : ∃ t k : Nat, (k : Int) = k_ev σ q.1.2 ∧ kZi M t = some (k, k_ev σ q.2) := kHas_3' (c := q.1.1) (s := q.1.2) (v := q.2) h hq c1
                  have i1 := k_find_int h hy (by rw [k_ev_c]; omega)
                  have i2 := k_find_int h hx (by rw [k_ev_c]; omega)
                  rw [k_ev_c, k_ev_c] at i1
                  rw [k_ev_c, k_ev_add, k_ev_c] at i2
                  have g1 : k_gi M 461 k = some 30 := by
                    have := i1.2.2
                    rw [← a1] at this
                    exact this
                  have g2 : k_gi M 461 (k + 2) = some (k_ev σ x) := by
                    have := i2.2.2
                    rw [← a1] at this
                    exact this
                  rw [k_is_ev (σ := σ) h3, k_ev_add, k_ev_c]
                  have st : kZs M (k, k_ev σ q.2) = some (k + 3 + (k_ev σ x).toNat, k_ev σ q.2 + 1) := by
                    unfold kZs
                    rw [g1]
                    dsimp only
                    rw [if_neg (by omega), if_neg (by omega), if_neg (by omega), if_pos ⟨rfl, by omega⟩, g2]
                    exact if_pos ⟨e4, by omega⟩
                  have st2 : kZi M (t + 1) = some (k + 3 + (k_ev σ x).toNat, k_ev σ q.2 + 1) := by
                    show (kZi M t).bind (kZs M) = _
                    rw [a2]
                    exact st
                  exact kHas_3 st2 (by omega) rfl
    · rename_i hi
      obtain ⟨q, hq, hf⟩ := List.exists_of_findSome?_eq_some hv
      unfold k_vf7 at hf
      cases c1 : (decide (q.1.1 = c) && k_eq s (k_add q.1.2 (kc 1))) with
      | false =>
        rw [c1, cond_false] at hf
        cases hf
      | true =>
        rw [c1, cond_true] at hf
        obtain ⟨c1, c2⟩ := Bool.and_eq_true_iff.mp c1
        have c1 := of_decide_eq_true c1
        have e2 := k_eq_ok (σ := σ) c2
        rw [k_ev_add, k_ev_c] at e2
        split at hf
        · cases hf
        · rename_i x hx
          have sq := h.2.2.2.2.2.2.2 _ hq
          have g := h.2.2.2.2.1 _ hq
          rw [c1] at g
          have g := kPhi_to ev (k_vi_lt c) (g.2 hn)
          rw [hi] at g
          obtain ⟨k, a1, a2⟩ : ∃ k : Nat, (k : Int) = k_ev σ q.1.2 ∧ kCn M (k_ev σ (k_vp c)) k (k_ev σ q.2) := g
          have i1 := k_find_int h hx (by rw [k_ev_c]; omega)
          rw [k_ev_c, k_ev_mul] at i1
          have g1 : k_gi M 457 (2 * k) = some (k_ev σ x) := by
            have := i1.2.2
            rw [← a1] at this
            have e : ((2 : Int) * (k : Int)).toNat = 2 * k := by omega
            rw [e] at this
            exact this
          cases c3 : k_eqv S.1 S.2.1 x (k_vp c) with
          | true =>
            rw [c3, cond_true] at hf
            cases hf
            have e3 := k_eqv_ok h.2.1 h.2.2.1 c3
            refine ⟨kSc_add sq.2.2 kSc_c, kHas.neg hn (kPhi_of ev (k_vi_lt c) ?_)⟩
            rw [hi, k_ev_add, k_ev_c]
            exact ⟨k + 1, by omega, k_ev σ x, g1, Or.inl ⟨e3, by rw [Int.add_sub_cancel]; exact a2⟩⟩
          | false =>
            rw [c3, cond_false] at hf
            cases c4 : k_nzv S (k_sub x (k_vp c)) with
            | false =>
              rw [c4, cond_false] at hf
              cases hf
            | true =>
              rw [c4, cond_true] at hf
              cases hf
              have e4 := k_nzv_ok h c4
              rw [k_ev_sub] at e4
              refine ⟨sq.2.2, kHas.neg hn (kPhi_of ev (k_vi_lt c) ?_)⟩
              rw [hi]
              exact ⟨k + 1, by omega, k_ev σ x, g1, Or.inr ⟨by omega, a2⟩⟩
    · rename_i hi
      obtain ⟨g1, g2⟩ := k_vf68_ok h (Or.inr rfl) hv
      refine ⟨g1, kHas.neg hn (kPhi_of ev (k_vi_lt c) ?_)⟩
      rw [hi]
      exact g2
    · rename_i hi
      obtain ⟨g1, g2⟩ := k_vf68_ok h (Or.inl rfl) hv
      refine ⟨g1, kHas.neg hn (kPhi_of ev (k_vi_lt c) ?_)⟩
      rw [hi]
      exact g2
    · rename_i hi
      unfold k_vf9 at hv
      cases g : S.2.2.2.any (fun q => decide (q.1.1 = c) && k_ge S.1 S.2.1 (k_sub q.1.2 s)) with
      | false =>
        rw [g, cond_false] at hv
        split at hv
        · rename_i r hr
          have h00 := pm_cs hv
          clear hv
          obtain ⟨g2, hv⟩ := h00
          cases hv
          obtain ⟨g3, g4⟩ := Bool.and_eq_true_iff.mp g2
          have g3 := of_decide_eq_true g3
          obtain ⟨e0, e1⟩ := k_rlw_ok (σ := σ) hr
          refine ⟨kSc_c, kHas.neg hn (kPhi_of ev (k_vi_lt c) ?_)⟩
          rw [hi, g3, k_ev_c]
          refine ⟨r, e0, e1, Int.le_refl _, fun i b1 b2 _ => k_chs_ok (fun r1 m1 => ?_) g4 i b1 b2⟩
          obtain ⟨q, hq, hqr⟩ := List.mem_filterMap.mp m1
          exact k_fle_ok h hq hqr
        · cases hv
      | true =>
      rw [g, cond_true] at hv
      cases hv
      obtain ⟨q, hq, hf⟩ := List.any_eq_true.mp g
      obtain ⟨f1, f2⟩ := Bool.and_eq_true_iff.mp hf
      have f1 := of_decide_eq_true f1
      have e2 := k_ge_ok h.2.1 h.2.2.1 f2
      rw [k_ev_sub] at e2
      have hh := (h.2.2.2.2.1 _ hq).2 (by rw [f1]; exact hn)
      rw [f1] at hh
      have hp := kPhi_to ev (k_vi_lt c) hh
      rw [hi] at hp
      obtain ⟨r, a1, a2, a3, a4⟩ := hp
      refine ⟨kSc_c, kHas.neg hn (kPhi_of ev (k_vi_lt c) ?_)⟩
      rw [hi]
      exact ⟨r, a1, a2, by omega, fun i b1 b2 _ => a4 i b1 (by omega) trivial⟩
    · exact k_vf13_ok h hc hs hn hv
    · exact k_vf15_ok h hc hs hn hv
    · cases hv
/-! one count, two words -/
theorem kCn_uq {M : pM} {p : Int} : ∀ {k : Nat} {x y : Int}, kCn M p k x → kCn M p k y → x = y
  | 0, _, _, h1, h2 => h1.trans h2.symm
  | k + 1, x, y, ⟨z, a1, a3⟩, ⟨z', b1, b3⟩ => by
    rw [a1] at b1
    cases b1
    rcases a3 with ⟨c1, c3⟩ | ⟨c1, c3⟩
    · rcases b3 with ⟨d1, d3⟩ | ⟨d1, d3⟩
      · have := kCn_uq c3 d3
        omega
      · exact (d1 c1).elim
    · rcases b3 with ⟨d1, d3⟩ | ⟨d1, d3⟩
      · exact (c1 d1).elim
      · exact kCn_uq c3 d3
def k_vc2 (q : kH) : List kH → kS → Option kS
  | [], S => some S
  | r :: t, S => cond (k_eq q.1.1 r.1.1 && (k_eqv S.1 S.2.1 q.1.2 r.1.2 && !(k_eq q.2 r.2))) ((k_cn S .eq (k_sub q.2 r.2)).bind (k_vc2 q t)) (k_vc2 q t S)
def k_vc1 : List kH → kS → Option kS
  | [], S => some S
  | q :: t, S => (k_vc2 q t S).bind (k_vc1 t)
def k_vclA (S : kS) : Option kS := k_vc1 (S.2.2.2.filter (k_neg S 7)) S
def k_vcl (S : kS) : Option kS := (k_eqs (S.2.2.2.flatMap (k_e13 S)) S).bind k_vclA
def kV7 (n : Nat) (σ : Nat → Int) (M : pM) (q : kH) : Prop := (kSc n q.1.1 ∧ kSc n q.1.2 ∧ kSc n q.2) ∧ ∃ p : Int, k_ev σ q.1.1 = -(7 + 16 * p) ∧ ∃ k : Nat, (k : Int) = k_ev σ q.1.2 ∧ kCn M p k (k_ev σ q.2)
theorem k_vc2_ok {N : kN} {n : Nat} {σ : Nat → Int} {M : pM} {q : kH} (hq : kV7 n σ M q) : ∀ (l : List kH) {S : kS}, (∀ r ∈ l, kV7 n σ M r) → S.1.length = n → kRS N σ S M → ∃ T, k_vc2 q l S = some T ∧ T.1.length = n ∧ kRS N σ T M
  | [], S, _, hl, h => ⟨S, rfl, hl, h⟩
  | r :: t, S, hr, hl, h => by
    have ht : ∀ r ∈ t, kV7 n σ M r := fun x hx => hr x (List.mem_cons_of_mem _ hx)
    unfold k_vc2
    cases c1 : (k_eq q.1.1 r.1.1 && (k_eqv S.1 S.2.1 q.1.2 r.1.2 && !(k_eq q.2 r.2))) with
    | false => exact k_vc2_ok hq t ht hl h
    | true =>
      rw [cond_true]
      simp only [Bool.and_eq_true] at c1
      have e1 := k_eq_ok (σ := σ) c1.1
      have e2 := k_eqv_ok h.2.1 h.2.2.1 c1.2.1
      obtain ⟨s1, p1, a1, k1, a2, a3⟩ := hq
      obtain ⟨s2, p2, b1, k2, b2, b3⟩ := hr r List.mem_cons_self
      have : p2 = p1 := by omega
      subst this
      have : k2 = k1 := by omega
      subst this
      have e3 := kCn_uq a3 b3
      obtain ⟨T, z1, z2, z3⟩ := k_cn_ok (c := .eq) (d := k_sub q.2 r.2) h (by rw [hl]; exact kSc_sub s1.2.2 s2.2.2) (by show k_ev σ (k_sub q.2 r.2) = 0; rw [k_ev_sub]; omega)
      rw [z1]
      exact k_vc2_ok ⟨s1, _, a1, k2, a2, a3⟩ t ht (z2.trans hl) z3
theorem k_vc1_ok {N : kN} {n : Nat} {σ : Nat → Int} {M : pM} : ∀ (l : List kH) {S : kS}, (∀ r ∈ l, kV7 n σ M r) → S.1.length = n → kRS N σ S M → ∃ T, k_vc1 l S = some T ∧ T.1.length = n ∧ kRS N σ T M
  | [], S, _, hl, h => ⟨S, rfl, hl, h⟩
  | q :: t, S, hr, hl, h => by
    have ht : ∀ r ∈ t, kV7 n σ M r := fun x hx => hr x (List.mem_cons_of_mem _ hx)
    obtain ⟨T, z1, z2, z3⟩ := k_vc2_ok (hr q List.mem_cons_self) t ht hl h
    unfold k_vc1
    rw [z1]
    exact k_vc1_ok t ht z2 z3
theorem k_vclA_ok {N : kN} {σ : Nat → Int} {S : kS} {M : pM} (h : kRS N σ S M) : ∃ T, k_vclA S = some T ∧ T.1.length = S.1.length ∧ kRS N σ T M := by
  refine k_vc1_ok _ (fun r hr => ?_) rfl h
  obtain ⟨h1, h2⟩ := List.mem_filter.mp hr
  have p := k_neg_ok h h1 h2
  unfold k_neg at h2
  simp only [Bool.and_eq_true] at h2
  obtain ⟨-, h3, h4, -⟩ := h2
  have e := k_vok_ev (σ := σ) h3
  rw [pm_beq h4] at e
  obtain ⟨k, a1, a2⟩ : ∃ k : Nat, (k : Int) = k_ev σ r.1.2 ∧ kCn M (k_ev σ (k_vp r.1.1)) k (k_ev σ r.2) := p
  exact ⟨h.2.2.2.2.2.2.2 _ h1, _, by omega, k, a1, a2⟩
theorem k_vcl_ok {N : kN} {σ : Nat → Int} {S : kS} {M : pM} (h : kRS N σ S M) : ∃ T, k_vcl S = some T ∧ T.1.length = S.1.length ∧ kRS N σ T M := by
  obtain ⟨U, u1, u2, u3⟩ := k_eqs_ok (S.2.2.2.flatMap (k_e13 S)) rfl (fun e he => by
    obtain ⟨q, hq, he⟩ := List.mem_flatMap.mp he
    exact k_e13_ok h hq e he) h
  obtain ⟨T, t1, t2, t3⟩ := k_vclA_ok u3
  refine ⟨T, ?_, t2.trans u2, t3⟩
  unfold k_vcl
  rw [u1]
  exact t1
end
