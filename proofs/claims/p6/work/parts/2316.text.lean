noncomputable section
section KTD
variable {N : kN} {σ : Nat → Int} {S : kS} {M : pM}
def k_nbl (S : kS) (l : List kH) : Option (Option kS) := lfo (fun q => k_nbq S 0 q) l
theorem k_nbl_ok (h : kRS N σ S M) {o : Option kS} : ∀ l : List kH, (∀ q ∈ l, q ∈ S.2.2.2) → k_nbl S l = some o → kStp N σ S M o
  | [], _, ho => by cases ho
  | q :: t, hl, ho => by
    unfold k_nbl at ho
    rw [lfo_cons] at ho
    split at ho
    · rename_i r hr
      cases ho
      exact k_nbq_ok h (hl q List.mem_cons_self) hr
    · exact k_nbl_ok h t (fun q hq => hl q (List.mem_cons_of_mem _ hq)) ho
/-- again and again -/
def k_rep (g : kS → Option (Option kS)) (f : Nat) (S : kS) : Option kS := Nat.rec (motive := fun _ => kS → Option kS) (fun S => some S) (fun _ ih S => match g S with
    | none => some S
    | some none => none
    | some (some T) => ih T) f S
theorem k_rep_succ (g : kS → Option (Option kS)) (f : Nat) (S : kS) : k_rep g (f + 1) S = match g S with
    | none => some S
    | some none => none
    | some (some T) => k_rep g f T := rfl
theorem k_rep_ok {g : kS → Option (Option kS)} (hg : ∀ (S : kS) (o : Option kS), kRS N σ S M → g S = some o → kStp N σ S M o) : ∀ (f : Nat) (S : kS), kRS N σ S M → kStp N σ S M (k_rep g f S)
  | 0, S, h => ⟨S, rfl, rfl, h⟩
  | f + 1, S, h => by
    rw [k_rep_succ]
    split
    · exact ⟨S, rfl, rfl, h⟩
    · rename_i hn
      obtain ⟨T, t1, -, -⟩ := hg _ _ h hn
      cases t1
    · rename_i T hT
      obtain ⟨U, t1, t2, t3⟩ := hg _ _ h hT
      cases t1
      exact (k_rep_ok hg f T t3).tr t2
def k_num1 (S : kS) : Option (Option kS) := k_nbl S S.2.2.2
/-- digests by length, lengths by digest -/
def k_lnL : List (Nat × Int × Int) := [(1, 1, 26), (2, 28, 728), (3, 757, 19682), (4, 20440, 531440), (5, 551881, 14348906), (6, 14900788, 387420488), (7, 402321277, 10460353202), (8, 10862674480, 282429536480)]
def k_lnw (w : Int) : Option Nat := k_lnL.findSome? (fun r => cond (decide (r.2.1 ≤ w) && decide (w ≤ r.2.2)) (some r.1) none)
def k_ln0 (S : kS) (z : Nat) (d : kE) : Option Nat := cond (Nat.beq z 0) ((List.range 9).findSome? (fun (r : Nat) => cond (k_eqS S d (kc (r : Int))) (some r) none)) (cond (Nat.blt (Nat.div (Nat.sub z 2) 2) 9 && k_eqS S d (kc ((Nat.div (Nat.sub z 2) 2 : Nat) : Int))) (some (Nat.div (Nat.sub z 2) 2)) none)
def k_dgb (S : kS) (z r : Nat) (a v : kE) : Option (Option kS) := cond (cond (Nat.beq z 0) (k_geS S (k_sub v (k_add (k_mul (k_27.getD r (0, 0, 0)).1 a) (kc (k_27.getD r (0, 0, 0)).2.1)))) (Nat.beq (Nat.mod z 2) 1))
  (cond (Nat.beq z 0 && k_geS S (k_sub (k_add (k_mul (k_27.getD r (0, 0, 0)).1 a) (kc (k_27.getD r (0, 0, 0)).2.2)) v)) none (some (k_asF S (k_sub (k_add (k_mul (k_27.getD r (0, 0, 0)).1 a) (kc (k_27.getD r (0, 0, 0)).2.2)) v))))
  (some (k_asF S (k_sub v (k_add (k_mul (k_27.getD r (0, 0, 0)).1 a) (kc (k_27.getD r (0, 0, 0)).2.1)))))
theorem k_dgb_ok (h : kRS N σ S M) {z r : Nat} {a v : kE} {o : Option kS} (ha : kSc S.1.length a) (hv : kSc S.1.length v) (h1 : (k_27.getD r (0, 0, 0)).1 * k_ev σ a + (k_27.getD r (0, 0, 0)).2.1 ≤ k_ev σ v) (h2 : k_ev σ v ≤ (k_27.getD r (0, 0, 0)).1 * k_ev σ a + (k_27.getD r (0, 0, 0)).2.2) (ho : k_dgb S z r a v = some o) : kStp N σ S M o := by
  unfold k_dgb at ho
  have s1 : kSc S.1.length (k_sub v (k_add (k_mul (k_27.getD r (0, 0, 0)).1 a) (kc (k_27.getD r (0, 0, 0)).2.1))) := kSc_sub hv (kSc_add (kSc_mul ha) kSc_c)
  have s2 : kSc S.1.length (k_sub (k_add (k_mul (k_27.getD r (0, 0, 0)).1 a) (kc (k_27.getD r (0, 0, 0)).2.2)) v) := kSc_sub (kSc_add (kSc_mul ha) kSc_c) hv
  have e1 : 0 ≤ k_ev σ (k_sub v (k_add (k_mul (k_27.getD r (0, 0, 0)).1 a) (kc (k_27.getD r (0, 0, 0)).2.1))) := by
    rw [k_ev_sub, k_ev_add, k_ev_mul, k_ev_c]
    exact Int.sub_nonneg_of_le h1
  have e2 : 0 ≤ k_ev σ (k_sub (k_add (k_mul (k_27.getD r (0, 0, 0)).1 a) (kc (k_27.getD r (0, 0, 0)).2.2)) v) := by
    rw [k_ev_sub, k_ev_add, k_ev_mul, k_ev_c]
    exact Int.sub_nonneg_of_le h2
  cases c1 : cond (Nat.beq z 0) (k_geS S (k_sub v (k_add (k_mul (k_27.getD r (0, 0, 0)).1 a) (kc (k_27.getD r (0, 0, 0)).2.1)))) (Nat.beq (Nat.mod z 2) 1) with
  | true =>
    rw [c1, cond_true] at ho
    cases c2 : (Nat.beq z 0 && k_geS S (k_sub (k_add (k_mul (k_27.getD r (0, 0, 0)).1 a) (kc (k_27.getD r (0, 0, 0)).2.2)) v)) with
    | true =>
      rw [c2, cond_true] at ho
      cases ho
    | false =>
      rw [c2, cond_false] at ho
      cases ho
      exact k_asF_ok h s2 e2
  | false =>
    rw [c1, cond_false] at ho
    cases ho
    exact k_asF_ok h s1 e1
def k_n400 (S : kS) : Bool := match k_nwd S with
  | some n => k_geS S (k_sub (kc 400) n)
  | none => false
theorem k_n400_ok (h : kRS N σ S M) (hn : k_n400 S = true) : (kTt M).2 ≤ 400 := by
  unfold k_n400 at hn
  split at hn
  · rename_i n hn2
    have := k_ge_ok h.2.1 h.2.2.1 hn
    rw [k_ev_sub, k_ev_c, (k_nwd_ok h hn2).2] at this
    omega
  · cases hn
/-- a name: it begins with a letter, below the text's end -/
def k_isn (S : kS) (k e : kE) : Bool := match k_tl S 1 [kc 0, kc 0, kc 0, kc 0] k with
  | some t => k_wq (k_nv S.1 t) (kc 1) && (k_n400 S && (k_geS S (k_sub (kc 400) e) && (k_geS S (k_sub (k_sub e k) (kc 1)) || (match k_ete S k with
      | some e2 => k_eqS S e2 e
      | none => false))))
  | none => false
theorem k_isn_ok (h : kRS N σ S M) {k e : kE} {p : Nat} (hp : (p : Int) = k_ev σ k) (hp4 : p ≤ 400) (hi : k_isn S k e = true) : (p : Int) < (kTt M).2 ∧ (97 ≤ (kTt M).1 p ∧ (kTt M).1 p ≤ 122) ∧ (p : Int) + 1 ≤ k_ev σ e ∧ k_ev σ e ≤ 400 := by
  unfold k_isn at hi
  split at hi
  · rename_i t ht
    simp only [Bool.and_eq_true] at hi
    obtain ⟨c1, c2, c3, c4⟩ := hi
    obtain ⟨-, kt⟩ := k_kind h hp hp4 ht
    have c1 := k_wq_ok c1
    have e1 := k_nv_ok (e := t) h.2.1
    rw [c1, k_ev_c] at e1
    have kd := kT_kind (T := kTt M) (b := 0) (c := 0) (d := 0) hp4
    rw [← kt, ← e1] at kd
    have hn := k_n400_ok h c2
    have c3 := k_ge_ok h.2.1 h.2.2.1 c3
    rw [k_ev_sub, k_ev_c] at c3
    have b1 : (p : Int) < (kTt M).2 ∧ (97 ≤ (kTt M).1 p ∧ (kTt M).1 p ≤ 122) := by omega
    refine ⟨b1.1, b1.2, ?_, by omega⟩
    rcases Bool.or_eq_true_iff.mp c4 with c4 | c4
    · have c4 := k_ge_ok h.2.1 h.2.2.1 c4
      rw [k_ev_sub, k_ev_sub, k_ev_c] at c4
      omega
    · split at c4
      · rename_i e2 he2
        have c4 := k_eqv_ok h.2.1 h.2.2.1 c4
        have := (k_ete_ok h hp he2).2
        have := kT_end (T := kTt M) (p := p) (by omega) b1.1 b1.2
        omega
      · cases c4
  · cases hi
def k_rq0 (S : kS) (z : Nat) (k e w : kE) : Option (Option kS) := cond (k_cst w && decide (0 < w.1)) (match k_lnw w.1 with
  | some L => cond (Nat.beq z 0 && k_eqS S (k_sub e k) (kc (L : Int))) none (some (k_cnF S .eq (k_sub (k_sub e k) (kc (L : Int)))))
  | none => none) none
def k_rq1 (S : kS) (z : Nat) (k e v : kE) : Option (Option kS) := match cond (Nat.ble z 1) (k_rq0 S z k e (k_nv S.1 v)) none with
  | some r => some r
  | none => match k_ln0 S z (k_sub e k) with
    | some r => cond (Nat.ble 1 r) (k_dgb S z r (kc 0) v) none
    | none => none
def k_rq2 (S : kS) (z : Nat) (k e j a v : kE) : Option (Option kS) := match k_ln0 S z (k_sub e k) with
  | some r => cond (k_geS S (k_sub (kc (8 - (r : Int))) j) && (k_geS S a && (k_geS S (k_sub (kc 400) e) && k_geS S (k_sub (kc 549755813888) (k_add (k_mul (k_27.getD r (0, 0, 0)).1 a) (kc (k_27.getD r (0, 0, 0)).2.2)))))) (k_dgb S z r a v) none
  | none => none
def k_rgq (S : kS) (z : Nat) (q : kH) : Option (Option kS) := match k_tde S q.1.1 with
  | some (1, [m, e, j, a]) => cond (k_geS S q.1.2 && k_geS S (k_sub (kc 400) q.1.2)) (cond (k_wq m (kc 1)) (cond (k_isn S q.1.2 e) (k_rq1 S z q.1.2 e q.2) none) (cond (k_wq m (kc 2)) (k_rq2 S z q.1.2 e j a q.2) none)) none
  | _ => none
theorem k_lnw_ok {w : Int} {L : Nat} (h : k_lnw w = some L) : 1 ≤ L ∧ L ≤ 8 ∧ kDl (L - 1) 1 ≤ w ∧ w ≤ kDh (L - 1) 26 := by
  obtain ⟨r, hr, h1⟩ := List.exists_of_findSome?_eq_some h
  obtain ⟨h2, h1⟩ := pm_cs h1
  cases h1
  simp only [Bool.and_eq_true, decide_eq_true_eq] at h2
  unfold k_lnL at hr
  simp only [List.mem_cons, List.not_mem_nil, or_false] at hr
  rcases hr with rfl | rfl | rfl | rfl | rfl | rfl | rfl | rfl
  · exact ⟨by omega, by omega, h2⟩
  · exact ⟨by omega, by omega, h2⟩
  · exact ⟨by omega, by omega, h2⟩
  · exact ⟨by omega, by omega, h2⟩
  · exact ⟨by omega, by omega, h2⟩
  · exact ⟨by omega, by omega, h2⟩
  · exact ⟨by omega, by omega, h2⟩
  · exact ⟨by omega, by omega, h2⟩
theorem k_ln0_ok (h : kRS N σ S M) {z : Nat} {d : kE} {r : Nat} (hr : k_ln0 S z d = some r) : r < 9 ∧ k_ev σ d = (r : Int) := by
  unfold k_ln0 at hr
  cases hz : Nat.beq z 0 with
  | false =>
    rw [hz, cond_false] at hr
    obtain ⟨g, hr⟩ := pm_cs hr
    cases hr
    obtain ⟨g1, g2⟩ := Bool.and_eq_true_iff.mp g
    have := k_eqv_ok h.2.1 h.2.2.1 g2
    rw [k_ev_c] at this
    exact ⟨pm_blt g1, this⟩
  | true =>
  rw [hz, cond_true] at hr
  obtain ⟨x, hx, h1⟩ := List.exists_of_findSome?_eq_some hr
  obtain ⟨h2, h1⟩ := pm_cs h1
  cases h1
  have := k_eqv_ok h.2.1 h.2.2.1 h2
  rw [k_ev_c] at this
  exact ⟨List.mem_range.mp hx, this⟩
/-- the least digest of a length is above the greatest of a shorter one -/
theorem kD_lt : ∀ a : Nat, a < 8 → ∀ b : Nat, b < 8 → a < b → kDh a 26 < kDl b 1 := by decide +kernel
theorem k_lnu {r L : Nat} {w : Int} (h7 : r ≤ 7) (l1 : 1 ≤ L) (l2 : L ≤ 8) (l3 : kDl (L - 1) 1 ≤ w) (l4 : w ≤ kDh (L - 1) 26) (v1 : kDl r 1 ≤ w) (v2 : w ≤ kDh r 26) : r + 1 = L := by
  rcases Nat.lt_trichotomy r (L - 1) with hl | hl | hl
  · have := kD_lt r (by omega) (L - 1) (by omega) hl
    omega
  · omega
  · have := kD_lt (L - 1) (by omega) r (by omega) hl
    omega
theorem k_rq1_ok (h : kRS N σ S M) {z : Nat} {k e v : kE} {p : Nat} {c d : Int} {o : Option kS} (hp : (p : Int) = k_ev σ k) (hp4 : p ≤ 400) (hk : kSc S.1.length k) (he : kSc S.1.length e) (hv : kSc S.1.length v) (hi : k_isn S k e = true) (hw : k_ev σ v = kBv (kTt M) false [1, k_ev σ e, c, d] p) (ho : k_rq1 S z k e v = some o) : kStp N σ S M o := by
  obtain ⟨i1, i2, i3, i4⟩ := k_isn_ok h hp hp4 hi
  obtain ⟨r, hr⟩ : ∃ r : Nat, k_ev σ e = ((p + 1 + r : Nat) : Int) := ⟨(k_ev σ e - (p : Int) - 1).toNat, by omega⟩
  obtain ⟨w1, w2⟩ := kT_wd (T := kTt M) (p := p) (r := r) (c := c) (d := d) i1 i2 (by omega)
  rw [← hr, ← hw] at w1 w2
  unfold k_rq1 at ho
  split at ho
  · rename_i x hx
    cases ho
    obtain ⟨-, hx⟩ := pm_cs hx
    unfold k_rq0 at hx
    obtain ⟨g, hx⟩ := pm_cs hx
    obtain ⟨g1, g2⟩ := Bool.and_eq_true_iff.mp g
    have g2 := of_decide_eq_true g2
    have e1 := k_nv_ok (e := v) h.2.1
    rw [k_ev_const g1] at e1
    split at hx
    · rename_i L hL
      obtain ⟨l1, l2, l3, l4⟩ := k_lnw_ok hL
      have eL : k_ev σ (k_sub (k_sub e k) (kc (L : Int))) = 0 := by
        rw [k_ev_sub, k_ev_sub, k_ev_c, hr, ← hp]
        have : r + 1 = L := by
          by_cases h7 : r ≤ 7
          · obtain ⟨v1, v2⟩ := w1 h7
            exact k_lnu h7 l1 l2 l3 l4 (by omega) (by omega)
          · have := w2 (by omega)
            omega
        omega
      cases c4 : (Nat.beq z 0 && k_eqS S (k_sub e k) (kc (L : Int))) with
      | true =>
        rw [c4, cond_true] at hx
        cases hx
      | false =>
        rw [c4, cond_false] at hx
        cases hx
        exact k_cnF_ok (c := .eq) h (kSc_sub (kSc_sub he hk) kSc_c) eL
    · cases hx
  · split at ho
    · rename_i r' hr'
      obtain ⟨q1, q2⟩ := k_ln0_ok h hr'
      rw [k_ev_sub, hr, ← hp] at q2
      obtain ⟨q3, ho⟩ := pm_cs ho
      have q3 := Nat.le_of_ble_eq_true q3
      have : r' = r + 1 := by omega
      subst this
      obtain ⟨v1, v2⟩ := w1 (by omega)
      have a1 := (kD_at (r := r + 1) q1 0).1
      have a2 := (kD_at (r := r + 1) q1 0).2
      have a1 : kDl r 1 = _ := a1
      have a2 : kDh r 26 = _ := a2
      exact k_dgb_ok h kSc_c hv (by rw [k_ev_c]; omega) (by rw [k_ev_c]; omega) ho
    · cases ho
theorem k_rq2_ok (h : kRS N σ S M) {z : Nat} {k e j a v : kE} {p : Nat} {o : Option kS} (hp : (p : Int) = k_ev σ k) (hk : kSc S.1.length k) (he : kSc S.1.length e) (hj : kSc S.1.length j) (ha : kSc S.1.length a) (hv : kSc S.1.length v) (hw : k_ev σ v = kBv (kTt M) false [2, k_ev σ e, k_ev σ j, k_ev σ a] p) (ho : k_rq2 S z k e j a v = some o) : kStp N σ S M o := by
  unfold k_rq2 at ho
  split at ho
  · rename_i r hr
    obtain ⟨q1, q2⟩ := k_ln0_ok h hr
    rw [k_ev_sub, ← hp] at q2
    obtain ⟨g, ho⟩ := pm_cs ho
    simp only [Bool.and_eq_true] at g
    obtain ⟨g1, g2, g3, g4⟩ := g
    have g1 := k_ge_ok h.2.1 h.2.2.1 g1
    have g2 := k_ge_ok h.2.1 h.2.2.1 g2
    have g3 := k_ge_ok h.2.1 h.2.2.1 g3
    have g4 := k_ge_ok h.2.1 h.2.2.1 g4
    rw [k_ev_sub, k_ev_c] at g1 g3
    rw [k_ev_sub, k_ev_c, k_ev_add, k_ev_mul, k_ev_c] at g4
    obtain ⟨a1, a2⟩ := kD_at q1 (k_ev σ a)
    have hr2 : k_ev σ e = ((p + r : Nat) : Int) := by omega
    have w := kT_dg (T := kTt M) r (k_ev σ j) (k_ev σ a) p (by omega) (by omega) g2 (by omega)
    rw [← hr2, ← hw] at w
    exact k_dgb_ok h ha hv (by omega) (by omega) ho
  · cases ho
theorem k_rgq_ok (h : kRS N σ S M) {z : Nat} {q : kH} {o : Option kS} (hq : q ∈ S.2.2.2) (ho : k_rgq S z q = some o) : kStp N σ S M o := by
  obtain ⟨s1, s2, s3⟩ := h.2.2.2.2.2.2.2 q hq
  unfold k_rgq at ho
  split at ho
  · rename_i m e j a hz
    obtain ⟨a1, a2, a3, a4⟩ := k_tde_ok h s1 hz
    obtain ⟨c1, ho⟩ := pm_cs ho
    obtain ⟨c1, c2⟩ := Bool.and_eq_true_iff.mp c1
    have c1 := k_ge_ok h.2.1 h.2.2.1 c1
    have c2 := k_ge_ok h.2.1 h.2.2.1 c2
    rw [k_ev_sub, k_ev_c] at c2
    have hp : ((k_ev σ q.1.2).toNat : Int) = k_ev σ q.1.2 := Int.toNat_of_nonneg c1
    have hv := ((a4 _ _).mp (h.2.2.2.2.1 q hq)).to hp
    have he : kSc S.1.length e := a2 e (by simp)
    have hj : kSc S.1.length j := a2 j (by simp)
    have ha : kSc S.1.length a := a2 a (by simp)
    have hv : kBv (kTt M) false [k_ev σ m, k_ev σ e, k_ev σ j, k_ev σ a] (k_ev σ q.1.2).toNat = k_ev σ q.2 := hv
    cases d1 : k_wq m (kc 1) with
    | true =>
      rw [d1, cond_true] at ho
      rw [k_wq_ok d1, k_ev_c] at hv
      obtain ⟨hi, ho⟩ := pm_cs ho
      exact k_rq1_ok h hp (by omega) s2 he s3 hi hv.symm ho
    | false =>
      rw [d1, cond_false] at ho
      obtain ⟨d2, ho⟩ := pm_cs ho
      rw [k_wq_ok d2, k_ev_c] at hv
      exact k_rq2_ok h hp s2 he hj ha s3 hv.symm ho
  · cases ho
def k_rgl (S : kS) (l : List kH) : Option (Option kS) := lfo (fun q => k_rgq S 0 q) l
theorem k_rgl_ok (h : kRS N σ S M) {o : Option kS} : ∀ l : List kH, (∀ q ∈ l, q ∈ S.2.2.2) → k_rgl S l = some o → kStp N σ S M o
  | [], _, ho => by cases ho
  | q :: t, hl, ho => by
    unfold k_rgl at ho
    rw [lfo_cons] at ho
    split at ho
    · rename_i r hr
      cases ho
      exact k_rgq_ok h (hl q List.mem_cons_self) hr
    · exact k_rgl_ok h t (fun q hq => hl q (List.mem_cons_of_mem _ hq)) ho
/-- a sign is one byte -/
def k_siq (S : kS) (q : kH) : Option (Option kS) := cond (k_wq q.1.1 (kc (-143)) && (k_geS S q.1.2 && k_geS S (k_sub (kc 400) q.1.2))) (match k_tl S 1 [kc 0, kc 0, kc 0, kc 0] q.1.2 with
  | some t => cond (k_wq (k_nv S.1 t) (kc 3) && (!(k_eqS S q.2 (k_add q.1.2 (kc 1))) && k_n400 S)) (some (k_cnF S .eq (k_sub q.2 (k_add q.1.2 (kc 1))))) none
  | none => none) none
theorem k_siq_ok (h : kRS N σ S M) {q : kH} {o : Option kS} (hq : q ∈ S.2.2.2) (ho : k_siq S q = some o) : kStp N σ S M o := by
  obtain ⟨s1, s2, s3⟩ := h.2.2.2.2.2.2.2 q hq
  unfold k_siq at ho
  obtain ⟨c1, ho⟩ := pm_cs ho
  simp only [Bool.and_eq_true] at c1
  obtain ⟨c0, c1, c2⟩ := c1
  have c0 := k_wq_ok c0
  have c1 := k_ge_ok h.2.1 h.2.2.1 c1
  have c2 := k_ge_ok h.2.1 h.2.2.1 c2
  rw [k_ev_sub, k_ev_c] at c2
  have hp : ((k_ev σ q.1.2).toNat : Int) = k_ev σ q.1.2 := Int.toNat_of_nonneg c1
  have hh := h.2.2.2.2.1 q hq
  rw [c0, k_ev_c] at hh
  have hh : kPtx M 8 (k_ev σ q.1.2) (k_ev σ q.2) := kPhi_to (i := 15) (p := 8) (by omega) (by omega) (hh.2 (by omega))
  obtain ⟨k, k1, k2⟩ := (kPtx_at (i := 0) (by decide) (by omega)).mp hh
  have k2 : kBv (kTt M) true [1] k = k_ev σ q.2 := k2
  have : k = (k_ev σ q.1.2).toNat := by omega
  subst this
  split at ho
  · rename_i t ht
    obtain ⟨d1, ho⟩ := pm_cs ho
    cases ho
    simp only [Bool.and_eq_true] at d1
    obtain ⟨d1, -, d3⟩ := d1
    obtain ⟨-, kt⟩ := k_kind h hp (by omega) ht
    have kd := kT_kind (T := kTt M) (p := (k_ev σ q.1.2).toNat) (b := 0) (c := 0) (d := 0) (by omega)
    rw [← kt, ← k_nv_ok (e := t) h.2.1, k_wq_ok d1, k_ev_c] at kd
    have n4 := k_n400_ok h d3
    have e := kB_p1 (T := kTt M) (p := (k_ev σ q.1.2).toNat)
    rw [if_neg (by omega), if_neg (by omega), if_neg (by omega)] at e
    have v : kBv (kTt M) true [1] (k_ev σ q.1.2).toNat = 1 + ((k_ev σ q.1.2).toNat : Int) := by
      rw [kBv_s0 (by omega) e]
      show kClp ((k_ev σ q.1.2).toNat : Int) 400 (1 + ((k_ev σ q.1.2).toNat : Int)) = _
      exact kClp_eq (by omega) (by omega)
    exact k_cnF_ok (c := .eq) h (kSc_sub s3 (kSc_add s2 kSc_c)) (by show k_ev σ (k_sub q.2 (k_add q.1.2 (kc 1))) = 0; rw [k_ev_sub, k_ev_add, k_ev_c]; omega)
  · cases ho
def k_sil (S : kS) (l : List kH) : Option (Option kS) := lfo (fun q => k_siq S q) l
theorem k_sil_ok (h : kRS N σ S M) {o : Option kS} : ∀ l : List kH, (∀ q ∈ l, q ∈ S.2.2.2) → k_sil S l = some o → kStp N σ S M o
  | [], _, ho => by cases ho
  | q :: t, hl, ho => by
    unfold k_sil at ho
    rw [lfo_cons] at ho
    split at ho
    · rename_i r hr
      cases ho
      exact k_siq_ok h (hl q List.mem_cons_self) hr
    · exact k_sil_ok h t (fun q hq => hl q (List.mem_cons_of_mem _ hq)) ho
def k_rgs1 (S : kS) : Option (Option kS) := match k_sil S S.2.2.2 with
  | some r => some r
  | none => k_rgl S S.2.2.2
theorem k_rgs1_ok (h : kRS N σ S M) {o : Option kS} (ho : k_rgs1 S = some o) : kStp N σ S M o := by
  unfold k_rgs1 at ho
  split at ho
  · rename_i r hr
    cases ho
    exact k_sil_ok h _ (fun _ hq => hq) hr
  · exact k_rgl_ok h _ (fun _ hq => hq) ho
/-- the parse's start -/
def k_has2 (S : kS) : Bool := S.2.2.2.any (fun q => match k_ts q.1.1 with
  | some z => Nat.beq z.1 2
  | none => false)
def k_bgn (S : kS) : kS := cond (k_has2 S) S (match k_look S (kc (-63)) (kc 0), k_tl S 0 [kc 0] (kc 0), k_tmk S 2 [kc 0, kc 0, kc 0, kc 0, kc 0, kc 0] with
  | some r, some a, some c => k_nmd (k_ptn S ((c, a), r)) [kc 0, kc 0, kc 0, kc 0, kc 0, kc 0]
  | _, _, _ => S)
theorem k_6sc {n : Nat} : ∀ w ∈ [kc 0, kc 0, kc 0, kc 0, kc 0, kc 0], kSc n w := fun w hw => by
  simp only [List.mem_cons, List.not_mem_nil, or_false, or_self] at hw
  rw [hw]
  exact kSc_c
theorem k_6ev : [kc 0, kc 0, kc 0, kc 0, kc 0, kc 0].map (k_ev σ) = [0, 0, 0, 0, 0, 0] := by
  show [k_ev σ (kc 0), k_ev σ (kc 0), k_ev σ (kc 0), k_ev σ (kc 0), k_ev σ (kc 0), k_ev σ (kc 0)] = _
  rw [k_ev_c]
theorem kHas_63 {s v : Int} (h : kHas N M (-63) s v) : kMv (kTt M) [0, 0, 0, 0, 0, 0] (kBv (kTt M) true [0] 0).toNat = v := by
  have : kPtx M 3 s v := kPhi_to (i := 15) (p := 3) (by omega) (by omega) (h.2 (by omega))
  exact (kPtx_3 (by decide)).mp this
/-- the whole parse begins at the first token -/
theorem k_whl (h : kRS N σ S M) {r a : kE} (hr : k_look S (kc (-63)) (kc 0) = some r) (ha : k_tl S 0 [kc 0] (kc 0) = some a) : kSc S.1.length r ∧ kSc S.1.length a ∧ kEn M 2 [0, 0, 0, 0, 0, 0] (k_ev σ a) (k_ev σ r) := by
  obtain ⟨r1, r2⟩ := k_look_ok h hr
  obtain ⟨a1, a2⟩ := k_tl_ok h (by omega) k_1sc ha
  rw [k_ev_c] at r2
  rw [k_1ev, k_ev_c] at a2
  have a3 : kBv (kTt M) true [0] 0 = k_ev σ a := a2.to (p := 0) rfl
  have a4 := (kBv_pl (T := kTt M) (p := 0) [0] (by omega)).1
  have r3 := kHas_63 r2
  refine ⟨r1, a1, (kBv (kTt M) true [0] 0).toNat, ?_, r3⟩
  rw [Int.toNat_of_nonneg (by omega)]
  exact a3
theorem k_bgn_ok (h : kRS N σ S M) : (k_bgn S).1.length = S.1.length ∧ kRS N σ (k_bgn S) M := by
  unfold k_bgn
  cases k_has2 S with
  | true => exact ⟨rfl, h⟩
  | false =>
    rw [cond_false]
    split
    · rename_i r a c hr ha hc
      obtain ⟨r1, a1, w⟩ := k_whl h hr ha
      obtain ⟨m1, m2, m3⟩ := k_tmk_ok h (by omega) k_6sc hc
      refine ⟨rfl, k_nmd_ok (S := k_ptn S ((c, a), r)) (kRS_ent h fun q hq => ?_) k_6sc⟩
      rcases List.mem_cons.mp hq with rfl | hq
      · exact Or.inr ⟨⟨m1, a1, r1⟩, (m3 _ _).mpr (by rw [k_6ev]; exact w)⟩
      · exact Or.inl hq
    · exact ⟨rfl, h⟩
end KTD
end
