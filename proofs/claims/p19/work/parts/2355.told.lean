noncomputable section
/-! moves that are told: what follows of tables and of parses besides the rules -/
theorem kPw_add (a b : Nat) : kPw (a + b) = kPw a * kPw b := by
  unfold kPw
  rw [Nat.pow_add, Int.natCast_mul]
theorem kPw_le {a b : Nat} (h : a ≤ b) : kPw a ≤ kPw b := by
  unfold kPw
  have := Nat.pow_le_pow_right (n := 2) (by omega) h
  omega
theorem kPw_pw (a : Nat) : ∀ n : Nat, kPw a ^ n = kPw (a * n)
  | 0 => by
    rw [Int.pow_zero, Nat.mul_zero]
    rfl
  | n + 1 => by
    rw [Int.pow_succ, kPw_pw a n, Nat.mul_succ, kPw_add]
theorem kPw_8 (n : Nat) : (8 : Int) ^ n = kPw (3 * n) := kPw_pw 3 n
theorem kPw_16 (n : Nat) : (16 : Int) ^ n = kPw (4 * n) := kPw_pw 4 n
theorem kPw_b (n : Nat) : kBg ^ n = kPw (4096 * n) := by
  rw [← kPw_bg]
  exact kPw_pw 4096 n
def k_nth {α : Type} (l : List α) (i : Nat) : Option α := List.rec (motive := fun _ => Nat → Option α) (fun _ => none) (fun q _ ih i => Nat.rec (motive := fun _ => Option α) (some q) (fun n _ => ih n) i) l i
theorem k_nth_in {α : Type} : ∀ (l : List α) (i : Nat) {q : α}, k_nth l i = some q → q ∈ l
  | [], _, _, h => by cases h
  | x :: t, 0, q, h => by
    cases h
    exact List.mem_cons_self
  | x :: t, i + 1, q, h => List.mem_cons_of_mem _ (k_nth_in t i h)
section KMV
variable {N : kN} {σ : Nat → Int} {S : kS} {M : pM}
/-- 0: nothing before the first -/
def k_mv0 (S : kS) (q : kH) : Option (Option kS) := cond (k_wq (k_nv S.1 q.1.2) (kc 0) && (k_is q.1.1 (-4) || (k_is q.1.1 (-5) || (match k_tab S q with
  | some z => Nat.beq z.1 5 || Nat.beq z.1 6
  | none => false)))) (some (k_cnF S .eq q.2)) none
theorem kHas_wt {c s v lo hi : Int} {i : Nat} (hi' : (i = 4 ∧ lo = 21 ∧ hi = 23) ∨ (i = 5 ∧ lo = 24 ∧ hi = 24)) (hc : c = -((i : Int) + 16 * 0)) (h : kHas N M c s v) : ∃ k : Nat, (k : Int) = s ∧ kWt M lo hi k v := by
  have h := kPhi_to hc (by omega) (h.2 (by omega))
  rcases hi' with ⟨rfl, rfl, rfl⟩ | ⟨rfl, rfl, rfl⟩
  · exact h
  · exact h
theorem k_isv_ev {c : kE} {z : Int} (h : k_is c z = true) : k_ev σ c = z := by
  obtain ⟨h1, h2⟩ := Bool.and_eq_true_iff.mp h
  rw [k_ev_const (σ := σ) h1]
  exact of_decide_eq_true h2
theorem k_mv0_ok (h : kRS N σ S M) {q : kH} {o : Option kS} (hq : q ∈ S.2.2.2) (ho : k_mv0 S q = some o) : kStp N σ S M o := by
  unfold k_mv0 at ho
  obtain ⟨g, ho⟩ := pm_cs ho
  cases ho
  obtain ⟨g1, g2⟩ := Bool.and_eq_true_iff.mp g
  obtain ⟨s1, s2, s3⟩ := h.2.2.2.2.2.2.2 q hq
  have e0 := k_nv_ok (e := q.1.2) h.2.1
  rw [k_wq_ok g1, k_ev_c] at e0
  have H := h.2.2.2.2.1 q hq
  refine k_cnF_ok (c := .eq) h s3 ?_
  show k_ev σ q.2 = 0
  have wt : ∀ {lo hi : Int}, (∃ k : Nat, (k : Int) = k_ev σ q.1.2 ∧ kWt M lo hi k (k_ev σ q.2)) → k_ev σ q.2 = 0 := fun {lo hi} hh => by
    obtain ⟨k, k1, k2⟩ := hh
    have : k = 0 := by omega
    subst this
    exact k2
  rcases Bool.or_eq_true_iff.mp g2 with g2 | g2
  · exact wt (kHas_wt (i := 4) (Or.inl ⟨rfl, rfl, rfl⟩) (by rw [k_isv_ev g2]; omega) H)
  · rcases Bool.or_eq_true_iff.mp g2 with g2 | g2
    · exact wt (kHas_wt (i := 5) (Or.inr ⟨rfl, rfl, rfl⟩) (by rw [k_isv_ev g2]; omega) H)
    · split at g2
      · rename_i z hz
        obtain ⟨-, T⟩ := k_tab_ok h hq hz
        rcases Bool.or_eq_true_iff.mp g2 with g2 | g2
        · rw [pm_beq g2] at T
          obtain ⟨t, k, n, k1, k2⟩ := T
          obtain ⟨-, e⟩ := kRp_uq (M := M) (t := t) (u := 0) (r := (0, 0, 0)) k2 rfl (by show k = 0; omega)
          exact congrArg (fun r => r.2.1) e
        · rw [pm_beq g2] at T
          obtain ⟨k, k1, k2⟩ := T
          have : k = 0 := by omega
          subst this
          exact (Option.some.inj k2).symm
      · cases g2
/-- 1 to 16: at the most -/
def k_m3s (S : kS) (k : kE) : Option kE := lfb (fun r => k_is r.1.1 (-3) && k_eq r.1.2 k) (fun r => r.2) S.2.2.2
def k_mrm (S : kS) (q : kH) (z : Nat × kE) : Option Int := cond (Nat.beq z.1 6) (cond (decide (k_hi S.1 q.1.2 ≤ 144)) (some (kPw 432 - 1)) none)
  (cond (Nat.beq z.1 5) (match k_m3s S q.1.2 with
    | some d => cond (decide (k_hi S.1 d ≤ 199)) (some (kPw (4096 * Nat.max (k_hi S.1 d).toNat 1) - 1)) none
    | none => none)
  (cond (Nat.beq z.1 7) (cond (decide (0 < k_hi S.1 (k_sub q.1.2 z.2)) && decide (k_hi S.1 (k_sub q.1.2 z.2) ≤ 12)) (some (kPw (4 * (k_hi S.1 (k_sub q.1.2 z.2)).toNat) - 1)) none) none))
def k_mv1 (S : kS) (q : kH) (i : Nat) : Option (Option kS) := match k_tab S q with
  | none => none
  | some z => match k_mrm S q z with
    | none => none
    | some X => match k_nth q.2.2 i with
      | none => none
      | some t => cond (decide (0 < t.2) && decide (0 ≤ k_lo S.1 (k_sub q.2 (k_mul t.2 (kv t.1))))) (some (k_asF S (k_sub (kc (X / t.2)) (kv t.1)))) none
theorem kZi_q : ∀ {t u : Nat} {k : Nat} {n m : Int}, kZi M t = some (k, n) → kZi M u = some (k, m) → n = m := by
  have go : ∀ {t d : Nat} {k : Nat} {n m : Int}, kZi M t = some (k, n) → kZi M (t + d) = some (k, m) → n = m := fun {t d k n m} h1 h2 => by
    cases d with
    | zero =>
      have h2 : kZi M t = some (k, m) := h2
      rw [h1] at h2
      cases h2
      rfl
    | succ d =>
      obtain ⟨p, p1, -, p3⟩ := kZi_prev (M := M) (t := t + d) h2
      obtain ⟨r, r1, r2⟩ := kZi_down p1
      rw [h1] at r1
      cases r1
      have p3 : p.1 < k := p3
      have r2 : k ≤ p.1 := r2
      omega
  intro t u k n m h1 h2
  rcases Nat.le_total t u with hl | hl
  · obtain ⟨d, rfl⟩ : ∃ d, u = t + d := ⟨u - t, by omega⟩
    exact go h1 h2
  · obtain ⟨d, rfl⟩ : ∃ d, t = u + d := ⟨t - u, by omega⟩
    exact (go h2 h1).symm
theorem k_m3s_ok (h : kRS N σ S M) {k d : kE} (hd : k_m3s S k = some d) : ∃ t j : Nat, (j : Int) = k_ev σ k ∧ kZi M t = some (j, k_ev σ d) := by
  have go : ∀ l : List kH, (∀ r ∈ l, r ∈ S.2.2.2) → lfb (fun r : kH => k_is r.1.1 (-3) && k_eq r.1.2 k) (fun r => r.2) l = some d → ∃ r ∈ S.2.2.2, k_is r.1.1 (-3) = true ∧ k_eq r.1.2 k = true ∧ r.2 = d := by
    intro l
    induction l with
    | nil =>
      intro _ e
      cases e
    | cons r t ih =>
      intro hl e
      rw [lfb_cons] at e
      cases c : (k_is r.1.1 (-3) && k_eq r.1.2 k) with
      | true =>
        rw [c, cond_true] at e
        cases e
        obtain ⟨c1, c2⟩ := Bool.and_eq_true_iff.mp c
        exact ⟨r, hl r List.mem_cons_self, c1, c2, rfl⟩
      | false =>
        rw [c, cond_false] at e
        exact ih (fun r hr => hl r (List.mem_cons_of_mem _ hr)) e
  obtain ⟨r, hr, c1, c2, rfl⟩ := go S.2.2.2 (fun _ hr => hr) hd
  obtain ⟨t, j, j1, j2⟩ := kHas_3' (c := r.1.1) (s := r.1.2) (v := r.2) h hr c1
  exact ⟨t, j, by rw [j1]; exact k_eq_ok c2, j2⟩
theorem k_mrm_ok (h : kRS N σ S M) {q : kH} {z : Nat × kE} {X : Int} (hT : kTab M z.1 (k_ev σ z.2) (k_ev σ q.1.2) (k_ev σ q.2)) (hX : k_mrm S q z = some X) : k_ev σ q.2 ≤ X := by
  unfold k_mrm at hX
  cases c6 : Nat.beq z.1 6 with
  | true =>
    rw [c6, cond_true] at hX
    obtain ⟨g, hX⟩ := pm_cs hX
    cases hX
    rw [pm_beq c6] at hT
    obtain ⟨k, k1, k2⟩ := hT
    have r := (kWs_rg k2).2
    have g := of_decide_eq_true g
    have := k_hi_ge h.2.1 q.1.2
    have m := kPw_le (a := 3 * k) (b := 432) (by omega)
    rw [kPw_8] at r
    omega
  | false =>
    rw [c6, cond_false] at hX
    cases c5 : Nat.beq z.1 5 with
    | true =>
      rw [c5, cond_true] at hX
      split at hX
      · rename_i d hd
        obtain ⟨g, hX⟩ := pm_cs hX
        cases hX
        rw [pm_beq c5] at hT
        obtain ⟨t, k, n, k1, k2⟩ := hT
        obtain ⟨u, j, j1, j2⟩ := k_m3s_ok h hd
        have e : j = k := by omega
        subst e
        have e := kZi_q (M := M) (kRp.zi k2) j2
        have e : (n : Int) = k_ev σ d := e
        have := k_hi_ge h.2.1 d
        have r := (kRp.rg k2).2
        have r : k_ev σ q.2 < kBg ^ n := r
        rw [kPw_b] at r
        have m := kPw_le (a := 4096 * n) (b := 4096 * Nat.max (k_hi S.1 d).toNat 1) (by
          have : (k_hi S.1 d).toNat ≤ Nat.max (k_hi S.1 d).toNat 1 := Nat.le_max_left _ _
          omega)
        omega
      · cases hX
    | false =>
      rw [c5, cond_false] at hX
      obtain ⟨c7, hX⟩ := pm_cs hX
      obtain ⟨g, hX⟩ := pm_cs hX
      cases hX
      rw [pm_beq c7] at hT
      obtain ⟨y, n, y1, y2, y3⟩ := hT
      have r := (kLs_rg y3).2
      rw [kPw_16] at r
      have := k_hi_ge h.2.1 (k_sub q.1.2 z.2)
      rw [k_ev_sub] at this
      have m := kPw_le (a := 4 * n) (b := 4 * (k_hi S.1 (k_sub q.1.2 z.2)).toNat) (by omega)
      omega
theorem k_mv1_ok (h : kRS N σ S M) {q : kH} {i : Nat} {o : Option kS} (hq : q ∈ S.2.2.2) (ho : k_mv1 S q i = some o) : kStp N σ S M o := by
  unfold k_mv1 at ho
  split at ho
  · cases ho
  · rename_i z hz
    obtain ⟨-, T⟩ := k_tab_ok h hq hz
    split at ho
    · cases ho
    · rename_i X hX
      have hX := k_mrm_ok h T hX
      split at ho
      · cases ho
      · rename_i t ht
        obtain ⟨g, ho⟩ := pm_cs ho
        cases ho
        obtain ⟨g1, g2⟩ := Bool.and_eq_true_iff.mp g
        have g1 := of_decide_eq_true g1
        have g2 := of_decide_eq_true g2
        obtain ⟨s1, s2, s3⟩ := h.2.2.2.2.2.2.2 q hq
        have st : kSc S.1.length (kv t.1) := fun r hr => by
          rcases List.mem_singleton.mp hr with rfl
          exact s3 t (k_nth_in _ _ ht)
        have l := k_lo_le h.2.1 (k_sub q.2 (k_mul t.2 (kv t.1)))
        rw [k_ev_sub, k_ev_mul] at l
        refine k_asF_ok h (kSc_sub kSc_c st) ?_
        rw [k_ev_sub, k_ev_c]
        have : k_ev σ (kv t.1) ≤ X / t.2 := (Int.le_ediv_iff_mul_le g1).mpr (by rw [Int.mul_comm]; omega)
        omega
/-- 20, 21: what may come yet of a parse: behind the condition, or at an end, the fault alone -/
def k_mve (g : Option kG2) : Option (kE × kE) := match g with
  | some (.inl e) => some e
  | _ => none
def k_lax {α : Type} : List α → Option α
  | [] => none
  | [x] => some x
  | _ :: y :: t => k_lax (y :: t)
theorem k_lax_in {α : Type} {x : α} : ∀ l : List α, k_lax l = some x → x ∈ l
  | [], h => by cases h
  | [y], h => by
    cases h
    exact List.mem_cons_self
  | y :: z :: t, h => List.mem_cons_of_mem _ (k_lax_in (z :: t) h)
def k_mvs (S : kS) (q : kH) (w : List kE × kE) : Option kE := cond (k_cst (k_lww w.1 0) && (decide ((k_lww w.1 0).1 ≤ 6) && (match k_bit S w.1[3]? 2 with
  | some b => k_wq b (kc 1)
  | none => false))) (some (k_sub q.2 w.2)) none
def k_mvw (S : kS) (q : kH) (ws : List kE) : Option kE := match k_mve (k_c2s S ws q.1.2).2 with
  | some e => some (k_sub q.2 (k_sub e.1 e.2))
  | none => (match k_lax (k_c2s S ws q.1.2).1 with
    | some w => k_mvs S q w
    | none => none)
def k_mv2 (S : kS) (q : kH) (i : Bool) : Option (Option kS) := match k_tde S q.1.1 with
  | none => none
  | some z => cond (Nat.beq z.1 2 && (k_n400 S && (k_geS S q.1.2 && k_geS S (k_sub (kc 400) q.1.2)))) (match k_mvw S q z.2 with
    | none => none
    | some e => some (match k_spl S e 512 with
      | none => k_asF S (cond i e (k_sub (kc 401) e))
      | some p => k_asF S (cond i p.1 (k_mul (-1) p.1)))) none
theorem k_mve_ok {g : Option kG2} {e : kE × kE} (h : k_mve g = some e) : g = some (.inl e) := by
  unfold k_mve at h
  split at h
  · cases h
    rfl
  · cases h
theorem k_mvw_ok (h : kRS N σ S M) (hn : (kTt M).2 ≤ 400) {q : kH} {ws : List kE} {e : kE} {p : Nat} (hq : q ∈ S.2.2.2) (hp4 : p ≤ 400) (hp : (p : Int) = k_ev σ q.1.2) (hs : ∀ w ∈ ws, kSc S.1.length w) (hv : kMw (kTt M) (ws.map (k_ev σ)) p (k_ev σ q.2)) (he : k_mvw S q ws = some e) : kSc S.1.length e ∧ 0 ≤ k_ev σ e ∧ k_ev σ e ≤ 401 := by
  obtain ⟨-, s2, s3⟩ := h.2.2.2.2.2.2.2 q hq
  obtain ⟨C1, C2⟩ := k_c2s_ok h hp4 s2 hp hs
  unfold k_mvw at he
  split at he
  · rename_i r hr
    cases he
    obtain ⟨g1, g2, g3, g4⟩ := C2 (.inl r) (k_mve_ok hr)
    have := (g4 _).mp hv
    refine ⟨kSc_sub s3 (kSc_sub g1 g2), ?_⟩
    rw [k_ev_sub, k_ev_sub]
    omega
  · split at he
    · rename_i w hw
      obtain ⟨w1, w2, w3⟩ := C1 w (k_lax_in _ hw)
      unfold k_mvs at he
      obtain ⟨g, he⟩ := pm_cs he
      cases he
      simp only [Bool.and_eq_true] at g
      obtain ⟨c0, c6, c2⟩ := g
      have c6 := of_decide_eq_true c6
      split at c2
      · rename_i b hb
        have b2 := (k_bit_ok h w1 hb).2
        rw [k_wq_ok c2, k_ev_c] at b2
        have m0 : (w.1.map (k_ev σ)).getD 0 0 = (k_lww w.1 0).1 := by rw [← k_lw_ev, k_ev_const c0]
        obtain ⟨f, u, hu⟩ := kMr_end (T := kTt M) hn hp4 (w.1.map (k_ev σ))
        have e1 := (w3 _).mp hv f u hu
        have r := kMr_v2 f _ _ u (by rw [m0]; omega) (by
          have b2 : (1 : Int) = (w.1.map (k_ev σ)).getD 3 0 / 4 % 2 := b2
          omega) hu
        refine ⟨kSc_sub s3 w2, ?_⟩
        rw [k_ev_sub]
        omega
      · cases c2
    · cases he
theorem k_mv2_ok (h : kRS N σ S M) {q : kH} {i : Bool} {o : Option kS} (hq : q ∈ S.2.2.2) (ho : k_mv2 S q i = some o) : kStp N σ S M o := by
  obtain ⟨s1, s2, s3⟩ := h.2.2.2.2.2.2.2 q hq
  unfold k_mv2 at ho
  split at ho
  · cases ho
  · rename_i z hz
    obtain ⟨a1, a2, a3, a4⟩ := k_tde_ok h s1 hz
    obtain ⟨g, ho⟩ := pm_cs ho
    simp only [Bool.and_eq_true] at g
    obtain ⟨i2, gn, c1, c2⟩ := g
    have c1 := k_ge_ok h.2.1 h.2.2.1 c1
    have c2 := k_ge_ok h.2.1 h.2.2.1 c2
    rw [k_ev_sub, k_ev_c] at c2
    have hp : ((k_ev σ q.1.2).toNat : Int) = k_ev σ q.1.2 := Int.toNat_of_nonneg c1
    have hv := ((a4 _ _).mp (h.2.2.2.2.1 q hq)).tw hp
    rw [pm_beq i2] at hv
    have hv := kTW_2.mp hv
    split at ho
    · cases ho
    · rename_i e he
      cases ho
      obtain ⟨e1, e2, e3⟩ := k_mvw_ok h (k_n400_ok h gn) hq (by omega) hp a2 hv he
      split
      · cases i with
        | true => exact k_asF_ok h e1 e2
        | false =>
          rw [cond_false]
          exact k_asF_ok h (kSc_sub kSc_c e1) (by rw [k_ev_sub, k_ev_c]; omega)
      · rename_i r hr
        obtain ⟨r1, r2, r3, r4, r5⟩ := k_spl_ok h e1 hr
        cases i with
        | true =>
          rw [cond_true]
          exact k_asF_ok h r4 (by omega)
        | false =>
          rw [cond_false]
          exact k_asF_ok h (kSc_mul r4) (by rw [k_ev_mul]; omega)
/-- 18: an unknown in two digits, everywhere in what is known -/
def k_cfu (u : Nat) : List (Nat × Int) → Int
  | [] => 0
  | t :: r => cond (Nat.beq t.1 u) (t.2 + k_cfu u r) (k_cfu u r)
def k_sb1 (u : Nat) (w e : kE) : kE := cond (zz (k_cfu u e.2)) e (k_add e (k_mul (k_cfu u e.2) (k_sub w (kv u))))
def k_sbS (u : Nat) (w : kE) (S : kS) : kS := (S.1, S.2.1.map (k_sb1 u w), S.2.2.1.map (k_sb1 u w), S.2.2.2.map (fun q => ((k_sb1 u w q.1.1, k_sb1 u w q.1.2), k_sb1 u w q.2)))
def k_dg3 (x : kE) (u : Nat) (r : Int) (q : kE × kS) : kS := k_sbS u (k_add x (k_mul r q.1)) q.2
def k_dgs (S : kS) (u : Nat) (r : Int) : kS := k_dg3 (k_new S 0 (r - 1)).1 u r (k_new (k_new S 0 (r - 1)).2 0 (k_hi S.1 (kv u) / r))
theorem k_sb1_ok {u : Nat} {w : kE} (hw : k_ev σ w = k_ev σ (kv u)) (e : kE) : k_ev σ (k_sb1 u w e) = k_ev σ e := by
  unfold k_sb1
  cases zz (k_cfu u e.2) with
  | true => rfl
  | false =>
    rw [cond_false, k_ev_add, k_ev_mul, k_ev_sub, hw, Int.sub_self, Int.mul_zero, Int.add_zero]
theorem k_sb1_sc {n u : Nat} {w e : kE} (hw : kSc n w) (hu : u < n) (he : kSc n e) : kSc n (k_sb1 u w e) := by
  unfold k_sb1
  cases zz (k_cfu u e.2) with
  | true => exact he
  | false => exact kSc_add he (kSc_mul (kSc_sub hw fun r hr => by
      rcases List.mem_singleton.mp hr with rfl
      exact hu))
theorem k_sbS_ok (h : kRS N σ S M) {u : Nat} {w : kE} (hw : kSc S.1.length w) (hu : u < S.1.length) (he : k_ev σ w = k_ev σ (kv u)) : kRS N σ (k_sbS u w S) M := by
  obtain ⟨g0, gb, gf, gn, gc, gs⟩ := h
  refine ⟨g0, gb, fun e hh => ?_, fun e hh => ?_, fun q hh => ?_, fun e hh => ?_, fun e hh => ?_, fun q hh => ?_⟩
  · obtain ⟨x, hx, rfl⟩ := List.mem_map.mp hh
    rw [k_sb1_ok he]
    exact gf x hx
  · obtain ⟨x, hx, rfl⟩ := List.mem_map.mp hh
    rw [k_sb1_ok he]
    exact gn x hx
  · obtain ⟨x, hx, rfl⟩ := List.mem_map.mp hh
    show kHas N M (k_ev σ (k_sb1 u w x.1.1)) (k_ev σ (k_sb1 u w x.1.2)) (k_ev σ (k_sb1 u w x.2))
    rw [k_sb1_ok he, k_sb1_ok he, k_sb1_ok he]
    exact gc x hx
  · obtain ⟨x, hx, rfl⟩ := List.mem_map.mp hh
    exact k_sb1_sc hw hu (gs.1 x hx)
  · obtain ⟨x, hx, rfl⟩ := List.mem_map.mp hh
    exact k_sb1_sc hw hu (gs.2.1 x hx)
  · obtain ⟨x, hx, rfl⟩ := List.mem_map.mp hh
    obtain ⟨a1, a2, a3⟩ := gs.2.2 x hx
    exact ⟨k_sb1_sc hw hu a1, k_sb1_sc hw hu a2, k_sb1_sc hw hu a3⟩
theorem k_dgs_ok (h : kRS N σ S M) {u : Nat} {r : Int} (hu : u < S.1.length) (hr : 0 < r) (h0 : 0 ≤ k_ev σ (kv u)) : kStq N σ S M (some (k_dgs S u r)) := by
  have m1 := Int.emod_nonneg (k_ev σ (kv u)) (b := r) (by omega)
  have m2 := Int.emod_lt_of_pos (k_ev σ (kv u)) hr
  obtain ⟨τ, t1, t2, t3, t4, t5⟩ := k_new_ok (lo := 0) (hi := r - 1) (x := k_ev σ (kv u) % r) h m1 (by omega)
  have d1 : 0 ≤ k_ev σ (kv u) / r := Int.ediv_nonneg h0 (by omega)
  have d2 : k_ev σ (kv u) / r ≤ k_hi S.1 (kv u) / r := Int.ediv_le_ediv hr (k_hi_ge h.2.1 (kv u))
  obtain ⟨υ, u1, u2, u3, u4, u5⟩ := k_new_ok (lo := 0) (hi := k_hi S.1 (kv u) / r) (x := k_ev σ (kv u) / r) t3 d1 d2
  have su : kSc S.1.length (kv u) := fun q hq => by
    rcases List.mem_singleton.mp hq with rfl
    exact hu
  have ag : kAgr S.1.length σ υ := fun a ha => (u1 a (by omega)).trans (t1 a ha)
  have eu : k_ev υ (kv u) = k_ev σ (kv u) := k_ev_agree ag su
  have ex : k_ev υ (k_new S 0 (r - 1)).1 = k_ev σ (kv u) % r := (k_ev_agree u1 t5).trans t4
  refine ⟨_, υ, rfl, ag, by show S.1.length ≤ (k_new (k_new S 0 (r - 1)).2 0 (k_hi S.1 (kv u) / r)).2.1.length; omega, ?_⟩
  refine k_sbS_ok u3 (kSc_add (t5.mono u2) (kSc_mul u5)) (by omega) ?_
  rw [k_ev_add, k_ev_mul, ex, u4, eu]
  have := Int.emod_add_mul_ediv (k_ev σ (kv u)) r
  omega
def k_mvd (S : kS) (e : kE) (r : Int) : Option (Option kS) := match e.2 with
  | t :: _ => cond (decide (0 ≤ k_lo S.1 (kv t.1))) (some (some (k_dgs S t.1 r))) none
  | [] => none
def k_mv3 (S : kS) (q : kH) : Option (Option kS) := match k_tab S q with
  | none => none
  | some z => cond (Nat.beq z.1 6) (k_mvd S q.2 8) (match k_spl S q.2 (kPw 4096) with
    | none => none
    | some p => k_mvd S p.1 (kPw 4096))
theorem k_mvd_ok (h : kRS N σ S M) {e : kE} {r : Int} {o : Option kS} (he : kSc S.1.length e) (hr : 0 < r) (ho : k_mvd S e r = some o) : kStq N σ S M o := by
  unfold k_mvd at ho
  split at ho
  · rename_i t l hl
    obtain ⟨g, ho⟩ := pm_cs ho
    cases ho
    have g := of_decide_eq_true g
    have := k_lo_le h.2.1 (kv t.1)
    exact k_dgs_ok h (he t (by rw [hl]; exact List.mem_cons_self)) hr (by omega)
  · cases ho
theorem k_mv3_ok (h : kRS N σ S M) {q : kH} {o : Option kS} (hq : q ∈ S.2.2.2) (ho : k_mv3 S q = some o) : kStq N σ S M o := by
  obtain ⟨s1, s2, s3⟩ := h.2.2.2.2.2.2.2 q hq
  unfold k_mv3 at ho
  split at ho
  · cases ho
  · rename_i z hz
    cases c6 : Nat.beq z.1 6 with
    | true =>
      rw [c6, cond_true] at ho
      exact k_mvd_ok h s3 (by omega) ho
    | false =>
      rw [c6, cond_false] at ho
      split at ho
      · cases ho
      · rename_i p hp
        obtain ⟨-, -, -, p4, -⟩ := k_spl_ok h s3 hp
        exact k_mvd_ok h p4 (kPw_pos _) ho
/-- 22, 23: no more than a list has -/
def k_mvc (S : kS) (k : kE) : Option (kE × kE) := List.rec (motive := fun _ => Option (kE × kE)) none (fun r _ ih => match k_tab S r with
  | some z => cond (Nat.beq z.1 7 && k_eq r.2 k) (some (r.1.2, z.2)) ih
  | none => ih) S.2.2.2
theorem k_mvc_ok (h : kRS N σ S M) {k : kE} {r : kE × kE} (hr : k_mvc S k = some r) : kSc S.1.length r.1 ∧ kSc S.1.length r.2 ∧ ∃ z n : Nat, (z : Int) = k_ev σ r.2 ∧ ((z + n : Nat) : Int) = k_ev σ r.1 ∧ kLss M z n = some (k_ev σ k) := by
  have go : ∀ l : List kH, (∀ q ∈ l, q ∈ S.2.2.2) → List.rec (motive := fun _ => Option (kE × kE)) none (fun r _ ih => match k_tab S r with
      | some z => cond (Nat.beq z.1 7 && k_eq r.2 k) (some (r.1.2, z.2)) ih
      | none => ih) l = some r → kSc S.1.length r.1 ∧ kSc S.1.length r.2 ∧ ∃ z n : Nat, (z : Int) = k_ev σ r.2 ∧ ((z + n : Nat) : Int) = k_ev σ r.1 ∧ kLss M z n = some (k_ev σ k) := by
    intro l
    induction l with
    | nil =>
      intro _ e
      cases e
    | cons q t ih =>
      intro hl e
      have ih := ih (fun x hx => hl x (List.mem_cons_of_mem _ hx))
      dsimp only at e
      split at e
      · rename_i z hz
        cases c : (Nat.beq z.1 7 && k_eq q.2 k) with
        | true =>
          rw [c, cond_true] at e
          cases e
          obtain ⟨c1, c2⟩ := Bool.and_eq_true_iff.mp c
          have hq := hl q List.mem_cons_self
          obtain ⟨a1, a2⟩ := k_tab_ok h hq hz
          rw [pm_beq c1] at a2
          obtain ⟨y, n, y1, y2, y3⟩ := a2
          rw [k_eq_ok c2] at y3
          exact ⟨(h.2.2.2.2.2.2.2 q hq).2.1, a1, y, n, y1, y2, y3⟩
        | false =>
          rw [c, cond_false] at e
          exact ih e
      · exact ih e
  exact go S.2.2.2 (fun _ hq => hq) hr
def k_mv4 (S : kS) (q : kH) (i : Bool) : Option (Option kS) := match k_fnn S q with
  | none => none
  | some z => cond (Nat.beq z.1 18) (match k_mvc S q.1.2 with
    | none => none
    | some r => some (k_asF S (cond i q.2 (k_sub (k_sub r.1 r.2) q.2)))) none
theorem k_mv4_ok (h : kRS N σ S M) {q : kH} {i : Bool} {o : Option kS} (hq : q ∈ S.2.2.2) (ho : k_mv4 S q i = some o) : kStp N σ S M o := by
  obtain ⟨s1, s2, s3⟩ := h.2.2.2.2.2.2.2 q hq
  unfold k_mv4 at ho
  split at ho
  · cases ho
  · rename_i z hz
    obtain ⟨c, ho⟩ := pm_cs ho
    obtain ⟨-, a2⟩ := k_fnn_ok h hq hz
    rw [pm_beq c] at a2
    have a2 : kCnt (k_ev σ z.2) (k_ev σ q.1.2) = k_ev σ q.2 := a2
    split at ho
    · cases ho
    · rename_i r hr
      cases ho
      obtain ⟨r1, r2, y, n, y1, y2, y3⟩ := k_mvc_ok h hr
      obtain ⟨l1, l2⟩ := kLs_rg y3
      have b := kCnl_le (k_ev σ z.2) 12 14 n (k_ev σ q.1.2) l1 l2
      unfold kCnt at a2
      rw [a2] at b
      cases i with
      | true => exact k_asF_ok h s3 b.1
      | false =>
        rw [cond_false]
        refine k_asF_ok h (kSc_sub (kSc_sub r1 r2) s3) ?_
        rw [k_ev_sub, k_ev_sub]
        omega
/-- 19: the function that the next step names, made -/
def k_nd1 (S : kS) (ws : List kE) (lim : Int) : Option (kE × kE) := match k_nvo S (k_q2 (k_spq S ws[6]? 8)), k_pd1 S ws, k_pd2 S ws with
  | some t, some q, some r => cond (k_cst t && (decide (2 ≤ t.1) && decide (t.1 ≤ lim))) (some (k_fop (cond (decide (t.1 = 3)) 5 4) (k_nv S.1 r.2), cond (decide (t.1 = 4)) (k_sub (kc (kPw 4096 - 1)) (k_nv S.1 q.2)) (k_nv S.1 q.2))) none
  | _, _, _ => none
def k_ndd (S : kS) (ws : List kE) (k : kE) : Option (kE × kE) := cond (k_cst (k_lww ws 0)) (cond (decide ((k_lww ws 0).1 = 8)) (k_nd1 S ws 2) (cond (decide ((k_lww ws 0).1 = 14)) (k_nd1 S ws 3) (cond (decide ((k_lww ws 0).1 = 16)) (k_nd1 S ws 4)
  (cond (decide ((k_lww ws 0).1 = 13)) (some (k_ff7 2 (kc 0), k_lww ws 7)) (cond (decide ((k_lww ws 0).1 = 9)) (match k_ete S k with
    | some e => (match k_tl S 1 [kc 4, e, kc 0, kc 0] k with
      | some u => some (k_fop 6 (kc 0), u)
      | none => none)
    | none => none) none))))) none
/-- a function's value at hand -/
def kNdP (N : kN) (σ : Nat → Int) (S : kS) (M : pM) (c : kE × kE) : Prop := kSc S.1.length c.1 ∧ kSc S.1.length c.2 ∧ ∃ x : Int, 0 ≤ x ∧ x ≤ kBg - 1 ∧ (k_ev σ c.1 < 0 → kHas N M (k_ev σ c.1) (k_ev σ c.2) x)
theorem k_nd1_ok (h : kRS N σ S M) {ws : List kE} {lim : Int} {c : kE × kE} (hs : ∀ w ∈ ws, kSc S.1.length w) (hc : k_nd1 S ws lim = some c) : kNdP N σ S M c := by
  unfold k_nd1 at hc
  split at hc
  · rename_i t q r ht hq hr
    obtain ⟨-, hc⟩ := pm_cs hc
    cases hc
    obtain ⟨q1, q2, q3, q4⟩ := k_pd1_ok h hs hq
    obtain ⟨r1, r2, r3, r4⟩ := k_pd2_ok h hs hr
    have mq := kPm ((ws.map (k_ev σ)).getD 8 0)
    have mr := kPm ((ws.map (k_ev σ)).getD 8 0 / kBg)
    rw [← q4] at mq
    rw [← r4] at mr
    have eq := k_nv_ok (e := q.2) h.2.1
    have er := k_nv_ok (e := r.2) h.2.1
    have a4 : kSc S.1.length (cond (decide (t.1 = 4)) (k_sub (kc (kPw 4096 - 1)) (k_nv S.1 q.2)) (k_nv S.1 q.2)) ∧ 0 ≤ k_ev σ (cond (decide (t.1 = 4)) (k_sub (kc (kPw 4096 - 1)) (k_nv S.1 q.2)) (k_nv S.1 q.2)) ∧ k_ev σ (cond (decide (t.1 = 4)) (k_sub (kc (kPw 4096 - 1)) (k_nv S.1 q.2)) (k_nv S.1 q.2)) < kBg := by
      cases decide (t.1 = 4) with
      | true =>
        rw [cond_true, k_ev_sub, k_ev_c, eq, kPw_bg]
        exact ⟨kSc_sub kSc_c (k_nv_sc q2), by omega, by omega⟩
      | false =>
        rw [cond_false, eq]
        exact ⟨k_nv_sc q2, mq.1, mq.2⟩
    obtain ⟨a1, a2, a3⟩ := a4
    refine ⟨k_fop_sc (k_nv_sc r2), a1, ?_⟩
    show ∃ x : Int, 0 ≤ x ∧ x ≤ kBg - 1 ∧ (k_ev σ (k_fop (cond (decide (t.1 = 3)) 5 4) (k_nv S.1 r.2)) < 0 → kHas N M (k_ev σ (k_fop (cond (decide (t.1 = 3)) 5 4) (k_nv S.1 r.2))) _ x)
    cases decide (t.1 = 3) with
    | true =>
      rw [cond_true]
      have g := kOr_rg (a := k_ev σ r.2) mr.1 mr.2 a2 a3
      exact ⟨_, g.1, by omega, fun hn => (k_fop_h (by omega) (by omega) hn).mpr (by rw [kLf2_5, er])⟩
    | false =>
      rw [cond_false]
      have g := kAnd_rg (a := k_ev σ r.2) (b := k_ev σ (cond (decide (t.1 = 4)) (k_sub (kc (kPw 4096 - 1)) (k_nv S.1 q.2)) (k_nv S.1 q.2))) mr.1 mr.2
      exact ⟨_, g.1, by omega, fun hn => (k_fop_h (by omega) (by omega) hn).mpr (by rw [kLf2_4, er])⟩
  · cases hc
theorem k_ndd_ok (h : kRS N σ S M) {ws : List kE} {k : kE} {c : kE × kE} (hs : ∀ w ∈ ws, kSc S.1.length w) (hc : k_ndd S ws k = some c) : kNdP N σ S M c := by
  unfold k_ndd at hc
  obtain ⟨-, hc⟩ := pm_cs hc
  cases c1 : decide ((k_lww ws 0).1 = 8) with
  | true =>
    rw [c1, cond_true] at hc
    exact k_nd1_ok h hs hc
  | false =>
    rw [c1, cond_false] at hc
    cases c2 : decide ((k_lww ws 0).1 = 14) with
    | true =>
      rw [c2, cond_true] at hc
      exact k_nd1_ok h hs hc
    | false =>
      rw [c2, cond_false] at hc
      cases c3 : decide ((k_lww ws 0).1 = 16) with
      | true =>
        rw [c3, cond_true] at hc
        exact k_nd1_ok h hs hc
      | false =>
        rw [c3, cond_false] at hc
        cases c4 : decide ((k_lww ws 0).1 = 13) with
        | true =>
          rw [c4, cond_true] at hc
          cases hc
          have g := kMst_rg (k_ev σ (k_lww ws 7))
          exact ⟨k_f7_sc kSc_c, k_lw_sc hs 7, _, g.1, by omega, fun hn => (k_f7_h (by omega) (by omega) hn).mpr rfl⟩
        | false =>
          rw [c4, cond_false] at hc
          obtain ⟨-, hc⟩ := pm_cs hc
          split at hc
          · rename_i e he
            split at hc
            · rename_i u hu
              cases hc
              have su : kSc S.1.length u := by
                unfold k_tl at hu
                split at hu
                · exact (k_look_ok h hu).1
                · cases hu
              have g := kFct_rg (k_ev σ u)
              exact ⟨k_fop_sc kSc_c, su, _, g.1, by omega, fun hn => (k_fop_h (by omega) (by omega) hn).mpr rfl⟩
            · cases hc
          · cases hc
def k_mkf (S : kS) (c : kE × kE) : kS := k_ptn (k_new S 0 (kPw 4096 - 1)).2 (c, (k_new S 0 (kPw 4096 - 1)).1)
def k_mv6 (S : kS) (q : kH) : Option (Option kS) := match k_tde S q.1.1 with
  | none => none
  | some z => cond (Nat.beq z.1 2) (match k_lax (k_c2s S z.2 q.1.2).1 with
    | none => none
    | some w => match k_ndd S w.1 q.1.2 with
      | none => none
      | some c => cond (decide (k_hi S.1 c.1 < 0)) (some (some (k_mkf S c))) none) none
theorem k_mkf_ok (h : kRS N σ S M) {c : kE × kE} (hc : kNdP N σ S M c) (hn : k_ev σ c.1 < 0) : kStq N σ S M (some (k_mkf S c)) := by
  obtain ⟨c1, c2, x, x0, x1, hx⟩ := hc
  have x2 : x ≤ kPw 4096 - 1 := by rw [kPw_bg]; exact x1
  clear x1
  unfold k_mkf
  generalize kPw 4096 - 1 = B at x2 ⊢
  obtain ⟨τ, t1, t2, t3, t4, t5⟩ := k_new_ok (lo := 0) (hi := B) h x0 x2
  refine ⟨_, τ, rfl, t1, t2, k_ptn_ok t3 ⟨⟨c1.mono t2, c2.mono t2, t5⟩, ?_⟩⟩
  show kHas N M (k_ev τ c.1) (k_ev τ c.2) (k_ev τ (k_new S 0 B).1)
  rw [k_ev_agree t1 c1, k_ev_agree t1 c2, t4]
  exact hx hn
theorem k_mv6_ok (h : kRS N σ S M) {q : kH} {o : Option kS} (hq : q ∈ S.2.2.2) (ho : k_mv6 S q = some o) (h4 : k_geS S q.1.2 = true ∧ k_geS S (k_sub (kc 400) q.1.2) = true) : kStq N σ S M o := by
  obtain ⟨s1, s2, s3⟩ := h.2.2.2.2.2.2.2 q hq
  unfold k_mv6 at ho
  split at ho
  · cases ho
  · rename_i z hz
    obtain ⟨a1, a2, a3, a4⟩ := k_tde_ok h s1 hz
    obtain ⟨-, ho⟩ := pm_cs ho
    split at ho
    · cases ho
    · rename_i w hw
      split at ho
      · cases ho
      · rename_i c hc
        obtain ⟨g, ho⟩ := pm_cs ho
        cases ho
        have c1 := k_ge_ok h.2.1 h.2.2.1 h4.1
        have c2 := k_ge_ok h.2.1 h.2.2.1 h4.2
        rw [k_ev_sub, k_ev_c] at c2
        have hp : ((k_ev σ q.1.2).toNat : Int) = k_ev σ q.1.2 := Int.toNat_of_nonneg c1
        obtain ⟨w1, -, -⟩ := (k_c2s_ok h (p := (k_ev σ q.1.2).toNat) (by omega) s2 hp a2).1 w (k_lax_in _ hw)
        exact k_mkf_ok h (k_ndd_ok h w1 hc) (k_neg_hi h g)
/-- 17: what the signs leave, where a 'most' is whole -/
def k_lsc (y : kE) : kE := k_sub (kc (-8063)) (k_mul 8192 y)
def k_rqL (S : kS) (y k : kE) : Option kE := match k_lkf S (k_lsc y) k with
  | some L => some L
  | none => cond (k_eqS S k y) (some (kc 0)) none
def k_rqX (S : kS) (k : kE) (r : kH) (l y : kE) : Option kE := cond (k_eqS S k (k_add (k_add r.1.2 (kc 3)) y)) (match k_rqL S (k_add r.1.2 (kc 3)) k with
  | some L => (match k_lkf S (k_ff7 2 (kc 0)) (k_add l (k_mul 16 L)) with
    | some X => some (k_add X (k_mul (kPw 4096) r.2))
    | none => none)
  | none => none) none
def k_rq (S : kS) (k : kE) (r : kH) : Option kE := match k_tab S r, k_find (kc 461) r.1.2 S.2.2.2, k_find (kc 461) (k_add r.1.2 (kc 1)) S.2.2.2, k_find (kc 461) (k_add r.1.2 (kc 2)) S.2.2.2, k_m3s S r.1.2 with
  | some z, some x, some l, some y, some d => cond (Nat.beq z.1 5 && (k_wq x (kc 30) && (k_fiS S 0 12 l && (k_fiS S 0 12 y && decide (k_hi S.1 d ≤ 198))))) (k_rqX S k r l y) none
  | _, _, _, _, _ => none
def k_mv5 (S : kS) : Option (Option kS) := match k_find (kc 443) (kc 24) S.2.2.2 with
  | none => none
  | some m => (match S.2.2.2.findSome? (k_rq S m) with
    | none => none
    | some P => some (some (k_ptn S ((kc (-6015), m), P))))
theorem k_rqL_ok (h : kRS N σ S M) {y k L : kE} {n : Nat} (hL : k_rqL S y k = some L) (hy : 0 ≤ k_ev σ y) (hk : k_ev σ k = k_ev σ y + n) : kSc S.1.length L ∧ kLss M (k_ev σ y).toNat n = some (k_ev σ L) := by
  unfold k_rqL at hL
  split at hL
  · rename_i X hX
    cases hL
    unfold k_lkf at hX
    obtain ⟨g, hX⟩ := pm_cs hX
    obtain ⟨a1, a2⟩ := k_look_ok h hX
    have hn := k_neg_hi h g
    refine ⟨a1, ?_⟩
    obtain ⟨z, m, z1, z2, z3⟩ := (k_tth (k := 7) (y := k_ev σ y) (by omega) (by unfold k_lsc; rw [k_ev_sub, k_ev_c, k_ev_mul]; omega) hn).mp a2
    rw [show (k_ev σ y).toNat = z by omega, show n = m by omega]
    exact z3
  · obtain ⟨g, hL⟩ := pm_cs hL
    cases hL
    have g := k_eqv_ok h.2.1 h.2.2.1 g
    have : n = 0 := by omega
    subst this
    refine ⟨kSc_c, ?_⟩
    rw [k_ev_c]
    rfl
theorem k_rq_ok (h : kRS N σ S M) {k : kE} {r : kH} {P : kE} (hr : r ∈ S.2.2.2) (hP : k_rq S k r = some P) : kSc S.1.length P ∧ kHas N M (-6015) (k_ev σ k) (k_ev σ P) := by
  unfold k_rq at hP
  split at hP
  · rename_i z x l y d hz hx hl hy hd
    obtain ⟨g, hP⟩ := pm_cs hP
    simp only [Bool.and_eq_true] at g
    obtain ⟨g5, g30, gl, gy, gd⟩ := g
    obtain ⟨-, T⟩ := k_tab_ok h hr hz
    rw [pm_beq g5] at T
    obtain ⟨t, j, n, j1, j2⟩ := T
    obtain ⟨u, i, i1, i2⟩ := k_m3s_ok h hd
    have e : i = j := by omega
    subst e
    have en := kZi_q (M := M) (kRp.zi j2) i2
    have en : (n : Int) = k_ev σ d := en
    have dh := k_hi_ge h.2.1 d
    have gd := of_decide_eq_true gd
    have x1 := k_find_int h hx (by rw [k_ev_c]; omega)
    have l1 := k_find_int h hl (by rw [k_ev_c]; omega)
    have y1 := k_find_int h hy (by rw [k_ev_c]; omega)
    rw [k_ev_c] at x1 l1 y1
    rw [k_wq_ok g30, k_ev_c] at x1
    rw [k_ev_add, k_ev_c] at l1 y1
    have gl := k_fit_ok h.2.1 h.2.2.1 gl
    have gy := k_fit_ok h.2.1 h.2.2.1 gy
    have x2 : k_gi M 461 i = some 30 := by
      have := x1.2.2
      rw [show (k_ev σ r.1.2).toNat = i by omega] at this
      exact this
    have l2 : k_gi M 461 (i + 1) = some (k_ev σ l) := by
      have := l1.2.2
      rw [show (k_ev σ r.1.2 + 1).toNat = i + 1 by omega] at this
      exact this
    have y2 : k_gi M 461 (i + 2) = some (k_ev σ y) := by
      have := y1.2.2
      rw [show (k_ev σ r.1.2 + 2).toNat = i + 2 by omega] at this
      exact this
    unfold k_rqX at hP
    obtain ⟨ge, hP⟩ := pm_cs hP
    have ge := k_eqv_ok h.2.1 h.2.2.1 ge
    rw [k_ev_add, k_ev_add, k_ev_c] at ge
    split at hP
    · rename_i L hL
      obtain ⟨sL, L1⟩ := k_rqL_ok h (n := (k_ev σ y).toNat) hL (by rw [k_ev_add, k_ev_c]; omega) (by rw [k_ev_add, k_ev_c]; omega)
      rw [k_ev_add, k_ev_c, show (k_ev σ r.1.2 + 3).toNat = i + 3 by omega] at L1
      split at hP
      · rename_i X hX
        cases hP
        obtain ⟨sX, eX⟩ := k_lk7_ok h (by omega) (by omega) hX
        obtain ⟨-, -, s3⟩ := h.2.2.2.2.2.2.2 r hr
        refine ⟨kSc_add sX (kSc_mul s3), (k_tth (k := 5) (y := 0) (by omega) (by omega) (by omega)).mpr ?_⟩
        have st := kRs_4 (M := M) (q := (i, k_ev σ r.2, n)) x2 (by show n ≤ 198; omega) l2 y2 gl.1 gl.2 gy.1 gy.2 L1
        refine ⟨t + 1, i + 3 + (k_ev σ y).toNat, n + 1, by omega, ?_⟩
        rw [kRp_of j2 st, k_ev_add, k_ev_mul, eX, k_ev_add, k_ev_mul, kPw_bg]
        rfl
      · cases hP
    · cases hP
  · cases hP
theorem k_mv5_ok (h : kRS N σ S M) {o : Option kS} (ho : k_mv5 S = some o) : kStp N σ S M o := by
  unfold k_mv5 at ho
  split at ho
  · cases ho
  · rename_i m hm
    split at ho
    · cases ho
    · rename_i P hP
      cases ho
      obtain ⟨r, hr, hP⟩ := List.exists_of_findSome?_eq_some hP
      obtain ⟨p1, p2⟩ := k_rq_ok h hr hP
      exact ⟨_, rfl, rfl, k_ptn_ok h ⟨⟨kSc_c, k_find_sc h hm, p1⟩, by show kHas N M (k_ev σ (kc (-6015))) _ _; rw [k_ev_c]; exact p2⟩⟩
/-- all told moves -/
def k_mv (S : kS) (q : kH) (c : Nat) : Option (Option kS) := cond (Nat.beq c 0) (k_mv0 S q) (cond (Nat.ble c 16) (k_mv1 S q (Nat.pred c)) (cond (Nat.beq c 18) (k_mv3 S q) (cond (Nat.beq c 19) (cond (k_geS S q.1.2 && k_geS S (k_sub (kc 400) q.1.2)) (k_mv6 S q) none) (cond (Nat.beq c 20) (k_mv2 S q true) (cond (Nat.beq c 21) (k_mv2 S q false) (cond (Nat.beq c 22) (k_mv4 S q true) (cond (Nat.beq c 23) (k_mv4 S q false) (cond (Nat.beq c 17) (k_mv5 S) none))))))))
theorem k_mv_ok (h : kRS N σ S M) {q : kH} {c : Nat} {o : Option kS} (hq : q ∈ S.2.2.2) (ho : k_mv S q c = some o) : kStq N σ S M o := by
  unfold k_mv at ho
  cases c1 : Nat.beq c 0 with
  | true => rw [c1, cond_true] at ho; exact (k_mv0_ok h hq ho).up
  | false =>
  rw [c1, cond_false] at ho
  cases c2 : Nat.ble c 16 with
  | true => rw [c2, cond_true] at ho; exact (k_mv1_ok h hq ho).up
  | false =>
  rw [c2, cond_false] at ho
  cases c3 : Nat.beq c 18 with
  | true => rw [c3, cond_true] at ho; exact k_mv3_ok h hq ho
  | false =>
  rw [c3, cond_false] at ho
  cases c4 : Nat.beq c 19 with
  | true =>
    rw [c4, cond_true] at ho
    obtain ⟨g, ho⟩ := pm_cs ho
    exact k_mv6_ok h hq ho (Bool.and_eq_true_iff.mp g)
  | false =>
  rw [c4, cond_false] at ho
  cases c5 : Nat.beq c 20 with
  | true => rw [c5, cond_true] at ho; exact (k_mv2_ok h hq ho).up
  | false =>
  rw [c5, cond_false] at ho
  cases c6 : Nat.beq c 21 with
  | true => rw [c6, cond_true] at ho; exact (k_mv2_ok h hq ho).up
  | false =>
  rw [c6, cond_false] at ho
  cases c7 : Nat.beq c 22 with
  | true => rw [c7, cond_true] at ho; exact (k_mv4_ok h hq ho).up
  | false =>
  rw [c7, cond_false] at ho
  cases c8 : Nat.beq c 23 with
  | true => rw [c8, cond_true] at ho; exact (k_mv4_ok h hq ho).up
  | false =>
  rw [c8, cond_false] at ho
  obtain ⟨-, ho⟩ := pm_cs ho
  exact (k_mv5_ok h ho).up
end KMV
end
