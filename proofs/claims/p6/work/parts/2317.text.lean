noncomputable section
section KTF
variable {N : kN} {σ : Nat → Int} {S : kS} {M : pM}
/-- does the cache speak of the text at all -/
def k_any15 (S : kS) : Bool := lany (fun q => decide (q.1.1.1 < 0) && (Nat.beq (k_vi q.1.1) 15 && Nat.blt ((k_vp q.1.1).1 % 8).toNat 4)) S.2.2.2
def k_adw (f : Nat) (only : Bool) (S : kS) : Option kS := Nat.rec (motive := fun _ => kS → Option kS) (fun S => some S) (fun _ ih S => match cond only (some S) (k_rep k_num1 20 (k_bgn S)) with
    | none => none
    | some S1 => match k_avl only 40 S1 with
      | none => none
      | some S2 => match k_prs S2 (S2.2.2.2.filter (k_s03 S2)) with
        | some e => (match k_cnF S2 .eq e with
          | none => none
          | some T => ih T)
        | none => match k_rep k_rgs1 20 S2 with
          | none => none
          | some S3 => cond only (some S3) (match k_num1 S3 with
            | none => some S3
            | some _ => ih S3)) f S
theorem k_adw_succ (f : Nat) (only : Bool) (S : kS) : k_adw (f + 1) only S = match cond only (some S) (k_rep k_num1 20 (k_bgn S)) with
    | none => none
    | some S1 => match k_avl only 40 S1 with
      | none => none
      | some S2 => match k_prs S2 (S2.2.2.2.filter (k_s03 S2)) with
        | some e => (match k_cnF S2 .eq e with
          | none => none
          | some T => k_adw f only T)
        | none => match k_rep k_rgs1 20 S2 with
          | none => none
          | some S3 => cond only (some S3) (match k_num1 S3 with
            | none => some S3
            | some _ => k_adw f only S3) := rfl
/-- all that follows -/
def k_adv (only : Bool) (S : kS) : Option kS := cond (k_any15 S) (k_fcS S (fun S => k_adw 12 only S)) (some S)
theorem k_adw_ok : ∀ (f : Nat) (only : Bool) (S : kS), kRS N σ S M → kStp N σ S M (k_adw f only S)
  | 0, _, S, h => ⟨S, rfl, rfl, h⟩
  | f + 1, only, S, h => by
    have b : kStp N σ S M (cond only (some S) (k_rep k_num1 20 (k_bgn S))) := by
      cases only with
      | true => exact ⟨S, rfl, rfl, h⟩
      | false =>
        obtain ⟨b1, b2⟩ := k_bgn_ok h
        exact (k_rep_ok (g := k_num1) (fun S o h ho => k_nbl_ok h _ (fun _ hq => hq) ho) 20 _ b2).tr b1
    obtain ⟨S1, c1, c2, c3⟩ := b
    rw [k_adw_succ, c1]
    dsimp only
    refine kStp.tr (T := S1) c2 ?_
    obtain ⟨S2, d1, d2, d3⟩ := k_avl_ok (only := only) 40 S1 c3
    rw [d1]
    dsimp only
    refine kStp.tr (T := S2) d2 ?_
    split
    · rename_i e he
      obtain ⟨e1, e2⟩ := k_prs_ok d3 _ (fun r hr => List.mem_filter.mp hr) he
      obtain ⟨T, t1, t2, t3⟩ := k_cnF_ok (c := .eq) d3 e1 e2
      rw [t1]
      exact (k_adw_ok f only T t3).tr t2
    · obtain ⟨S3, f1, f2, f3⟩ := k_rep_ok (g := k_rgs1) (fun S o h ho => k_rgs1_ok h ho) 20 S2 d3
      rw [f1]
      dsimp only
      refine kStp.tr (T := S3) f2 ?_
      cases only with
      | true => exact ⟨S3, rfl, rfl, f3⟩
      | false =>
        rw [cond_false]
        split
        · exact ⟨S3, rfl, rfl, f3⟩
        · exact k_adw_ok f false S3 f3
theorem k_adv_ok (h : kRS N σ S M) (only : Bool) : kStp N σ S M (k_adv only S) := by
  unfold k_adv
  cases k_any15 S with
  | false => exact ⟨S, rfl, rfl, h⟩
  | true =>
    rw [cond_true, k_fcS_eq]
    exact k_adw_ok 12 only S h
/-! a byte that is read -/
def k_ad0 (S : kS) : Option kS := some S
theorem k_ad0_ok (h : kRS N σ S M) : kStp N σ S M (k_ad0 S) := ⟨S, rfl, rfl, h⟩
def k_brm (S : kS) (j : kE) (m : Int) : Bool := match k_tl S 0 [kc m] j with
  | some e => k_geS S (k_sub (k_sub e (kc 1)) j)
  | none => false
def k_brg (S : kS) (j : kE) (wh : Bool) : List (Int × Int) := cond (k_brm S j 2) [(97, 122)] (cond (k_brm S j 3) [(48, 57)] (match k_tl S 1 [kc 0, kc 0, kc 0, kc 0] j with
  | some t => cond (k_wq (k_nv S.1 t) (kc 1)) [(97, 122)] (cond (k_wq (k_nv S.1 t) (kc 2)) [(48, 57)] (cond (k_wq (k_nv S.1 t) (kc 3)) (cond wh [(0, 47), (58, 96), (123, 255)] [(0, 47), (58, 96), (123, 127), (128, 255)]) (cond wh [(0, 255)] [(0, 127), (128, 255)])))
  | none => cond wh [(0, 255)] [(0, 127), (128, 255)]))
theorem k_brm_ok (h : kRS N σ S M) {j : kE} {m : Int} {p : Nat} (hp : (p : Int) = k_ev σ j) (hb : k_brm S j m = true) : (p : Int) + 1 ≤ kBv (kTt M) true [m] p := by
  unfold k_brm at hb
  split at hb
  · rename_i e he
    obtain ⟨a1, a2⟩ := k_tl_ok h (by omega) k_1sc he
    rw [k_1ev] at a2
    have a2 : kBv (kTt M) true [m] p = k_ev σ e := a2.to hp
    have := k_ge_ok h.2.1 h.2.2.1 hb
    rw [k_ev_sub, k_ev_sub, k_ev_c] at this
    omega
  · cases hb
theorem k_brd (wh : Bool) {b : Int} (h1 : 0 ≤ b) (h2 : b ≤ 255) : ∃ z ∈ cond wh [((0 : Int), (255 : Int))] [(0, 127), (128, 255)], z.1 ≤ b ∧ b ≤ z.2 := by
  cases wh with
  | true => exact ⟨(0, 255), List.mem_cons_self, h1, h2⟩
  | false =>
    by_cases h : b ≤ 127
    · exact ⟨(0, 127), List.mem_cons_self, h1, h⟩
    · exact ⟨(128, 255), List.mem_cons_of_mem _ List.mem_cons_self, by show (128 : Int) ≤ b; omega, h2⟩
theorem k_brg_ok (h : kRS N σ S M) {j : kE} {wh : Bool} {p : Nat} (hp4 : p ≤ 400) (hp : (p : Int) = k_ev σ j) (h1 : 0 ≤ (kTt M).1 p) (h2 : (kTt M).1 p ≤ 255) : ∃ z ∈ k_brg S j wh, z.1 ≤ (kTt M).1 p ∧ (kTt M).1 p ≤ z.2 := by
  unfold k_brg
  cases c1 : k_brm S j 2 with
  | true =>
    have := kT_let (k_brm_ok h hp c1)
    exact ⟨(97, 122), List.mem_cons_self, this⟩
  | false =>
    rw [cond_false]
    cases c2 : k_brm S j 3 with
    | true =>
      have := kT_dig (k_brm_ok h hp c2)
      exact ⟨(48, 57), List.mem_cons_self, this⟩
    | false =>
      rw [cond_false]
      split
      · rename_i t ht
        obtain ⟨-, kt⟩ := k_kind h hp hp4 ht
        have kd := kT_kind (T := kTt M) (b := 0) (c := 0) (d := 0) hp4
        rw [← kt, ← k_nv_ok (e := t) h.2.1] at kd
        cases d1 : k_wq (k_nv S.1 t) (kc 1) with
        | true =>
          rw [k_wq_ok d1, k_ev_c] at kd
          exact ⟨(97, 122), List.mem_cons_self, by show (97 : Int) ≤ _ ∧ _ ≤ (122 : Int); omega⟩
        | false =>
          rw [cond_false]
          cases d2 : k_wq (k_nv S.1 t) (kc 2) with
          | true =>
            rw [k_wq_ok d2, k_ev_c] at kd
            exact ⟨(48, 57), List.mem_cons_self, by show (48 : Int) ≤ _ ∧ _ ≤ (57 : Int); omega⟩
          | false =>
            rw [cond_false]
            cases d3 : k_wq (k_nv S.1 t) (kc 3) with
            | true =>
              rw [k_wq_ok d3, k_ev_c] at kd
              have kd : ¬ (97 ≤ (kTt M).1 p ∧ (kTt M).1 p ≤ 122) ∧ ¬ (48 ≤ (kTt M).1 p ∧ (kTt M).1 p ≤ 57) := by omega
              generalize (kTt M).1 p = b at h1 h2 kd ⊢
              rw [cond_true]
              cases wh with
              | true =>
                rw [cond_true]
                by_cases g1 : b ≤ 47
                · exact ⟨(0, 47), by simp, h1, g1⟩
                · by_cases g2 : b ≤ 96
                  · exact ⟨(58, 96), by simp, by show (58 : Int) ≤ b; omega, g2⟩
                  · exact ⟨(123, 255), by simp, by show (123 : Int) ≤ b; omega, h2⟩
              | false =>
                rw [cond_false]
                by_cases g1 : b ≤ 47
                · exact ⟨(0, 47), by simp, h1, g1⟩
                · by_cases g2 : b ≤ 96
                  · exact ⟨(58, 96), by simp, by show (58 : Int) ≤ b; omega, g2⟩
                  · by_cases g3 : b ≤ 127
                    · exact ⟨(123, 127), by simp, by show (123 : Int) ≤ b; omega, g3⟩
                    · exact ⟨(128, 255), by simp, by show (128 : Int) ≤ b; omega, h2⟩
            | false => exact k_brd wh h1 h2
      · exact k_brd wh h1 h2
/-! what is known of the text without an entry -/
def k_vt15 (c s : kE) (S : kS) : Option kE := match k_ts c with
  | some z => cond (Nat.beq z.1 5 && k_wq (k_nv S.1 s) (kc 0)) (some (kc 0)) none
  | none => none
theorem k_vt15_ok (h : kRS N σ S M) {c s v : kE} (hn : k_ev σ c < 0) (hv : k_vt15 c s S = some v) : kSc S.1.length v ∧ kHas N M (k_ev σ c) (k_ev σ s) (k_ev σ v) := by
  unfold k_vt15 at hv
  split at hv
  · rename_i z hz
    obtain ⟨g, hv⟩ := pm_cs hv
    cases hv
    obtain ⟨g1, g2⟩ := Bool.and_eq_true_iff.mp g
    have g1 := pm_beq g1
    have e := k_nv_ok (e := s) h.2.1
    rw [k_wq_ok g2, k_ev_c] at e
    refine ⟨kSc_c, (k_t15 hz hn).mpr ?_⟩
    obtain ⟨-, t2, -⟩ := k_ts_ok (σ := σ) hz
    refine (kPtx_5 (by rw [t2, g1])).mpr fun i hi => ?_
    omega
  · cases hv
def k_lse (S : kS) (a b : List kE) : Bool := match a, b with
  | [], [] => true
  | x :: t, y :: u => k_eqS S x y && k_lse S t u
  | _, _ => false
theorem k_lse_ok (h : kRS N σ S M) : ∀ {a b : List kE}, k_lse S a b = true → a.map (k_ev σ) = b.map (k_ev σ)
  | [], [], _ => rfl
  | x :: t, y :: u, hl => by
    unfold k_lse at hl
    obtain ⟨h1, h2⟩ := Bool.and_eq_true_iff.mp hl
    rw [List.map_cons, List.map_cons, k_eqv_ok h.2.1 h.2.2.1 h1, k_lse_ok h h2]
  | [], _ :: _, hl => by cases hl
  | _ :: _, [], hl => by cases hl
/-- another state at the same place that comes to the same -/
def k_vs2 (S : kS) (k : kE) (l : List (List kE)) (q : kH) : Option kE := cond (k_eqS S q.1.2 k) (match k_tde S q.1.1 with
  | some z => cond (Nat.beq z.1 2 && (k_chz S 2 q.1.2 6 z.2).1.any (fun a => l.any (fun b => k_lse S a b))) (some q.2) none
  | none => none) none
def k_vfg (S : kS) (r : List (List kE) × Option kGo) : Option kE := match r.2 with
  | some g => cond g.1 (some g.2.1) (k_look S g.2.1 g.2.2.1)
  | none => none
def k_vfr (S : kS) (i : Nat) (ws : List kE) (k : kE) (r : List (List kE) × Option kGo) : Option kE := match k_vfg S r with
  | some w => some w
  | none => cond (Nat.beq i 2) (match S.2.2.2.findSome? (k_vs2 S k r.1) with
    | some w => some w
    | none => cond (k_lse S ws [kc 0, kc 0, kc 0, kc 0, kc 0, kc 0]) (match k_tl S 0 [kc 0] (kc 0) with
      | some a => cond (k_eqS S k a) (k_look S (kc (-63)) (kc 0)) none
      | none => none) none) none
def k_vf15 (S : kS) (c s : kE) : Option kE := match k_ts c with
  | none => none
  | some z => cond (Nat.beq z.1 5) (cond (S.2.2.2.any (fun q => k_wq q.1.1 c && k_geS S (k_sub q.1.2 s))) (some (kc 0)) none)
    (match k_tde S c with
    | none => none
    | some y => cond (k_geS S s && k_geS S (k_sub (kc 400) s)) (k_vfr S y.1 y.2 s (k_chz S y.1 s 6 y.2)) none)
theorem k_vf15_ok (h : kRS N σ S M) {c s v : kE} (hc : kSc S.1.length c) (hs : kSc S.1.length s) (hn : k_ev σ c < 0) (hv : k_vf15 S c s = some v) : kSc S.1.length v ∧ kHas N M (k_ev σ c) (k_ev σ s) (k_ev σ v) := by
  unfold k_vf15 at hv
  split at hv
  · cases hv
  · rename_i z hz
    cases c1 : Nat.beq z.1 5 with
    | true =>
      rw [c1, cond_true] at hv
      have c1 := pm_beq c1
      obtain ⟨g, hv⟩ := pm_cs hv
      cases hv
      obtain ⟨q, hq, g⟩ := List.any_eq_true.mp g
      obtain ⟨g1, g2⟩ := Bool.and_eq_true_iff.mp g
      have g1 := k_wq_ok g1
      have g2 := k_ge_ok h.2.1 h.2.2.1 g2
      rw [k_ev_sub] at g2
      have hh := h.2.2.2.2.1 q hq
      rw [g1] at hh
      have hh := (k_t15 hz hn).mp hh
      refine ⟨kSc_c, (k_t15 hz hn).mpr ?_⟩
      obtain ⟨-, t2, -⟩ := k_ts_ok (σ := σ) hz
      have t5 : (k_ev σ (k_vp c) % 8).toNat = 5 := by rw [t2, c1]
      exact (kPtx_5 t5).mpr fun i hi => (kPtx_5 t5).mp hh i (by omega)
    | false =>
      rw [c1, cond_false] at hv
      split at hv
      · cases hv
      · rename_i y hy
        obtain ⟨a1, a2, a3, a4⟩ := k_tde_ok h hc hy
        obtain ⟨g, hv⟩ := pm_cs hv
        obtain ⟨g1, g2⟩ := Bool.and_eq_true_iff.mp g
        have g1 := k_ge_ok h.2.1 h.2.2.1 g1
        have g2 := k_ge_ok h.2.1 h.2.2.1 g2
        rw [k_ev_sub, k_ev_c] at g2
        have hp : ((k_ev σ s).toNat : Int) = k_ev σ s := Int.toNat_of_nonneg g1
        have hp4 : (k_ev σ s).toNat ≤ 400 := by omega
        obtain ⟨C1, C2⟩ := k_chz_ok h a1 hp4 hs hp 6 y.2 a2
        suffices H : kSc S.1.length v ∧ kTV (kTt M) y.1 (y.2.map (k_ev σ)) (k_ev σ s).toNat = k_ev σ v from ⟨H.1, (a4 _ _).mpr ⟨_, hp, H.2⟩⟩
        unfold k_vfr at hv
        split at hv
        · rename_i w hw
          cases hv
          unfold k_vfg at hw
          split at hw
          · rename_i g hg
            have G := C2 g hg
            unfold kGoP at G
            cases d1 : g.1 with
            | true =>
              rw [d1, cond_true] at hw G
              cases hw
              exact ⟨G.1, G.2.symm⟩
            | false =>
              rw [d1, cond_false] at hw G
              obtain ⟨p1, p2, p3, p4, p5, q, p6, -, p7⟩ := G
              obtain ⟨b1, b2⟩ := k_look_ok h hw
              exact ⟨b1, by rw [p7]; exact ((p5 _ _).mp b2).to p6⟩
          · cases hw
        · obtain ⟨i2, hv⟩ := pm_cs hv
          have i2 := pm_beq i2
          split at hv
          · rename_i w hw
            cases hv
            obtain ⟨q, hq, hw⟩ := List.exists_of_findSome?_eq_some hw
            unfold k_vs2 at hw
            obtain ⟨e1, hw⟩ := pm_cs hw
            have e1 := k_eqv_ok h.2.1 h.2.2.1 e1
            split at hw
            · rename_i x hx
              obtain ⟨e2, hw⟩ := pm_cs hw
              cases hw
              obtain ⟨e2, e3⟩ := Bool.and_eq_true_iff.mp e2
              have e2 := pm_beq e2
              obtain ⟨s1, s2, s3⟩ := h.2.2.2.2.2.2.2 q hq
              obtain ⟨x1, x2, x3, x4⟩ := k_tde_ok h s1 hx
              obtain ⟨a, ha, e3⟩ := List.any_eq_true.mp e3
              obtain ⟨b, hb, e3⟩ := List.any_eq_true.mp e3
              have e4 := k_lse_ok h e3
              have D1 := (k_chz_ok h (i := 2) (p := (k_ev σ s).toNat) (by omega) hp4 s2 (by rw [e1]; exact hp) 6 x.2 x2).1 a ha
              have E1 := C1 b hb
              rw [i2] at E1 ⊢
              have V := ((x4 _ _).mp (h.2.2.2.2.1 q hq)).to (p := (k_ev σ s).toNat) (by rw [e1]; exact hp)
              rw [e2] at V
              refine ⟨s3, ?_⟩
              rw [← E1, ← e4, D1, V]
            · cases hw
          · obtain ⟨e1, hv⟩ := pm_cs hv
            have e1 := k_lse_ok h e1
            rw [k_6ev] at e1
            split at hv
            · rename_i a ha
              obtain ⟨e2, hv⟩ := pm_cs hv
              have e2 := k_eqv_ok h.2.1 h.2.2.1 e2
              obtain ⟨w1, w2, w3⟩ := k_whl h hv ha
              rw [i2, e1]
              exact ⟨w1, w3.to (by rw [hp]; exact e2)⟩
            · cases hv
/-! an entry that is read anew -/
def k_nwe (S : kS) (c s : kE) : Option (kE × kS) := match k_ts c with
  | none => none
  | some z => cond (Nat.beq z.1 3 && decide (k_hi S.1 c < 0)) (some ((k_new S (-1) 400).1, k_ptn (k_new S (-1) 400).2 ((c, s), (k_new S (-1) 400).1)))
    (match k_tde S c with
    | none => none
    | some y => cond (k_geS S s && k_geS S (k_sub (kc 400) s)) (cond (Nat.beq y.1 1) (some ((k_new S (-1) 549755813888).1, k_ptn (k_new S (-1) 549755813888).2 ((c, s), (k_new S (-1) 549755813888).1)))
      (cond (Nat.beq y.1 0) (match k_asm (k_new S 0 400).2 (k_sub (kc 400) (k_add s (k_new S 0 400).1)) with
        | some T => some (k_add s (k_new S 0 400).1, k_ptn T ((c, s), k_add s (k_new S 0 400).1))
        | none => none) none)) none)
theorem k_nwe_ok (h : kRS N σ S M) {c s : kE} {r : kE × kS} (hc : kSc S.1.length c) (hs : kSc S.1.length s) (hr : k_nwe S c s = some r) : ∃ τ, kAgr S.1.length σ τ ∧ S.1.length ≤ r.2.1.length ∧ kRS N τ r.2 M := by
  have put : ∀ {τ : Nat → Int} {T : kS} {v : kE}, kAgr S.1.length σ τ → S.1.length ≤ T.1.length → kRS N τ T M → kSc T.1.length v → kHas N M (k_ev σ c) (k_ev σ s) (k_ev τ v) → kRS N τ (k_ptn T ((c, s), v)) M := fun {τ T v} t1 t2 t3 t4 t5 => kRS_ent t3 fun q hq => by
    rcases List.mem_cons.mp hq with rfl | hq
    · refine Or.inr ⟨⟨hc.mono t2, hs.mono t2, t4⟩, ?_⟩
      show kHas N M (k_ev τ c) (k_ev τ s) (k_ev τ v)
      rw [k_ev_agree t1 hc, k_ev_agree t1 hs]
      exact t5
    · exact Or.inl hq
  unfold k_nwe at hr
  split at hr
  · cases hr
  · rename_i z hz
    cases c1 : (Nat.beq z.1 3 && decide (k_hi S.1 c < 0)) with
    | true =>
      rw [c1, cond_true] at hr
      cases hr
      obtain ⟨c1, c2⟩ := Bool.and_eq_true_iff.mp c1
      have c1 := pm_beq c1
      have hn : k_ev σ c < 0 := by
        have := k_hi_ge h.2.1 c
        have := of_decide_eq_true c2
        omega
      have rg := kMv_rg (T := kTt M) [0, 0, 0, 0, 0, 0] (kBv (kTt M) true [0] 0).toNat
      obtain ⟨τ, t1, t2, t3, t4, t5⟩ := k_new_ok h rg.1 rg.2
      refine ⟨τ, t1, t2, put t1 t2 t3 t5 ((k_t15 hz hn).mpr ?_)⟩
      obtain ⟨-, e2, -⟩ := k_ts_ok (σ := σ) hz
      exact (kPtx_3 (by rw [e2, c1])).mpr t4.symm
    | false =>
      rw [c1, cond_false] at hr
      split at hr
      · cases hr
      · rename_i y hy
        obtain ⟨a1, a2, a3, a4⟩ := k_tde_ok h hc hy
        obtain ⟨g, hr⟩ := pm_cs hr
        obtain ⟨g1, g2⟩ := Bool.and_eq_true_iff.mp g
        have g1 := k_ge_ok h.2.1 h.2.2.1 g1
        have g2 := k_ge_ok h.2.1 h.2.2.1 g2
        rw [k_ev_sub, k_ev_c] at g2
        have hp : ((k_ev σ s).toNat : Int) = k_ev σ s := Int.toNat_of_nonneg g1
        have rg := kTV_rg (T := kTt M) (i := y.1) (ws := y.2.map (k_ev σ)) (p := (k_ev σ s).toNat) (by omega)
        have hE : kHas N M (k_ev σ c) (k_ev σ s) (kTV (kTt M) y.1 (y.2.map (k_ev σ)) (k_ev σ s).toNat) := (a4 _ _).mpr ⟨_, hp, rfl⟩
        generalize kTV (kTt M) y.1 (y.2.map (k_ev σ)) (k_ev σ s).toNat = x at rg hE
        cases d1 : Nat.beq y.1 1 with
        | true =>
          rw [d1, cond_true] at hr
          cases hr
          have d1 := pm_beq d1
          rw [d1] at rg
          obtain ⟨τ, t1, t2, t3, t4, t5⟩ := k_new_ok h (lo := -1) (hi := 549755813888) rg.1 rg.2
          exact ⟨τ, t1, t2, put t1 t2 t3 t5 (by rw [t4]; exact hE)⟩
        | false =>
          rw [d1, cond_false] at hr
          obtain ⟨d0, hr⟩ := pm_cs hr
          have d0 := pm_beq d0
          rw [d0] at rg
          have rg1 : ((k_ev σ s).toNat : Int) ≤ x := rg.1
          have rg2 : x ≤ 400 := rg.2
          obtain ⟨τ, t1, t2, t3, t4, t5⟩ := k_new_ok h (x := x - k_ev σ s) (lo := 0) (hi := 400) (by omega) (by omega)
          have sv : kSc (k_new S 0 400).2.1.length (k_add s (k_new S 0 400).1) := kSc_add (hs.mono t2) t5
          have ev : k_ev τ (k_add s (k_new S 0 400).1) = x := by
            rw [k_ev_add, k_ev_agree t1 hs, t4]
            omega
          obtain ⟨T, u1, u2, u3⟩ := k_asm_ok t3 (e := k_sub (kc 400) (k_add s (k_new S 0 400).1)) (kSc_sub kSc_c sv) (by rw [k_ev_sub, k_ev_c, ev]; omega)
          rw [u1] at hr
          cases hr
          exact ⟨τ, t1, by show S.1.length ≤ T.1.length; rw [u2]; exact t2, put t1 (by rw [u2]; exact t2) u3 (by rw [u2]; exact sv) (by rw [ev]; exact hE)⟩
/-- nothing fed: says nothing -/
def k_f60 (S : kS) (c s : kE) : Bool := match k_ts c with
  | some z => Nat.beq z.1 6 && (decide (k_hi S.1 c < 0) && k_wq (k_nv S.1 s) (kc 0))
  | none => false
theorem k_f60_ok (h : kRS N σ S M) {c s : kE} (v : Int) (hf : k_f60 S c s = true) : kHas N M (k_ev σ c) (k_ev σ s) v := by
  unfold k_f60 at hf
  split at hf
  · rename_i z hz
    simp only [Bool.and_eq_true] at hf
    obtain ⟨f1, f2, f3⟩ := hf
    have f1 := pm_beq f1
    have hn : k_ev σ c < 0 := by
      have := k_hi_ge h.2.1 c
      have := of_decide_eq_true f2
      omega
    have e := k_nv_ok (e := s) h.2.1
    rw [k_wq_ok f3, k_ev_c] at e
    refine (k_t15 hz hn).mpr ?_
    obtain ⟨-, e2, -⟩ := k_ts_ok (σ := σ) hz
    refine (kPtx_6 (by rw [e2, f1])).mpr fun i hi => ?_
    omega
  · cases hf
end KTF
/-! what a write, a call leaves of it -/
/-- the byte j of a long x is v -/
def k_opc (j : kE) : kE := k_sub (kc (-463)) (k_mul 1024 j)
def k_vxq (S : kS) (s v : kE) (r : kH) : Bool := match k_ts r.1.1 with
  | some z => Nat.beq z.1 6 && (decide (k_hi S.1 r.1.1 < 0) && (k_geS S z.2 && (k_geS S (k_sub s z.2) && (k_geS S (k_sub (k_sub r.1.2 (kc 1)) (k_sub s z.2)) && (match k_look S (k_opc (k_sub s z.2)) r.2 with
    | some w => k_eqS S w v
    | none => false)))))
  | none => false
def k_vx6 (S : kS) (v : kE) (q : kH) : Bool := k_geS S q.1.2 && (match k_look S (k_opc q.1.2) q.2 with
  | some w => (k_geS S (k_sub (kc 127) w) && k_eqS S v w) || (k_geS S (k_sub w (kc 128)) && k_eqS S v (k_sub w (kc 256)))
  | none => false)
def k_vtx (S : kS) (c s v : kE) (q : kH) : List kH := match k_ts q.1.1 with
  | none => []
  | some z => cond (Nat.blt z.1 4) (cond (k_off S.1 c 460 460 && (k_off S.1 c 443 443 || k_off S.1 s 17 17)) [q] [])
    (cond (Nat.beq z.1 4) [q]
    (cond (Nat.beq z.1 5) (cond (k_off S.1 c 460 460 && k_off S.1 c 364 364) [q] (cond ((k_is c 460 || k_is c 364) && k_geS S (k_sub s q.1.2)) (q :: cond (k_is c 460 && (k_eqS S s q.1.2 && S.2.2.2.any (k_vxq S s v))) [((q.1.1, k_add q.1.2 (kc 1)), q.2)] []) []))
    (cond (Nat.beq z.1 6) (cond (k_off S.1 c 364 364) [q] (cond (k_is c 364 && (k_geS S z.2 && k_geS S (k_sub s (k_add z.2 q.1.2)))) (q :: cond (k_eqS S s (k_add z.2 q.1.2) && k_vx6 S v q) [((q.1.1, k_add q.1.2 (kc 1)), q.2)] []) [])) [])))
theorem kByt_rg (i : Nat) (v : Int) : 0 ≤ kByt i v ∧ kByt i v ≤ 255 := by
  unfold kByt
  omega
theorem k_opc_ok {N : kN} {σ : Nat → Int} {S : kS} {M : pM} (h : kRS N σ S M) {j x w : kE} (hj : 0 ≤ k_ev σ j) (hw : k_look S (k_opc j) x = some w) : kByt (k_ev σ j).toNat (k_ev σ x) = k_ev σ w := by
  obtain ⟨-, hh⟩ := k_look_ok h hw
  have e : k_ev σ (k_opc j) = -463 - 1024 * k_ev σ j := by
    unfold k_opc
    rw [k_ev_sub, k_ev_c, k_ev_mul]
  rw [e] at hh
  have hp : kPtx M (4 + 8 * (3 + 8 * k_ev σ j)) (k_ev σ x) (k_ev σ w) := kPhi_to (i := 15) (by omega) (by omega) (hh.2 (by omega))
  have hp : kLf ((4 + 8 * (3 + 8 * k_ev σ j)) / 8) (k_ev σ x) = k_ev σ w := (kPtx_4 (by omega)).mp hp
  rw [show (4 + 8 * (3 + 8 * k_ev σ j)) / 8 = 3 + 8 * k_ev σ j by omega] at hp
  unfold kLf at hp
  rw [show decide ((3 + 8 * k_ev σ j) % 8 = 0) = false from decide_eq_false (by omega), show decide ((3 + 8 * k_ev σ j) % 8 = 1) = false from decide_eq_false (by omega), show decide ((3 + 8 * k_ev σ j) % 8 = 2) = false from decide_eq_false (by omega), cond_false, cond_false, cond_false, show (3 + 8 * k_ev σ j) / 8 = k_ev σ j by omega] at hp
  exact hp
section KTW
variable {N : kN} {σ : Nat → Int} {S : kS} {M : pM} {c s v : kE} {a j : Nat} {cl : pC} {w : Value} {q : kH}
theorem k_vxq_ok (h : kRS N σ S M) {r : kH} (hr : r ∈ S.2.2.2) (hj : (j : Int) = k_ev σ s) (hx : k_vxq S s v r = true) : 0 ≤ k_ev σ v ∧ k_ev σ v ≤ 255 ∧ k_gi M 364 j = some (kSgb (k_ev σ v)) := by
  unfold k_vxq at hx
  split at hx
  · rename_i z hz
    simp only [Bool.and_eq_true] at hx
    obtain ⟨x1, x2, x3, x4, x5, x6⟩ := hx
    have x1 := pm_beq x1
    have hn : k_ev σ r.1.1 < 0 := by
      have := k_hi_ge h.2.1 r.1.1
      have := of_decide_eq_true x2
      omega
    have x3 := k_ge_ok h.2.1 h.2.2.1 x3
    have x4 := k_ge_ok h.2.1 h.2.2.1 x4
    have x5 := k_ge_ok h.2.1 h.2.2.1 x5
    split at x6
    · rename_i y hy
      have x6 := k_eqv_ok h.2.1 h.2.2.1 x6
      have b := k_opc_ok h x4 hy
      rw [k_ev_sub] at b x4
      rw [k_ev_sub, k_ev_sub, k_ev_sub, k_ev_c] at x5
      obtain ⟨-, t2, t3⟩ := k_ts_ok (σ := σ) hz
      rw [x1] at t2
      have hh := (kPtx_6 t2).mp ((k_t15 hz hn).mp (h.2.2.2.2.1 r hr)) (k_ev σ s - k_ev σ z.2).toNat (by omega)
      rw [b, x6, t3] at hh
      have rg := kByt_rg (k_ev σ s - k_ev σ z.2).toNat (k_ev σ r.2)
      rw [b, x6] at rg
      rw [show (k_ev σ z.2 + ((k_ev σ s - k_ev σ z.2).toNat : Int)).toNat = j by omega] at hh
      exact ⟨rg.1, rg.2, hh⟩
    · cases x6
  · cases hx
theorem k_vtx_ok (h : kRS N σ S M) (ha : (a : Int) = k_ev σ c) (hj : (j : Int) = k_ev σ s) (hcl : M[a]? = some cl) (hjl : j < cl.2.length) (hw : kNum w (k_ev σ v)) (hq : q ∈ S.2.2.2) (hn : k_ev σ q.1.1 < 0) : ∀ q' ∈ k_vtx S c s v q, (kSc S.1.length q'.1.1 ∧ kSc S.1.length q'.1.2 ∧ kSc S.1.length q'.2) ∧ kHas N (pm_put M a j cl w) (k_ev σ q'.1.1) (k_ev σ q'.1.2) (k_ev σ q'.2) := by
  have sc := h.2.2.2.2.2.2.2 q hq
  have old := h.2.2.2.2.1 q hq
  have ne : ∀ {b i : Nat}, ¬ (b = a ∧ i = j) → k_gi (pm_put M a j cl w) b i = k_gi M b i := fun hne => k_gi_put_ne hcl hne
  have eq : k_gi (pm_put M a j cl w) a j = some (k_ev σ v) := k_gi_put hcl hjl hw
  intro q' hq'
  unfold k_vtx at hq'
  split at hq'
  · cases hq'
  · rename_i z hz
    obtain ⟨-, t2, t3⟩ := k_ts_ok (σ := σ) hz
    have old := (k_t15 hz hn).mp old
    have same : kPtx (pm_put M a j cl w) (k_ev σ (k_vp q.1.1)) (k_ev σ q.1.2) (k_ev σ q.2) → ∀ q' ∈ [q], (kSc S.1.length q'.1.1 ∧ kSc S.1.length q'.1.2 ∧ kSc S.1.length q'.2) ∧ kHas N (pm_put M a j cl w) (k_ev σ q'.1.1) (k_ev σ q'.1.2) (k_ev σ q'.2) := fun hp q' hq' => by
      rcases List.mem_singleton.mp hq' with rfl
      exact ⟨sc, (k_t15 hz hn).mpr hp⟩
    cases c4 : Nat.blt z.1 4 with
    | true =>
      rw [c4, cond_true] at hq'
      have c4 := pm_blt c4
      cases c1 : (k_off S.1 c 460 460 && (k_off S.1 c 443 443 || k_off S.1 s 17 17)) with
      | false =>
        rw [c1, cond_false] at hq'
        cases hq'
      | true =>
        rw [c1, cond_true] at hq'
        obtain ⟨o1, o2⟩ := Bool.and_eq_true_iff.mp c1
        have o1 := k_off_ok h.2.1 o1
        have o2 : ¬ (443 = a ∧ 17 = j) := by
          rcases Bool.or_eq_true_iff.mp o2 with o2 | o2
          · have := k_off_ok h.2.1 o2
            omega
          · have := k_off_ok h.2.1 o2
            omega
        exact same (old.fr (fun _ n => ne (by omega)) (fun _ => ne o2) (fun hc => by omega)) q' hq'
    | false =>
      rw [c4, cond_false] at hq'
      cases d4 : Nat.beq z.1 4 with
      | true =>
        rw [d4, cond_true] at hq'
        have d4 := pm_beq d4
        exact same (old.fr (fun hc => by omega) (fun hc => by omega) (fun hc => by omega)) q' hq'
      | false =>
        rw [d4, cond_false] at hq'
        cases d5 : Nat.beq z.1 5 with
        | true =>
          rw [d5, cond_true] at hq'
          have d5 := pm_beq d5
          rw [d5] at t2
          cases c1 : (k_off S.1 c 460 460 && k_off S.1 c 364 364) with
          | true =>
            rw [c1, cond_true] at hq'
            obtain ⟨o1, o2⟩ := Bool.and_eq_true_iff.mp c1
            have o1 := k_off_ok h.2.1 o1
            have o2 := k_off_ok h.2.1 o2
            exact same (old.fr (fun _ n => ne (by omega)) (fun hc => by omega) (fun _ n => ne (by omega))) q' hq'
          | false =>
            rw [c1, cond_false] at hq'
            cases c2 : ((k_is c 460 || k_is c 364) && k_geS S (k_sub s q.1.2)) with
            | false =>
              rw [c2, cond_false] at hq'
              cases hq'
            | true =>
              rw [c2, cond_true] at hq'
              obtain ⟨-, o2⟩ := Bool.and_eq_true_iff.mp c2
              have o2 := k_ge_ok h.2.1 h.2.2.1 o2
              rw [k_ev_sub] at o2
              have old := (kPtx_5 t2).mp old
              have keep : ∀ i : Nat, (i : Int) < k_ev σ q.1.2 → ∃ b : Int, 0 ≤ b ∧ b ≤ 255 ∧ k_gi (pm_put M a j cl w) 364 i = some (kSgb b) ∧ k_gi (pm_put M a j cl w) 460 i = some b := fun i hi => by
                rw [ne (by omega), ne (by omega)]
                exact old i hi
              rcases List.mem_cons.mp hq' with rfl | hq'
              · exact same ((kPtx_5 t2).mpr keep) _ (List.mem_singleton.mpr rfl)
              · cases c3 : (k_is c 460 && (k_eqS S s q.1.2 && S.2.2.2.any (k_vxq S s v))) with
                | false =>
                  rw [c3, cond_false] at hq'
                  cases hq'
                | true =>
                  rw [c3, cond_true] at hq'
                  rcases List.mem_singleton.mp hq' with rfl
                  simp only [Bool.and_eq_true] at c3
                  obtain ⟨e1, e2, e3⟩ := c3
                  have e1 := k_is_ev (σ := σ) e1
                  have e2 := k_eqv_ok h.2.1 h.2.2.1 e2
                  obtain ⟨r, hr, e3⟩ := List.any_eq_true.mp e3
                  obtain ⟨r1, r2, r3⟩ := k_vxq_ok h hr hj e3
                  have ea : a = 460 := by omega
                  refine ⟨⟨sc.1, kSc_add sc.2.1 kSc_c, sc.2.2⟩, (k_t15 hz hn).mpr ((kPtx_5 t2).mpr fun i hi => ?_)⟩
                  have hi : (i : Int) < k_ev σ (k_add q.1.2 (kc 1)) := hi
                  rw [k_ev_add, k_ev_c] at hi
                  by_cases hij : i = j
                  · subst hij
                    rw [ea] at eq
                    exact ⟨k_ev σ v, r1, r2, (ne (by omega)).trans r3, by rw [ea]; exact eq⟩
                  · exact keep i (by omega)
        | false =>
          rw [d5, cond_false] at hq'
          obtain ⟨d6, hq'⟩ : Nat.beq z.1 6 = true ∧ q' ∈ (cond (k_off S.1 c 364 364) [q] (cond (k_is c 364 && (k_geS S z.2 && k_geS S (k_sub s (k_add z.2 q.1.2)))) (q :: cond (k_eqS S s (k_add z.2 q.1.2) && k_vx6 S v q) [((q.1.1, k_add q.1.2 (kc 1)), q.2)] []) [])) := by
            cases d6 : Nat.beq z.1 6 with
            | true =>
              rw [d6, cond_true] at hq'
              exact ⟨rfl, hq'⟩
            | false =>
              rw [d6, cond_false] at hq'
              cases hq'
          have d6 := pm_beq d6
          rw [d6] at t2
          cases c1 : k_off S.1 c 364 364 with
          | true =>
            rw [c1, cond_true] at hq'
            have o1 := k_off_ok h.2.1 c1
            exact same (old.fr (fun hc => by omega) (fun hc => by omega) (fun _ n => ne (by omega))) q' hq'
          | false =>
            rw [c1, cond_false] at hq'
            cases c2 : (k_is c 364 && (k_geS S z.2 && k_geS S (k_sub s (k_add z.2 q.1.2)))) with
            | false =>
              rw [c2, cond_false] at hq'
              cases hq'
            | true =>
              rw [c2, cond_true] at hq'
              simp only [Bool.and_eq_true] at c2
              obtain ⟨o1, o2, o3⟩ := c2
              have o1 := k_is_ev (σ := σ) o1
              have o2 := k_ge_ok h.2.1 h.2.2.1 o2
              have o3 := k_ge_ok h.2.1 h.2.2.1 o3
              rw [k_ev_sub, k_ev_add] at o3
              have ea : a = 364 := by omega
              have old := (kPtx_6 t2).mp old
              have keep : ∀ i : Nat, (i : Int) < k_ev σ q.1.2 → k_gi (pm_put M a j cl w) 364 (k_ev σ (k_vp q.1.1) / 8 + i).toNat = some (kSgb (kByt i (k_ev σ q.2))) := fun i hi => by
                rw [ne (by omega)]
                exact old i hi
              rcases List.mem_cons.mp hq' with rfl | hq'
              · exact same ((kPtx_6 t2).mpr keep) _ (List.mem_singleton.mpr rfl)
              · cases c3 : (k_eqS S s (k_add z.2 q.1.2) && k_vx6 S v q) with
                | false =>
                  rw [c3, cond_false] at hq'
                  cases hq'
                | true =>
                  rw [c3, cond_true] at hq'
                  rcases List.mem_singleton.mp hq' with rfl
                  obtain ⟨e1, e2⟩ := Bool.and_eq_true_iff.mp c3
                  have e1 := k_eqv_ok h.2.1 h.2.2.1 e1
                  rw [k_ev_add] at e1
                  unfold k_vx6 at e2
                  obtain ⟨e0, e2⟩ := Bool.and_eq_true_iff.mp e2
                  have e0 := k_ge_ok h.2.1 h.2.2.1 e0
                  split at e2
                  · rename_i y hy
                    have b := k_opc_ok h e0 hy
                    have hv : k_ev σ v = kSgb (kByt (k_ev σ q.1.2).toNat (k_ev σ q.2)) := by
                      rw [b]
                      unfold kSgb
                      rcases Bool.or_eq_true_iff.mp e2 with e2 | e2
                      · obtain ⟨f1, f2⟩ := Bool.and_eq_true_iff.mp e2
                        have f1 := k_ge_ok h.2.1 h.2.2.1 f1
                        have f2 := k_eqv_ok h.2.1 h.2.2.1 f2
                        rw [k_ev_sub, k_ev_c] at f1
                        rw [if_pos (by omega)]
                        exact f2
                      · obtain ⟨f1, f2⟩ := Bool.and_eq_true_iff.mp e2
                        have f1 := k_ge_ok h.2.1 h.2.2.1 f1
                        have f2 := k_eqv_ok h.2.1 h.2.2.1 f2
                        rw [k_ev_sub, k_ev_c] at f1 f2
                        rw [if_neg (by omega)]
                        exact f2
                    refine ⟨⟨sc.1, kSc_add sc.2.1 kSc_c, sc.2.2⟩, (k_t15 hz hn).mpr ((kPtx_6 t2).mpr fun i hi => ?_)⟩
                    have hi : (i : Int) < k_ev σ (k_add q.1.2 (kc 1)) := hi
                    rw [k_ev_add, k_ev_c] at hi
                    by_cases hij : (i : Int) = k_ev σ q.1.2
                    · have hi2 : (k_ev σ q.1.2).toNat = i := by omega
                      rw [hi2] at hv
                      rw [show (k_ev σ (k_vp q.1.1) / 8 + (i : Int)).toNat = j by omega]
                      show k_gi (pm_put M a j cl w) 364 j = some (kSgb (kByt i (k_ev σ q.2)))
                      rw [← hv, ← eq, ea]
                    · exact keep i (by omega)
                  · cases e2
end KTW
end
noncomputable section
/-- high bytes come apart from low ones -/
theorem k_brg_hi {S : kS} {j : kE} {z : Int × Int} (hz : z ∈ k_brg S j false) (h : ¬ z.2 < 128) : 128 ≤ z.1 := by
  have d2 : ∀ z ∈ ([(0, 127), (128, 255)] : List (Int × Int)), ¬ z.2 < 128 → 128 ≤ z.1 := by decide
  have d4 : ∀ z ∈ ([(0, 47), (58, 96), (123, 127), (128, 255)] : List (Int × Int)), ¬ z.2 < 128 → 128 ≤ z.1 := by decide
  have dl : ∀ z ∈ ([(97, 122)] : List (Int × Int)), ¬ z.2 < 128 → 128 ≤ z.1 := by decide
  have dd : ∀ z ∈ ([(48, 57)] : List (Int × Int)), ¬ z.2 < 128 → 128 ≤ z.1 := by decide
  unfold k_brg at hz
  cases c1 : k_brm S j 2 with
  | true =>
    rw [c1, cond_true] at hz
    exact dl z hz h
  | false =>
    rw [c1, cond_false] at hz
    cases c2 : k_brm S j 3 with
    | true =>
      rw [c2, cond_true] at hz
      exact dd z hz h
    | false =>
      rw [c2, cond_false] at hz
      split at hz
      · rename_i t ht
        cases c3 : k_wq (k_nv S.1 t) (kc 1) with
        | true =>
          rw [c3, cond_true] at hz
          exact dl z hz h
        | false =>
          rw [c3, cond_false] at hz
          cases c4 : k_wq (k_nv S.1 t) (kc 2) with
          | true =>
            rw [c4, cond_true] at hz
            exact dd z hz h
          | false =>
            rw [c4, cond_false] at hz
            cases c5 : k_wq (k_nv S.1 t) (kc 3) with
            | true =>
              rw [c5, cond_true] at hz
              exact d4 z hz h
            | false =>
              rw [c5, cond_false] at hz
              exact d2 z hz h
      · exact d2 z hz h
end
