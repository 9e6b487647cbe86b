noncomputable section
section KTF
variable {N : kN} {σ : Nat → Int} {S : kS} {M : pM}
/-! a byte that is read -/
def k_brm (S : kS) (j : kE) (m : Int) : Bool := match k_tl S 0 [kc m] j with
  | some e => k_geS S (k_sub (k_sub e (kc 1)) j)
  | none => false
def k_brg (S : kS) (j : kE) (wh : Bool) : List (Int × Int) := cond (k_brm S j 2) [(97, 122)] (cond (k_brm S j 3) [(48, 57)] (match k_tl S 1 [kc 0, kc 0, kc 0, kc 0] j with
  | some t => cond (k_wq (k_nv S.1 t) (kc 1)) [(97, 122)] (cond (k_wq (k_nv S.1 t) (kc 2)) [(48, 57)] (cond (k_wq (k_nv S.1 t) (kc 3)) (cond wh [(0, 47), (58, 96), (123, 255)] [(0, 47), (58, 96), (123, 127), (128, 255)]) (cond wh [(0, 255)] [(0, 127), (128, 255)])))
  | none => cond wh [(0, 255)] [(0, 127), (128, 255)]))
theorem k_brm_ok (h : kRS N σ S M) {j : kE} {m : Int} {p : Nat} (hp : (p : Int) = k_ev σ j) (hb : k_brm S j m = true) : (p : Int) + 1 ≤ kBv (kTt M) true [m] p := by
  unfold k_brm at hb
  split at hb
  · rename_i e he
    obtain ⟨a1, a2⟩ := k_tl_ok h (by omega) k_1sc he
    rw [k_1ev] at a2
    have a2 : kBv (kTt M) true [m] p = k_ev σ e := a2.to (by omega) hp
    have := k_ge_ok h.2.1 h.2.2.1 hb
    rw [k_ev_sub, k_ev_sub, k_ev_c] at this
    omega
  · cases hb
theorem k_brd (wh : Bool) {b : Int} (h1 : 0 ≤ b) (h2 : b ≤ 255) : ∃ z ∈ cond wh [((0 : Int), (255 : Int))] [(0, 127), (128, 255)], z.1 ≤ b ∧ b ≤ z.2 := by
  cases wh with
  | true => exact ⟨(0, 255), List.mem_cons_self, h1, h2⟩
  | false =>
    by_cases h : b ≤ 127
    · exact ⟨(0, 127), List.mem_cons_self, h1, h⟩
    · exact ⟨(128, 255), List.mem_cons_of_mem _ List.mem_cons_self, by show (128 : Int) ≤ b; omega, h2⟩
theorem k_brg_ok (h : kRS N σ S M) {j : kE} {wh : Bool} {p : Nat} (hp4 : p ≤ 400) (hp : (p : Int) = k_ev σ j) (h1 : 0 ≤ (kTt M).1 p) (h2 : (kTt M).1 p ≤ 255) : ∃ z ∈ k_brg S j wh, z.1 ≤ (kTt M).1 p ∧ (kTt M).1 p ≤ z.2 := by
  unfold k_brg
  cases c1 : k_brm S j 2 with
  | true =>
    have := kT_let (k_brm_ok h hp c1)
    exact ⟨(97, 122), List.mem_cons_self, this⟩
  | false =>
    rw [cond_false]
    cases c2 : k_brm S j 3 with
    | true =>
      have := kT_dig (k_brm_ok h hp c2)
      exact ⟨(48, 57), List.mem_cons_self, this⟩
    | false =>
      rw [cond_false]
      split
      · rename_i t ht
        obtain ⟨-, kt⟩ := k_kind h hp hp4 ht
        have kd := kT_kind (T := kTt M) (b := 0) (c := 0) (d := 0) hp4
        rw [← kt, ← k_nv_ok (e := t) h.2.1] at kd
        cases d1 : k_wq (k_nv S.1 t) (kc 1) with
        | true =>
          rw [k_wq_ok d1, k_ev_c] at kd
          exact ⟨(97, 122), List.mem_cons_self, by show (97 : Int) ≤ _ ∧ _ ≤ (122 : Int); omega⟩
        | false =>
          rw [cond_false]
          cases d2 : k_wq (k_nv S.1 t) (kc 2) with
          | true =>
            rw [k_wq_ok d2, k_ev_c] at kd
            exact ⟨(48, 57), List.mem_cons_self, by show (48 : Int) ≤ _ ∧ _ ≤ (57 : Int); omega⟩
          | false =>
            rw [cond_false]
            cases d3 : k_wq (k_nv S.1 t) (kc 3) with
            | true =>
              rw [k_wq_ok d3, k_ev_c] at kd
              have kd : ¬ (97 ≤ (kTt M).1 p ∧ (kTt M).1 p ≤ 122) ∧ ¬ (48 ≤ (kTt M).1 p ∧ (kTt M).1 p ≤ 57) := by omega
              generalize (kTt M).1 p = b at h1 h2 kd ⊢
              rw [cond_true]
              cases wh with
              | true =>
                rw [cond_true]
                by_cases g1 : b ≤ 47
                · exact ⟨(0, 47), by simp, h1, g1⟩
                · by_cases g2 : b ≤ 96
                  · exact ⟨(58, 96), by simp, by show (58 : Int) ≤ b; omega, g2⟩
                  · exact ⟨(123, 255), by simp, by show (123 : Int) ≤ b; omega, h2⟩
              | false =>
                rw [cond_false]
                by_cases g1 : b ≤ 47
                · exact ⟨(0, 47), by simp, h1, g1⟩
                · by_cases g2 : b ≤ 96
                  · exact ⟨(58, 96), by simp, by show (58 : Int) ≤ b; omega, g2⟩
                  · by_cases g3 : b ≤ 127
                    · exact ⟨(123, 127), by simp, by show (123 : Int) ≤ b; omega, g3⟩
                    · exact ⟨(128, 255), by simp, by show (128 : Int) ≤ b; omega, h2⟩
            | false => exact k_brd wh h1 h2
      · exact k_brd wh h1 h2
/-! what is known of the text without an entry -/
def k_vt15 (c s : kE) (S : kS) : Option kE := match k_ts c with
  | some z => cond (Nat.beq z.1 5 && k_wq (k_nv S.1 s) (kc 0)) (some (kc 0)) none
  | none => none
theorem k_vt15_ok (h : kRS N σ S M) {c s v : kE} (hn : k_ev σ c < 0) (hv : k_vt15 c s S = some v) : kSc S.1.length v ∧ kHas N M (k_ev σ c) (k_ev σ s) (k_ev σ v) := by
  unfold k_vt15 at hv
  split at hv
  · rename_i z hz
    obtain ⟨g, hv⟩ := pm_cs hv
    cases hv
    obtain ⟨g1, g2⟩ := Bool.and_eq_true_iff.mp g
    have g1 := pm_beq g1
    have e := k_nv_ok (e := s) h.2.1
    rw [k_wq_ok g2, k_ev_c] at e
    refine ⟨kSc_c, (k_t15 hz hn).mpr ?_⟩
    obtain ⟨-, t2, -⟩ := k_ts_ok (σ := σ) hz
    refine (kPtx_5 (by rw [t2, g1])).mpr fun i hi => ?_
    omega
  · cases hv
def k_lse (S : kS) (a b : List kE) : Bool := match a, b with
  | [], [] => true
  | x :: t, y :: u => k_eqS S x y && k_lse S t u
  | _, _ => false
theorem k_lse_ok (h : kRS N σ S M) : ∀ {a b : List kE}, k_lse S a b = true → a.map (k_ev σ) = b.map (k_ev σ)
  | [], [], _ => rfl
  | x :: t, y :: u, hl => by
    unfold k_lse at hl
    obtain ⟨h1, h2⟩ := Bool.and_eq_true_iff.mp hl
    rw [List.map_cons, List.map_cons, k_eqv_ok h.2.1 h.2.2.1 h1, k_lse_ok h h2]
  | [], _ :: _, hl => by cases hl
  | _ :: _, [], hl => by cases hl
/-- another state at the same place that comes to the same: what the other says, less what comes on its way, and what comes on this -/
def k_vs3 (S : kS) (v : kE) (L1 L2 : List (List kE × kE)) : Option kE := L1.findSome? (fun x => L2.findSome? (fun y => cond (k_lse S x.1 y.1) (some (k_add (k_sub v x.2) y.2)) none))
def k_vs2 (S : kS) (k : kE) (l : List (List kE × kE)) (q : kH) : Option kE := cond (k_eqS S q.1.2 k) (match k_tde S q.1.1 with
  | some z => cond (Nat.beq z.1 2) (k_vs3 S q.2 (k_c2s S z.2 q.1.2).1 l) none
  | none => none) none
/-- bytes: what comes next is known -/
def k_vf1 (S : kS) (o : Option kGo) : Option kE := match o with
  | some g => cond g.1 (some g.2.1) (k_look S g.2.1 g.2.2.1)
  | none => none
/-- the parse: an end, a state behind that is known -/
def k_vf2 (S : kS) (o : Option kG2) : Option kE := match o with
  | some (.inl e) => some e.1
  | some (.inr r) => (match k_look S r.1 r.2.1 with
    | some w => some (k_add w r.2.2.2)
    | none => none)
  | none => none
def k_vfp (S : kS) (ws : List kE) (k : kE) : Option kE := match S.2.2.2.findSome? (k_vs2 S k (k_c2s S ws k).1) with
  | some w => some w
  | none => (match k_vf2 S (k_c2s S ws k).2 with
    | some w => some w
    | none => cond (k_lse S ws [kc 0, kc 0, kc 0, kc 0, kc 0, kc 0, kc 0, kc 0, kc 0]) (match k_tl S 0 [kc 0] (kc 0) with
      | some a => cond (k_eqS S k a) (k_look S (kc (-63)) (kc 0)) none
      | none => none) none)
def k_vf15 (S : kS) (c s : kE) : Option kE := match k_ts c with
  | none => none
  | some z => cond (Nat.beq z.1 5) (cond (S.2.2.2.any (fun q => k_wq q.1.1 c && k_geS S (k_sub q.1.2 s))) (some (kc 0)) none)
    (match k_tde S c with
    | none => none
    | some y => cond (k_geS S s && k_geS S (k_sub (kc 400) s)) (cond (Nat.blt y.1 2) (k_vf1 S (k_ch1 S y.1 s y.2)) (k_vfp S y.2 s)) none)
theorem k_vfp_ok (h : kRS N σ S M) {ws : List kE} {s v : kE} {p : Nat} (hp4 : p ≤ 400) (hs : kSc S.1.length s) (hp : (p : Int) = k_ev σ s) (a2 : ∀ w ∈ ws, kSc S.1.length w) (hv : k_vfp S ws s = some v) : kSc S.1.length v ∧ kMw (kTt M) (ws.map (k_ev σ)) p (k_ev σ v) := by
  obtain ⟨C1, C2⟩ := k_c2s_ok h hp4 hs hp a2
  unfold k_vfp at hv
  split at hv
  · rename_i w hw
    cases hv
    obtain ⟨q, hq, hw⟩ := List.exists_of_findSome?_eq_some hw
    unfold k_vs2 at hw
    obtain ⟨e1, hw⟩ := pm_cs hw
    have e1 := k_eqv_ok h.2.1 h.2.2.1 e1
    split at hw
    · rename_i z hz
      obtain ⟨i2, hw⟩ := pm_cs hw
      obtain ⟨s1, s2, s3⟩ := h.2.2.2.2.2.2.2 q hq
      obtain ⟨x1, x2, x3, x4⟩ := k_tde_ok h s1 hz
      have V := ((x4 _ _).mp (h.2.2.2.2.1 q hq)).tw (p := p) (by rw [e1]; exact hp)
      rw [pm_beq i2] at V
      have V := kTW_2.mp V
      obtain ⟨D1, -⟩ := k_c2s_ok h hp4 s2 (by rw [e1]; exact hp) x2
      unfold k_vs3 at hw
      obtain ⟨x, hx, hw⟩ := List.exists_of_findSome?_eq_some hw
      obtain ⟨y, hy, hw⟩ := List.exists_of_findSome?_eq_some hw
      obtain ⟨e2, hw⟩ := pm_cs hw
      cases hw
      have e2 := k_lse_ok h e2
      obtain ⟨u1, u2, u3⟩ := D1 x hx
      obtain ⟨w1, w2, w3⟩ := C1 y hy
      refine ⟨kSc_add (kSc_sub s3 u2) w2, (w3 _).mpr ?_⟩
      rw [← e2, k_ev_add, k_ev_sub, show k_ev σ q.2 - k_ev σ x.2 + k_ev σ y.2 - k_ev σ y.2 = k_ev σ q.2 - k_ev σ x.2 by omega]
      exact (u3 _).mp V
    · cases hw
  · split at hv
    · rename_i w hw
      cases hv
      unfold k_vf2 at hw
      split at hw
      · rename_i e he
        cases hw
        obtain ⟨g1, -, -, g4⟩ := C2 _ he
        exact ⟨g1, (g4 _).mpr rfl⟩
      · rename_i r hr
        obtain ⟨g1, g2, g3, g4, g5, g6, g7, g8⟩ := C2 _ hr
        split at hw
        · rename_i x hx
          cases hw
          obtain ⟨b1, b2⟩ := k_look_ok h hx
          have b3 := kTW_2.mp (((g6 _ _).mp b2).tw g7)
          refine ⟨kSc_add b1 g4, (g8 _).mpr ?_⟩
          rw [k_ev_add, Int.add_sub_cancel]
          exact b3
        · cases hw
      · cases hw
    · obtain ⟨e1, hv⟩ := pm_cs hv
      have e1 := k_lse_ok h e1
      rw [k_6ev] at e1
      split at hv
      · rename_i a ha
        obtain ⟨e2, hv⟩ := pm_cs hv
        have e2 := k_eqv_ok h.2.1 h.2.2.1 e2
        obtain ⟨w1, w2, w3⟩ := k_whl h hv ha
        rw [e1]
        exact ⟨w1, kTW_2.mp (w3.tw (by rw [hp]; exact e2))⟩
      · cases hv
theorem k_vf15_ok (h : kRS N σ S M) {c s v : kE} (hc : kSc S.1.length c) (hs : kSc S.1.length s) (hn : k_ev σ c < 0) (hv : k_vf15 S c s = some v) : kSc S.1.length v ∧ kHas N M (k_ev σ c) (k_ev σ s) (k_ev σ v) := by
  unfold k_vf15 at hv
  split at hv
  · cases hv
  · rename_i z hz
    cases c1 : Nat.beq z.1 5 with
    | true =>
      rw [c1, cond_true] at hv
      have c1 := pm_beq c1
      obtain ⟨g, hv⟩ := pm_cs hv
      cases hv
      obtain ⟨q, hq, g⟩ := List.any_eq_true.mp g
      obtain ⟨g1, g2⟩ := Bool.and_eq_true_iff.mp g
      have g1 := k_wq_ok g1
      have g2 := k_ge_ok h.2.1 h.2.2.1 g2
      rw [k_ev_sub] at g2
      have hh := h.2.2.2.2.1 q hq
      rw [g1] at hh
      have hh := (k_t15 hz hn).mp hh
      refine ⟨kSc_c, (k_t15 hz hn).mpr ?_⟩
      obtain ⟨-, t2, -⟩ := k_ts_ok (σ := σ) hz
      have t5 : (k_ev σ (k_vp c) % 8).toNat = 5 := by rw [t2, c1]
      exact (kPtx_5 t5).mpr fun i hi => (kPtx_5 t5).mp hh i (by omega)
    | false =>
      rw [c1, cond_false] at hv
      split at hv
      · cases hv
      · rename_i y hy
        obtain ⟨a1, a2, a3, a4⟩ := k_tde_ok h hc hy
        obtain ⟨g, hv⟩ := pm_cs hv
        obtain ⟨g1, g2⟩ := Bool.and_eq_true_iff.mp g
        have g1 := k_ge_ok h.2.1 h.2.2.1 g1
        have g2 := k_ge_ok h.2.1 h.2.2.1 g2
        rw [k_ev_sub, k_ev_c] at g2
        have hp : ((k_ev σ s).toNat : Int) = k_ev σ s := Int.toNat_of_nonneg g1
        have hp4 : (k_ev σ s).toNat ≤ 400 := by omega
        suffices H : kSc S.1.length v ∧ kTW (kTt M) y.1 (y.2.map (k_ev σ)) (k_ev σ s).toNat (k_ev σ v) from ⟨H.1, (a4 _ _).mpr ⟨_, hp, H.2⟩⟩
        cases ci : Nat.blt y.1 2 with
        | true =>
          rw [ci, cond_true] at hv
          have ci := pm_blt ci
          unfold k_vf1 at hv
          split at hv
          · rename_i g hg
            have G := k_ch1_ok h ci hp4 hs hp a2 hg
            unfold kGoP at G
            cases d1 : g.1 with
            | true =>
              rw [d1, cond_true] at hv G
              cases hv
              exact ⟨G.1, (kTW_lt ci).mpr G.2.symm⟩
            | false =>
              rw [d1, cond_false] at hv G
              obtain ⟨p1, p2, p3, p4, p5, p6, p7⟩ := G
              obtain ⟨b1, b2⟩ := k_look_ok h hv
              exact ⟨b1, (kTW_lt ci).mpr (by rw [p7]; exact ((p5 _ _).mp b2).to ci p6)⟩
          · cases hv
        | false =>
          rw [ci, cond_false] at hv
          have i2 : y.1 = 2 := by
            have : ¬ y.1 < 2 := fun hl => by
              rw [show Nat.blt y.1 2 = true from Nat.ble_eq_true_of_le hl] at ci
              cases ci
            omega
          rw [i2]
          exact k_vfp_ok h hp4 hs hp a2 hv
/-! an entry that is read anew -/
/-- what the whole says: a fault and one, and a set -/
def k_nw3 (S : kS) (c s : kE) : kE × kS := (k_add (k_new S 0 401).1 (k_mul 512 (k_new (k_new S 0 401).2 0 (kPw 4096 - 1)).1), k_ptn (k_new (k_new S 0 401).2 0 (kPw 4096 - 1)).2 ((c, s), k_add (k_new S 0 401).1 (k_mul 512 (k_new (k_new S 0 401).2 0 (kPw 4096 - 1)).1)))
def k_nwe (S : kS) (c s : kE) : Option (kE × kS) := match k_ts c with
  | none => none
  | some z => cond (Nat.beq z.1 3 && (decide (k_hi S.1 c < 0) && k_n400 S)) (some (k_nw3 S c s))
    (match k_tde S c with
    | none => none
    | some y => cond (k_geS S s && k_geS S (k_sub (kc 400) s)) (cond (Nat.beq y.1 1) (some ((k_new S (-1) 549755813888).1, k_ptn (k_new S (-1) 549755813888).2 ((c, s), (k_new S (-1) 549755813888).1)))
      (cond (Nat.beq y.1 0) (match k_asm (k_new S 0 400).2 (k_sub (kc 400) (k_add s (k_new S 0 400).1)) with
        | some T => some (k_add s (k_new S 0 400).1, k_ptn T ((c, s), k_add s (k_new S 0 400).1))
        | none => none) none)) none)
theorem k_nwe_ok (h : kRS N σ S M) {c s : kE} {r : kE × kS} (hc : kSc S.1.length c) (hs : kSc S.1.length s) (hr : k_nwe S c s = some r) : ∃ τ, kAgr S.1.length σ τ ∧ S.1.length ≤ r.2.1.length ∧ kRS N τ r.2 M := by
  have put : ∀ {τ : Nat → Int} {T : kS} {v : kE}, kAgr S.1.length σ τ → S.1.length ≤ T.1.length → kRS N τ T M → kSc T.1.length v → kHas N M (k_ev σ c) (k_ev σ s) (k_ev τ v) → kRS N τ (k_ptn T ((c, s), v)) M := fun {τ T v} t1 t2 t3 t4 t5 => kRS_ent t3 fun q hq => by
    rcases List.mem_cons.mp hq with rfl | hq
    · refine Or.inr ⟨⟨hc.mono t2, hs.mono t2, t4⟩, ?_⟩
      show kHas N M (k_ev τ c) (k_ev τ s) (k_ev τ v)
      rw [k_ev_agree t1 hc, k_ev_agree t1 hs]
      exact t5
    · exact Or.inl hq
  unfold k_nwe at hr
  split at hr
  · cases hr
  · rename_i z hz
    cases c1 : (Nat.beq z.1 3 && (decide (k_hi S.1 c < 0) && k_n400 S)) with
    | true =>
      rw [c1, cond_true] at hr
      obtain rfl : k_nw3 S c s = r := Option.some.inj hr
      obtain ⟨c1, c2⟩ := Bool.and_eq_true_iff.mp c1
      obtain ⟨c2, c4⟩ := Bool.and_eq_true_iff.mp c2
      have c1 := pm_beq c1
      have hn : k_ev σ c < 0 := k_neg_hi h c2
      have p4 := (kBv_pl (T := kTt M) (p := 0) [0] (by omega)).2
      obtain ⟨f, u, hu⟩ := kMr_end (T := kTt M) (p := (kBv (kTt M) true [0] 0).toNat) (k_n400_ok h c4) (by omega) kS9
      obtain ⟨x, y, x1, x2, y1, y2, e⟩ := kMr_v0 f kS9 _ u (by decide) hu
      have y3 : y ≤ kPw 4096 - 1 := by rw [kPw_bg]; exact y2
      clear y2
      unfold k_nw3
      generalize kPw 4096 - 1 = B at y3 ⊢
      obtain ⟨τ, t1, t2, t3, t4, t5⟩ := k_new_ok (lo := 0) (hi := 401) h x1 x2
      obtain ⟨υ, u1, u2, u3, u4, u5⟩ := k_new_ok (lo := 0) (hi := B) t3 y1 y3
      have ex : k_ev υ (k_new S 0 401).1 = x := (k_ev_agree u1 t5).trans t4
      have ag : kAgr S.1.length σ υ := fun a ha => (u1 a (by omega)).trans (t1 a ha)
      refine ⟨υ, ag, Nat.le_trans t2 u2, put ag (Nat.le_trans t2 u2) u3 (kSc_add (t5.mono u2) (kSc_mul u5)) ((k_t15 hz hn).mpr ?_)⟩
      obtain ⟨-, e2, -⟩ := k_ts_ok (σ := σ) hz
      refine (kPtx_3 (by rw [e2, c1])).mpr fun g v hg => ?_
      rw [k_ev_add, k_ev_mul, ex, u4, ← e]
      exact kMr_uq hg hu
    | false =>
      rw [c1, cond_false] at hr
      split at hr
      · cases hr
      · rename_i y hy
        obtain ⟨a1, a2, a3, a4⟩ := k_tde_ok h hc hy
        obtain ⟨g, hr⟩ := pm_cs hr
        obtain ⟨g1, g2⟩ := Bool.and_eq_true_iff.mp g
        have g1 := k_ge_ok h.2.1 h.2.2.1 g1
        have g2 := k_ge_ok h.2.1 h.2.2.1 g2
        rw [k_ev_sub, k_ev_c] at g2
        have hp : ((k_ev σ s).toNat : Int) = k_ev σ s := Int.toNat_of_nonneg g1
        have rg := kTV_rg (T := kTt M) (i := y.1) (ws := y.2.map (k_ev σ)) (p := (k_ev σ s).toNat) (by omega)
        have hE : y.1 < 2 → kHas N M (k_ev σ c) (k_ev σ s) (kTV (kTt M) y.1 (y.2.map (k_ev σ)) (k_ev σ s).toNat) := fun h2 => (a4 _ _).mpr ⟨_, hp, (kTW_lt h2).mpr rfl⟩
        generalize kTV (kTt M) y.1 (y.2.map (k_ev σ)) (k_ev σ s).toNat = x at rg hE
        cases d1 : Nat.beq y.1 1 with
        | true =>
          rw [d1, cond_true] at hr
          cases hr
          have d1 := pm_beq d1
          have hE := hE (by omega)
          rw [d1] at rg
          obtain ⟨τ, t1, t2, t3, t4, t5⟩ := k_new_ok h (lo := -1) (hi := 549755813888) rg.1 rg.2
          exact ⟨τ, t1, t2, put t1 t2 t3 t5 (by rw [t4]; exact hE)⟩
        | false =>
          rw [d1, cond_false] at hr
          obtain ⟨d0, hr⟩ := pm_cs hr
          have d0 := pm_beq d0
          have hE := hE (by omega)
          rw [d0] at rg
          have rg1 : ((k_ev σ s).toNat : Int) ≤ x := rg.1
          have rg2 : x ≤ 400 := rg.2
          obtain ⟨τ, t1, t2, t3, t4, t5⟩ := k_new_ok h (x := x - k_ev σ s) (lo := 0) (hi := 400) (by omega) (by omega)
          have sv : kSc (k_new S 0 400).2.1.length (k_add s (k_new S 0 400).1) := kSc_add (hs.mono t2) t5
          have ev : k_ev τ (k_add s (k_new S 0 400).1) = x := by
            rw [k_ev_add, k_ev_agree t1 hs, t4]
            omega
          obtain ⟨T, u1, u2, u3⟩ := k_asm_ok t3 (e := k_sub (kc 400) (k_add s (k_new S 0 400).1)) (kSc_sub kSc_c sv) (by rw [k_ev_sub, k_ev_c, ev]; omega)
          rw [u1] at hr
          cases hr
          exact ⟨τ, t1, by show S.1.length ≤ T.1.length; rw [u2]; exact t2, put t1 (by rw [u2]; exact t2) u3 (by rw [u2]; exact sv) (by rw [ev]; exact hE)⟩
/-- nothing fed: says nothing -/
def k_f60 (S : kS) (c s : kE) : Bool := match k_ts c with
  | some z => Nat.beq z.1 6 && (decide (k_hi S.1 c < 0) && k_wq (k_nv S.1 s) (kc 0))
  | none => false
theorem k_f60_ok (h : kRS N σ S M) {c s : kE} (v : Int) (hf : k_f60 S c s = true) : kHas N M (k_ev σ c) (k_ev σ s) v := by
  unfold k_f60 at hf
  split at hf
  · rename_i z hz
    simp only [Bool.and_eq_true] at hf
    obtain ⟨f1, f2, f3⟩ := hf
    have f1 := pm_beq f1
    have hn : k_ev σ c < 0 := by
      have := k_hi_ge h.2.1 c
      have := of_decide_eq_true f2
      omega
    have e := k_nv_ok (e := s) h.2.1
    rw [k_wq_ok f3, k_ev_c] at e
    refine (k_t15 hz hn).mpr ?_
    obtain ⟨-, e2, -⟩ := k_ts_ok (σ := σ) hz
    refine (kPtx_6 (by rw [e2, f1])).mpr fun i hi => ?_
    omega
  · cases hf
end KTF
/-! what a write, a call leaves of it -/
/-- the byte j of a long x is v -/
def k_opc (j : kE) : kE := k_sub (kc (-463)) (k_mul 1024 j)
def k_vxq (S : kS) (s v : kE) (r : kH) : Bool := match k_ts r.1.1 with
  | some z => Nat.beq z.1 6 && (decide (k_hi S.1 r.1.1 < 0) && (k_geS S z.2 && (k_geS S (k_sub s z.2) && (k_geS S (k_sub (k_sub r.1.2 (kc 1)) (k_sub s z.2)) && (match k_look S (k_opc (k_sub s z.2)) r.2 with
    | some w => k_eqS S w v
    | none => false)))))
  | none => false
def k_vx6 (S : kS) (v : kE) (q : kH) : Bool := k_geS S q.1.2 && (match k_look S (k_opc q.1.2) q.2 with
  | some w => (k_geS S (k_sub (kc 127) w) && k_eqS S v w) || (k_geS S (k_sub w (kc 128)) && k_eqS S v (k_sub w (kc 256)))
  | none => false)
def k_vtx (S : kS) (c s v : kE) (q : kH) : List kH := match k_ts q.1.1 with
  | none => []
  | some z => cond (Nat.blt z.1 4) (cond (k_off S.1 c 460 460 && (k_off S.1 c 443 443 || k_off S.1 s 17 17)) [q] [])
    (cond (Nat.beq z.1 4) [q]
    (cond (Nat.beq z.1 5) (cond (k_off S.1 c 460 460 && k_off S.1 c 364 364) [q] (cond ((k_is c 460 || k_is c 364) && k_geS S (k_sub s q.1.2)) (q :: cond (k_is c 460 && (k_eqS S s q.1.2 && S.2.2.2.any (k_vxq S s v))) [((q.1.1, k_add q.1.2 (kc 1)), q.2)] []) []))
    (cond (Nat.beq z.1 6) (cond (k_off S.1 c 364 364) [q] (cond (k_is c 364 && (k_geS S z.2 && k_geS S (k_sub s (k_add z.2 q.1.2)))) (q :: cond (k_eqS S s (k_add z.2 q.1.2) && k_vx6 S v q) [((q.1.1, k_add q.1.2 (kc 1)), q.2)] []) [])) [])))
theorem kByt_rg (i : Nat) (v : Int) : 0 ≤ kByt i v ∧ kByt i v ≤ 255 := by
  unfold kByt
  omega
theorem k_opc_ok {N : kN} {σ : Nat → Int} {S : kS} {M : pM} (h : kRS N σ S M) {j x w : kE} (hj : 0 ≤ k_ev σ j) (hw : k_look S (k_opc j) x = some w) : kByt (k_ev σ j).toNat (k_ev σ x) = k_ev σ w := by
  obtain ⟨-, hh⟩ := k_look_ok h hw
  have e : k_ev σ (k_opc j) = -463 - 1024 * k_ev σ j := by
    unfold k_opc
    rw [k_ev_sub, k_ev_c, k_ev_mul]
  rw [e] at hh
  have hp : kPtx M (4 + 8 * (3 + 8 * k_ev σ j)) (k_ev σ x) (k_ev σ w) := kPhi_to (i := 15) (by omega) (by omega) (hh.2 (by omega))
  have hp : kLf ((4 + 8 * (3 + 8 * k_ev σ j)) / 8) (k_ev σ x) = k_ev σ w := (kPtx_4 (by omega)).mp hp
  rw [show (4 + 8 * (3 + 8 * k_ev σ j)) / 8 = 3 + 8 * k_ev σ j by omega] at hp
  unfold kLf at hp
  rw [show decide ((3 + 8 * k_ev σ j) % 8 = 0) = false from decide_eq_false (by omega), show decide ((3 + 8 * k_ev σ j) % 8 = 1) = false from decide_eq_false (by omega), show decide ((3 + 8 * k_ev σ j) % 8 = 2) = false from decide_eq_false (by omega), cond_false, cond_false, cond_false, show (3 + 8 * k_ev σ j) / 8 = k_ev σ j by omega] at hp
  rw [show decide ((3 + 8 * k_ev σ j) % 8 = 3) = true from decide_eq_true (by omega), cond_true] at hp
  exact hp
section KTW
variable {N : kN} {σ : Nat → Int} {S : kS} {M : pM} {c s v : kE} {a j : Nat} {cl : pC} {w : Value} {q : kH}
theorem k_vxq_ok (h : kRS N σ S M) {r : kH} (hr : r ∈ S.2.2.2) (hj : (j : Int) = k_ev σ s) (hx : k_vxq S s v r = true) : 0 ≤ k_ev σ v ∧ k_ev σ v ≤ 255 ∧ k_gi M 364 j = some (kSgb (k_ev σ v)) := by
  unfold k_vxq at hx
  split at hx
  · rename_i z hz
    simp only [Bool.and_eq_true] at hx
    obtain ⟨x1, x2, x3, x4, x5, x6⟩ := hx
    have x1 := pm_beq x1
    have hn : k_ev σ r.1.1 < 0 := by
      have := k_hi_ge h.2.1 r.1.1
      have := of_decide_eq_true x2
      omega
    have x3 := k_ge_ok h.2.1 h.2.2.1 x3
    have x4 := k_ge_ok h.2.1 h.2.2.1 x4
    have x5 := k_ge_ok h.2.1 h.2.2.1 x5
    split at x6
    · rename_i y hy
      have x6 := k_eqv_ok h.2.1 h.2.2.1 x6
      have b := k_opc_ok h x4 hy
      rw [k_ev_sub] at b x4
      rw [k_ev_sub, k_ev_sub, k_ev_sub, k_ev_c] at x5
      obtain ⟨-, t2, t3⟩ := k_ts_ok (σ := σ) hz
      rw [x1] at t2
      have hh := (kPtx_6 t2).mp ((k_t15 hz hn).mp (h.2.2.2.2.1 r hr)) (k_ev σ s - k_ev σ z.2).toNat (by omega)
      rw [b, x6, t3] at hh
      have rg := kByt_rg (k_ev σ s - k_ev σ z.2).toNat (k_ev σ r.2)
      rw [b, x6] at rg
      rw [show (k_ev σ z.2 + ((k_ev σ s - k_ev σ z.2).toNat : Int)).toNat = j by omega] at hh
      exact ⟨rg.1, rg.2, hh⟩
    · cases x6
  · cases hx
theorem k_vtx_ok (h : kRS N σ S M) (ha : (a : Int) = k_ev σ c) (hj : (j : Int) = k_ev σ s) (hcl : M[a]? = some cl) (hjl : j < cl.2.length) (hw : kNum w (k_ev σ v)) (hq : q ∈ S.2.2.2) (hn : k_ev σ q.1.1 < 0) : ∀ q' ∈ k_vtx S c s v q, (kSc S.1.length q'.1.1 ∧ kSc S.1.length q'.1.2 ∧ kSc S.1.length q'.2) ∧ kHas N (pm_put M a j cl w) (k_ev σ q'.1.1) (k_ev σ q'.1.2) (k_ev σ q'.2) := by
  have sc := h.2.2.2.2.2.2.2 q hq
  have old := h.2.2.2.2.1 q hq
  have ne : ∀ {b i : Nat}, ¬ (b = a ∧ i = j) → k_gi (pm_put M a j cl w) b i = k_gi M b i := fun hne => k_gi_put_ne hcl hne
  have eq : k_gi (pm_put M a j cl w) a j = some (k_ev σ v) := k_gi_put hcl hjl hw
  intro q' hq'
  unfold k_vtx at hq'
  split at hq'
  · cases hq'
  · rename_i z hz
    obtain ⟨-, t2, t3⟩ := k_ts_ok (σ := σ) hz
    have old := (k_t15 hz hn).mp old
    have same : kPtx (pm_put M a j cl w) (k_ev σ (k_vp q.1.1)) (k_ev σ q.1.2) (k_ev σ q.2) → ∀ q' ∈ [q], (kSc S.1.length q'.1.1 ∧ kSc S.1.length q'.1.2 ∧ kSc S.1.length q'.2) ∧ kHas N (pm_put M a j cl w) (k_ev σ q'.1.1) (k_ev σ q'.1.2) (k_ev σ q'.2) := fun hp q' hq' => by
      rcases List.mem_singleton.mp hq' with rfl
      exact ⟨sc, (k_t15 hz hn).mpr hp⟩
    cases c4 : Nat.blt z.1 4 with
    | true =>
      rw [c4, cond_true] at hq'
      have c4 := pm_blt c4
      cases c1 : (k_off S.1 c 460 460 && (k_off S.1 c 443 443 || k_off S.1 s 17 17)) with
      | false =>
        rw [c1, cond_false] at hq'
        cases hq'
      | true =>
        rw [c1, cond_true] at hq'
        obtain ⟨o1, o2⟩ := Bool.and_eq_true_iff.mp c1
        have o1 := k_off_ok h.2.1 o1
        have o2 : ¬ (443 = a ∧ 17 = j) := by
          rcases Bool.or_eq_true_iff.mp o2 with o2 | o2
          · have := k_off_ok h.2.1 o2
            omega
          · have := k_off_ok h.2.1 o2
            omega
        exact same (old.fr (fun _ n => ne (by omega)) (fun _ => ne o2) (fun hc => by omega) (fun hc => by omega)) q' hq'
    | false =>
      rw [c4, cond_false] at hq'
      cases d4 : Nat.beq z.1 4 with
      | true =>
        rw [d4, cond_true] at hq'
        have d4 := pm_beq d4
        exact same (old.fr (fun hc => by omega) (fun hc => by omega) (fun hc => by omega) (fun hc => by omega)) q' hq'
      | false =>
        rw [d4, cond_false] at hq'
        cases d5 : Nat.beq z.1 5 with
        | true =>
          rw [d5, cond_true] at hq'
          have d5 := pm_beq d5
          rw [d5] at t2
          cases c1 : (k_off S.1 c 460 460 && k_off S.1 c 364 364) with
          | true =>
            rw [c1, cond_true] at hq'
            obtain ⟨o1, o2⟩ := Bool.and_eq_true_iff.mp c1
            have o1 := k_off_ok h.2.1 o1
            have o2 := k_off_ok h.2.1 o2
            exact same (old.fr (fun _ n => ne (by omega)) (fun hc => by omega) (fun _ n => ne (by omega)) (fun hc => by omega)) q' hq'
          | false =>
            rw [c1, cond_false] at hq'
            cases c2 : ((k_is c 460 || k_is c 364) && k_geS S (k_sub s q.1.2)) with
            | false =>
              rw [c2, cond_false] at hq'
              cases hq'
            | true =>
              rw [c2, cond_true] at hq'
              obtain ⟨-, o2⟩ := Bool.and_eq_true_iff.mp c2
              have o2 := k_ge_ok h.2.1 h.2.2.1 o2
              rw [k_ev_sub] at o2
              have old := (kPtx_5 t2).mp old
              have keep : ∀ i : Nat, (i : Int) < k_ev σ q.1.2 → ∃ b : Int, 0 ≤ b ∧ b ≤ 255 ∧ k_gi (pm_put M a j cl w) 364 i = some (kSgb b) ∧ k_gi (pm_put M a j cl w) 460 i = some b := fun i hi => by
                rw [ne (by omega), ne (by omega)]
                exact old i hi
              rcases List.mem_cons.mp hq' with rfl | hq'
              · exact same ((kPtx_5 t2).mpr keep) _ (List.mem_singleton.mpr rfl)
              · cases c3 : (k_is c 460 && (k_eqS S s q.1.2 && S.2.2.2.any (k_vxq S s v))) with
                | false =>
                  rw [c3, cond_false] at hq'
                  cases hq'
                | true =>
                  rw [c3, cond_true] at hq'
                  rcases List.mem_singleton.mp hq' with rfl
                  simp only [Bool.and_eq_true] at c3
                  obtain ⟨e1, e2, e3⟩ := c3
                  have e1 := k_is_ev (σ := σ) e1
                  have e2 := k_eqv_ok h.2.1 h.2.2.1 e2
                  obtain ⟨r, hr, e3⟩ := List.any_eq_true.mp e3
                  obtain ⟨r1, r2, r3⟩ := k_vxq_ok h hr hj e3
                  have ea : a = 460 := by omega
                  refine ⟨⟨sc.1, kSc_add sc.2.1 kSc_c, sc.2.2⟩, (k_t15 hz hn).mpr ((kPtx_5 t2).mpr fun i hi => ?_)⟩
                  have hi : (i : Int) < k_ev σ (k_add q.1.2 (kc 1)) := hi
                  rw [k_ev_add, k_ev_c] at hi
                  by_cases hij : i = j
                  · subst hij
                    rw [ea] at eq
                    exact ⟨k_ev σ v, r1, r2, (ne (by omega)).trans r3, by rw [ea]; exact eq⟩
                  · exact keep i (by omega)
        | false =>
          rw [d5, cond_false] at hq'
          obtain ⟨d6, hq'⟩ : Nat.beq z.1 6 = true ∧ q' ∈ (cond (k_off S.1 c 364 364) [q] (cond (k_is c 364 && (k_geS S z.2 && k_geS S (k_sub s (k_add z.2 q.1.2)))) (q :: cond (k_eqS S s (k_add z.2 q.1.2) && k_vx6 S v q) [((q.1.1, k_add q.1.2 (kc 1)), q.2)] []) [])) := by
            cases d6 : Nat.beq z.1 6 with
            | true =>
              rw [d6, cond_true] at hq'
              exact ⟨rfl, hq'⟩
            | false =>
              rw [d6, cond_false] at hq'
              cases hq'
          have d6 := pm_beq d6
          rw [d6] at t2
          cases c1 : k_off S.1 c 364 364 with
          | true =>
            rw [c1, cond_true] at hq'
            have o1 := k_off_ok h.2.1 c1
            exact same (old.fr (fun hc => by omega) (fun hc => by omega) (fun _ n => ne (by omega)) (fun hc => by omega)) q' hq'
          | false =>
            rw [c1, cond_false] at hq'
            cases c2 : (k_is c 364 && (k_geS S z.2 && k_geS S (k_sub s (k_add z.2 q.1.2)))) with
            | false =>
              rw [c2, cond_false] at hq'
              cases hq'
            | true =>
              rw [c2, cond_true] at hq'
              simp only [Bool.and_eq_true] at c2
              obtain ⟨o1, o2, o3⟩ := c2
              have o1 := k_is_ev (σ := σ) o1
              have o2 := k_ge_ok h.2.1 h.2.2.1 o2
              have o3 := k_ge_ok h.2.1 h.2.2.1 o3
              rw [k_ev_sub, k_ev_add] at o3
              have ea : a = 364 := by omega
              have old := (kPtx_6 t2).mp old
              have keep : ∀ i : Nat, (i : Int) < k_ev σ q.1.2 → k_gi (pm_put M a j cl w) 364 (k_ev σ (k_vp q.1.1) / 8 + i).toNat = some (kSgb (kByt i (k_ev σ q.2))) := fun i hi => by
                rw [ne (by omega)]
                exact old i hi
              rcases List.mem_cons.mp hq' with rfl | hq'
              · exact same ((kPtx_6 t2).mpr keep) _ (List.mem_singleton.mpr rfl)
              · cases c3 : (k_eqS S s (k_add z.2 q.1.2) && k_vx6 S v q) with
                | false =>
                  rw [c3, cond_false] at hq'
                  cases hq'
                | true =>
                  rw [c3, cond_true] at hq'
                  rcases List.mem_singleton.mp hq' with rfl
                  obtain ⟨e1, e2⟩ := Bool.and_eq_true_iff.mp c3
                  have e1 := k_eqv_ok h.2.1 h.2.2.1 e1
                  rw [k_ev_add] at e1
                  unfold k_vx6 at e2
                  obtain ⟨e0, e2⟩ := Bool.and_eq_true_iff.mp e2
                  have e0 := k_ge_ok h.2.1 h.2.2.1 e0
                  split at e2
                  · rename_i y hy
                    have b := k_opc_ok h e0 hy
                    have hv : k_ev σ v = kSgb (kByt (k_ev σ q.1.2).toNat (k_ev σ q.2)) := by
                      rw [b]
                      unfold kSgb
                      rcases Bool.or_eq_true_iff.mp e2 with e2 | e2
                      · obtain ⟨f1, f2⟩ := Bool.and_eq_true_iff.mp e2
                        have f1 := k_ge_ok h.2.1 h.2.2.1 f1
                        have f2 := k_eqv_ok h.2.1 h.2.2.1 f2
                        rw [k_ev_sub, k_ev_c] at f1
                        rw [if_pos (by omega)]
                        exact f2
                      · obtain ⟨f1, f2⟩ := Bool.and_eq_true_iff.mp e2
                        have f1 := k_ge_ok h.2.1 h.2.2.1 f1
                        have f2 := k_eqv_ok h.2.1 h.2.2.1 f2
                        rw [k_ev_sub, k_ev_c] at f1 f2
                        rw [if_neg (by omega)]
                        exact f2
                    refine ⟨⟨sc.1, kSc_add sc.2.1 kSc_c, sc.2.2⟩, (k_t15 hz hn).mpr ((kPtx_6 t2).mpr fun i hi => ?_)⟩
                    have hi : (i : Int) < k_ev σ (k_add q.1.2 (kc 1)) := hi
                    rw [k_ev_add, k_ev_c] at hi
                    by_cases hij : (i : Int) = k_ev σ q.1.2
                    · have hi2 : (k_ev σ q.1.2).toNat = i := by omega
                      rw [hi2] at hv
                      rw [show (k_ev σ (k_vp q.1.1) / 8 + (i : Int)).toNat = j by omega]
                      show k_gi (pm_put M a j cl w) 364 j = some (kSgb (kByt i (k_ev σ q.2)))
                      rw [← hv, ← eq, ea]
                    · exact keep i (by omega)
                  · cases e2
end KTW
end
noncomputable section
/-- high bytes come apart from low ones -/
theorem k_brg_hi {S : kS} {j : kE} {z : Int × Int} (hz : z ∈ k_brg S j false) (h : ¬ z.2 < 128) : 128 ≤ z.1 := by
  have d2 : ∀ z ∈ ([(0, 127), (128, 255)] : List (Int × Int)), ¬ z.2 < 128 → 128 ≤ z.1 := by decide
  have d4 : ∀ z ∈ ([(0, 47), (58, 96), (123, 127), (128, 255)] : List (Int × Int)), ¬ z.2 < 128 → 128 ≤ z.1 := by decide
  have dl : ∀ z ∈ ([(97, 122)] : List (Int × Int)), ¬ z.2 < 128 → 128 ≤ z.1 := by decide
  have dd : ∀ z ∈ ([(48, 57)] : List (Int × Int)), ¬ z.2 < 128 → 128 ≤ z.1 := by decide
  unfold k_brg at hz
  cases c1 : k_brm S j 2 with
  | true =>
    rw [c1, cond_true] at hz
    exact dl z hz h
  | false =>
    rw [c1, cond_false] at hz
    cases c2 : k_brm S j 3 with
    | true =>
      rw [c2, cond_true] at hz
      exact dd z hz h
    | false =>
      rw [c2, cond_false] at hz
      split at hz
      · rename_i t ht
        cases c3 : k_wq (k_nv S.1 t) (kc 1) with
        | true =>
          rw [c3, cond_true] at hz
          exact dl z hz h
        | false =>
          rw [c3, cond_false] at hz
          cases c4 : k_wq (k_nv S.1 t) (kc 2) with
          | true =>
            rw [c4, cond_true] at hz
            exact dd z hz h
          | false =>
            rw [c4, cond_false] at hz
            cases c5 : k_wq (k_nv S.1 t) (kc 3) with
            | true =>
              rw [c5, cond_true] at hz
              exact d4 z hz h
            | false =>
              rw [c5, cond_false] at hz
              exact d2 z hz h
      · exact d2 z hz h
end
