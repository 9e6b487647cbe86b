noncomputable section
/-! the tape's text: entries read, looked up, made -/
def k_ts (c : kE) : Option (Nat × kE) := cond (decide (c.1 < 0) && (Nat.beq (k_vi c) 15 && (k_vok c && k_eq (k_add (k_mul 8 (k_dv 8 (k_sub (k_vp c) (kc ((k_vp c).1 % 8))))) (kc ((k_vp c).1 % 8))) (k_vp c)))) (some (((k_vp c).1 % 8).toNat, k_dv 8 (k_sub (k_vp c) (kc ((k_vp c).1 % 8))))) none
theorem k_ts_ok {σ : Nat → Int} {c : kE} {z : Nat × kE} (h : k_ts c = some z) : k_ev σ c = -((15 : Nat) + 16 * k_ev σ (k_vp c)) ∧ (k_ev σ (k_vp c) % 8).toNat = z.1 ∧ k_ev σ (k_vp c) / 8 = k_ev σ z.2 := by
  unfold k_ts at h
  obtain ⟨h1, h⟩ := pm_cs h
  cases h
  simp only [Bool.and_eq_true] at h1
  obtain ⟨-, h2, h3, h4⟩ := h1
  have e := k_eq_ok (σ := σ) h4
  rw [k_ev_add, k_ev_mul, k_ev_c] at e
  refine ⟨?_, ?_, ?_⟩
  · have := k_vok_ev (σ := σ) h3
    rw [pm_beq h2] at this
    exact this
  · show (k_ev σ (k_vp c) % 8).toNat = ((k_vp c).1 % 8).toNat
    congr 1
    omega
  · show k_ev σ (k_vp c) / 8 = k_ev σ (k_dv 8 (k_sub (k_vp c) (kc ((k_vp c).1 % 8))))
    omega
theorem k_ts_sc {n : Nat} {c : kE} {z : Nat × kE} (hc : kSc n c) (h : k_ts c = some z) : kSc n z.2 := by
  unfold k_ts at h
  obtain ⟨-, h⟩ := pm_cs h
  cases h
  exact k_dv_sc (kSc_sub (k_vp_sc hc) kSc_c)
/-- the entry a cell of this kind means -/
theorem k_t15 {N : kN} {M : pM} {σ : Nat → Int} {c : kE} {z : Nat × kE} {s v : Int} (h : k_ts c = some z) (hn : k_ev σ c < 0) : kHas N M (k_ev σ c) s v ↔ kPtx M (k_ev σ (k_vp c)) s v := by
  obtain ⟨a1, -, -⟩ := k_ts_ok (σ := σ) h
  constructor
  · intro hh
    exact kPhi_to (i := 15) a1 (by omega) (hh.2 hn)
  · intro hh
    exact ⟨fun h0 => by omega, fun _ => kPhi_of (i := 15) a1 (by omega) hh⟩
/-- the state's words -/
def k_tdx (S : kS) (c : kE) : Option (Nat × List kE) := match k_ts c with
  | none => none
  | some z => cond (Nat.blt z.1 3 && decide (k_hi S.1 c < 0)) (match k_fpw S (kTrd z.1) (k_sub z.2 (kc (kTof z.1))) with
    | none => none
    | some l => some (z.1, l.map (k_nv S.1))) none
/-- an entry of kind i, state ws, at s -/
def k_tde (S : kS) (c : kE) : Option (Nat × List kE) := Prod.rec (motive := fun _ => Option (Nat × List kE)) (fun b _ => k_tdx (b, [], [], []) c) S
theorem k_tde_eq (S : kS) (c : kE) : k_tde S c = k_tdx S c := by
  show k_tdx (S.1, [], [], []) c = k_tdx S c
  unfold k_tdx
  cases k_ts c with
  | none => rfl
  | some z =>
    dsimp only
    rw [k_fpw_b]
def kEn (M : pM) (i : Nat) (ws : List Int) (s v : Int) : Prop := ∃ k : Nat, (k : Int) = s ∧ kTV (kTt M) i ws k = v
theorem kEn.uq {M : pM} {i : Nat} {ws : List Int} {s v w : Int} (h1 : kEn M i ws s v) (h2 : kEn M i ws s w) : v = w := by
  obtain ⟨k, a1, a2⟩ := h1
  obtain ⟨l, b1, b2⟩ := h2
  have : k = l := by omega
  subst this
  rw [← a2, ← b2]
theorem kEn.to {M : pM} {i : Nat} {ws : List Int} {s v : Int} {p : Nat} (h : kEn M i ws s v) (hp : (p : Int) = s) : kTV (kTt M) i ws p = v := by
  obtain ⟨k, a1, a2⟩ := h
  have : k = p := by omega
  subst this
  exact a2
section KTC
variable {N : kN} {σ : Nat → Int} {S : kS} {M : pM}
theorem k_nv_map (hb : kBd σ S.1) (l : List kE) : (l.map (k_nv S.1)).map (k_ev σ) = l.map (k_ev σ) := by
  rw [List.map_map]
  exact List.map_congr_left fun w _ => k_nv_ok hb
theorem k_tde_ok (h : kRS N σ S M) {c : kE} {z : Nat × List kE} (hc : kSc S.1.length c) (hz : k_tde S c = some z) : z.1 < 3 ∧ (∀ w ∈ z.2, kSc S.1.length w) ∧ k_ev σ c < 0 ∧ ∀ s v : Int, kHas N M (k_ev σ c) s v ↔ kEn M z.1 (z.2.map (k_ev σ)) s v := by
  rw [k_tde_eq] at hz
  unfold k_tdx at hz
  split at hz
  · cases hz
  · rename_i y hy
    obtain ⟨g, hz⟩ := pm_cs hz
    obtain ⟨g1, g2⟩ := Bool.and_eq_true_iff.mp g
    have g1 := pm_blt g1
    have hn : k_ev σ c < 0 := by
      have := k_hi_ge h.2.1 c
      have := of_decide_eq_true g2
      omega
    split at hz
    · cases hz
    · rename_i l hl
      cases hz
      obtain ⟨a1, a2, a3⟩ := k_ts_ok (σ := σ) hy
      obtain ⟨b1, b2⟩ := k_fpw_ok h _ _ _ (kSc_sub (k_ts_sc hc hy) kSc_c) hl
      refine ⟨g1, fun w hw => ?_, hn, fun s v => ?_⟩
      · obtain ⟨w', hw', rfl⟩ := List.mem_map.mp hw
        exact k_nv_sc (b2 w' hw')
      · rw [k_t15 hy hn, kPtx_at a2 g1]
        show _ ↔ kEn M y.1 ((l.map (k_nv S.1)).map (k_ev σ)) s v
        rw [k_nv_map h.2.1, b1, k_ev_sub, k_ev_c, ← a3]
        exact Iff.rfl
/-- packed -/
def k_pak : List Int → List kE → kE
  | r :: t, w :: u => k_add w (k_mul r (k_pak t u))
  | [], [w] => w
  | _, _ => kc 0
def k_rgw (b : kB) : List Int → List kE → Bool
  | r :: t, w :: u => (decide (0 ≤ k_lo b w) && decide (k_hi b w < r)) && k_rgw b t u
  | [], [_] => true
  | _, _ => false
theorem k_pak_ok (hb : kBd σ S.1) : ∀ (rs : List Int) (ws : List kE), k_rgw S.1 rs ws = true → kFps rs (k_ev σ (k_pak rs ws)) = ws.map (k_ev σ)
  | [], [w], _ => rfl
  | r :: t, w :: u, hg => by
    unfold k_rgw at hg
    simp only [Bool.and_eq_true, decide_eq_true_eq] at hg
    obtain ⟨⟨g1, g2⟩, g3⟩ := hg
    have a1 := k_lo_le hb w
    have a2 := k_hi_ge hb w
    have ih := k_pak_ok hb t u g3
    show k_ev σ (k_add w (k_mul r (k_pak t u))) % r :: kFps t (k_ev σ (k_add w (k_mul r (k_pak t u))) / r) = k_ev σ w :: u.map (k_ev σ)
    rw [k_ev_add, k_ev_mul, Int.add_mul_emod_self_left, Int.emod_eq_of_lt (by omega) (by omega), Int.add_mul_ediv_left _ _ (by omega), Int.ediv_eq_zero_of_lt (by omega) (by omega), Int.zero_add, ih]
  | [], [], hg => by cases hg
  | [], _ :: _ :: _, hg => by cases hg
  | _ :: _, [], hg => by cases hg
def k_tmw (i : Nat) (ws : List kE) : kE := k_sub (kc (-15 - 16 * (i : Int))) (k_mul 128 (k_add (k_pak (kTrd i) ws) (kc (kTof i))))
def k_tmx (S : kS) (i : Nat) (ws : List kE) : Option kE := cond (k_rgw S.1 (kTrd i) ws && decide (k_hi S.1 (k_tmw i ws) < 0)) (some (k_tmw i ws)) none
def k_tmk (S : kS) (i : Nat) (ws : List kE) : Option kE := Prod.rec (motive := fun _ => Option kE) (fun b _ => k_tmx (b, [], [], []) i ws) S
theorem k_pak_sc {n : Nat} : ∀ (rs : List Int) (ws : List kE), (∀ w ∈ ws, kSc n w) → kSc n (k_pak rs ws)
  | r :: t, w :: u, h => kSc_add (h w List.mem_cons_self) (kSc_mul (k_pak_sc t u fun x hx => h x (List.mem_cons_of_mem _ hx)))
  | [], [w], h => h w List.mem_cons_self
  | [], [], _ => kSc_c
  | [], _ :: _ :: _, _ => kSc_c
  | _ :: _, [], _ => kSc_c
theorem k_tmk_ok (h : kRS N σ S M) {i : Nat} {ws : List kE} {c : kE} (hi : i < 3) (hs : ∀ w ∈ ws, kSc S.1.length w) (hz : k_tmk S i ws = some c) : kSc S.1.length c ∧ k_ev σ c < 0 ∧ ∀ s v : Int, kHas N M (k_ev σ c) s v ↔ kEn M i (ws.map (k_ev σ)) s v := by
  have hz : k_tmx S i ws = some c := hz
  unfold k_tmx at hz
  obtain ⟨g, hz⟩ := pm_cs hz
  cases hz
  obtain ⟨g1, g2⟩ := Bool.and_eq_true_iff.mp g
  have hn : k_ev σ (k_tmw i ws) < 0 := by
    have := k_hi_ge h.2.1 (k_tmw i ws)
    have := of_decide_eq_true g2
    omega
  have hp := k_pak_ok h.2.1 _ _ g1
  have e : k_ev σ (k_tmw i ws) = -((15 : Nat) + 16 * ((i : Int) + 8 * (k_ev σ (k_pak (kTrd i) ws) + kTof i))) := by
    unfold k_tmw
    rw [k_ev_sub, k_ev_c, k_ev_mul, k_ev_add, k_ev_c]
    omega
  have m8 : (((i : Int) + 8 * (k_ev σ (k_pak (kTrd i) ws) + kTof i)) % 8).toNat = i := by omega
  have d8 : ((i : Int) + 8 * (k_ev σ (k_pak (kTrd i) ws) + kTof i)) / 8 - kTof i = k_ev σ (k_pak (kTrd i) ws) := by omega
  refine ⟨kSc_sub kSc_c (kSc_mul (kSc_add (k_pak_sc _ _ hs) kSc_c)), hn, fun s v => ?_⟩
  have w : kPtx M ((i : Int) + 8 * (k_ev σ (k_pak (kTrd i) ws) + kTof i)) s v ↔ kEn M i (ws.map (k_ev σ)) s v := by
    rw [kPtx_at m8 hi]
    unfold kTd
    rw [d8, hp]
    exact Iff.rfl
  rw [← w]
  constructor
  · intro hh
    exact kPhi_to (i := 15) e (by omega) (hh.2 hn)
  · intro hh
    exact ⟨fun h0 => by omega, fun _ => kPhi_of (i := 15) e (by omega) hh⟩
/-- looked up: as written; the same cell; a cell the same by facts -/
def k_lk1 (S : kS) (c k : kE) (l : List kH) : Option kE := lfb (fun q => k_wq q.1.1 c && k_eqS S q.1.2 k) (fun q => q.2) l
def k_lkc (c d : kE) : Bool := k_vsf c d && !(k_cst c && k_cst d)
def k_lk2 (S : kS) (c k : kE) (l : List kH) : Option kE := lfb (fun q => k_lkc c q.1.1 && (k_eqS S q.1.1 c && k_eqS S q.1.2 k)) (fun q => q.2) l
def k_look (S : kS) (c k : kE) : Option kE := match k_find c k S.2.2.2 with
  | some v => some v
  | none => match k_lk1 S c k S.2.2.2 with
    | some v => some v
    | none => k_lk2 S c k S.2.2.2
theorem k_lk_go (h : kRS N σ S M) {c k : kE} {q : kH} (hq : q ∈ S.2.2.2) (e1 : k_ev σ q.1.1 = k_ev σ c) (e2 : k_ev σ q.1.2 = k_ev σ k) : kSc S.1.length q.2 ∧ kHas N M (k_ev σ c) (k_ev σ k) (k_ev σ q.2) := by
  rw [← e1, ← e2]
  exact ⟨(h.2.2.2.2.2.2.2 q hq).2.2, h.2.2.2.2.1 q hq⟩
theorem k_lk1_ok (h : kRS N σ S M) {c k v : kE} : ∀ l : List kH, (∀ q ∈ l, q ∈ S.2.2.2) → k_lk1 S c k l = some v → kSc S.1.length v ∧ kHas N M (k_ev σ c) (k_ev σ k) (k_ev σ v)
  | [], _, hv => by cases hv
  | q :: t, hl, hv => by
    unfold k_lk1 at hv
    rw [lfb_cons] at hv
    cases h1 : (k_wq q.1.1 c && k_eqS S q.1.2 k) with
    | true =>
      rw [h1, cond_true] at hv
      cases hv
      obtain ⟨a1, a2⟩ := Bool.and_eq_true_iff.mp h1
      exact k_lk_go h (hl q List.mem_cons_self) (by rw [k_wq_ok a1]) (k_eqv_ok h.2.1 h.2.2.1 a2)
    | false =>
      rw [h1, cond_false] at hv
      exact k_lk1_ok h t (fun q hq => hl q (List.mem_cons_of_mem _ hq)) hv
theorem k_lk2_ok (h : kRS N σ S M) {c k v : kE} : ∀ l : List kH, (∀ q ∈ l, q ∈ S.2.2.2) → k_lk2 S c k l = some v → kSc S.1.length v ∧ kHas N M (k_ev σ c) (k_ev σ k) (k_ev σ v)
  | [], _, hv => by cases hv
  | q :: t, hl, hv => by
    unfold k_lk2 at hv
    rw [lfb_cons] at hv
    cases h1 : (k_lkc c q.1.1 && (k_eqS S q.1.1 c && k_eqS S q.1.2 k)) with
    | true =>
      rw [h1, cond_true] at hv
      cases hv
      simp only [Bool.and_eq_true] at h1
      exact k_lk_go h (hl q List.mem_cons_self) (k_eqv_ok h.2.1 h.2.2.1 h1.2.1) (k_eqv_ok h.2.1 h.2.2.1 h1.2.2)
    | false =>
      rw [h1, cond_false] at hv
      exact k_lk2_ok h t (fun q hq => hl q (List.mem_cons_of_mem _ hq)) hv
theorem k_look_ok (h : kRS N σ S M) {c k v : kE} (hv : k_look S c k = some v) : kSc S.1.length v ∧ kHas N M (k_ev σ c) (k_ev σ k) (k_ev σ v) := by
  unfold k_look at hv
  split at hv
  · rename_i w hw
    cases hv
    exact k_lk_go (q := ((c, k), v)) h (k_find_in hw) rfl rfl
  · split at hv
    · rename_i w hw
      cases hv
      exact k_lk1_ok h _ (fun _ hq => hq) hw
    · exact k_lk2_ok h _ (fun _ hq => hq) hv
/-- what is known of a state at a place -/
def k_tl (S : kS) (i : Nat) (ws : List kE) (k : kE) : Option kE := match k_tmk S i ws with
  | some c => k_look S c k
  | none => none
theorem k_tl_ok (h : kRS N σ S M) {i : Nat} {ws : List kE} {k v : kE} (hi : i < 3) (hs : ∀ w ∈ ws, kSc S.1.length w) (hv : k_tl S i ws k = some v) : kSc S.1.length v ∧ kEn M i (ws.map (k_ev σ)) (k_ev σ k) (k_ev σ v) := by
  unfold k_tl at hv
  split at hv
  · rename_i c hc
    obtain ⟨a1, a2, a3⟩ := k_tmk_ok h hi hs hc
    obtain ⟨b1, b2⟩ := k_look_ok h hv
    exact ⟨b1, (a3 _ _).mp b2⟩
  · cases hv
def k_nwd (S : kS) : Option kE := k_find (kc 443) (kc 17) S.2.2.2
theorem k_nwd_ok (h : kRS N σ S M) {v : kE} (hv : k_nwd S = some v) : kSc S.1.length v ∧ k_ev σ v = (kTt M).2 := by
  have e := k_find_int h hv (by rw [k_ev_c]; omega)
  rw [k_ev_c, k_ev_c] at e
  refine ⟨k_find_sc h hv, ?_⟩
  show _ = (k_gi M 443 17).getD 0
  rw [show k_gi M 443 17 = some (k_ev σ v) from e.2.2]
  rfl
def k_btl (S : kS) (k : kE) (l : List kH) : Option kE := lfb (fun q => k_wq q.1.1 (kc 460) && k_eq0S S q.1.2 k) (fun q => q.2) l
theorem k_btl_ok (h : kRS N σ S M) {k v : kE} {p : Nat} (hp : (p : Int) = k_ev σ k) : ∀ l : List kH, (∀ q ∈ l, q ∈ S.2.2.2) → k_btl S k l = some v → kSc S.1.length v ∧ k_ev σ v = (kTt M).1 p
  | [], _, hv => by cases hv
  | q :: t, hl, hv => by
    unfold k_btl at hv
    rw [lfb_cons] at hv
    cases h1 : (k_wq q.1.1 (kc 460) && k_eq0S S q.1.2 k) with
    | true =>
      rw [h1, cond_true] at hv
      cases hv
      obtain ⟨a1, a2⟩ := Bool.and_eq_true_iff.mp h1
      have a1 := k_wq_ok a1
      have a2 := k_eq0_ok h.2.1 h.2.2.1 a2
      have hq := hl q List.mem_cons_self
      have e := (h.2.2.2.2.1 q hq).int (by rw [a1, k_ev_c]; omega)
      rw [a1, k_ev_c, a2, ← hp] at e
      refine ⟨(h.2.2.2.2.2.2.2 q hq).2.2, ?_⟩
      show _ = (k_gi M 460 p).getD 0
      have e := e.2.2
      rw [Int.toNat_natCast] at e
      rw [show k_gi M 460 p = some (k_ev σ q.2) from e]
      rfl
    | false =>
      rw [h1, cond_false] at hv
      exact k_btl_ok h hp t (fun q hq => hl q (List.mem_cons_of_mem _ hq)) hv
/-! rules -/
def k_sfl (A : Nat → Option kE) (l : List (Nat × Int)) : Option kE := List.rec (motive := fun _ => Option kE) (some (kc 0)) (fun q _ ih => match A q.1 with
    | none => none
    | some w => match ih with
      | none => none
      | some r => some (k_add (k_mul q.2 w) r)) l
theorem k_sfl_cons (A : Nat → Option kE) (q : Nat × Int) (t : List (Nat × Int)) : k_sfl A (q :: t) = match A q.1 with
    | none => none
    | some w => match k_sfl A t with
      | none => none
      | some r => some (k_add (k_mul q.2 w) r) := rfl
def k_sf (A : Nat → Option kE) (t : kE) : Option kE := match k_sfl A t.2 with
  | none => none
  | some r => some (k_add (kc t.1) r)
def k_nzw (S : kS) (y : kE) : Bool := (k_gsS S (k_sub y (kc 1)) || k_gsS S (k_sub (kc (-1)) y)) || lany (fun e => k_wq e y || k_wq e (k_ngw y)) S.2.2.1
def k_nzN (S : kS) (y : kE) : Bool := lany (fun e => k_wq e y || k_wq e (k_ngw y)) S.2.2.1
def k_tse (S : kS) (e : kE) : Option Bool := cond (k_nzN S e) (some false) (cond (k_gsS S e) (cond (k_gsS S (k_ngw e)) (some true) (cond (k_gsS S (k_sub e (kc 1))) (some false) none)) (cond (k_gsS S (k_sub (kc (-1)) e)) (some false) none))
def k_tst (S : kS) (b : Bool) (e : kE) : Option Bool := cond (k_cst e) (some (cond b (zz e.1) (znn e.1))) (cond b (k_tse S e)
  (cond (k_gsS S e) (some true) (cond (k_gsS S (k_sub (kc (-1)) e)) (some false) none)))
def k_ts1 (S : kS) (A : Nat → Option kE) (t : Bool × kE) : Option Bool := match k_sf A t.2 with
  | none => none
  | some e => k_tst S t.1 e
def k_rts (S : kS) (A : Nat → Option kE) (l : List (Bool × kE)) : Option Bool := List.rec (motive := fun _ => Option Bool) (some true) (fun t _ ih => match k_ts1 S A t with
    | some false => some false
    | some true => ih
    | none => match ih with
      | some false => some false
      | _ => none) l
theorem k_rts_cons (S : kS) (A : Nat → Option kE) (t : Bool × kE) (r : List (Bool × kE)) : k_rts S A (t :: r) = match k_ts1 S A t with
    | some false => some false
    | some true => k_rts S A r
    | none => match k_rts S A r with
      | some false => some false
      | _ => none := rfl
def k_rls (S : kS) (A : Nat → Option kE) (l : List kE) : Option (List kE) := List.rec (motive := fun _ => Option (List kE)) (some []) (fun w _ ih => match k_sf A w with
    | none => none
    | some e => match ih with
      | none => none
      | some r => some (k_nv S.1 e :: r)) l
theorem k_rls_cons (S : kS) (A : Nat → Option kE) (w : kE) (t : List kE) : k_rls S A (w :: t) = match k_sf A w with
    | none => none
    | some e => match k_rls S A t with
      | none => none
      | some r => some (k_nv S.1 e :: r) := rfl
def k_rul (S : kS) (A : Nat → Option kE) (z : Nat × List kE) (l : kRu) : Option (Nat × List kE) := List.rec (motive := fun _ => Option (Nat × List kE)) (some z) (fun r _ ih => match k_rts S A r.1 with
    | some true => (match k_rls S A r.2.2 with
      | none => none
      | some l => some (r.2.1, l))
    | some false => ih
    | none => none) l
theorem k_rul_cons (S : kS) (A : Nat → Option kE) (z : Nat × List kE) (r : List (Bool × kE) × (Nat × List kE)) (t : kRu) : k_rul S A z (r :: t) = match k_rts S A r.1 with
    | some true => (match k_rls S A r.2.2 with
      | none => none
      | some l => some (r.2.1, l))
    | some false => k_rul S A z t
    | none => none := rfl
section KTR
variable {A : Nat → Option kE} {ρ : Nat → Int}
theorem k_sfl_ok {n : Nat} (hA : ∀ a w, A a = some w → kSc n w ∧ k_ev σ w = ρ a) : ∀ (l : List (Nat × Int)) (e : kE), k_sfl A l = some e → kSc n e ∧ k_ev σ e = k_evl ρ l
  | [], e, he => by
    cases he
    exact ⟨kSc_c, k_ev_c σ 0⟩
  | q :: t, e, he => by
    rw [k_sfl_cons] at he
    split at he
    · cases he
    · rename_i w hw
      split at he
      · cases he
      · rename_i r hr
        cases he
        obtain ⟨a1, a2⟩ := hA _ _ hw
        obtain ⟨b1, b2⟩ := k_sfl_ok hA t r hr
        refine ⟨kSc_add (kSc_mul a1) b1, ?_⟩
        rw [k_ev_add, k_ev_mul, a2, b2]
        rfl
theorem k_sf_ok {n : Nat} (hA : ∀ a w, A a = some w → kSc n w ∧ k_ev σ w = ρ a) {t e : kE} (he : k_sf A t = some e) : kSc n e ∧ k_ev σ e = k_ev ρ t := by
  unfold k_sf at he
  split at he
  · cases he
  · rename_i r hr
    cases he
    obtain ⟨b1, b2⟩ := k_sfl_ok hA t.2 r hr
    refine ⟨kSc_add kSc_c b1, ?_⟩
    rw [k_ev_add, k_ev_c, b2]
    rfl
theorem k_nzw_ok (h : kRS N σ S M) {y : kE} (hz : k_nzw S y = true) : k_ev σ y ≠ 0 := by
  unfold k_nzw at hz
  simp only [Bool.or_eq_true] at hz
  rcases hz with (hz | hz) | hz
  · have := k_gs_ok h.2.1 h.2.2.1 hz
    rw [k_ev_sub, k_ev_c] at this
    omega
  · have := k_gs_ok h.2.1 h.2.2.1 hz
    rw [k_ev_sub, k_ev_c] at this
    omega
  · rw [lany_eq] at hz
    obtain ⟨e, he, hz⟩ := List.any_eq_true.mp hz
    have g := h.2.2.2.1 e he
    rcases Bool.or_eq_true_iff.mp hz with hz | hz
    · rw [← k_wq_ok hz]
      exact g
    · rw [k_wq_ok hz, k_ngw_eq, k_ev_mul] at g
      omega
theorem k_tse_ok (h : kRS N σ S M) {r : Bool} {e : kE} (he : k_tse S e = some r) : decide (k_ev σ e = 0) = r := by
  unfold k_tse at he
  cases c0 : k_nzN S e with
  | true =>
    rw [c0, cond_true] at he
    cases he
    exact decide_eq_false (k_nzw_ok h (show k_nzw S e = true by
      unfold k_nzw
      unfold k_nzN at c0
      rw [c0, Bool.or_true]))
  | false =>
    rw [c0, cond_false] at he
    cases c1 : k_gsS S e with
    | true =>
      rw [c1, cond_true] at he
      have g1 := k_gs_ok h.2.1 h.2.2.1 c1
      cases c2 : k_gsS S (k_ngw e) with
      | true =>
        rw [c2, cond_true] at he
        cases he
        have g2 := k_gs_ok h.2.1 h.2.2.1 c2
        rw [k_ngw_eq, k_ev_mul] at g2
        exact decide_eq_true (by omega)
      | false =>
        rw [c2, cond_false] at he
        obtain ⟨c3, he⟩ := pm_cs he
        cases he
        have g3 := k_gs_ok h.2.1 h.2.2.1 c3
        rw [k_ev_sub, k_ev_c] at g3
        exact decide_eq_false (by omega)
    | false =>
      rw [c1, cond_false] at he
      obtain ⟨c3, he⟩ := pm_cs he
      cases he
      have g3 := k_gs_ok h.2.1 h.2.2.1 c3
      rw [k_ev_sub, k_ev_c] at g3
      exact decide_eq_false (by omega)
theorem k_tst_ok (h : kRS N σ S M) {b r : Bool} {e : kE} (he : k_tst S b e = some r) : cond b (decide (k_ev σ e = 0)) (decide (0 ≤ k_ev σ e)) = r := by
  unfold k_tst at he
  cases c0 : k_cst e with
  | true =>
    rw [c0, cond_true] at he
    have ec := k_ev_const (σ := σ) c0
    rw [ec]
    cases b with
    | true =>
      rw [cond_true] at he ⊢
      rw [zz_eq] at he
      exact Option.some.inj he
    | false =>
      rw [cond_false] at he ⊢
      rw [znn_eq] at he
      exact Option.some.inj he
  | false =>
    rw [c0, cond_false] at he
    cases b with
    | true =>
      rw [cond_true] at he ⊢
      exact k_tse_ok h he
    | false =>
      rw [cond_false] at he ⊢
      cases c1 : k_gsS S e with
      | true =>
        rw [c1, cond_true] at he
        cases he
        exact decide_eq_true (k_gs_ok h.2.1 h.2.2.1 c1)
      | false =>
        rw [c1, cond_false] at he
        obtain ⟨c2, he⟩ := pm_cs he
        cases he
        have := k_gs_ok h.2.1 h.2.2.1 c2
        rw [k_ev_sub, k_ev_c] at this
        exact decide_eq_false (by omega)
theorem k_rts_ok (h : kRS N σ S M) {n : Nat} (hA : ∀ a w, A a = some w → kSc n w ∧ k_ev σ w = ρ a) : ∀ (ts : List (Bool × kE)) (b : Bool), k_rts S A ts = some b → ts.all (kFt1 ρ) = b
  | [], b, hb => by
    cases hb
    rfl
  | t :: r, b, hb => by
    have one : ∀ b' : Bool, k_ts1 S A t = some b' → kFt1 ρ t = b' := fun b' ht => by
      unfold k_ts1 at ht
      split at ht
      · cases ht
      · rename_i e he
        have g := k_tst_ok h ht
        obtain ⟨-, e2⟩ := k_sf_ok hA he
        rw [e2] at g
        exact g
    rw [k_rts_cons] at hb
    rw [List.all_cons]
    split at hb
    · rename_i ht
      cases hb
      rw [one _ ht]
      rfl
    · rename_i ht
      rw [one _ ht, k_rts_ok h hA r b hb]
      rfl
    · split at hb
      · rename_i hr
        cases hb
        rw [k_rts_ok h hA r false hr, Bool.and_false]
      · cases hb
theorem k_rls_ok (h : kRS N σ S M) (hA : ∀ a w, A a = some w → kSc S.1.length w ∧ k_ev σ w = ρ a) : ∀ (l r : List kE), k_rls S A l = some r → (∀ w ∈ r, kSc S.1.length w) ∧ r.map (k_ev σ) = l.map (k_ev ρ)
  | [], r, hr => by
    cases hr
    exact ⟨fun w hw => (by cases hw), rfl⟩
  | w :: t, r, hr => by
    rw [k_rls_cons] at hr
    split at hr
    · cases hr
    · rename_i e he
      split at hr
      · cases hr
      · rename_i r' hr'
        cases hr
        obtain ⟨a1, a2⟩ := k_sf_ok hA he
        obtain ⟨b1, b2⟩ := k_rls_ok h hA t r' hr'
        refine ⟨fun x hx => ?_, ?_⟩
        · rcases List.mem_cons.mp hx with rfl | hx
          · exact k_nv_sc a1
          · exact b1 x hx
        · rw [List.map_cons, List.map_cons, b2, k_nv_ok h.2.1, a2]
theorem k_rul_ok (h : kRS N σ S M) (hA : ∀ a w, A a = some w → kSc S.1.length w ∧ k_ev σ w = ρ a) {z : Nat × List kE} (hz : ∀ w ∈ z.2, kSc S.1.length w) : ∀ (g : kRu) (r : Nat × List kE), k_rul S A z g = some r → (∀ w ∈ r.2, kSc S.1.length w) ∧ kRuv ρ (z.1, z.2.map (k_ev σ)) g = (r.1, r.2.map (k_ev σ))
  | [], r, hr => by
    cases hr
    exact ⟨hz, rfl⟩
  | q :: t, r, hr => by
    rw [k_rul_cons] at hr
    show _ ∧ cond (q.1.all (kFt1 ρ)) (q.2.1, q.2.2.map (k_ev ρ)) (kRuv ρ (z.1, z.2.map (k_ev σ)) t) = _
    split at hr
    · rename_i ht
      rw [k_rts_ok h hA _ _ ht, cond_true]
      split at hr
      · cases hr
      · rename_i l hl
        cases hr
        obtain ⟨b1, b2⟩ := k_rls_ok h hA _ _ hl
        exact ⟨b1, by rw [b2]⟩
    · rename_i ht
      rw [k_rts_ok h hA _ _ ht, cond_false]
      exact k_rul_ok h hA hz t r hr
    · cases hr
end KTR
/-- bytes: what rules may ask -/
def k_eb (S : kS) (ws : List kE) (k : kE) : Nat → Option kE := fun i => cond (Nat.beq i 4) (match k_btl S k S.2.2.2 with
    | some b => some (k_nv S.1 b)
    | none => none) (cond (Nat.beq i 5) (some k) (cond (Nat.beq i 6) (k_nwd S) ws[i]?))
theorem k_gdm {ws : List kE} {i : Nat} {w : kE} (hw : ws[i]? = some w) : (ws.map (k_ev σ)).getD i 0 = k_ev σ w := by
  rw [List.getD_eq_getElem?_getD, List.getElem?_map, hw]
  rfl
theorem k_eb_ok (h : kRS N σ S M) {ws : List kE} {k : kE} {p : Nat} (hs : ∀ w ∈ ws, kSc S.1.length w) (hk : kSc S.1.length k) (hp : (p : Int) = k_ev σ k) : ∀ a w, k_eb S ws k a = some w → kSc S.1.length w ∧ k_ev σ w = kBe (kTt M) (ws.map (k_ev σ)) p a := by
  intro a w hw
  unfold k_eb at hw
  unfold kBe
  cases c1 : Nat.beq a 4 with
  | true =>
    rw [c1, cond_true] at hw
    rw [cond_true]
    split at hw
    · rename_i b hb
      cases hw
      obtain ⟨b1, b2⟩ := k_btl_ok h hp _ (fun _ hq => hq) hb
      exact ⟨k_nv_sc b1, (k_nv_ok h.2.1).trans b2⟩
    · cases hw
  | false =>
    rw [c1, cond_false] at hw
    rw [cond_false]
    cases c2 : Nat.beq a 5 with
    | true =>
      rw [c2, cond_true] at hw
      rw [cond_true]
      cases hw
      exact ⟨hk, hp.symm⟩
    | false =>
      rw [c2, cond_false] at hw
      rw [cond_false]
      cases c3 : Nat.beq a 6 with
      | true =>
        rw [c3, cond_true] at hw
        rw [cond_true]
        exact k_nwd_ok h hw
      | false =>
        rw [c3, cond_false] at hw
        rw [cond_false]
        exact ⟨hs w (List.mem_of_getElem? hw), (k_gdm hw).symm⟩
def k_rlb (S : kS) (z : Bool) (ws : List kE) (k : kE) : Option (Nat × List kE) := match ws with
  | [] => none
  | w :: t => cond (k_cst w && decide (0 ≤ w.1)) (k_rul S (k_eb S (w :: t) k) (0, [kc 0]) ((cond z kR0 kR1).getD w.1.toNat [])) none
theorem k_rlb_ok (h : kRS N σ S M) {z : Bool} {ws : List kE} {k : kE} {p : Nat} {r : Nat × List kE} (hs : ∀ w ∈ ws, kSc S.1.length w) (hk : kSc S.1.length k) (hp : (p : Int) = k_ev σ k) (hr : k_rlb S z ws k = some r) : (∀ w ∈ r.2, kSc S.1.length w) ∧ kBs (kTt M) z (ws.map (k_ev σ)) p = (r.1, r.2.map (k_ev σ)) := by
  unfold k_rlb at hr
  split at hr
  · cases hr
  · rename_i w t
    obtain ⟨g, hr⟩ := pm_cs hr
    obtain ⟨g1, g2⟩ := Bool.and_eq_true_iff.mp g
    obtain ⟨b1, b2⟩ := k_rul_ok h (k_eb_ok h hs hk hp) (z := (0, [kc 0])) (fun x hx => by rcases List.mem_singleton.mp hx with rfl; exact kSc_c) _ _ hr
    refine ⟨b1, ?_⟩
    unfold kBs
    rw [show ((w :: t).map (k_ev σ)).getD 0 0 = w.1 from k_ev_const g1]
    have e : [kc 0].map (k_ev σ) = [0] := by
      show [k_ev σ (kc 0)] = [0]
      rw [k_ev_c]
    rw [← b2, e]
/-- tokens: what rules may ask -/
def k_bix (S : kS) (o : Option kE) (i : Nat) : Option kE := match o with
  | none => none
  | some w => match k_spl S w (2 ^ i) with
    | none => none
    | some q => match k_spl S q.1 2 with
      | none => none
      | some r => some (k_nv S.1 r.2)
def k_bit (S : kS) (o : Option kE) (i : Nat) : Option kE := Prod.rec (motive := fun _ => Option kE) (fun b _ => k_bix (b, [], [], []) o i) S
theorem k_bit_ok (h : kRS N σ S M) {ws : List kE} {j i : Nat} {v : kE} (hs : ∀ w ∈ ws, kSc S.1.length w) (hv : k_bit S ws[j]? i = some v) : kSc S.1.length v ∧ k_ev σ v = (ws.map (k_ev σ)).getD j 0 / 2 ^ i % 2 := by
  have hv : k_bix S ws[j]? i = some v := hv
  unfold k_bix at hv
  split at hv
  · cases hv
  · rename_i w hw
    split at hv
    · cases hv
    · rename_i q hq
      split at hv
      · cases hv
      · rename_i r hr
        cases hv
        obtain ⟨a1, a2, a3, a4, a5⟩ := k_spl_ok h (hs w (List.mem_of_getElem? hw)) hq
        obtain ⟨b1, b2, b3, b4, b5⟩ := k_spl_ok h a4 hr
        refine ⟨k_nv_sc b5, ?_⟩
        rw [k_nv_ok h.2.1, k_gdm hw, a1, Int.add_comm, Int.add_mul_ediv_left _ _ (by omega), Int.ediv_eq_zero_of_lt a2 a3]
        omega
def k_ete (S : kS) (k : kE) : Option kE := k_tl S 0 [kc 1] k
/-- a token's value -/
def k_etw (S : kS) (k e : kE) : Option kE := match k_rlb S false [kc 1, e, kc 0, kc 0] k with
  | some (0, [w]) => cond (k_fiS S (-1) 549755813888 w) (some (k_nv S.1 w)) none
  | _ => none
def k_etv (S : kS) (k e : kE) : Option kE := match k_etw S k e with
  | some w => some w
  | none => match k_tl S 1 [kc 1, e, kc 0, kc 0] k with
    | some v => some (k_nv S.1 v)
    | none => none
def k_em (S : kS) (ws : List kE) (k : kE) : Nat → Option kE := fun i => cond (Nat.blt i 6) ws[i]? (cond (Nat.blt i 13) (k_bit S ws[3]? (i - 6)) (cond (Nat.blt i 19) (k_bit S ws[4]? (i - 13)) (cond (Nat.blt i 23) (k_bit S ws[5]? (i - 19))
  (cond (Nat.beq i 23) (match k_tl S 1 [kc 0, kc 0, kc 0, kc 0] k with
    | some t => some (k_nv S.1 t)
    | none => none)
  (cond (Nat.beq i 24) (match k_ete S k with
    | some e => k_etv S k e
    | none => none)
  (cond (Nat.beq i 25) (match k_ete S k with
    | some e => some (k_nv S.1 (k_sub e k))
    | none => none)
  (cond (Nat.beq i 26) (some k) (cond (Nat.beq i 27) (k_nwd S) (cond (Nat.beq i 28) (match k_ete S k with
    | some e => (match k_tl S 1 [kc 4, e, kc 0, kc 0] k with
      | some u => some (k_nv S.1 u)
      | none => none)
    | none => none) none)))))))))
theorem k_4sc {n : Nat} {a b c d : kE} (ha : kSc n a) (hb : kSc n b) (hc : kSc n c) (hd : kSc n d) : ∀ w ∈ [a, b, c, d], kSc n w := by
  intro w hw
  simp only [List.mem_cons, List.not_mem_nil, or_false] at hw
  rcases hw with rfl | rfl | rfl | rfl
  · exact ha
  · exact hb
  · exact hc
  · exact hd
theorem k_4ev {a c d : Int} {e : kE} : [kc a, e, kc c, kc d].map (k_ev σ) = [a, k_ev σ e, c, d] := by
  show [k_ev σ (kc a), k_ev σ e, k_ev σ (kc c), k_ev σ (kc d)] = _
  rw [k_ev_c, k_ev_c, k_ev_c]
theorem k_1ev {a : Int} : [kc a].map (k_ev σ) = [a] := by
  show [k_ev σ (kc a)] = _
  rw [k_ev_c]
theorem k_1sc {n : Nat} {a : Int} : ∀ w ∈ [kc a], kSc n w := fun w hw => by
  rcases List.mem_singleton.mp hw with rfl
  exact kSc_c
theorem k_ete_ok (h : kRS N σ S M) {k e : kE} {p : Nat} (hp : (p : Int) = k_ev σ k) (he : k_ete S k = some e) : kSc S.1.length e ∧ k_ev σ e = kBv (kTt M) true [1] p := by
  obtain ⟨a1, a2⟩ := k_tl_ok h (by omega) k_1sc he
  rw [k_1ev] at a2
  exact ⟨a1, (a2.to hp).symm⟩
theorem k_tl1_ok (h : kRS N σ S M) {m : Int} {k e v : kE} {p : Nat} (hp : (p : Int) = k_ev σ k) (he : kSc S.1.length e) (hv : k_tl S 1 [kc m, e, kc 0, kc 0] k = some v) : kSc S.1.length v ∧ k_ev σ v = kBv (kTt M) false [m, k_ev σ e, 0, 0] p := by
  obtain ⟨a1, a2⟩ := k_tl_ok h (by omega) (k_4sc kSc_c he kSc_c kSc_c) hv
  rw [k_4ev] at a2
  exact ⟨a1, (a2.to hp).symm⟩
theorem k_etv_ok (h : kRS N σ S M) {k e v : kE} {p : Nat} (hp4 : p ≤ 400) (hp : (p : Int) = k_ev σ k) (hk : kSc S.1.length k) (he : kSc S.1.length e) (hv : k_etv S k e = some v) : kSc S.1.length v ∧ k_ev σ v = kBv (kTt M) false [1, k_ev σ e, 0, 0] p := by
  unfold k_etv at hv
  split at hv
  · rename_i w hw
    cases hv
    unfold k_etw at hw
    split at hw
    · rename_i x hx
      obtain ⟨g, hw⟩ := pm_cs hw
      cases hw
      obtain ⟨b1, b2⟩ := k_rlb_ok h (k_4sc kSc_c he kSc_c kSc_c) hk hp hx
      rw [k_4ev] at b2
      have g := k_fit_ok h.2.1 h.2.2.1 g
      refine ⟨k_nv_sc (b1 x List.mem_cons_self), ?_⟩
      rw [k_nv_ok h.2.1, kBv_s0 hp4 b2]
      show k_ev σ x = kClp (-1) 549755813888 (k_ev σ x)
      rw [kClp_eq g.1 g.2]
    · cases hw
  · split at hv
    · rename_i u hu
      cases hv
      obtain ⟨b1, b2⟩ := k_tl1_ok h hp he hu
      exact ⟨k_nv_sc b1, (k_nv_ok h.2.1).trans b2⟩
    · cases hv
theorem k_em_ok (h : kRS N σ S M) {ws : List kE} {k : kE} {p : Nat} (hp4 : p ≤ 400) (hs : ∀ w ∈ ws, kSc S.1.length w) (hk : kSc S.1.length k) (hp : (p : Int) = k_ev σ k) : ∀ a w, k_em S ws k a = some w → kSc S.1.length w ∧ k_ev σ w = kMe (kTt M) (ws.map (k_ev σ)) p a := by
  intro a w hw
  unfold k_em at hw
  unfold kMe
  cases c1 : Nat.blt a 6 with
  | true =>
    rw [c1, cond_true] at hw
    rw [cond_true]
    exact ⟨hs w (List.mem_of_getElem? hw), (k_gdm hw).symm⟩
  | false =>
    rw [c1, cond_false] at hw
    rw [cond_false]
    cases c2 : Nat.blt a 13 with
    | true =>
      rw [c2, cond_true] at hw
      rw [cond_true]
      exact k_bit_ok h hs hw
    | false =>
      rw [c2, cond_false] at hw
      rw [cond_false]
      cases c3 : Nat.blt a 19 with
      | true =>
        rw [c3, cond_true] at hw
        rw [cond_true]
        exact k_bit_ok h hs hw
      | false =>
        rw [c3, cond_false] at hw
        rw [cond_false]
        cases c4 : Nat.blt a 23 with
        | true =>
          rw [c4, cond_true] at hw
          rw [cond_true]
          exact k_bit_ok h hs hw
        | false =>
          rw [c4, cond_false] at hw
          rw [cond_false]
          cases d1 : Nat.beq a 23 with
          | true =>
            rw [d1, cond_true] at hw
            rw [cond_true]
            split at hw
            · rename_i t ht
              cases hw
              obtain ⟨b1, b2⟩ := k_tl1_ok h hp kSc_c ht
              rw [k_ev_c] at b2
              exact ⟨k_nv_sc b1, (k_nv_ok h.2.1).trans b2⟩
            · cases hw
          | false =>
            rw [d1, cond_false] at hw
            rw [cond_false]
            cases d2 : Nat.beq a 24 with
            | true =>
              rw [d2, cond_true] at hw
              rw [cond_true]
              split at hw
              · rename_i e he
                obtain ⟨e1, e2⟩ := k_ete_ok h hp he
                rw [← e2]
                exact k_etv_ok h hp4 hp hk e1 hw
              · cases hw
            | false =>
              rw [d2, cond_false] at hw
              rw [cond_false]
              cases d3 : Nat.beq a 25 with
              | true =>
                rw [d3, cond_true] at hw
                rw [cond_true]
                split at hw
                · rename_i e he
                  cases hw
                  obtain ⟨e1, e2⟩ := k_ete_ok h hp he
                  refine ⟨k_nv_sc (kSc_sub e1 hk), ?_⟩
                  rw [k_nv_ok h.2.1, k_ev_sub, e2, hp]
                · cases hw
              | false =>
                rw [d3, cond_false] at hw
                rw [cond_false]
                cases d4 : Nat.beq a 26 with
                | true =>
                  rw [d4, cond_true] at hw
                  rw [cond_true]
                  cases hw
                  exact ⟨hk, hp.symm⟩
                | false =>
                  rw [d4, cond_false] at hw
                  rw [cond_false]
                  cases d5 : Nat.beq a 27 with
                  | true =>
                    rw [d5, cond_true] at hw
                    rw [cond_true]
                    exact k_nwd_ok h hw
                  | false =>
                    rw [d5, cond_false] at hw
                    rw [cond_false]
                    obtain ⟨-, hw⟩ := pm_cs hw
                    split at hw
                    · rename_i e he
                      obtain ⟨e1, e2⟩ := k_ete_ok h hp he
                      split at hw
                      · rename_i u hu
                        cases hw
                        obtain ⟨b1, b2⟩ := k_tl1_ok h hp e1 hu
                        rw [← e2]
                        exact ⟨k_nv_sc b1, (k_nv_ok h.2.1).trans b2⟩
                      · cases hw
                    · cases hw
def k_rlm (S : kS) (ws : List kE) (k : kE) : Option (Nat × List kE) := match ws with
  | [] => none
  | w :: t => cond (k_cst w && decide (0 ≤ w.1)) (k_rul S (k_em S (w :: t) k) (0, [k]) (kR2.getD w.1.toNat [])) none
theorem k_rlm_ok (h : kRS N σ S M) {ws : List kE} {k : kE} {p : Nat} {r : Nat × List kE} (hp4 : p ≤ 400) (hs : ∀ w ∈ ws, kSc S.1.length w) (hk : kSc S.1.length k) (hp : (p : Int) = k_ev σ k) (hr : k_rlm S ws k = some r) : (∀ w ∈ r.2, kSc S.1.length w) ∧ kMs (kTt M) (ws.map (k_ev σ)) p = (r.1, r.2.map (k_ev σ)) := by
  unfold k_rlm at hr
  split at hr
  · cases hr
  · rename_i w t
    obtain ⟨g, hr⟩ := pm_cs hr
    obtain ⟨g1, g2⟩ := Bool.and_eq_true_iff.mp g
    obtain ⟨b1, b2⟩ := k_rul_ok h (k_em_ok h hp4 hs hk hp) (z := (0, [k])) (fun x hx => by rcases List.mem_singleton.mp hx with rfl; exact hk) _ _ hr
    refine ⟨b1, ?_⟩
    unfold kMs
    rw [show ((w :: t).map (k_ev σ)).getD 0 0 = w.1 from k_ev_const g1, ← b2, hp]
    rfl
def k_rl (S : kS) (i : Nat) (ws : List kE) (k : kE) : Option (Nat × List kE) := cond (Nat.blt i 2) (k_rlb S (Nat.beq i 0) ws k) (k_rlm S ws k)
theorem k_rl_ok (h : kRS N σ S M) {i : Nat} {ws : List kE} {k : kE} {p : Nat} {r : Nat × List kE} (hp4 : p ≤ 400) (hs : ∀ w ∈ ws, kSc S.1.length w) (hk : kSc S.1.length k) (hp : (p : Int) = k_ev σ k) (hr : k_rl S i ws k = some r) : (∀ w ∈ r.2, kSc S.1.length w) ∧ kTs (kTt M) i (ws.map (k_ev σ)) p = (r.1, r.2.map (k_ev σ)) := by
  match i, hr with
  | 0, hr => exact k_rlb_ok (z := true) h hs hk hp hr
  | 1, hr => exact k_rlb_ok (z := false) h hs hk hp hr
  | i + 2, hr => exact k_rlm_ok h hp4 hs hk hp hr
end KTC
end
