noncomputable section
/-! 461: a sign: what it leaves pending -/
section KSG
variable {N : kN} {σ : Nat → Int} {S : kS} {M : pM} {c j : kE} {a i : Nat} {q : pC} {L : List (kE × kS)}
def k_dgbS (S : kS) (r : Int) : kE := (k_new S 0 (r - 1)).1
def k_dgy (S : kS) (u : Nat) (r : Int) : kE := (k_new (k_new S 0 (r - 1)).2 0 (k_hi S.1 (kv u) / r)).1
theorem k_dgw_ok (h : kRS N σ S M) {u : Nat} {r : Int} (hu : u < S.1.length) (hr : 0 < r) (h0 : 0 ≤ k_ev σ (kv u)) : ∃ υ, kAgr S.1.length σ υ ∧ S.1.length ≤ (k_dgs S u r).1.length ∧ kRS N υ (k_dgs S u r) M ∧ (k_ev υ (k_dgbS S r) = k_ev σ (kv u) % r ∧ k_ev υ (k_dgy S u r) = k_ev σ (kv u) / r) ∧ kSc (k_dgs S u r).1.length (k_dgbS S r) ∧ kSc (k_dgs S u r).1.length (k_dgy S u r) := by
  have m1 := Int.emod_nonneg (k_ev σ (kv u)) (b := r) (by omega)
  have m2 := Int.emod_lt_of_pos (k_ev σ (kv u)) hr
  obtain ⟨τ, t1, t2, t3, t4, t5⟩ := k_new_ok (lo := 0) (hi := r - 1) (x := k_ev σ (kv u) % r) h m1 (by omega)
  have d1 : 0 ≤ k_ev σ (kv u) / r := Int.ediv_nonneg h0 (by omega)
  have d2 : k_ev σ (kv u) / r ≤ k_hi S.1 (kv u) / r := Int.ediv_le_ediv hr (k_hi_ge h.2.1 (kv u))
  obtain ⟨υ, u1, u2, u3, u4, u5⟩ := k_new_ok (lo := 0) (hi := k_hi S.1 (kv u) / r) (x := k_ev σ (kv u) / r) t3 d1 d2
  have su : kSc S.1.length (kv u) := kSc_v hu
  have ag : kAgr S.1.length σ υ := fun a ha => (u1 a (by omega)).trans (t1 a ha)
  have eu : k_ev υ (kv u) = k_ev σ (kv u) := k_ev_agree ag su
  have ex : k_ev υ (k_new S 0 (r - 1)).1 = k_ev σ (kv u) % r := (k_ev_agree u1 t5).trans t4
  refine ⟨υ, ag, Nat.le_trans t2 u2, ?_, ⟨ex, u4⟩, t5.mono u2, u5⟩
  refine k_sbS_ok u3 (kSc_add (t5.mono u2) (kSc_mul u5)) (by omega) ?_
  rw [k_ev_add, k_ev_mul, ex, u4, eu]
  have := Int.emod_add_mul_ediv (k_ev σ (kv u)) r
  omega
/-- a word that is one unknown -/
def k_unk (e : kE) : Option Nat := match e.2 with
  | [q] => cond (zz e.1 && decide (q.2 = 1)) (some q.1) none
  | _ => none
theorem k_unk_ok {e : kE} {u : Nat} (h : k_unk e = some u) : e = kv u := by
  obtain ⟨z, l⟩ := e
  unfold k_unk at h
  split at h
  · rename_i q hq
    obtain ⟨g, h⟩ := pm_cs h
    cases h
    obtain ⟨g1, g2⟩ := Bool.and_eq_true_iff.mp g
    rw [zz_eq] at g1
    have g1 := of_decide_eq_true g1
    have g2 := of_decide_eq_true g2
    obtain ⟨qa, qk⟩ := q
    have g1 : z = 0 := g1
    have g2 : qk = 1 := g2
    have hq : l = [(qa, qk)] := hq
    rw [g1, hq, g2]
    rfl
  · cases h
def k_sg1 (T : kS) (c j n P : kE) : kE × kS := ((k_new T 0 11).1, k_put (k_put (k_put (k_mem (k_new T 0 11).2 (k_fop 6 (kc 0)) (k_new T 0 11).1 0 (kPw 4096 - 1)).2 ((kc (-6015), k_add j (kc 1)), k_add (k_mem (k_new T 0 11).2 (k_fop 6 (kc 0)) (k_new T 0 11).1 0 (kPw 4096 - 1)).1 (k_mul (kPw 4096) P))) ((kc (-3), k_add j (kc 1)), k_add n (kc 1))) ((c, j), (k_new T 0 11).1))
def k_sgA (S : kS) (c j n P : kE) : List (kE × kS) := match k_asm S (k_sub (kc 198) n) with
  | none => []
  | some T => [k_sg1 T c j n P]
/-- a 'most': x how many, l the least, L the list, X what it means -/
def k_sg2 (U : kS) (c j n P x : kE) (l : kE × kS) (Lw : kE × kS) (X : kE × kS) : kE × kS := (kc 30, k_put (k_put (k_put (k_put (k_put (k_put X.2 ((k_tc (-8063) (k_add j (kc 3)), k_add (k_add j (kc 3)) x), Lw.1)) ((kc (-6015), k_add (k_add j (kc 3)) x), k_add X.1 (k_mul (kPw 4096) P))) ((kc (-3), k_add (k_add j (kc 3)) x), k_add n (kc 1))) ((c, k_add j (kc 2)), x)) ((c, k_add j (kc 1)), l.1)) ((c, j), kc 30))
def k_sg3 (U : kS) (c j n P x : kE) (l : kE × kS) : kE × kS := k_sg2 U c j n P x l (k_new l.2 0 (kPw 48 - 1)) (k_mem (k_new l.2 0 (kPw 48 - 1)).2 (k_ff7 2 (kc 0)) (k_add l.1 (k_mul 16 (k_new l.2 0 (kPw 48 - 1)).1)) 0 (kPw 4096 - 1))
def k_sgB (S : kS) (c j n P z : kE) : List (kE × kS) := match k_asm S (k_sub (kc 198) n) with
  | none => []
  | some T => (match k_asm (k_new T 0 12).2 (k_sub (k_sub z (k_add j (kc 3))) (k_new T 0 12).1) with
    | none => []
    | some U => [k_sg3 U c j n P (k_new T 0 12).1 (k_new U 0 12)])
def k_sgC (S : kS) (c j n : kE) (u : Nat) : List (kE × kS) := match k_asm S (k_sub n (kc 1)) with
  | none => []
  | some T => [(kc 20, k_put (k_put (k_put (k_dgs T u (kPw 4096)) ((kc (-6015), k_add j (kc 1)), k_add (k_sub (k_add (k_dgbS T (kPw 4096)) (k_mul (kPw 4096) (k_dgy T u (kPw 4096)))) (k_mul 2 (k_dgbS T (kPw 4096)))) (kc (kPw 4096 - 1)))) ((kc (-3), k_add j (kc 1)), n)) ((c, j), kc 20))]
/-- b the top, d the second, r the rest -/
def k_sg5 (c j n r : kE) (x : Int) (X : kE × kS) : kE × kS := (kc x, k_put (k_put (k_put X.2 ((kc (-6015), k_add j (kc 1)), k_add X.1 (k_mul (kPw 4096) r))) ((kc (-3), k_add j (kc 1)), k_sub n (kc 1))) ((c, j), kc x))
def k_sg4 (T : kS) (c j n b d r : kE) : List (kE × kS) := [k_sg5 c j n r 21 (k_mem T (k_fop 4 d) b 0 (kPw 4096 - 1)), k_sg5 c j n r 22 (k_mem T (k_fop 5 d) b 0 (kPw 4096 - 1)), k_sg5 c j n r 23 (k_mem T (k_fop 4 d) (k_sub (kc (kPw 4096 - 1)) b) 0 (kPw 4096 - 1))]
def k_sgE (T : kS) (c j n b y : kE) : List (kE × kS) := match k_unk y with
  | none => []
  | some w => k_sg4 (k_dgs T w (kPw 4096)) c j n b (k_dgbS T (kPw 4096)) (k_dgy T w (kPw 4096))
def k_sgD (S : kS) (c j n : kE) (u : Nat) : List (kE × kS) := match k_asm S (k_sub n (kc 2)) with
  | none => []
  | some T => k_sgE (k_dgs T u (kPw 4096)) c j n (k_dgbS T (kPw 4096)) (k_dgy T u (kPw 4096))
def k_sgk (S : kS) (n : kE) (u : Nat) : Bool := match k_asm S (k_sub n (kc 2)) with
  | none => true
  | some T => k_iso (k_unk (k_dgy T u (kPw 4096)))
def k_sgr (S : kS) (j : kE) (q : kH) : Option kE := match k_ttq S 5 q with
  | some _ => cond (k_eqS S q.1.2 j) (some q.2) none
  | none => none
def k_sgv (S : kS) (c j : kE) : Option (List (kE × kS)) := match S.2.2.2.find? (fun q => k_is q.1.1 (-3) && k_eqv S.1 S.2.1 q.1.2 j) with
  | none => none
  | some me => (match S.2.2.2.find? (fun q => k_is q.1.1 (-3) && k_ge S.1 S.2.1 (k_sub (k_sub q.1.2 j) (kc 1))) with
    | none => none
    | some fa => (match lfo (k_sgr S j) S.2.2.2 with
      | none => none
      | some P => (match k_unk P with
        | none => none
        | some u => cond (k_iso (lfo (k_sgr S fa.1.2) S.2.2.2) && (decide (0 ≤ k_lo S.1 P) && k_sgk S me.2 u)) (some (k_sgA S c j me.2 P ++ (k_sgB S c j me.2 P fa.1.2 ++ (k_sgC S c j me.2 u ++ k_sgD S c j me.2 u)))) none)))
theorem k_sgr_ok (h : kRS N σ S M) {P : kE} (hv : lfo (k_sgr S j) S.2.2.2 = some P) : kSc S.1.length P ∧ ∃ t k n : Nat, (k : Int) = k_ev σ j ∧ kRp M t = some (k, k_ev σ P, n) := by
  obtain ⟨p, hp, hv⟩ := lfo_in hv
  unfold k_sgr at hv
  split at hv
  · rename_i y hy
    obtain ⟨g, hv⟩ := pm_cs hv
    cases hv
    obtain ⟨-, t, k, n, k1, k2⟩ := k_ttq_ok h hp hy
    exact ⟨(h.2.2.2.2.2.2.2 p hp).2.2, t, k, n, k1.trans (k_eqv_ok h.2.1 h.2.2.1 g), k2⟩
  · cases hv
/-- the entries that a sign leaves: pending sets at the next place -/
theorem kHas_rp {t k n : Nat} {P x y : Int} (h : kRp M t = some (k, P, n)) (hx : (k : Int) = x) (hy : P = y) : kHas N M (-6015) x y := (k_tth (k := 5) (y := 0) (by omega) (by omega) (by omega)).mpr ⟨t, k, n, hx, by rw [← hy]; exact h⟩
theorem kHas_z3 {t k n : Nat} {P x y : Int} (h : kRp M t = some (k, P, n)) (hx : (k : Int) = x) (hy : (n : Int) = y) : kHas N M (-3) x y := kHas_3 (kRp.zi h) hx hy
theorem k_sgv_ok (h : kRS N σ S M) (hc : kSc S.1.length c) (hs : kSc S.1.length j) (ha : (a : Int) = k_ev σ c) (ha2 : a = 461) (hj : (i : Int) = k_ev σ j) (hq : M[a]? = some q) (hr : k_sgv S c j = some L) : kRdd N σ S M q i L := by
  unfold k_sgv at hr
  split at hr
  · cases hr
  · rename_i me hme
    split at hr
    · cases hr
    · rename_i fa hfa
      split at hr
      · cases hr
      · rename_i P hP
        split at hr
        · cases hr
        · rename_i u hu
          obtain ⟨g, hr⟩ := pm_cs hr
          cases hr
          simp only [Bool.and_eq_true] at g
          obtain ⟨g1, g2, g3⟩ := g
          have g2 := of_decide_eq_true g2
          have eP := k_unk_ok hu
          have hin1 := List.mem_of_find?_eq_some hme
          have hin2 := List.mem_of_find?_eq_some hfa
          have f1 := List.find?_some hme
          have f2 := List.find?_some hfa
          obtain ⟨f1, f3⟩ := Bool.and_eq_true_iff.mp f1
          obtain ⟨f2, f4⟩ := Bool.and_eq_true_iff.mp f2
          have e3 := k_eqv_ok h.2.1 h.2.2.1 f3
          have e4 := k_ge_ok h.2.1 h.2.2.1 f4
          rw [k_ev_sub, k_ev_sub, k_ev_c] at e4
          obtain ⟨t1, k1, a1, a2⟩ : ∃ t k : Nat, (k : Int) = k_ev σ me.1.2 ∧ kZi M t = some (k, k_ev σ me.2) := kHas_3' (c := me.1.1) (s := me.1.2) (v := me.2) h hin1 f1
          obtain ⟨sP, t2, k2, n2, b1, b2⟩ := k_sgr_ok h hP
          have hk1 : k1 = i := by omega
          have hk2 : k2 = i := by omega
          rw [hk1] at a2
          rw [hk2] at b2
          have en : (n2 : Int) = k_ev σ me.2 := kZi_uq (kRp.zi b2) a2
          cases hf : lfo (k_sgr S fa.1.2) S.2.2.2 with
          | none =>
            rw [hf] at g1
            cases g1
          | some P3 =>
            obtain ⟨-, t3, k3, n3, c1, c2⟩ := k_sgr_ok h hf
            obtain ⟨p, p1, p2, p3⟩ := kRp_nx b2 c2 (by show i < k3; omega)
            have p3 : p.1 ≤ k3 := p3
            have sn := (h.2.2.2.2.2.2.2 _ hin1).2.2
            have sz := (h.2.2.2.2.2.2.2 _ hin2).2.1
            have P0 : 0 ≤ k_ev σ P := (kRp.rg b2).1
            have hu1 : u < S.1.length := by
              rw [eP] at sP
              exact sP (u, 1) List.mem_cons_self
            have hb := kPw_pos 4096
            obtain ⟨x, hx, hcs⟩ := kRs.to p1
            have hx : k_gi M 461 i = some x := hx
            subst ha2
            obtain ⟨w, w1, w2⟩ := k_gi_at hx hq
            refine ⟨w, x, w1, w2, ?_⟩
            rcases hcs with ⟨x0, x1, m1, rfl⟩ | ⟨rfl, m1, rfl⟩ | ⟨x0, x1, m1, rfl⟩ | ⟨rfl, m1, l, y, Ls, hl, hy, l0, l1, y0, y1, hL, rfl⟩
            · -- a fact
              have m1 : n2 ≤ 198 := m1
              obtain ⟨T, z1, z2, z3⟩ := k_asm_ok h (e := k_sub (kc 198) me.2) (kSc_sub kSc_c sn) (by rw [k_ev_sub, k_ev_c]; omega)
              obtain ⟨τ, y1, y2, y3, y4, y5⟩ := k_new_ok z3 (x := x) (lo := 0) (hi := 11) x0 x1
              rw [z2] at y1 y2
              have rg := kFct_rg x
              obtain ⟨υ, v1, v2, v3, v4, v5⟩ := k_mef_ok (o := 6) (x := kc 0) (k := (k_new T 0 11).1) (lo := 0) (hi := kPw 4096 - 1) y3 kSc_c y5 (by omega) (by omega) (by rw [k_ev_c]; omega) (by rw [kLf2_6, y4]; exact rg.1) (by rw [kLf2_6, y4, kPw_bg]; omega)
              rw [kLf2_6, y4] at v4
              have v2' : S.1.length ≤ (k_mem (k_new T 0 11).2 (k_fop 6 (kc 0)) (k_new T 0 11).1 0 (kPw 4096 - 1)).2.1.length := Nat.le_trans y2 v2
              have ag : kAgr S.1.length σ υ := fun b hb' => (v1 b (Nat.lt_of_lt_of_le hb' y2)).trans (y1 b hb')
              have ex : k_ev υ (k_new T 0 11).1 = x := (k_ev_agree v1 y5).trans y4
              refine kGot.app (L := k_sgA S c j me.2 P) ?_ fun _ hz => List.mem_append_left _ hz
              unfold k_sgA
              rw [z1]
              refine kGot.to (List.mem_singleton.mpr rfl) ag v2' (kRS_put (kRS_put (kRS_put v3 ⟨kSc_c, kSc_add (hs.mono v2') kSc_c, kSc_add v5 (kSc_mul (sP.mono v2'))⟩ ?_) ⟨kSc_c, kSc_add (hs.mono v2') kSc_c, kSc_add (sn.mono v2') kSc_c⟩ ?_) ⟨hc.mono v2', hs.mono v2', y5.mono v2⟩ ?_) ex (y5.mono v2)
              · show kHas N M (k_ev υ (kc (-6015))) (k_ev υ (k_add j (kc 1))) (k_ev υ (k_add _ (k_mul (kPw 4096) P)))
                rw [k_ev_c, k_ev_add, k_ev_add, k_ev_mul, k_ev_c, v4, k_ev_agree ag hs, k_ev_agree ag sP, kPw_bg]
                exact kHas_rp p2 (by show ((i + 1 : Nat) : Int) = _; omega) rfl
              · show kHas N M (k_ev υ (kc (-3))) (k_ev υ (k_add j (kc 1))) (k_ev υ (k_add me.2 (kc 1)))
                rw [k_ev_c, k_ev_add, k_ev_add, k_ev_c, k_ev_agree ag hs, k_ev_agree ag sn]
                exact kHas_z3 p2 (by show ((i + 1 : Nat) : Int) = _; omega) (by show ((n2 + 1 : Nat) : Int) = _; omega)
              · show kHas N M (k_ev υ c) (k_ev υ j) (k_ev υ (k_new T 0 11).1)
                rw [ex, k_ev_agree ag hs, k_ev_agree ag hc]
                exact kHas_at ha hj hq w1 w2
            · -- 20
              have m1 : 1 ≤ n2 := m1
              obtain ⟨T, z1, z2, z3⟩ := k_asm_ok h (e := k_sub me.2 (kc 1)) (kSc_sub sn kSc_c) (by rw [k_ev_sub, k_ev_c]; omega)
              obtain ⟨υ, v1, v2, v3, ⟨v4, v5⟩, v6, v7⟩ := k_dgw_ok (u := u) (r := kPw 4096) z3 (by omega) hb (by rw [← eP]; exact P0)
              rw [z2] at v1 v2
              rw [← eP] at v4 v5
              refine kGot.app (L := k_sgC S c j me.2 u) ?_ fun _ hz => List.mem_append_right _ (List.mem_append_right _ (List.mem_append_left _ hz))
              unfold k_sgC
              rw [z1]
              refine kGot.to (List.mem_singleton.mpr rfl) v1 v2 (kRS_put (kRS_put (kRS_put v3 ⟨kSc_c, kSc_add (hs.mono v2) kSc_c, kSc_add (kSc_sub (kSc_add v6 (kSc_mul v7)) (kSc_mul v6)) kSc_c⟩ ?_) ⟨kSc_c, kSc_add (hs.mono v2) kSc_c, sn.mono v2⟩ ?_) ⟨hc.mono v2, hs.mono v2, kSc_c⟩ ?_) (k_ev_c _ _) kSc_c
              · show kHas N M (k_ev υ (kc (-6015))) (k_ev υ (k_add j (kc 1))) (k_ev υ (k_add (k_sub (k_add (k_dgbS T (kPw 4096)) (k_mul (kPw 4096) (k_dgy T u (kPw 4096)))) (k_mul 2 (k_dgbS T (kPw 4096)))) (kc (kPw 4096 - 1))))
                rw [k_ev_c, k_ev_add, k_ev_add, k_ev_sub, k_ev_add, k_ev_mul, k_ev_mul, k_ev_c, k_ev_c, v4, v5, k_ev_agree v1 hs, Int.emod_add_mul_ediv, kPw_bg]
                exact kHas_rp p2 (by show ((i + 1 : Nat) : Int) = _; omega) rfl
              · show kHas N M (k_ev υ (kc (-3))) (k_ev υ (k_add j (kc 1))) (k_ev υ me.2)
                rw [k_ev_c, k_ev_add, k_ev_c, k_ev_agree v1 hs, k_ev_agree v1 sn]
                exact kHas_z3 p2 (by show ((i + 1 : Nat) : Int) = _; omega) en
              · show kHas N M (k_ev υ c) (k_ev υ j) (k_ev υ (kc 20))
                rw [k_ev_c, k_ev_agree v1 hs, k_ev_agree v1 hc]
                exact kHas_at ha hj hq w1 w2
            · -- 21 to 23
              have m1 : 2 ≤ n2 := m1
              obtain ⟨T, z1, z2, z3⟩ := k_asm_ok h (e := k_sub me.2 (kc 2)) (kSc_sub sn kSc_c) (by rw [k_ev_sub, k_ev_c]; omega)
              obtain ⟨υ, v1, v2, v3, ⟨v4, v5⟩, v6, v7⟩ := k_dgw_ok (u := u) (r := kPw 4096) z3 (by omega) hb (by rw [← eP]; exact P0)
              rw [← eP] at v4 v5
              refine kGot.app (L := k_sgD S c j me.2 u) ?_ fun _ hz => List.mem_append_right _ (List.mem_append_right _ (List.mem_append_right _ hz))
              unfold k_sgD
              rw [z1]
              dsimp only
              unfold k_sgE
              cases hy : k_unk (k_dgy T u (kPw 4096)) with
              | none =>
                unfold k_sgk at g3
                rw [z1] at g3
                dsimp only at g3
                rw [hy] at g3
                cases g3
              | some d0 =>
                dsimp only
                have ey := k_unk_ok hy
                have hd1 : d0 < (k_dgs T u (kPw 4096)).1.length := by
                  have s7 := v7
                  rw [ey] at s7
                  exact s7 (d0, 1) List.mem_cons_self
                obtain ⟨ρ, r1, r2, r3, ⟨r4, r5⟩, r6, r7⟩ := k_dgw_ok (u := d0) (r := kPw 4096) v3 hd1 hb (by rw [← ey, v5]; exact Int.ediv_nonneg P0 (by omega))
                rw [← ey, v5] at r4 r5
                have l1 : S.1.length ≤ (k_dgs (k_dgs T u (kPw 4096)) d0 (kPw 4096)).1.length := by omega
                have ag : kAgr S.1.length σ ρ := fun b hb' => (r1 b (by omega)).trans (v1 b (by omega))
                have eb : k_ev ρ (k_dgbS T (kPw 4096)) = k_ev σ P % kPw 4096 := (k_ev_agree r1 v6).trans v4
                have sb := v6.mono r2
                have q1 := kPm (k_ev σ P)
                have q2 := kPm (k_ev σ P / kBg)
                generalize k_dgs (k_dgs T u (kPw 4096)) d0 (kPw 4096) = W at r3 r6 r7 sb l1 ⊢
                generalize k_dgbS (k_dgs T u (kPw 4096)) (kPw 4096) = dd at r4 r6 ⊢
                generalize k_dgy (k_dgs T u (kPw 4096)) d0 (kPw 4096) = rr at r5 r7 ⊢
                generalize k_dgbS T (kPw 4096) = bb at eb sb ⊢
                rw [kPw_bg] at eb r4 r5
                have fin : ∀ (o : Int) (bk : kE), 4 ≤ o → o < 8 → kSc W.1.length bk → (0 ≤ kLf2 o (k_ev ρ dd) (k_ev ρ bk) ∧ kLf2 o (k_ev ρ dd) (k_ev ρ bk) < kBg) → kLf2 o (k_ev ρ dd) (k_ev ρ bk) = kBop x (k_ev σ P / kBg % kBg) (k_ev σ P % kBg) → kGot N S.1.length σ M [k_sg5 c j me.2 rr x (k_mem W (k_fop o dd) bk 0 (kPw 4096 - 1))] x := fun o bk o4 o8 sk rg eo => by
                  obtain ⟨ω, s1, s2, s3, s4, s5⟩ := k_mef_ok (o := o) (x := dd) (k := bk) (lo := 0) (hi := kPw 4096 - 1) r3 r6 sk o4 o8 (by rw [r4]; exact q2.1) rg.1 (by rw [kPw_bg]; omega)
                  rw [eo] at s4
                  have l2 := Nat.le_trans l1 s2
                  have ag2 : kAgr S.1.length σ ω := fun b hb' => (s1 b (Nat.lt_of_lt_of_le hb' l1)).trans (ag b hb')
                  refine kGot.to (List.mem_singleton.mpr rfl) ag2 l2 (kRS_put (kRS_put (kRS_put s3 ⟨kSc_c, kSc_add (hs.mono l2) kSc_c, kSc_add s5 (kSc_mul (r7.mono s2))⟩ ?_) ⟨kSc_c, kSc_add (hs.mono l2) kSc_c, kSc_sub (sn.mono l2) kSc_c⟩ ?_) ⟨hc.mono l2, hs.mono l2, kSc_c⟩ ?_) (k_ev_c _ _) kSc_c
                  · show kHas N M (k_ev ω (kc (-6015))) (k_ev ω (k_add j (kc 1))) (k_ev ω (k_add _ (k_mul (kPw 4096) rr)))
                    rw [k_ev_c, k_ev_add, k_ev_add, k_ev_mul, k_ev_c, s4, k_ev_agree ag2 hs, k_ev_agree s1 r7, r5, kPw_bg]
                    exact kHas_rp p2 (by show ((i + 1 : Nat) : Int) = _; omega) rfl
                  · show kHas N M (k_ev ω (kc (-3))) (k_ev ω (k_add j (kc 1))) (k_ev ω (k_sub me.2 (kc 1)))
                    rw [k_ev_c, k_ev_add, k_ev_sub, k_ev_c, k_ev_agree ag2 hs, k_ev_agree ag2 sn]
                    exact kHas_z3 p2 (by show ((i + 1 : Nat) : Int) = _; omega) (by show ((n2 - 1 : Nat) : Int) = _; omega)
                  · show kHas N M (k_ev ω c) (k_ev ω j) (k_ev ω (kc x))
                    rw [k_ev_c, k_ev_agree ag2 hs, k_ev_agree ag2 hc]
                    exact kHas_at ha hj hq w1 w2
                have hx3 : x = 21 ∨ x = 22 ∨ x = 23 := by omega
                rcases hx3 with hx3 | hx3 | hx3
                · subst hx3
                  have ra := kAnd_rg (b := k_ev σ P % kBg) q2.1 q2.2
                  refine kGot.app (fin 4 bb (by omega) (by omega) sb (by rw [kLf2_4, r4, eb]; exact ra) (by rw [kLf2_4, r4, eb]; rfl)) fun z hz => ?_
                  rcases List.mem_singleton.mp hz with rfl
                  exact List.mem_cons_self
                · subst hx3
                  have ra := kOr_rg q2.1 q2.2 q1.1 q1.2
                  refine kGot.app (fin 5 bb (by omega) (by omega) sb (by rw [kLf2_5, r4, eb]; exact ra) (by rw [kLf2_5, r4, eb]; rfl)) fun z hz => ?_
                  rcases List.mem_singleton.mp hz with rfl
                  exact List.mem_cons_of_mem _ List.mem_cons_self
                · subst hx3
                  have ra := kAnd_rg (b := kBg - 1 - k_ev σ P % kBg) q2.1 q2.2
                  refine kGot.app (fin 4 (k_sub (kc (kPw 4096 - 1)) bb) (by omega) (by omega) (kSc_sub kSc_c sb) (by rw [kLf2_4, r4, k_ev_sub, k_ev_c, eb, kPw_bg]; exact ra) (by rw [kLf2_4, r4, k_ev_sub, k_ev_c, eb, kPw_bg]; rfl)) fun z hz => ?_
                  rcases List.mem_singleton.mp hz with rfl
                  exact List.mem_cons_of_mem _ (List.mem_cons_of_mem _ List.mem_cons_self)
            · -- a 'most'
              have m1 : n2 ≤ 198 := m1
              have p3 : i + 3 + y.toNat ≤ k3 := p3
              obtain ⟨T, z1, z2, z3⟩ := k_asm_ok h (e := k_sub (kc 198) me.2) (kSc_sub kSc_c sn) (by rw [k_ev_sub, k_ev_c]; omega)
              obtain ⟨τ, b1', b2', b3', b4', b5'⟩ := k_new_ok z3 (x := y) (lo := 0) (hi := 12) y0 y1
              rw [z2] at b1' b2'
              obtain ⟨U, u1, u2, u3⟩ := k_asm_ok b3' (e := k_sub (k_sub fa.1.2 (k_add j (kc 3))) (k_new T 0 12).1) (kSc_sub (kSc_sub (sz.mono b2') (kSc_add (hs.mono b2') kSc_c)) b5') (by rw [k_ev_sub, k_ev_sub, k_ev_add, k_ev_c, b4', k_ev_agree b1' hs, k_ev_agree b1' sz]; omega)
              obtain ⟨τ2, d1, d2, d3, d4, d5⟩ := k_new_ok u3 (x := l) (lo := 0) (hi := 12) l0 l1
              have rL := kLs_rg hL
              have hpw : kPw 48 = (16 : Int) ^ 12 := rfl
              have lt12 : (16 : Int) ^ y.toNat ≤ 16 ^ 12 := by
                rw [kPw_16, kPw_16]
                exact kPw_le (by omega)
              obtain ⟨τ3, e1, e2, e3', e4', e5⟩ := k_new_ok d3 (x := Ls) (lo := 0) (hi := kPw 48 - 1) rL.1 (by rw [hpw]; omega)
              have x5 : kSc (k_new (k_new U 0 12).2 0 (kPw 48 - 1)).2.1.length (k_new T 0 12).1 := by
                have : kSc U.1.length (k_new T 0 12).1 := by rw [u2]; exact b5'
                exact (this.mono d2).mono e2
              have l5 := d5.mono e2
              have rgm := kMst_rg (l + 16 * Ls)
              have ek : k_ev τ3 (k_add (k_new U 0 12).1 (k_mul 16 (k_new (k_new U 0 12).2 0 (kPw 48 - 1)).1)) = l + 16 * Ls := by
                rw [k_ev_add, k_ev_mul, e4', k_ev_agree e1 d5, d4]
              obtain ⟨τ4, f1', f2', f3', f4', f5'⟩ := k_me7_ok (z := 2) (u := kc 0) (k := k_add (k_new U 0 12).1 (k_mul 16 (k_new (k_new U 0 12).2 0 (kPw 48 - 1)).1)) (lo := 0) (hi := kPw 4096 - 1) e3' kSc_c (kSc_add l5 (kSc_mul e5)) (by omega) (by omega) (by rw [k_ev_c]; omega) (by rw [ek]; exact rgm.1) (by rw [ek, kPw_bg]; show (kMst (l + 16 * Ls) : Int) ≤ kBg - 1; omega)
              rw [ek] at f4'
              have f4' : k_ev τ4 (k_mem (k_new (k_new U 0 12).2 0 (kPw 48 - 1)).2 (k_ff7 2 (kc 0)) (k_add (k_new U 0 12).1 (k_mul 16 (k_new (k_new U 0 12).2 0 (kPw 48 - 1)).1)) 0 (kPw 4096 - 1)).1 = (kMst (l + 16 * Ls) : Int) := f4'
              have lU : S.1.length ≤ U.1.length := by rw [u2]; exact b2'
              have l3 : S.1.length ≤ (k_new (k_new U 0 12).2 0 (kPw 48 - 1)).2.1.length := by omega
              have l4 := Nat.le_trans l3 f2'
              have agU : kAgr U.1.length τ τ3 := fun b hb' => (e1 b (Nat.lt_of_lt_of_le hb' d2)).trans (d1 b hb')
              have ag : kAgr S.1.length σ τ4 := fun b hb' => (f1' b (Nat.lt_of_lt_of_le hb' l3)).trans ((agU b (Nat.lt_of_lt_of_le hb' lU)).trans (b1' b hb'))
              have exx : k_ev τ4 (k_new T 0 12).1 = y := by
                rw [k_ev_agree f1' x5]
                have : kSc U.1.length (k_new T 0 12).1 := by rw [u2]; exact b5'
                rw [k_ev_agree agU this]
                exact b4'
              have ell : k_ev τ4 (k_new U 0 12).1 = l := by
                rw [k_ev_agree f1' l5, k_ev_agree e1 d5]
                exact d4
              have eLs : k_ev τ4 (k_new (k_new U 0 12).2 0 (kPw 48 - 1)).1 = Ls := by
                rw [k_ev_agree f1' e5]
                exact e4'
              obtain ⟨wl, wl1, wl2⟩ := k_gi_at hl hq
              obtain ⟨wy, wy1, wy2⟩ := k_gi_at hy hq
              refine kGot.app (L := k_sgB S c j me.2 P fa.1.2) ?_ fun _ hz => List.mem_append_right _ (List.mem_append_left _ hz)
              unfold k_sgB
              rw [z1]
              dsimp only
              rw [u1]
              unfold k_sg3 k_sg2
              have hs4 := hs.mono l4
              have x6 := x5.mono f2'
              refine kGot.to (List.mem_singleton.mpr rfl) ag l4 (kRS_put (kRS_put (kRS_put (kRS_put (kRS_put (kRS_put f3' ⟨k_tc_sc (kSc_add hs4 kSc_c), kSc_add (kSc_add hs4 kSc_c) x6, e5.mono f2'⟩ ?_) ⟨kSc_c, kSc_add (kSc_add hs4 kSc_c) x6, kSc_add f5' (kSc_mul (sP.mono l4))⟩ ?_) ⟨kSc_c, kSc_add (kSc_add hs4 kSc_c) x6, kSc_add (sn.mono l4) kSc_c⟩ ?_) ⟨hc.mono l4, kSc_add hs4 kSc_c, x6⟩ ?_) ⟨hc.mono l4, kSc_add hs4 kSc_c, l5.mono f2'⟩ ?_) ⟨hc.mono l4, hs4, kSc_c⟩ ?_) (k_ev_c _ _) kSc_c
              · show kHas N M (k_ev τ4 (k_tc (-8063) (k_add j (kc 3)))) (k_ev τ4 (k_add (k_add j (kc 3)) (k_new T 0 12).1)) (k_ev τ4 (k_new (k_new U 0 12).2 0 (kPw 48 - 1)).1)
                refine (k_tcH (k := 7) (by omega) ?_).mpr ?_
                · show k_ev τ4 (k_tc (-8063) (k_add j (kc 3))) < 0
                  rw [k_tc_ev, k_ev_add, k_ev_c, k_ev_agree ag hs]
                  omega
                · simp only [k_ev_add, k_ev_c]
                  rw [k_ev_agree ag hs, exx, eLs]
                  exact ⟨i + 3, y.toNat, by omega, by omega, hL⟩
              · show kHas N M (k_ev τ4 (kc (-6015))) (k_ev τ4 (k_add (k_add j (kc 3)) (k_new T 0 12).1)) (k_ev τ4 (k_add _ (k_mul (kPw 4096) P)))
                rw [k_ev_c, k_ev_add, k_ev_add, k_ev_add, k_ev_mul, k_ev_c, f4', exx, k_ev_agree ag hs, k_ev_agree ag sP, kPw_bg]
                exact kHas_rp p2 (by show ((i + 3 + y.toNat : Nat) : Int) = _; omega) rfl
              · show kHas N M (k_ev τ4 (kc (-3))) (k_ev τ4 (k_add (k_add j (kc 3)) (k_new T 0 12).1)) (k_ev τ4 (k_add me.2 (kc 1)))
                rw [k_ev_c, k_ev_add, k_ev_add, k_ev_add, k_ev_c, k_ev_c, exx, k_ev_agree ag hs, k_ev_agree ag sn]
                exact kHas_z3 p2 (by show ((i + 3 + y.toNat : Nat) : Int) = _; omega) (by show ((n2 + 1 : Nat) : Int) = _; omega)
              · show kHas N M (k_ev τ4 c) (k_ev τ4 (k_add j (kc 2))) (k_ev τ4 (k_new T 0 12).1)
                rw [exx, k_ev_add, k_ev_c, k_ev_agree ag hs, k_ev_agree ag hc]
                exact kHas_at (i := i + 2) ha (by omega) hq wy1 wy2
              · show kHas N M (k_ev τ4 c) (k_ev τ4 (k_add j (kc 1))) (k_ev τ4 (k_new U 0 12).1)
                rw [ell, k_ev_add, k_ev_c, k_ev_agree ag hs, k_ev_agree ag hc]
                exact kHas_at (i := i + 1) ha (by omega) hq wl1 wl2
              · show kHas N M (k_ev τ4 c) (k_ev τ4 j) (k_ev τ4 (kc 30))
                rw [k_ev_c, k_ev_agree ag hs, k_ev_agree ag hc]
                exact kHas_at ha hj hq w1 w2
/-- all reads of tables -/
def k_vrt0 (S : kS) (c j : kE) : Option (List (kE × kS)) := cond (decide (c.1 = 464)) (k_r8v S c j) (cond (decide (c.1 = 388)) (k_r3v S c j) (cond (decide (c.1 = 462)) (k_r6v S c j) (cond (decide (c.1 = 461)) (match k_r7v S c j with
  | some L => some L
  | none => k_sgv S c j) none)))
def k_vrt (S : kS) (c j : kE) : Option (List (kE × kS)) := cond (k_cst c && (decide (388 ≤ c.1) && decide (c.1 ≤ 464))) (match k_find c j S.2.2.2 with
  | some _ => none
  | none => k_vrt0 S c j) none
theorem k_vrt_ok (h : kRS N σ S M) (hc : kSc S.1.length c) (hs : kSc S.1.length j) (ha : (a : Int) = k_ev σ c) (hj : (i : Int) = k_ev σ j) (hq : M[a]? = some q) (hr : k_vrt S c j = some L) : kRdd N σ S M q i L := by
  unfold k_vrt at hr
  obtain ⟨g, hr⟩ := pm_cs hr
  obtain ⟨g, -⟩ := Bool.and_eq_true_iff.mp g
  have ec := k_ev_const (σ := σ) g
  split at hr
  · cases hr
  · unfold k_vrt0 at hr
    cases c1 : decide (c.1 = 464) with
    | true =>
      rw [c1, cond_true] at hr
      have c1 := of_decide_eq_true c1
      exact k_r8v_ok h hc hs ha (by omega) hj hq hr
    | false =>
      rw [c1, cond_false] at hr
      cases c2 : decide (c.1 = 388) with
      | true =>
        rw [c2, cond_true] at hr
        have c2 := of_decide_eq_true c2
        exact k_r3v_ok h hc hs ha (by omega) hj hq hr
      | false =>
        rw [c2, cond_false] at hr
        cases c3 : decide (c.1 = 462) with
        | true =>
          rw [c3, cond_true] at hr
          have c3 := of_decide_eq_true c3
          exact k_r6v_ok h hc hs ha (by omega) hj hq hr
        | false =>
          rw [c3, cond_false] at hr
          obtain ⟨c4, hr⟩ := pm_cs hr
          have c4 := of_decide_eq_true c4
          split at hr
          · rename_i L' hL'
            cases hr
            exact k_r7v_ok h hc hs ha (by omega) hj hq hL'
          · exact k_sgv_ok h hc hs ha (by omega) hj hq hr
end KSG
end
