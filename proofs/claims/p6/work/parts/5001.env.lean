theorem kEnv_lists : ∀ l ∈ kEnv, ∀ ct ∈ l, k_okC kD kX kEnv kInl 100000 ct := List.forall_mem_cons.mpr ⟨kEnv_0_ok, List.forall_mem_cons.mpr ⟨kEnv_1_ok, List.forall_mem_cons.mpr ⟨kEnv_2_ok, List.forall_mem_cons.mpr ⟨kEnv_3_ok, List.forall_mem_cons.mpr ⟨kEnv_4_ok, List.forall_mem_cons.mpr ⟨kEnv_5_ok, List.forall_mem_cons.mpr ⟨kEnv_6_ok, List.forall_mem_cons.mpr ⟨kEnv_7_ok, List.forall_mem_cons.mpr ⟨kEnv_8_ok, List.forall_mem_cons.mpr ⟨kEnv_9_ok, List.forall_mem_cons.mpr ⟨kEnv_10_ok, List.forall_mem_cons.mpr ⟨kEnv_11_ok, List.forall_mem_cons.mpr ⟨kEnv_12_ok, List.forall_mem_cons.mpr ⟨kEnv_13_ok, List.forall_mem_cons.mpr ⟨kEnv_14_ok, List.forall_mem_cons.mpr ⟨(fun _ h => absurd h List.not_mem_nil), List.forall_mem_cons.mpr ⟨kEnv_16_ok, List.forall_mem_cons.mpr ⟨kEnv_17_ok, List.forall_mem_cons.mpr ⟨(fun _ h => absurd h List.not_mem_nil), List.forall_mem_cons.mpr ⟨kEnv_19_ok, List.forall_mem_cons.mpr ⟨kEnv_20_ok, List.forall_mem_cons.mpr ⟨kEnv_21_ok, List.forall_mem_cons.mpr ⟨kEnv_22_ok, List.forall_mem_cons.mpr ⟨kEnv_23_ok, List.forall_mem_cons.mpr ⟨kEnv_24_ok, List.forall_mem_cons.mpr ⟨kEnv_25_ok, List.forall_mem_cons.mpr ⟨kEnv_26_ok, List.forall_mem_cons.mpr ⟨(fun _ h => absurd h List.not_mem_nil), List.forall_mem_cons.mpr ⟨kEnv_28_ok, List.forall_mem_cons.mpr ⟨(fun _ h => absurd h List.not_mem_nil), List.forall_mem_cons.mpr ⟨kEnv_30_ok, List.forall_mem_cons.mpr ⟨(fun _ h => absurd h List.not_mem_nil), List.forall_mem_cons.mpr ⟨(fun _ h => absurd h List.not_mem_nil), List.forall_mem_cons.mpr ⟨kEnv_33_ok, List.forall_mem_cons.mpr ⟨kEnv_34_ok, List.forall_mem_cons.mpr ⟨kEnv_35_ok, List.forall_mem_cons.mpr ⟨kEnv_36_ok, List.forall_mem_cons.mpr ⟨kEnv_37_ok, List.forall_mem_cons.mpr ⟨kEnv_38_ok, List.forall_mem_cons.mpr ⟨kEnv_39_ok, List.forall_mem_cons.mpr ⟨kEnv_40_ok, List.forall_mem_cons.mpr ⟨kEnv_41_ok, List.forall_mem_cons.mpr ⟨kEnv_42_ok, List.forall_mem_cons.mpr ⟨kEnv_43_ok, List.forall_mem_cons.mpr ⟨kEnv_44_ok, List.forall_mem_cons.mpr ⟨kEnv_45_ok, List.forall_mem_cons.mpr ⟨kEnv_46_ok, List.forall_mem_cons.mpr ⟨(fun _ h => absurd h List.not_mem_nil), List.forall_mem_cons.mpr ⟨kEnv_48_ok, fun _ h => absurd h List.not_mem_nil⟩⟩⟩⟩⟩⟩⟩⟩⟩⟩⟩⟩⟩⟩⟩⟩⟩⟩⟩⟩⟩⟩⟩⟩⟩⟩⟩⟩⟩⟩⟩⟩⟩⟩⟩⟩⟩⟩⟩⟩⟩⟩⟩⟩⟩⟩⟩⟩⟩
theorem kEnv_ok (ct : kCt) (h : ct ∈ kEnv.flatten) : k_okC kD kX kEnv kInl 100000 ct := by
  obtain ⟨l, hl, hc⟩ := List.mem_flatten.mp h
  exact kEnv_lists l hl ct hc
theorem kWf_0 : kEnv_0.all k_wfC = true := by decide +kernel
theorem kWf_1 : kEnv_1.all k_wfC = true := by decide +kernel
theorem kWf_2 : kEnv_2.all k_wfC = true := by decide +kernel
theorem kWf_3 : kEnv_3.all k_wfC = true := by decide +kernel
theorem kWf_4 : kEnv_4.all k_wfC = true := by decide +kernel
theorem kWf_5 : kEnv_5.all k_wfC = true := by decide +kernel
theorem kWf_6 : kEnv_6.all k_wfC = true := by decide +kernel
theorem kWf_7 : kEnv_7.all k_wfC = true := by decide +kernel
theorem kWf_8 : kEnv_8.all k_wfC = true := by decide +kernel
theorem kWf_9 : kEnv_9.all k_wfC = true := by decide +kernel
theorem kWf_10 : kEnv_10.all k_wfC = true := by decide +kernel
theorem kWf_11 : kEnv_11.all k_wfC = true := by decide +kernel
theorem kWf_12 : kEnv_12.all k_wfC = true := by decide +kernel
theorem kWf_13 : kEnv_13.all k_wfC = true := by decide +kernel
theorem kWf_14 : kEnv_14.all k_wfC = true := by decide +kernel
theorem kWf_16 : kEnv_16.all k_wfC = true := by decide +kernel
theorem kWf_17 : kEnv_17.all k_wfC = true := by decide +kernel
theorem kWf_19 : kEnv_19.all k_wfC = true := by decide +kernel
theorem kWf_20 : kEnv_20.all k_wfC = true := by decide +kernel
theorem kWf_21 : kEnv_21.all k_wfC = true := by decide +kernel
theorem kWf_22 : kEnv_22.all k_wfC = true := by decide +kernel
theorem kWf_23 : kEnv_23.all k_wfC = true := by decide +kernel
theorem kWf_24 : kEnv_24.all k_wfC = true := by decide +kernel
theorem kWf_25 : kEnv_25.all k_wfC = true := by decide +kernel
theorem kWf_26 : kEnv_26.all k_wfC = true := by decide +kernel
theorem kWf_28 : kEnv_28.all k_wfC = true := by decide +kernel
theorem kWf_30 : kEnv_30.all k_wfC = true := by decide +kernel
theorem kWf_33 : kEnv_33.all k_wfC = true := by decide +kernel
theorem kWf_34 : kEnv_34.all k_wfC = true := by decide +kernel
theorem kWf_35 : kEnv_35.all k_wfC = true := by decide +kernel
theorem kWf_36 : kEnv_36.all k_wfC = true := by decide +kernel
theorem kWf_37 : kEnv_37.all k_wfC = true := by decide +kernel
theorem kWf_38 : kEnv_38.all k_wfC = true := by decide +kernel
theorem kWf_39 : kEnv_39.all k_wfC = true := by decide +kernel
theorem kWf_40 : kEnv_40.all k_wfC = true := by decide +kernel
theorem kWf_41 : kEnv_41.all k_wfC = true := by decide +kernel
theorem kWf_42 : kEnv_42.all k_wfC = true := by decide +kernel
theorem kWf_43 : kEnv_43.all k_wfC = true := by decide +kernel
theorem kWf_44 : kEnv_44.all k_wfC = true := by decide +kernel
theorem kWf_45 : kEnv_45.all k_wfC = true := by decide +kernel
theorem kWf_46 : kEnv_46.all k_wfC = true := by decide +kernel
theorem kWf_48 : kEnv_48.all k_wfC = true := by decide +kernel
theorem kWf_lists : ∀ l ∈ kEnv, l.all k_wfC = true := List.forall_mem_cons.mpr ⟨kWf_0, List.forall_mem_cons.mpr ⟨kWf_1, List.forall_mem_cons.mpr ⟨kWf_2, List.forall_mem_cons.mpr ⟨kWf_3, List.forall_mem_cons.mpr ⟨kWf_4, List.forall_mem_cons.mpr ⟨kWf_5, List.forall_mem_cons.mpr ⟨kWf_6, List.forall_mem_cons.mpr ⟨kWf_7, List.forall_mem_cons.mpr ⟨kWf_8, List.forall_mem_cons.mpr ⟨kWf_9, List.forall_mem_cons.mpr ⟨kWf_10, List.forall_mem_cons.mpr ⟨kWf_11, List.forall_mem_cons.mpr ⟨kWf_12, List.forall_mem_cons.mpr ⟨kWf_13, List.forall_mem_cons.mpr ⟨kWf_14, List.forall_mem_cons.mpr ⟨rfl, List.forall_mem_cons.mpr ⟨kWf_16, List.forall_mem_cons.mpr ⟨kWf_17, List.forall_mem_cons.mpr ⟨rfl, List.forall_mem_cons.mpr ⟨kWf_19, List.forall_mem_cons.mpr ⟨kWf_20, List.forall_mem_cons.mpr ⟨kWf_21, List.forall_mem_cons.mpr ⟨kWf_22, List.forall_mem_cons.mpr ⟨kWf_23, List.forall_mem_cons.mpr ⟨kWf_24, List.forall_mem_cons.mpr ⟨kWf_25, List.forall_mem_cons.mpr ⟨kWf_26, List.forall_mem_cons.mpr ⟨rfl, List.forall_mem_cons.mpr ⟨kWf_28, List.forall_mem_cons.mpr ⟨rfl, List.forall_mem_cons.mpr ⟨kWf_30, List.forall_mem_cons.mpr ⟨rfl, List.forall_mem_cons.mpr ⟨rfl, List.forall_mem_cons.mpr ⟨kWf_33, List.forall_mem_cons.mpr ⟨kWf_34, List.forall_mem_cons.mpr ⟨kWf_35, List.forall_mem_cons.mpr ⟨kWf_36, List.forall_mem_cons.mpr ⟨kWf_37, List.forall_mem_cons.mpr ⟨kWf_38, List.forall_mem_cons.mpr ⟨kWf_39, List.forall_mem_cons.mpr ⟨kWf_40, List.forall_mem_cons.mpr ⟨kWf_41, List.forall_mem_cons.mpr ⟨kWf_42, List.forall_mem_cons.mpr ⟨kWf_43, List.forall_mem_cons.mpr ⟨kWf_44, List.forall_mem_cons.mpr ⟨kWf_45, List.forall_mem_cons.mpr ⟨kWf_46, List.forall_mem_cons.mpr ⟨rfl, List.forall_mem_cons.mpr ⟨kWf_48, fun _ h => absurd h List.not_mem_nil⟩⟩⟩⟩⟩⟩⟩⟩⟩⟩⟩⟩⟩⟩⟩⟩⟩⟩⟩⟩⟩⟩⟩⟩⟩⟩⟩⟩⟩⟩⟩⟩⟩⟩⟩⟩⟩⟩⟩⟩⟩⟩⟩⟩⟩⟩⟩⟩⟩
theorem kWf : kEnv.flatten.all k_wfC = true := by
  rw [List.all_eq_true]
  intro ct h
  obtain ⟨l, hl, hc⟩ := List.mem_flatten.mp h
  exact List.all_eq_true.mp (kWf_lists l hl) ct hc
