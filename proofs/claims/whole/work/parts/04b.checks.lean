/-! CHECKS of the methods: written by wip/whole/gen. -/
set_option maxRecDepth 100000 in
theorem ckMs_1 : mds_1.all ckM = true := by decide +kernel
set_option maxRecDepth 100000 in
theorem ckMs_2 : mds_2.all ckM = true := by decide +kernel
set_option maxRecDepth 100000 in
theorem ckMs_3 : mds_3.all ckM = true := by decide +kernel
set_option maxRecDepth 100000 in
theorem ckMs_4 : mds_4.all ckM = true := by decide +kernel
set_option maxRecDepth 100000 in
theorem ckMs_5 : mds_5.all ckM = true := by decide +kernel
set_option maxRecDepth 100000 in
theorem ckMs_6 : mds_6.all ckM = true := by decide +kernel
set_option maxRecDepth 100000 in
theorem ckMs_7 : mds_7.all ckM = true := by decide +kernel
set_option maxRecDepth 100000 in
theorem ckMs_8 : mds_8.all ckM = true := by decide +kernel
set_option maxRecDepth 100000 in
theorem ckMs_9 : mds_9.all ckM = true := by decide +kernel
set_option maxRecDepth 100000 in
theorem ckMs_10 : mds_10.all ckM = true := by decide +kernel
set_option maxRecDepth 100000 in
theorem ckMs_11 : mds_11.all ckM = true := by decide +kernel
set_option maxRecDepth 100000 in
theorem ckMs_12 : mds_12.all ckM = true := by decide +kernel
set_option maxRecDepth 100000 in
theorem ckMs_13 : mds_13.all ckM = true := by decide +kernel
set_option maxRecDepth 100000 in
theorem ckMs_14 : mds_14.all ckM = true := by decide +kernel
set_option maxRecDepth 100000 in
theorem ckMs_15 : mds_15.all ckM = true := by decide +kernel
set_option maxRecDepth 100000 in
theorem ckMs_16 : mds_16.all ckM = true := by decide +kernel
set_option maxRecDepth 100000 in
theorem ckMs_17 : mds_17.all ckM = true := by decide +kernel
set_option maxRecDepth 100000 in
theorem ckMs_18 : mds_18.all ckM = true := by decide +kernel
set_option maxRecDepth 100000 in
theorem ckMs_19 : mds_19.all ckM = true := by decide +kernel
set_option maxRecDepth 100000 in
theorem ckMs_20 : mds_20.all ckM = true := by decide +kernel
set_option maxRecDepth 100000 in
theorem ckMs_21 : mds_21.all ckM = true := by decide +kernel
set_option maxRecDepth 100000 in
theorem ckMs_22 : mds_22.all ckM = true := by decide +kernel
set_option maxRecDepth 100000 in
theorem ckMs_23 : mds_23.all ckM = true := by decide +kernel
set_option maxRecDepth 100000 in
theorem ckMs_24 : mds_24.all ckM = true := by decide +kernel
set_option maxRecDepth 100000 in
theorem ckMs_25 : mds_25.all ckM = true := by decide +kernel
set_option maxRecDepth 100000 in
theorem ckMs_26 : mds_26.all ckM = true := by decide +kernel
set_option maxRecDepth 100000 in
theorem ckMs_27 : mds_27.all ckM = true := by decide +kernel
set_option maxRecDepth 100000 in
theorem ckMs_28 : mds_28.all ckM = true := by decide +kernel
set_option maxRecDepth 100000 in
theorem ckMs_29 : mds_29.all ckM = true := by decide +kernel
set_option maxRecDepth 100000 in
theorem ckMs_30 : mds_30.all ckM = true := by decide +kernel
set_option maxRecDepth 100000 in
theorem ckMs_31 : mds_31.all ckM = true := by decide +kernel
theorem ckM_all : ∀ me ∈ mds, me.1 ≠ 0 → ckM me = true := by
  have h1 : ∀ me ∈ mds_1 ++ (mds_2 ++ (mds_3 ++ (mds_4 ++ (mds_5 ++ (mds_6 ++ (mds_7 ++ (mds_8 ++ (mds_9 ++ (mds_10 ++ (mds_11 ++ (mds_12 ++ (mds_13 ++ (mds_14 ++ (mds_15 ++ (mds_16 ++ (mds_17 ++ (mds_18 ++ (mds_19 ++ (mds_20 ++ (mds_21 ++ (mds_22 ++ (mds_23 ++ (mds_24 ++ (mds_25 ++ (mds_26 ++ (mds_27 ++ (mds_28 ++ (mds_29 ++ (mds_30 ++ (mds_31)))))))))))))))))))))))))))))), ckM me = true := List.forall_mem_append.mpr ⟨List.all_eq_true.mp ckMs_1, List.forall_mem_append.mpr ⟨List.all_eq_true.mp ckMs_2, List.forall_mem_append.mpr ⟨List.all_eq_true.mp ckMs_3, List.forall_mem_append.mpr ⟨List.all_eq_true.mp ckMs_4, List.forall_mem_append.mpr ⟨List.all_eq_true.mp ckMs_5, List.forall_mem_append.mpr ⟨List.all_eq_true.mp ckMs_6, List.forall_mem_append.mpr ⟨List.all_eq_true.mp ckMs_7, List.forall_mem_append.mpr ⟨List.all_eq_true.mp ckMs_8, List.forall_mem_append.mpr ⟨List.all_eq_true.mp ckMs_9, List.forall_mem_append.mpr ⟨List.all_eq_true.mp ckMs_10, List.forall_mem_append.mpr ⟨List.all_eq_true.mp ckMs_11, List.forall_mem_append.mpr ⟨List.all_eq_true.mp ckMs_12, List.forall_mem_append.mpr ⟨List.all_eq_true.mp ckMs_13, List.forall_mem_append.mpr ⟨List.all_eq_true.mp ckMs_14, List.forall_mem_append.mpr ⟨List.all_eq_true.mp ckMs_15, List.forall_mem_append.mpr ⟨List.all_eq_true.mp ckMs_16, List.forall_mem_append.mpr ⟨List.all_eq_true.mp ckMs_17, List.forall_mem_append.mpr ⟨List.all_eq_true.mp ckMs_18, List.forall_mem_append.mpr ⟨List.all_eq_true.mp ckMs_19, List.forall_mem_append.mpr ⟨List.all_eq_true.mp ckMs_20, List.forall_mem_append.mpr ⟨List.all_eq_true.mp ckMs_21, List.forall_mem_append.mpr ⟨List.all_eq_true.mp ckMs_22, List.forall_mem_append.mpr ⟨List.all_eq_true.mp ckMs_23, List.forall_mem_append.mpr ⟨List.all_eq_true.mp ckMs_24, List.forall_mem_append.mpr ⟨List.all_eq_true.mp ckMs_25, List.forall_mem_append.mpr ⟨List.all_eq_true.mp ckMs_26, List.forall_mem_append.mpr ⟨List.all_eq_true.mp ckMs_27, List.forall_mem_append.mpr ⟨List.all_eq_true.mp ckMs_28, List.forall_mem_append.mpr ⟨List.all_eq_true.mp ckMs_29, List.forall_mem_append.mpr ⟨List.all_eq_true.mp ckMs_30, List.all_eq_true.mp ckMs_31⟩⟩⟩⟩⟩⟩⟩⟩⟩⟩⟩⟩⟩⟩⟩⟩⟩⟩⟩⟩⟩⟩⟩⟩⟩⟩⟩⟩⟩⟩
  show ∀ me ∈ mds_0 ++ (mds_1 ++ (mds_2 ++ (mds_3 ++ (mds_4 ++ (mds_5 ++ (mds_6 ++ (mds_7 ++ (mds_8 ++ (mds_9 ++ (mds_10 ++ (mds_11 ++ (mds_12 ++ (mds_13 ++ (mds_14 ++ (mds_15 ++ (mds_16 ++ (mds_17 ++ (mds_18 ++ (mds_19 ++ (mds_20 ++ (mds_21 ++ (mds_22 ++ (mds_23 ++ (mds_24 ++ (mds_25 ++ (mds_26 ++ (mds_27 ++ (mds_28 ++ (mds_29 ++ (mds_30 ++ (mds_31))))))))))))))))))))))))))))))), me.1 ≠ 0 → ckM me = true
  intro me hm h0
  rcases List.mem_append.mp hm with h | h
  · rw [List.mem_singleton.mp h] at h0
    exact absurd rfl h0
  · exact h1 me h
