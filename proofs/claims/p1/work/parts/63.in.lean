/-! ===== p1: arguments in range, evaluated ===== -/
theorem kn_2 : (K_2 HM).isSome = true := by decide +kernel
theorem ki_4 : ∀ i, i < 9 → (K_4 HM (nI (1 + i))).isSome = true := by decide +kernel
theorem ki_5 : ∀ i, i < 9 → (K_5 HM (nI (1 + i))).isSome = true := by decide +kernel
theorem ki_6 : ∀ j, j < 5 → ∀ i, i < 2 → (K_6 HM (nI j) (nI i)).isSome = true := by decide +kernel
theorem ki_7 : ∀ j, j < 5 → (K_7 HM (nI j)).isSome = true := by decide +kernel
theorem ki_9 : ∀ j, j < 2 → (K_9 HM (nI j)).isSome = true := by decide +kernel
theorem kn_14 : (K_14 HM).isSome = true := by decide +kernel
theorem kn_15 : (K_15 HM).isSome = true := by decide +kernel
theorem kn_16 : (K_16 HM).isSome = true := by decide +kernel
theorem kn_17 : (K_17 HM).isSome = true := by decide +kernel
theorem kn_18 : (K_18 HM).isSome = true := by decide +kernel
theorem kn_19 : (K_19 HM).isSome = true := by decide +kernel
theorem kn_20 : (K_20 HM).isSome = true := by decide +kernel
theorem kn_21 : (K_21 HM).isSome = true := by decide +kernel
theorem kn_22 : (K_22 HM).isSome = true := by decide +kernel
theorem kn_23 : (K_23 HM).isSome = true := by decide +kernel
theorem kn_24 : (K_24 HM).isSome = true := by decide +kernel
theorem ki_25 : ∀ j, j < 2 → (K_25 HM (nI j)).isSome = true := by decide +kernel
theorem ki_26 : ∀ j, j < 5 → (K_26 HM (nI j)).isSome = true := by decide +kernel
theorem ki_27 : ∀ j, j < 5 → (K_27 HM (nI j)).isSome = true := by decide +kernel
theorem ki_28 : ∀ j, j < 5 → (K_28 HM (nI j)).isSome = true := by decide +kernel
theorem ki_29 : ∀ j, j < 5 → (K_29 HM (nI j)).isSome = true := by decide +kernel
theorem ki_30 : ∀ j, j < 5 → (K_30 HM (nI j)).isSome = true := by decide +kernel
theorem ki_31 : ∀ j, j < 5 → (K_31 HM (nI j)).isSome = true := by decide +kernel
theorem ki_32 : ∀ j, j < 5 → (K_32 HM (nI j)).isSome = true := by decide +kernel
theorem ki_33 : ∀ j, j < 5 → (K_33 HM (nI j)).isSome = true := by decide +kernel
theorem ki_34 : ∀ j, j < 5 → ∀ i, i < 5 → (K_34 HM (nI j) (nI i)).isSome = true := by decide +kernel
theorem ki_35 : ∀ j, j < 5 → (K_35 HM (nI j)).isSome = true := by decide +kernel
theorem ki_36 : ∀ j, j < 5 → (K_36 HM (nI j)).isSome = true := by decide +kernel
theorem ki_37 : ∀ j, j < 5 → (K_37 HM (nI j)).isSome = true := by decide +kernel
theorem ki_38 : ∀ j, j < 2 → (K_38 HM (nI j)).isSome = true := by decide +kernel
theorem ki_40 : ∀ j, j < 2 → (K_40 HM (nI j)).isSome = true := by decide +kernel
theorem ki_41 : ∀ j, j < 5 → ∀ i, i < 2 → (K_41 HM (nI j) (nI i)).isSome = true := by decide +kernel
theorem ki_42 : ∀ j, j < 5 → ∀ i, i < 2 → (K_42 HM (nI j) (nI i)).isSome = true := by decide +kernel
theorem ki_43 : ∀ j, j < 5 → ∀ i, i < 2 → (K_43 HM (nI j) (nI i)).isSome = true := by decide +kernel
theorem ki_44 : ∀ j, j < 5 → ∀ i, i < 2 → (K_44 HM (nI j) (nI i)).isSome = true := by decide +kernel
theorem ki_45 : ∀ j, j < 2 → (K_45 HM (nI j)).isSome = true := by decide +kernel
theorem ki_46 : ∀ j, j < 2 → (K_46 HM (nI j)).isSome = true := by decide +kernel
theorem ki_47 : ∀ j, j < 2 → (K_47 HM (nI j)).isSome = true := by decide +kernel
theorem ki_48 : ∀ j, j < 5 → (K_48 HM (nI j)).isSome = true := by decide +kernel
theorem ki_53 : ∀ j, j < 5 → (K_53 HM (nI j)).isSome = true := by decide +kernel
theorem kn_54 : (K_54 HM).isSome = true := by decide +kernel
theorem kn_55 : (K_55 HM).isSome = true := by decide +kernel
theorem kn_56 : (K_56 HM).isSome = true := by decide +kernel
theorem kn_57 : (K_57 HM).isSome = true := by decide +kernel
theorem kn_58 : (K_58 HM).isSome = true := by decide +kernel
theorem kn_59 : (K_59 HM).isSome = true := by decide +kernel
theorem ki_60 : ∀ j, j < 2 → (K_60 HM (nI j)).isSome = true := by decide +kernel
