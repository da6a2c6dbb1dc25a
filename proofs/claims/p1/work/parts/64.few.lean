/-! ===== p1: truncateInput, reportByte, all arguments ===== -/
theorem ko_1 {a1 : Int32} (h : a1 < nI 0 ∨ nI 0 < a1) : (K_1 HM a1).isSome = true := by
  have hs : rd HM 47 1 = nI 0 := by decide +kernel
  have hm : rd HM 140 9 = nI 0 := by decide +kernel
  have hL : L_truncateInput HM a1 = some (1, HM) := by
    unfold L_truncateInput C_truncateInput
    rcases h with h | h
    · have h : a1 < 0 := h
      rw [if_pos h]; rfl
    · by_cases h0 : a1 < 0
      · rw [if_pos h0]; rfl
      · rw [if_neg h0, hs, if_neg (fun q => nlt_of_le q h)]; rfl
  have hM : M_truncateInput HM a1 = some (0, HX 1) := by
    have e : M_in a1 0 (nI 0) = some false := in_out h
    simp only [M_truncateInput, hm, e, Option.bind_some, lt, nm, bf, bt, if_true, if_false, th1]
  exact kT (L := L_truncateInput HM a1) (M := fun h => M_truncateInput h a1) hL hM (HX_t 1) (by decide)
theorem kn_1 : (K_1 HM (nI 0)).isSome = true := by decide +kernel
theorem ka_1 (a1 : Int32) : (K_1 HM a1).isSome = true := by
  rcases range_or a1 0 0 (by decide) (by decide) with h | ⟨j, hj, rfl⟩
  · exact ko_1 h
  · obtain rfl : j = 0 := by omega
    exact kn_1
theorem ka_61 (a1 : Int32) : (K_61 HM a1).isSome = true := by
  have hC : C_reportByte HM a1 = some (-1) := by
    unfold C_reportByte
    by_cases h0 : a1 < 0
    · rw [if_pos h0]
    · rw [if_neg h0, show rd HM 0 9 = 0 by decide +kernel, if_neg h0]
  have hM : M_reportByte HM a1 = some (-1, HX 0) := by
    have e0 : rd (HX 0) 140 14 - 1 = -1 := by decide +kernel
    have e : M_in a1 0 (-1) = some false := in_out (by
      by_cases h : a1 < 0
      · exact Or.inl h
      · refine Or.inr ?_
        rw [Int32.lt_iff_toInt_lt] at h ⊢
        have h1 : (0 : Int32).toInt = 0 := by decide
        have h2 : (-1 : Int32).toInt = -1 := by decide
        omega)
    unfold M_reportByte
    show ((M_in a1 0 (rd (HX 0) 140 14 - 1)).bind _) = _
    rw [e0, e]
    rfl
  unfold K_61
  rw [hC, Option.bind_some, hM, Option.bind_some]
  rfl
