/-! ===== p1: bed ===== -/
set_option maxRecDepth 16384 in
theorem out_in {a : Int32} {c : Nat} (hc : 0 < c ∧ c < 2 ^ 20) (h : outR a (nI c)) : M_in a 0 (nI (c - 1)) = some false := in_out (by
  rcases h with h | h
  · exact Or.inl h
  · refine Or.inr ?_
    rw [Int32.lt_iff_toInt_lt, nI_toInt (by omega)]; rw [Int32.le_iff_toInt_le, nI_toInt (by omega)] at h
    omega)
set_option maxRecDepth 16384 in
theorem kp_39_0 {a2 : Int32} (h : outR a2 (nI 3)) : (K_39 HM (nI 0) a2).isSome = true := by
  have hb : rdO 4 (rd HM (1 + 7)) (nI 0) = some (nI 3) := by decide +kernel
  have hB : M_beds HM (nI 0) = some (nI 3) := by decide +kernel
  have hL : L_bed HM (nI 0) a2 = some (1, HM) := by
    have e : C_bed HM (nI 0) a2 = some (.inl (3, HM)) := by
      unfold C_bed
      rw [needReel_in (by decide), thB_r]
      by_cases h0 : a2 < 0
      · rw [if_pos h0]
      · rw [if_neg h0, hb, Option.bind_some, if_neg (nlt_of_le (h.resolve_left h0))]
    unfold L_bed
    rw [e]; rfl
  have hM : M_bed HM (nI 0) a2 = some (0, HX 1) := by
    have e : M_in a2 0 (nI 3 - 1) = some false := out_in (c := 3) (by decide) h
    simp only [M_bed, isReel_in (j := 0) (by decide), hB, e, Option.bind_some, lt, nm, bf, bt, if_true, if_false, th1]
  exact kT (L := L_bed HM (nI 0) a2) (M := fun h => M_bed h (nI 0) a2) hL hM (HX_t 1) (by decide)
set_option maxRecDepth 16384 in
theorem ki_39_0 : ∀ i, i < 3 → (K_39 HM (nI 0) (nI i)).isSome = true := by decide +kernel
set_option maxRecDepth 16384 in
theorem kp_39_1 {a2 : Int32} (h : outR a2 (nI 5)) : (K_39 HM (nI 1) a2).isSome = true := by
  have hb : rdO 4 (rd HM (1 + 7)) (nI 1) = some (nI 5) := by decide +kernel
  have hB : M_beds HM (nI 1) = some (nI 5) := by decide +kernel
  have hL : L_bed HM (nI 1) a2 = some (1, HM) := by
    have e : C_bed HM (nI 1) a2 = some (.inl (3, HM)) := by
      unfold C_bed
      rw [needReel_in (by decide), thB_r]
      by_cases h0 : a2 < 0
      · rw [if_pos h0]
      · rw [if_neg h0, hb, Option.bind_some, if_neg (nlt_of_le (h.resolve_left h0))]
    unfold L_bed
    rw [e]; rfl
  have hM : M_bed HM (nI 1) a2 = some (0, HX 1) := by
    have e : M_in a2 0 (nI 5 - 1) = some false := out_in (c := 5) (by decide) h
    simp only [M_bed, isReel_in (j := 1) (by decide), hB, e, Option.bind_some, lt, nm, bf, bt, if_true, if_false, th1]
  exact kT (L := L_bed HM (nI 1) a2) (M := fun h => M_bed h (nI 1) a2) hL hM (HX_t 1) (by decide)
set_option maxRecDepth 16384 in
theorem ki_39_1 : ∀ i, i < 5 → (K_39 HM (nI 1) (nI i)).isSome = true := by decide +kernel
set_option maxRecDepth 16384 in
theorem ka_39 (a1 a2 : Int32) : (K_39 HM a1 a2).isSome = true := by
  rcases outR_or a1 2 (by decide) with h | ⟨j, hj, rfl⟩
  · exact ko_39 h
  · rcases (show j = 0 ∨ j = 1 by omega) with rfl | rfl
    · rcases outR_or a2 3 (by decide) with h | ⟨i, hi, rfl⟩
      · exact kp_39_0 h
      · exact ki_39_0 i hi
    · rcases outR_or a2 5 (by decide) with h | ⟨i, hi, rfl⟩
      · exact kp_39_1 h
      · exact ki_39_1 i hi
