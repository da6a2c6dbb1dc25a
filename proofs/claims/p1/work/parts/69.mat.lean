/-! ===== p1: matches, its arguments out of range ===== -/
set_option maxRecDepth 16384 in
theorem kT49 {a1 a2 : Int32} {t : Int32} {v : Bool} (hL : L_matches HM a1 a2 = some (t, HM)) (hM : M_matches HM a1 a2 = some (v, HX t)) (h0 : t ≠ 0) : (K_49 HM a1 a2).isSome = true := by
  unfold K_49
  rw [hL, Option.bind_some]
  dsimp only
  rw [hM, Option.bind_some]
  dsimp only
  rw [HX_t, Option.bind_some, if_pos rfl, if_neg h0]
  rfl
set_option maxRecDepth 16384 in
theorem ko_49 {a1 a2 : Int32} (h : outR a1 (nI 5)) : (K_49 HM a1 a2).isSome = true := by
  have hL : L_matches HM a1 a2 = some (1, HM) := by
    unfold L_matches C_matches; rw [needClip_out h]; rfl
  obtain ⟨b, hb⟩ := in_some a2 1 9999
  have hM : M_matches HM a1 a2 = some (false, HX 1) := by
    simp only [M_matches, isClip_out h, M_isPattern, hb, Option.bind_some, lt, nm, bf, bt, if_true, if_false, th2a]
    try (cases b <;> simp only [Option.bind_some, lt, nm, bf, bt, if_true, if_false, th2a])
  exact kT49 hL hM (by decide)
set_option maxRecDepth 16384 in
theorem kp_49 {j : Nat} (hj : j < 5) {a2 : Int32} (h : a2 < nI 1 ∨ nI 9999 < a2) : (K_49 HM (nI j) a2).isSome = true := by
  have hL : L_matches HM (nI j) a2 = some (2, HM) := by
    have e : C_needRange HM a2 1 9999 = some (.inl (1, HM)) := range_out h
    simp only [L_matches, C_matches, needClip_in hj, thB_r, C_needPattern, e, thB_l, caB_l]; rfl
  have hM : M_matches HM (nI j) a2 = some (false, HX 2) := by
    have e : M_in a2 1 9999 = some false := in_out h
    simp only [M_matches, M_isPattern, isClip_in hj, e, Option.bind_some, lt, nm, bf, bt, if_true, if_false, th2b]
  exact kT49 hL hM (by decide)
