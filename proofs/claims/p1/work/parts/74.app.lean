/-! ===== append: both buffers take twenty bytes ===== -/
set_option maxRecDepth 16384 in
theorem add_ok {h : Hp} {s : Nat} (hs : rd h 47 1 = nI s) (hl : s < 600) (x : Int32) : ∃ h', T_add h x = some h' ∧ rd h' 47 1 = nI (s + 1) ∧ (∀ k, k ≠ 47 → k ≠ 48 → rd h' k = rd h k) ∧ ∀ i, i ≠ 1 → rd h' 47 i = rd h 47 i := by
  unfold T_add
  rw [hs, if_neg (fun q => by have := (nI_leI (a := 600) (by decide) (by omega)).mp q; omega), wrO_in (v := s) hl (by decide), Option.bind_some]
  refine ⟨_, rfl, ?_, fun k h1 h2 => ?_, fun i hi => ?_⟩
  · rw [rd_up2_self, upd_self, rd_up2_ne (by decide), hs, nI_1]
  · rw [rd_up2_ne h1, rd_up2_ne h2]
  · rw [rd_up2_self, upd_ne hi, rd_up2_ne (by decide)]
set_option maxRecDepth 16384 in
theorem addFour_ok {h : Hp} {s : Nat} (hs : rd h 47 1 = nI s) (hl : s + 4 ≤ 600) (x : Int32) : ∃ h', T_addFour h x = some h' ∧ rd h' 47 1 = nI (s + 4) ∧ (∀ k, k ≠ 47 → k ≠ 48 → rd h' k = rd h k) ∧ ∀ i, i ≠ 1 → rd h' 47 i = rd h 47 i := by
  obtain ⟨h1, e1, s1, f1, g1⟩ := add_ok hs (by omega) (iush x 24)
  obtain ⟨h2, e2, s2, f2, g2⟩ := add_ok s1 (by omega) (iush x 16)
  obtain ⟨h3, e3, s3, f3, g3⟩ := add_ok s2 (by omega) (iush x 8)
  obtain ⟨h4, e4, s4, f4, g4⟩ := add_ok s3 (by omega) x
  refine ⟨h4, ?_, s4, fun k a b => ?_, fun i a => ?_⟩
  · unfold T_addFour
    rw [e1, Option.bind_some, e2, Option.bind_some, e3, Option.bind_some, e4, Option.bind_some]
  · rw [f4 k a b, f3 k a b, f2 k a b, f1 k a b]
  · rw [g4 i a, g3 i a, g2 i a, g1 i a]
set_option maxRecDepth 16384 in
theorem append_ok {h : Hp} {s : Nat} (hs : rd h 47 1 = nI s) (hl : s + 20 ≤ 600) (p1 p2 p3 p4 p5 : Int32) : ∃ h', C_append h p1 p2 p3 p4 p5 = some (nI (s + 20), h') ∧ rd h' 47 1 = nI (s + 20) ∧ (∀ k, k ≠ 47 → k ≠ 48 → rd h' k = rd h k) ∧ ∀ i, i ≠ 1 → rd h' 47 i = rd h 47 i := by
  obtain ⟨h1, e1, s1, f1, g1⟩ := addFour_ok hs (by omega) p1
  obtain ⟨h2, e2, s2, f2, g2⟩ := addFour_ok s1 (by omega) p2
  obtain ⟨h3, e3, s3, f3, g3⟩ := addFour_ok s2 (by omega) p3
  obtain ⟨h4, e4, s4, f4, g4⟩ := addFour_ok s3 (by omega) p4
  obtain ⟨h5, e5, s5, f5, g5⟩ := addFour_ok s4 (by omega) p5
  refine ⟨h5, ?_, s5, fun k a b => ?_, fun i a => ?_⟩
  · have l : nI s + 20 ≤ 600 := by
      rw [show (20 : Int32) = nI 20 from rfl, nI_add]
      exact nI_le (b := 600) hl (by decide)
    unfold C_append
    rw [hs, if_pos l, e1, Option.bind_some, e2, Option.bind_some, e3, Option.bind_some, e4, Option.bind_some, e5, Option.bind_some, s5]
  · rw [f5 k a b, f4 k a b, f3 k a b, f2 k a b, f1 k a b]
  · rw [g5 i a, g4 i a, g3 i a, g2 i a, g1 i a]
set_option maxRecDepth 16384 in
theorem append_no {h : Hp} {s : Nat} (hs : rd h 47 1 = nI s) (hl : 600 < s + 20) (hb : s ≤ 600) (p1 p2 p3 p4 p5 : Int32) : C_append h p1 p2 p3 p4 p5 = some (-1, h) := by
  have l : ¬ nI s + 20 ≤ 600 := by
    rw [show (20 : Int32) = nI 20 from rfl, nI_add]
    exact nI_ge (a := 600) hl (by omega)
  unfold C_append
  rw [hs, if_neg l]
set_option maxRecDepth 16384 in
theorem type_step {h : Hp} {s : Nat} (hs : rd h 140 9 = nI s) (hl : s < 600) (c : Int32) (n : Nat) {v : Int32} (hv : ¬ v < 0) : ∃ h', M_type_L3 c (n + 1) v h = M_type_L3 c n (v + (-8)) h' ∧ rd h' 140 9 = nI (s + 1) ∧ (∀ k, k ≠ 140 → k ≠ 146 → rd h' k = rd h k) ∧ ∀ i, i ≠ 9 → rd h' 140 i = rd h 140 i := by
  refine ⟨up2 (up2 h 146 s ((c >>> (v &&& 31)) &&& 255)) 140 9 (nI (s + 1)), ?_, ?_, fun k h1 h2 => ?_, fun i hi => ?_⟩
  · rw [M_type_L3, if_neg hv, hs, wrO_in (v := s) hl (by decide), Option.bind_some]
    show M_type_L3 c n (v + (-8)) (up2 _ 140 9 (rd _ 140 9 + 1)) = _
    rw [rd_up2_ne (by decide), hs, nI_1]
  · rw [rd_up2_self, upd_self]
  · rw [rd_up2_ne h1, rd_up2_ne h2]
  · rw [rd_up2_self, upd_ne hi, rd_up2_ne (by decide)]
set_option maxRecDepth 16384 in
theorem type_ok {h : Hp} {s : Nat} (hs : rd h 140 9 = nI s) (hl : s + 4 ≤ 600) (c : Int32) : ∃ h', M_type h c = some h' ∧ rd h' 140 9 = nI (s + 4) ∧ (∀ k, k ≠ 140 → k ≠ 146 → rd h' k = rd h k) ∧ ∀ i, i ≠ 9 → rd h' 140 i = rd h 140 i := by
  obtain ⟨h1, e1, s1, f1, g1⟩ := type_step hs (by omega) c 1000002 (v := 24) (by decide)
  obtain ⟨h2, e2, s2, f2, g2⟩ := type_step s1 (by omega) c 1000001 (v := 24 + (-8)) (by decide)
  obtain ⟨h3, e3, s3, f3, g3⟩ := type_step s2 (by omega) c 1000000 (v := 24 + (-8) + (-8)) (by decide)
  obtain ⟨h4, e4, s4, f4, g4⟩ := type_step s3 (by omega) c 999999 (v := 24 + (-8) + (-8) + (-8)) (by decide)
  have e5 : M_type_L3 c 999999 (24 + (-8) + (-8) + (-8) + (-8)) h4 = some h4 := by
    rw [show (999999 : Nat) = 999998 + 1 from rfl, M_type_L3, if_pos (by decide)]
  refine ⟨h4, ?_, s4, fun k a b => ?_, fun i a => ?_⟩
  · unfold M_type
    rw [show FU = 1000002 + 1 from rfl, e1, show (1000002 : Nat) = 1000001 + 1 from rfl, e2, show (1000001 : Nat) = 1000000 + 1 from rfl, e3, show (1000000 : Nat) = 999999 + 1 from rfl, e4, e5, Option.bind_some]
  · rw [f4 k a b, f3 k a b, f2 k a b, f1 k a b]
  · rw [g4 i a, g3 i a, g2 i a, g1 i a]
set_option maxRecDepth 16384 in
theorem mappend_ok {h : Hp} {s : Nat} (hs : rd h 140 9 = nI s) (hl : s + 20 ≤ 600) (p1 p2 p3 p4 p5 : Int32) : ∃ h', M_append h p1 p2 p3 p4 p5 = some (nI (s + 20), h') ∧ rd h' 140 9 = nI (s + 20) ∧ (∀ k, k ≠ 140 → k ≠ 146 → rd h' k = rd h k) ∧ ∀ i, i ≠ 9 → i ≠ 15 → rd h' 140 i = rd h 140 i := by
  have hs : rd (up2 h 140 15 0) 140 9 = nI s := by rw [rd_up2_self, upd_ne (by decide), hs]
  obtain ⟨h1, e1, s1, f1, g1⟩ := type_ok hs (by omega) p1
  obtain ⟨h2, e2, s2, f2, g2⟩ := type_ok s1 (by omega) p2
  obtain ⟨h3, e3, s3, f3, g3⟩ := type_ok s2 (by omega) p3
  obtain ⟨h4, e4, s4, f4, g4⟩ := type_ok s3 (by omega) p4
  obtain ⟨h5, e5, s5, f5, g5⟩ := type_ok s4 (by omega) p5
  refine ⟨h5, ?_, s5, fun k a b => ?_, fun i a b => ?_⟩
  · have l : nI s + 20 ≤ 600 := by
      rw [show (20 : Int32) = nI 20 from rfl, nI_add]
      exact nI_le (b := 600) hl (by decide)
    unfold M_append nm
    dsimp only
    rw [hs, if_pos l, e1, Option.bind_some, e2, Option.bind_some, e3, Option.bind_some, e4, Option.bind_some, e5, Option.bind_some, s5]
  · rw [f5 k a b, f4 k a b, f3 k a b, f2 k a b, f1 k a b, rd_up2_ne a]
  · rw [g5 i a, g4 i a, g3 i a, g2 i a, g1 i a, rd_up2_self, upd_ne b]
set_option maxRecDepth 16384 in
theorem mappend_no {h : Hp} {s : Nat} (hs : rd h 140 9 = nI s) (hl : 600 < s + 20) (hb : s ≤ 600) (p1 p2 p3 p4 p5 : Int32) : M_append h p1 p2 p3 p4 p5 = some (-1, up2 h 140 15 0) := by
  have hs : rd (up2 h 140 15 0) 140 9 = nI s := by rw [rd_up2_self, upd_ne (by decide), hs]
  have l : ¬ nI s + 20 ≤ 600 := by
    rw [show (20 : Int32) = nI 20 from rfl, nI_add]
    exact nI_ge (a := 600) hl (by omega)
  unfold M_append nm
  dsimp only
  rw [hs, if_neg l]
set_option maxRecDepth 16384 in
theorem ka_0 (a1 a2 a3 a4 a5 : Int32) : (K_0 HM a1 a2 a3 a4 a5).isSome = true := by
  obtain ⟨h1, e1, s1, f1, g1⟩ := append_ok (h := HM) (s := 0) (by decide +kernel) (by decide) a1 a2 a3 a4 a5
  obtain ⟨h2, e2, s2, f2, g2⟩ := mappend_ok (h := h1) (s := 0) (by rw [f1 140 (by decide) (by decide)]; decide +kernel) (by decide) a1 a2 a3 a4 a5
  unfold K_0
  rw [e1, Option.bind_some]
  dsimp only
  rw [e2, Option.bind_some]
  dsimp only
  rw [if_pos rfl]
  rfl
