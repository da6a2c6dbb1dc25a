/-- only the rows a .. a + n - 1 differ -/
def Fr (a n : Nat) (h h' : Hp) : Prop := ∀ k, (k < a ∨ a + n ≤ k) → rd h' k = rd h k
set_option maxRecDepth 16384 in
theorem fr_up {α : Type} {a n r i : Nat} {x : Int32} {h0 h : Hp} {F : Hp → Option α} {P : α → Prop} (hh : Fr a n h0 h) (hr : a ≤ r ∧ r < a + n) (k : ∀ h1, Fr a n h0 h1 → ∃ v, F h1 = some v ∧ P v) : ∃ v, nm (up2 h r i x) F = some v ∧ P v :=
  k _ (fun q hq => (rd_up2_ne (by omega)).trans (hh q hq))
set_option maxRecDepth 16384 in
theorem fr_acp {α : Type} {a n r s m : Nat} {h0 h : Hp} {F : Hp → Option α} {P : α → Prop} (hh : Fr a n h0 h) (hr : a ≤ r ∧ r < a + n) (k : ∀ h1, Fr a n h0 h1 → ∃ v, F h1 = some v ∧ P v) : ∃ v, nm (acp h r s m) F = some v ∧ P v :=
  k _ (fun q hq => (rd_acp_ne (by omega)).trans (hh q hq))
set_option maxRecDepth 16384 in
theorem copyFrom_ok (h : Hp) (a o : Nat) : ∃ h', A_copyFrom h a o = some h' ∧ Fr a 11 h h' := by
  unfold A_copyFrom
  have H0 : Fr a 11 h h := fun _ _ => rfl
  refine fr_up H0 (by omega) (fun h1 H1 => ?_)
  refine fr_up H1 (by omega) (fun h2 H2 => ?_)
  refine fr_up H2 (by omega) (fun h3 H3 => ?_)
  refine fr_up H3 (by omega) (fun h4 H4 => ?_)
  refine fr_up H4 (by omega) (fun h5 H5 => ?_)
  refine fr_up H5 (by omega) (fun h6 H6 => ?_)
  refine fr_acp H6 (by omega) (fun h7 H7 => ?_)
  refine fr_acp H7 (by omega) (fun h8 H8 => ?_)
  refine fr_acp H8 (by omega) (fun h9 H9 => ?_)
  refine fr_acp H9 (by omega) (fun h10 H10 => ?_)
  refine fr_acp H10 (by omega) (fun h11 H11 => ?_)
  refine fr_acp H11 (by omega) (fun h12 H12 => ?_)
  refine fr_up H12 (by omega) (fun h13 H13 => ?_)
  refine fr_acp H13 (by omega) (fun h14 H14 => ?_)
  refine fr_acp H14 (by omega) (fun h15 H15 => ?_)
  refine fr_up H15 (by omega) (fun h16 H16 => ?_)
  refine fr_acp H16 (by omega) (fun h17 H17 => ?_)
  refine fr_acp H17 (by omega) (fun h18 H18 => ?_)
  exact ⟨_, rfl, H18⟩
set_option maxRecDepth 16384 in
/-- the class keeps its archive for undo: the past archive at i, its own places -/
theorem cremember_ok {h : Hp} {i : Nat} (hi : i < 8) (h6 : rd h 0 6 = nI i) : ∃ h', C_remember h = some h' ∧ ∀ k, k ≠ 0 → (k < 52 ∨ 140 ≤ k) → rd h' k = rd h k := by
  unfold C_remember
  have e : paO (rd h 0 6) = some (52 + 11 * i) := by
    unfold paO
    rw [h6, if_neg (nI_in hi (by decide)), nI_clamp (by omega)]
  obtain ⟨h3, e3, f3⟩ := copyFrom_ok h (52 + 11 * i) 1
  rw [e, Option.bind_some, e3, Option.bind_some]
  refine ⟨_, rfl, fun k h0 hk => ?_⟩
  rw [rd_up2_ne h0, rd_up2_ne h0]
  exact f3 k (by omega)
