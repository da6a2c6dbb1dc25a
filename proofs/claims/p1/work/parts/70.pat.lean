/-! ===== p1: both find a pattern at the same place, in the five clips of a fresh archive ===== -/
noncomputable def fm (p t : Nat) : Bool := match A_findPattern HM 1 (nI t) (nI p), M_matchOf HM (nI t) (nI p) with
  | some a, some b => decide (a = b)
  | _, _ => false
set_option maxRecDepth 16384 in
theorem fm_0 : ∀ i, i < 250 → ∀ t, t < 5 → fm (0 + 1 + i) t = true := by decide +kernel
set_option maxRecDepth 16384 in
theorem fm_1 : ∀ i, i < 250 → ∀ t, t < 5 → fm (250 + 1 + i) t = true := by decide +kernel
set_option maxRecDepth 16384 in
theorem fm_2 : ∀ i, i < 250 → ∀ t, t < 5 → fm (500 + 1 + i) t = true := by decide +kernel
set_option maxRecDepth 16384 in
theorem fm_3 : ∀ i, i < 250 → ∀ t, t < 5 → fm (750 + 1 + i) t = true := by decide +kernel
set_option maxRecDepth 16384 in
theorem fm_4 : ∀ i, i < 250 → ∀ t, t < 5 → fm (1000 + 1 + i) t = true := by decide +kernel
set_option maxRecDepth 16384 in
theorem fm_5 : ∀ i, i < 250 → ∀ t, t < 5 → fm (1250 + 1 + i) t = true := by decide +kernel
set_option maxRecDepth 16384 in
theorem fm_6 : ∀ i, i < 250 → ∀ t, t < 5 → fm (1500 + 1 + i) t = true := by decide +kernel
set_option maxRecDepth 16384 in
theorem fm_7 : ∀ i, i < 250 → ∀ t, t < 5 → fm (1750 + 1 + i) t = true := by decide +kernel
set_option maxRecDepth 16384 in
theorem fm_8 : ∀ i, i < 250 → ∀ t, t < 5 → fm (2000 + 1 + i) t = true := by decide +kernel
set_option maxRecDepth 16384 in
theorem fm_9 : ∀ i, i < 250 → ∀ t, t < 5 → fm (2250 + 1 + i) t = true := by decide +kernel
