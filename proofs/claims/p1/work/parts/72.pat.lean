set_option maxRecDepth 16384 in
theorem fm_20 : ∀ i, i < 250 → ∀ t, t < 5 → fm (5000 + 1 + i) t = true := by decide +kernel
set_option maxRecDepth 16384 in
theorem fm_21 : ∀ i, i < 250 → ∀ t, t < 5 → fm (5250 + 1 + i) t = true := by decide +kernel
set_option maxRecDepth 16384 in
theorem fm_22 : ∀ i, i < 250 → ∀ t, t < 5 → fm (5500 + 1 + i) t = true := by decide +kernel
set_option maxRecDepth 16384 in
theorem fm_23 : ∀ i, i < 250 → ∀ t, t < 5 → fm (5750 + 1 + i) t = true := by decide +kernel
set_option maxRecDepth 16384 in
theorem fm_24 : ∀ i, i < 250 → ∀ t, t < 5 → fm (6000 + 1 + i) t = true := by decide +kernel
set_option maxRecDepth 16384 in
theorem fm_25 : ∀ i, i < 250 → ∀ t, t < 5 → fm (6250 + 1 + i) t = true := by decide +kernel
set_option maxRecDepth 16384 in
theorem fm_26 : ∀ i, i < 250 → ∀ t, t < 5 → fm (6500 + 1 + i) t = true := by decide +kernel
set_option maxRecDepth 16384 in
theorem fm_27 : ∀ i, i < 250 → ∀ t, t < 5 → fm (6750 + 1 + i) t = true := by decide +kernel
set_option maxRecDepth 16384 in
theorem fm_28 : ∀ i, i < 250 → ∀ t, t < 5 → fm (7000 + 1 + i) t = true := by decide +kernel
set_option maxRecDepth 16384 in
theorem fm_29 : ∀ i, i < 250 → ∀ t, t < 5 → fm (7250 + 1 + i) t = true := by decide +kernel
