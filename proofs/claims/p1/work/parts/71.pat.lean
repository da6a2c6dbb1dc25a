set_option maxRecDepth 16384 in
theorem fm_10 : ∀ i, i < 250 → ∀ t, t < 5 → fm (2500 + 1 + i) t = true := by decide +kernel
set_option maxRecDepth 16384 in
theorem fm_11 : ∀ i, i < 250 → ∀ t, t < 5 → fm (2750 + 1 + i) t = true := by decide +kernel
set_option maxRecDepth 16384 in
theorem fm_12 : ∀ i, i < 250 → ∀ t, t < 5 → fm (3000 + 1 + i) t = true := by decide +kernel
set_option maxRecDepth 16384 in
theorem fm_13 : ∀ i, i < 250 → ∀ t, t < 5 → fm (3250 + 1 + i) t = true := by decide +kernel
set_option maxRecDepth 16384 in
theorem fm_14 : ∀ i, i < 250 → ∀ t, t < 5 → fm (3500 + 1 + i) t = true := by decide +kernel
set_option maxRecDepth 16384 in
theorem fm_15 : ∀ i, i < 250 → ∀ t, t < 5 → fm (3750 + 1 + i) t = true := by decide +kernel
set_option maxRecDepth 16384 in
theorem fm_16 : ∀ i, i < 250 → ∀ t, t < 5 → fm (4000 + 1 + i) t = true := by decide +kernel
set_option maxRecDepth 16384 in
theorem fm_17 : ∀ i, i < 250 → ∀ t, t < 5 → fm (4250 + 1 + i) t = true := by decide +kernel
set_option maxRecDepth 16384 in
theorem fm_18 : ∀ i, i < 250 → ∀ t, t < 5 → fm (4500 + 1 + i) t = true := by decide +kernel
set_option maxRecDepth 16384 in
theorem fm_19 : ∀ i, i < 250 → ∀ t, t < 5 → fm (4750 + 1 + i) t = true := by decide +kernel
