set_option maxRecDepth 16384 in
theorem fm_30 : ∀ i, i < 250 → ∀ t, t < 5 → fm (7500 + 1 + i) t = true := by decide +kernel
set_option maxRecDepth 16384 in
theorem fm_31 : ∀ i, i < 250 → ∀ t, t < 5 → fm (7750 + 1 + i) t = true := by decide +kernel
set_option maxRecDepth 16384 in
theorem fm_32 : ∀ i, i < 250 → ∀ t, t < 5 → fm (8000 + 1 + i) t = true := by decide +kernel
set_option maxRecDepth 16384 in
theorem fm_33 : ∀ i, i < 250 → ∀ t, t < 5 → fm (8250 + 1 + i) t = true := by decide +kernel
set_option maxRecDepth 16384 in
theorem fm_34 : ∀ i, i < 250 → ∀ t, t < 5 → fm (8500 + 1 + i) t = true := by decide +kernel
set_option maxRecDepth 16384 in
theorem fm_35 : ∀ i, i < 250 → ∀ t, t < 5 → fm (8750 + 1 + i) t = true := by decide +kernel
set_option maxRecDepth 16384 in
theorem fm_36 : ∀ i, i < 250 → ∀ t, t < 5 → fm (9000 + 1 + i) t = true := by decide +kernel
set_option maxRecDepth 16384 in
theorem fm_37 : ∀ i, i < 250 → ∀ t, t < 5 → fm (9250 + 1 + i) t = true := by decide +kernel
set_option maxRecDepth 16384 in
theorem fm_38 : ∀ i, i < 250 → ∀ t, t < 5 → fm (9500 + 1 + i) t = true := by decide +kernel
set_option maxRecDepth 16384 in
theorem fm_39 : ∀ i, i < 250 → ∀ t, t < 5 → fm (9750 + 1 + i) t = true := by decide +kernel
set_option maxRecDepth 16384 in
theorem fm_all {p t : Nat} (h1 : 1 ≤ p) (h2 : p ≤ 10000) (ht : t < 5) : fm p t = true := by
  obtain ⟨i, rfl⟩ : ∃ i, p = 1 + i := ⟨p - 1, by omega⟩
  have go : ∀ (s : Nat), (∀ i, i < 250 → ∀ t, t < 5 → fm (s + 1 + i) t = true) → s ≤ i → i < s + 250 → fm (1 + i) t = true := fun s hs a b => by
    have := hs (i - s) (by omega) t ht
    rw [show s + 1 + (i - s) = 1 + i by omega] at this
    exact this
  by_cases h0 : i < 250
  · exact go 0 fm_0 (by omega) (by omega)
  by_cases h1 : i < 500
  · exact go 250 fm_1 (by omega) (by omega)
  by_cases h2 : i < 750
  · exact go 500 fm_2 (by omega) (by omega)
  by_cases h3 : i < 1000
  · exact go 750 fm_3 (by omega) (by omega)
  by_cases h4 : i < 1250
  · exact go 1000 fm_4 (by omega) (by omega)
  by_cases h5 : i < 1500
  · exact go 1250 fm_5 (by omega) (by omega)
  by_cases h6 : i < 1750
  · exact go 1500 fm_6 (by omega) (by omega)
  by_cases h7 : i < 2000
  · exact go 1750 fm_7 (by omega) (by omega)
  by_cases h8 : i < 2250
  · exact go 2000 fm_8 (by omega) (by omega)
  by_cases h9 : i < 2500
  · exact go 2250 fm_9 (by omega) (by omega)
  by_cases h10 : i < 2750
  · exact go 2500 fm_10 (by omega) (by omega)
  by_cases h11 : i < 3000
  · exact go 2750 fm_11 (by omega) (by omega)
  by_cases h12 : i < 3250
  · exact go 3000 fm_12 (by omega) (by omega)
  by_cases h13 : i < 3500
  · exact go 3250 fm_13 (by omega) (by omega)
  by_cases h14 : i < 3750
  · exact go 3500 fm_14 (by omega) (by omega)
  by_cases h15 : i < 4000
  · exact go 3750 fm_15 (by omega) (by omega)
  by_cases h16 : i < 4250
  · exact go 4000 fm_16 (by omega) (by omega)
  by_cases h17 : i < 4500
  · exact go 4250 fm_17 (by omega) (by omega)
  by_cases h18 : i < 4750
  · exact go 4500 fm_18 (by omega) (by omega)
  by_cases h19 : i < 5000
  · exact go 4750 fm_19 (by omega) (by omega)
  by_cases h20 : i < 5250
  · exact go 5000 fm_20 (by omega) (by omega)
  by_cases h21 : i < 5500
  · exact go 5250 fm_21 (by omega) (by omega)
  by_cases h22 : i < 5750
  · exact go 5500 fm_22 (by omega) (by omega)
  by_cases h23 : i < 6000
  · exact go 5750 fm_23 (by omega) (by omega)
  by_cases h24 : i < 6250
  · exact go 6000 fm_24 (by omega) (by omega)
  by_cases h25 : i < 6500
  · exact go 6250 fm_25 (by omega) (by omega)
  by_cases h26 : i < 6750
  · exact go 6500 fm_26 (by omega) (by omega)
  by_cases h27 : i < 7000
  · exact go 6750 fm_27 (by omega) (by omega)
  by_cases h28 : i < 7250
  · exact go 7000 fm_28 (by omega) (by omega)
  by_cases h29 : i < 7500
  · exact go 7250 fm_29 (by omega) (by omega)
  by_cases h30 : i < 7750
  · exact go 7500 fm_30 (by omega) (by omega)
  by_cases h31 : i < 8000
  · exact go 7750 fm_31 (by omega) (by omega)
  by_cases h32 : i < 8250
  · exact go 8000 fm_32 (by omega) (by omega)
  by_cases h33 : i < 8500
  · exact go 8250 fm_33 (by omega) (by omega)
  by_cases h34 : i < 8750
  · exact go 8500 fm_34 (by omega) (by omega)
  by_cases h35 : i < 9000
  · exact go 8750 fm_35 (by omega) (by omega)
  by_cases h36 : i < 9250
  · exact go 9000 fm_36 (by omega) (by omega)
  by_cases h37 : i < 9500
  · exact go 9250 fm_37 (by omega) (by omega)
  by_cases h38 : i < 9750
  · exact go 9500 fm_38 (by omega) (by omega)
  exact go 9750 fm_39 (by omega) (by omega)
