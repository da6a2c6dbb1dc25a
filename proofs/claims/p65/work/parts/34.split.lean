/-! ===== p65: a local that is named ===== -/
theorem nm_split {α β : Type} {x : α} {F : α → β} {r : β} (h : nm x F = r) : ∃ j : α, j = x ∧ F j = r := ⟨x, rfl, h⟩
