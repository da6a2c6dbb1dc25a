set_option maxRecDepth 16384 in
theorem dd_all : ∀ b, b < 12 → ∀ a, a < 1189 → (ddivO (FP.i2d (nI a)) (FP.i2d (nI (1 + b)))).isSome = true := by decide +kernel
set_option maxRecDepth 16384 in
theorem ff_all : ∀ b, b < 12 → ∀ a, a < 64 → ((fdivO (FP.i2f (nI a)) (FP.i2f (nI (1 + b)))).bind f2dO).isSome = true := by decide +kernel
