/-! the references that the constructor lays (2) -/
set_option maxRecDepth 100000 in
theorem zMA_r6 : ∀ k, k < 16 → ∀ i, i < 64 → zMA.2.2.1 (96 + k) i = xR0 (96 + k) i := by decide +kernel
set_option maxRecDepth 100000 in
theorem zMA_r7 : ∀ k, k < 16 → ∀ i, i < 64 → zMA.2.2.1 (112 + k) i = xR0 (112 + k) i := by decide +kernel
set_option maxRecDepth 100000 in
theorem zMA_r8 : ∀ k, k < 16 → ∀ i, i < 64 → zMA.2.2.1 (128 + k) i = xR0 (128 + k) i := by decide +kernel
