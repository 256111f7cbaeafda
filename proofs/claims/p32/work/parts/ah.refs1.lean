/-! the references that the constructor lays (1) -/
set_option maxRecDepth 100000 in
theorem zMA_r3 : ∀ k, k < 16 → ∀ i, i < 64 → zMA.2.2.1 (48 + k) i = xR0 (48 + k) i := by decide +kernel
set_option maxRecDepth 100000 in
theorem zMA_r4 : ∀ k, k < 16 → ∀ i, i < 64 → zMA.2.2.1 (64 + k) i = xR0 (64 + k) i := by decide +kernel
set_option maxRecDepth 100000 in
theorem zMA_r5 : ∀ k, k < 16 → ∀ i, i < 64 → zMA.2.2.1 (80 + k) i = xR0 (80 + k) i := by decide +kernel
