/-! the references that the constructor lays (0) -/
set_option maxRecDepth 100000 in
theorem zMA_r0 : ∀ k, k < 16 → ∀ i, i < 64 → zMA.2.2.1 (0 + k) i = xR0 (0 + k) i := by decide +kernel
set_option maxRecDepth 100000 in
theorem zMA_r1 : ∀ k, k < 16 → ∀ i, i < 64 → zMA.2.2.1 (16 + k) i = xR0 (16 + k) i := by decide +kernel
set_option maxRecDepth 100000 in
theorem zMA_r2 : ∀ k, k < 16 → ∀ i, i < 64 → zMA.2.2.1 (32 + k) i = xR0 (32 + k) i := by decide +kernel
