/-! the references that the constructors lay (0) -/
set_option maxRecDepth 100000 in
theorem zMB_r0 : ∀ k, k < 16 → ∀ i, i < 64 → zMB.2.2.1 (0 + k) i = xR0 (0 + k) i := by decide +kernel
set_option maxRecDepth 100000 in
theorem zMB_r1 : ∀ k, k < 16 → ∀ i, i < 64 → zMB.2.2.1 (16 + k) i = xR0 (16 + k) i := by decide +kernel
set_option maxRecDepth 100000 in
theorem zMB_r2 : ∀ k, k < 16 → ∀ i, i < 64 → zMB.2.2.1 (32 + k) i = xR0 (32 + k) i := by decide +kernel
set_option maxRecDepth 100000 in
theorem zMB_r3 : ∀ k, k < 16 → ∀ i, i < 64 → zMB.2.2.1 (48 + k) i = xR0 (48 + k) i := by decide +kernel
