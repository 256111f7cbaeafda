/-! the references that the constructors lay (1) -/
set_option maxRecDepth 100000 in
theorem zMB_r4 : ∀ k, k < 16 → ∀ i, i < 64 → zMB.2.2.1 (64 + k) i = xR0 (64 + k) i := by decide +kernel
set_option maxRecDepth 100000 in
theorem zMB_r5 : ∀ k, k < 16 → ∀ i, i < 64 → zMB.2.2.1 (80 + k) i = xR0 (80 + k) i := by decide +kernel
set_option maxRecDepth 100000 in
theorem zMB_r6 : ∀ k, k < 16 → ∀ i, i < 64 → zMB.2.2.1 (96 + k) i = xR0 (96 + k) i := by decide +kernel
set_option maxRecDepth 100000 in
theorem zMB_r7 : ∀ k, k < 16 → ∀ i, i < 64 → zMB.2.2.1 (112 + k) i = xR0 (112 + k) i := by decide +kernel
