/-! the references that the constructors lay (2) -/
set_option maxRecDepth 100000 in
theorem zMB_r8 : ∀ k, k < 16 → ∀ i, i < 64 → zMB.2.2.1 (128 + k) i = xR0 (128 + k) i := by decide +kernel
set_option maxRecDepth 100000 in
theorem zMB_r9 : ∀ k, k < 16 → ∀ i, i < 64 → zMB.2.2.1 (144 + k) i = xR0 (144 + k) i := by decide +kernel
set_option maxRecDepth 100000 in
theorem zMB_r10 : ∀ k, k < 16 → ∀ i, i < 64 → zMB.2.2.1 (160 + k) i = xR0 (160 + k) i := by decide +kernel
set_option maxRecDepth 100000 in
theorem zMB_r11 : ∀ k, k < 8 → ∀ i, i < 64 → zMB.2.2.1 (176 + k) i = xR0 (176 + k) i := by decide +kernel
