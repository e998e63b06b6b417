/-! one bit or none -/
set_option maxRecDepth 100000 in
theorem bit1_tab : ∀ a, a < 64 → ∀ b, b < 64 → ((nI (64 * a + b) &&& (nI (64 * a + b) - nI 1)) = nI 0 ↔ bcn (64 * a + b) 12 ≤ 1) := by decide +kernel
