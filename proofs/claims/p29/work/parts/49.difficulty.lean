/-! the reference: difficulty -/
theorem one_bc : ∀ x, x < 16 → (one (nI x) = 1 ↔ bc x = 1) := by decide +kernel
