/-! the reference: narrow and trial -/
theorem bc_pos : ∀ x, x < 16 → 1 ≤ x → 1 ≤ bc x := by decide +kernel
