/-! the reference: narrow and trial -/
/-- the same but for the rows of scratch -/
def eqS (I I' : fx_MI) : Prop := (∀ j, I' 1 j = I 1 j) ∧ (∀ j, I' 2 j = I 2 j) ∧ (∀ j, I' 10 j = I 10 j) ∧ ∀ j, j ≠ 13 → j ≠ 20 → j ≠ 21 → I' 0 j = I 0 j
theorem bc_pos : ∀ x, x < 16 → 1 ≤ x → 1 ≤ bc x := by decide +kernel
