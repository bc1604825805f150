/-! the reference: narrowing all lines -/
section
variable {f f' : Nat → Int32} {l : Nat}
end
/-- what holds of the whole puzzle's clues and marks -/
def preN (I : fx_MI) : Prop := dimM I ∧ (∀ k, k < 64 → rg (I 1 (288 + k)) 16) ∧ ∀ l, l < 16 → okl 3 (I 1) l
