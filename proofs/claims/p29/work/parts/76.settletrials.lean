/-! the class: narrowing by trials, walked (own work) -/
/-- marks have colors of the puzzle alone -/
def ckO (c : Nat) (J : fx_MJ) (o : Nat) : Prop := ∀ d, c < d → d < 4 → ∀ i, i < 64 → lb (J (o + 1) d) i = false
