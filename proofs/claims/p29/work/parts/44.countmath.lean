/-! counting solutions, as mathematics: a stack of tries -/
def okU (w h C : Nat) (u : Nat → Nat) : Prop := ∀ k, k < w * h → 1 ≤ u k ∧ u k < 2 ^ (C + 1)
