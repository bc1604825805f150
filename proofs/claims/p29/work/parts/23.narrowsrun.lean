/-! the reference: narrows, walked -/
def ms (g : Nat → Nat) : Nat := sm g 64
