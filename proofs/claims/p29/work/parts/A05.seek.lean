/-! the class: a hint in the lines (own work) -/
def stU (w h : Nat) (f : Nat → Int32) (lev : Nat) (u : Nat → Nat) (l : Nat) : Prop := ∀ i, i < cellsN w h l → BT w h f lev u l i (u (atN w h l i))
