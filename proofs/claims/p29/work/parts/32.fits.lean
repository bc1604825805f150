/-! the reference: whether the picture fits a clue -/
/-- the picture fits the clue of line l -/
def fitP (w h : Nat) (f : Nat → Int32) (l : Nat) : Prop := ∃ s, vld f l (cellsN w h l) s ∧ ∀ i, i < cellsN w h l → lineC w h f l i = pcN f l s (manyN f l) i
