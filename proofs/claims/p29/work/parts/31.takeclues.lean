/-! the reference: takeClues -/
def picN (f : Nat → Int32) (k : Nat) : Nat := nv (f (352 + k))
def lineC (w h : Nat) (f : Nat → Int32) (l : Nat) : Nat → Nat := fun i => picN f (atN w h l i)
