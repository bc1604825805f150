/-! the reference: a filling as bits (nI_and, nI_or: as in kit/laws) -/
/-- the color of cell i by the first b blocks -/
def pcN (f : Nat → Int32) (l : Nat) (s : Nat → Nat) : Nat → Nat → Nat
  | 0, _ => 0
  | b + 1, i => pcN f l s b i ||| (if s b ≤ i ∧ i < s b + lenN f l b then colN f l b else 0)
def mkN (f : Nat → Int32) (k : Nat) : Nat := nv (f (288 + k))
def fitN (w h : Nat) (f : Nat → Int32) (l : Nat) (s : Nat → Nat) : Prop := ∀ i, i < cellsN w h l → mkN f (atN w h l i) / 2 ^ (pcN f l s (manyN f l) i) % 2 = 1
