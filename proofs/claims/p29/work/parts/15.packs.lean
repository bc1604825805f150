/-! the reference: the ways to put blocks -/
theorem up_row {I : fx_MI} {q j : Nat} {x : Int32} {q' : Nat} (h : q' ≠ q) : fx_up I q j x q' = I q' := by
  funext j'
  exact up_ne (Or.inl h)
