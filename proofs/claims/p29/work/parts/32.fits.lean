/-! the reference: whether the picture fits a clue -/
theorem vld_end {f : Nat → Int32} {l n : Nat} {s : Nat → Nat} (hok : okl 3 f l) (hv : vld f l n s) {b : Nat} (hb : b < manyN f l) : s b + lenN f l b ≤ n := by
  by_cases h : b + 1 < manyN f l
  · have h1 := vld_ap hok hv (show b < b + 1 by omega) h
    have h2 := vld_16 hok hv h
    omega
  · exact (hv b hb).2 (by omega)
/-- the picture fits the clue of line l -/
def fitP (w h : Nat) (f : Nat → Int32) (l : Nat) : Prop := ∃ s, vld f l (cellsN w h l) s ∧ ∀ i, i < cellsN w h l → lineC w h f l i = pcN f l s (manyN f l) i
