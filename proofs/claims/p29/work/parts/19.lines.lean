/-! the reference: a line: wrong or not, how many fillings, what its cells can be -/
def bc (x : Nat) : Nat := x % 2 + x / 2 % 2 + x / 4 % 2 + x / 8 % 2
theorem bc_le : ∀ x, x < 16 → bc x ≤ 4 := by decide +kernel
def prN (w h : Nat) (f : Nat → Int32) (l : Nat) : Nat → Nat
  | 0 => 1
  | k + 1 => prN w h f l k * bc (mkN f (atN w h l k))
