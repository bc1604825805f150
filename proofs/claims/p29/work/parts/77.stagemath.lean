/-! the stages of a line, as mathematics (own work) -/
section SG
variable {w h : Nat} {f : Nat → Int32} {l : Nat}
/-- color c leads on from stage t, by the first k blocks -/
def ONW (f : Nat → Int32) (l k c t : Nat) : Prop := ∃ b, b < k ∧ ((gapN f l b = 1 ∧ c = 0 ∧ t = roomN f l b) ∨ (c = colN f l b ∧ ∃ j, j < lenN f l b ∧ t = roomN f l b + gapN f l b + j))
/-- an empty cell changes nothing at stage t -/
def STY0 (f : Nat → Int32) (l k t : Nat) : Prop := t ≤ roomN f l (manyN f l) ∧ ∀ b, b < k → ¬ (gapN f l b = 1 ∧ t = roomN f l b) ∧ ∀ j, 1 ≤ j → j < lenN f l b → t ≠ roomN f l b + gapN f l b + j
def stp (f : Nat → Int32) (l c t t' : Nat) : Prop := (t' = t + 1 ∧ ONW f l (manyN f l) c t) ∨ (t' = t ∧ ((¬ f l = nI 0 ∧ c = 0 ∧ STY0 f l (manyN f l) t) ∨ (f l = nI 0 ∧ t = 0)))
theorem room_s {b : Nat} : roomN f l (b + 1) = roomN f l b + (lenN f l b + gapN f l b) := rfl
end SG
