/-! the stages of a line, as mathematics (own work) -/
section SG
variable {w h : Nat} {f : Nat → Int32} {l : Nat}
theorem room_s {b : Nat} : roomN f l (b + 1) = roomN f l b + (lenN f l b + gapN f l b) := rfl
end SG
