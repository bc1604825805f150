/-! the search, as mathematics: states, what can follow (own work) -/
def idxK (w k : Nat) : Nat := 8 * (k / w) + k % w
section SE
variable {w h : Nat} {I : fx_MI}
end SE
