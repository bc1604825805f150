/-! more of the same (own work) -/
section FL
variable {nL : Nat} {M : fx_M} {ev : fx_Env} {ret : Option FieldType} {P : fx_P} {pr : fx_Pr} {pc : Nat} {L : List (Option Value)} {st : List Value} {I : fx_MI} {J : fx_MJ} {R : fx_MR}
end FL
theorem nI_rem' {a b : Nat} (ha : a < 2 ^ 31) (hb0 : 0 < b) (hb : b < 2 ^ 31) : nI a - nI a / nI b * nI b = nI (a % b) := pk_rem ha hb0 hb
theorem wrN_le {w h : Nat} {f : Nat → Int32} {l : Nat} : wrN w h f l ≤ 1 := by
  unfold wrN
  split <;> omega
