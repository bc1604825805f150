/-! the class: the search's small methods (own work) -/
theorem idx_dm {w k : Nat} (hw : 1 ≤ w ∧ w ≤ 8) : idxK w k / 8 = k / w ∧ idxK w k % 8 = k % w := by
  have := Nat.mod_lt k (show 0 < w by omega)
  unfold idxK
  omega
