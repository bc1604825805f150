/-! the class: the places of the sums (own work) -/
theorem idx_at {w y x : Nat} (hx : x < w) : idxK w (w * y + x) = 8 * y + x := by
  have e := dm_ (w := w) (l := y) hx
  unfold idxK
  rw [e.1, e.2]
theorem idx_inj {w i k : Nat} (hw : 1 ≤ w ∧ w ≤ 8) (he : idxK w i = idxK w k) : i = k := by
  have h1 := idx_dm (k := i) hw
  have h2 := idx_dm (k := k) hw
  rw [he] at h1
  have e1 : i = w * (i / w) + i % w := (Nat.div_add_mod i w).symm
  have e2 : k = w * (k / w) + k % w := (Nat.div_add_mod k w).symm
  rw [e1, e2, ← h1.1, ← h1.2, h2.1, h2.2]
