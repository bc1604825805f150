/-! the class: one cell's marks; trials (own work) -/
theorem lb_one {k : Nat} (hk : k < 64) {i : Nat} (hi : i < 64) : lb ((1 : Int64) <<< ((nI k).toInt64 &&& 63)) i = decide (i = k) := by
  rw [l_shl hk _ hi, l_1 _ (by omega)]
  by_cases h : i = k
  · subst h
    simp
  · rcases Nat.lt_or_ge i k with h1 | h1
    · simp [h, show ¬ k ≤ i by omega]
    · simp [h, show ¬ i - k = 0 by omega]
theorem bt_one {k : Nat} (hk : k < 32) {i : Nat} (hi : i < 32) : bt ((1 : Int32) <<< (nI k &&& nI 31)) i = decide (i = k) := by
  have e1 : ∀ j, j < 32 → bt 1 j = decide (j = 0) := by decide +kernel
  rw [b_shl hk _ hi, e1 _ (by omega)]
  by_cases h : i = k
  · subst h
    simp
  · rcases Nat.lt_or_ge i k with h1 | h1
    · simp [h, show ¬ k ≤ i by omega]
    · simp [h, show ¬ i - k = 0 by omega]
/-- a cell's place -/
theorem cell_at {w h x y k : Nat} (hw : w ≤ 8) (hx : x < w) (hk : k < w * h) : (8 * (k / w) + k % w = 8 * y + x) ↔ k = w * y + x := by
  have hm : k % w < w := Nat.mod_lt _ (by omega)
  constructor
  · intro e
    have e1 : k / w = y := by omega
    have e2 : k % w = x := by omega
    rw [← e1, ← e2]
    exact (Nat.div_add_mod k w).symm
  · intro e
    have e1 := dm_ (w := w) (l := y) hx
    rw [e, e1.1, e1.2]
theorem cell_in {w h x y : Nat} (hx : x < w) (hy : y < h) : w * y + x < w * h := by
  have := Nat.mul_le_mul_left w (show y + 1 ≤ h by omega)
  rw [Nat.mul_succ] at this
  omega
theorem k_dm {w h k : Nat} (hk : k < w * h) : k % w < w ∧ k / w < h := by
  have hw0 : 0 < w := by
    rcases Nat.eq_zero_or_pos w with z | z
    · subst z
      rw [Nat.zero_mul] at hk
      omega
    · exact z
  exact ⟨Nat.mod_lt _ hw0, Nat.div_lt_of_lt_mul hk⟩
/-! trials, of the cells of the puzzle alone -/
