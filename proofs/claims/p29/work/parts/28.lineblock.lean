/-! the reference: line, block, clearMarks -/
/-- the number of possible fillings -/
def CNT (w h : Nat) (f : Nat → Int32) (l N : Nat) : Prop := ∃ e, EN w h f l N e (fun _ => True)
theorem in_neg (x : Int32) : in_M x (nI 0) (nI 0 - nI 1) = false := by
  unfold in_M
  have h0 : (nI 0).toInt = 0 := by decide +kernel
  have h1 : (nI 0 - nI 1).toInt = -1 := by decide +kernel
  by_cases h : x < nI 0
  · rw [decide_eq_true h]
    rfl
  · have h2 : nI 0 - nI 1 < x := by
      rw [Int32.lt_iff_toInt_lt] at h ⊢
      rw [h0] at h
      rw [h1]
      omega
    rw [decide_eq_true h2, Bool.not_true, Bool.and_false]
