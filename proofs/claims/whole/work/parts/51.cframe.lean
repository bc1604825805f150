/-! the class's frame: places of a kind, calls across classes, arraylength, arraycopy, references put (own work) -/
def isK (ci q : Nat) : Prop := pl_C 0 q = some (.inl ci)
theorem isK_pl {ci q : Nat} (h : isK ci q) (n : Nat) : (MC n).2.2.1 q = some (.inl ci) := by
  show pl_C n q = _
  unfold isK pl_C at h
  unfold pl_C
  split
  · rename_i h1
    rw [if_pos h1] at h
    cases h
  · rename_i h1
    rw [if_neg h1] at h
    exact h
theorem isK_lt {ci q : Nat} (h : isK ci q) : q < 140 ∧ q ≠ 120 := by
  refine ⟨(MC_ok 0).1 q _ (isK_pl h 0), fun z => ?_⟩
  rw [z] at h
  cases h
theorem R0C_ex {b : Bool} : (∃ b', R0C b = R0C b') = True := eq_true ⟨b, rfl⟩
/-- what lies around a layer, clues, a situation -/
theorem lay_at {q : Nat} (h : isK 4 q) : (∀ b, R0C b q 0 = some (q + 1)) ∧ ∀ n, (MC n).2.2.1 (q + 1) = some (.inr (1, 4)) := by
  have key : ∀ q, q < 140 → fx_nth plL q = some (.inl 4) → q ≠ 101 ∧ q + 1 ≠ 120 ∧ ((fx_nth rfL q).bind (fun l => fx_nth l 0)).join = some (q + 1) ∧ fx_nth plL (q + 1) = some (.inr (1, 4)) := by decide +kernel
  have hq := isK_lt h
  unfold isK pl_C at h
  rw [if_neg hq.2] at h
  obtain ⟨h1, h2, h3, h4⟩ := key q hq.1 h
  refine ⟨fun b => ?_, fun n => ?_⟩
  · unfold R0C
    rw [if_neg (by omega), if_neg (by omega)]
    exact h3
  · show pl_C n (q + 1) = _
    unfold pl_C
    rw [if_neg h2]
    exact h4
theorem clu_at {q : Nat} (h : isK 3 q) : (∀ b, R0C b q 1 = some (q + 1) ∧ R0C b q 2 = some (q + 2) ∧ R0C b q 3 = some (q + 3) ∧ R0C b q 4 = some (q + 4)) ∧ ∀ n, (MC n).2.2.1 (q + 1) = some (.inr (0, 16)) ∧ (MC n).2.2.1 (q + 2) = some (.inr (0, 16)) ∧ (MC n).2.2.1 (q + 3) = some (.inr (0, 128)) ∧ (MC n).2.2.1 (q + 4) = some (.inr (0, 128)) := by
  have key : ∀ q, q < 140 → fx_nth plL q = some (.inl 3) → (q ≠ 101 ∧ q + 1 ≠ 120 ∧ q + 2 ≠ 120 ∧ q + 3 ≠ 120 ∧ q + 4 ≠ 120) ∧ (((fx_nth rfL q).bind (fun l => fx_nth l 1)).join = some (q + 1) ∧ ((fx_nth rfL q).bind (fun l => fx_nth l 2)).join = some (q + 2) ∧ ((fx_nth rfL q).bind (fun l => fx_nth l 3)).join = some (q + 3) ∧ ((fx_nth rfL q).bind (fun l => fx_nth l 4)).join = some (q + 4)) ∧ fx_nth plL (q + 1) = some (.inr (0, 16)) ∧ fx_nth plL (q + 2) = some (.inr (0, 16)) ∧ fx_nth plL (q + 3) = some (.inr (0, 128)) ∧ fx_nth plL (q + 4) = some (.inr (0, 128)) := by decide +kernel
  have hq := isK_lt h
  unfold isK pl_C at h
  rw [if_neg hq.2] at h
  obtain ⟨⟨h0, h1, h2, h3, h4⟩, ⟨r1, r2, r3, r4⟩, p1, p2, p3, p4⟩ := key q hq.1 h
  refine ⟨fun b => ?_, fun n => ?_⟩
  · unfold R0C
    simp only [h0, false_and, if_false]
    exact ⟨r1, r2, r3, r4⟩
  · refine ⟨?_, ?_, ?_, ?_⟩
    · show pl_C n (q + 1) = _
      unfold pl_C
      rw [if_neg h1]
      exact p1
    · show pl_C n (q + 2) = _
      unfold pl_C
      rw [if_neg h2]
      exact p2
    · show pl_C n (q + 3) = _
      unfold pl_C
      rw [if_neg h3]
      exact p3
    · show pl_C n (q + 4) = _
      unfold pl_C
      rw [if_neg h4]
      exact p4
theorem sit_at {q : Nat} (h : isK 2 q) : (∀ b, R0C b q 0 = some (q + 1) ∧ R0C b q 1 = some (q + 6) ∧ R0C b q 2 = some (q + 8)) ∧ isK 3 (q + 1) ∧ isK 4 (q + 6) ∧ isK 4 (q + 8) := by
  have key : ∀ q, q < 140 → fx_nth plL q = some (.inl 2) → (q ≠ 101 ∧ q + 1 ≠ 120 ∧ q + 6 ≠ 120 ∧ q + 8 ≠ 120) ∧ (((fx_nth rfL q).bind (fun l => fx_nth l 0)).join = some (q + 1) ∧ ((fx_nth rfL q).bind (fun l => fx_nth l 1)).join = some (q + 6) ∧ ((fx_nth rfL q).bind (fun l => fx_nth l 2)).join = some (q + 8)) ∧ fx_nth plL (q + 1) = some (.inl 3) ∧ fx_nth plL (q + 6) = some (.inl 4) ∧ fx_nth plL (q + 8) = some (.inl 4) := by decide +kernel
  have hq := isK_lt h
  unfold isK pl_C at h
  rw [if_neg hq.2] at h
  obtain ⟨⟨h0, h1, h2, h3⟩, ⟨r1, r2, r3⟩, p1, p2, p3⟩ := key q hq.1 h
  refine ⟨fun b => ?_, ?_, ?_, ?_⟩
  · unfold R0C
    simp only [h0, false_and, if_false]
    exact ⟨r1, r2, r3⟩
  · unfold isK pl_C
    rw [if_neg h1]
    exact p1
  · unfold isK pl_C
    rw [if_neg h2]
    exact p2
  · unfold isK pl_C
    rw [if_neg h3]
    exact p3
