/-! the class: the tables of a line are an automaton for its fillings (own work) -/
theorem pop_cut {g : Nat → Bool} {n k : Nat} (hk : k ≤ n) : pop n (fun i => g i && decide (i < k)) = pop k g := by
  induction n with
  | zero =>
    rw [show k = 0 by omega]
    rfl
  | succ n ih =>
    have e : pop (n + 1) (fun i => g i && decide (i < k)) = pop n (fun i => g i && decide (i < k)) + if (g n && decide (n < k)) = true then 1 else 0 := rfl
    rw [e]
    by_cases h : k ≤ n
    · rw [ih h]
      simp [show ¬ n < k by omega]
    · have hk1 : k = n + 1 := by omega
      subst hk1
      have e2 : pop (n + 1) g = pop n g + if g n = true then 1 else 0 := rfl
      rw [e2, pop_c (g := g) (fun i hi => by simp [show i < n + 1 by omega])]
      simp
section AU
variable {w h : Nat} {f : Nat → Int32} {u : Nat → Nat} {l : Nat} {I : fx_MI}
end AU
