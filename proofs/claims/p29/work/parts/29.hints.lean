/-! the reference: hints -/
theorem EN_le {w h : Nat} {f : Nat → Int32} {l N N' : Nat} {e e' : Nat → Nat → Nat} (h1 : EN w h f l N e (fun _ => True)) (h2 : EN w h f l N' e' (fun _ => True)) : N ≤ N' := by
  have hex : ∀ k, ∃ j, k < N → j < N' ∧ ∀ b, b < manyN f l → e' j b = e k b := fun k => by
    by_cases hk : k < N
    · obtain ⟨j, g1, g2⟩ := h2.2.2 (e k) (h1.1 k hk).1 (h1.1 k hk).2.1 trivial
      exact ⟨j, fun _ => ⟨g1, g2⟩⟩
    · exact ⟨0, fun h => absurd h hk⟩
  obtain ⟨g, hg⟩ : ∃ g : Nat → Nat, ∀ k, k < N → g k < N' ∧ ∀ b, b < manyN f l → e' (g k) b = e k b := ⟨fun k => (hex k).choose, fun k hk => (hex k).choose_spec hk⟩
  refine fb_holes N' N g (fun k hk => (hg k hk).1) (fun i j hij hj he => ?_)
  have hlt := h1.2.1 i j hij hj
  have heq : cd (e i) (manyN f l) = cd (e j) (manyN f l) := cd_cong (fun b hb => by
    rw [← (hg i (by omega)).2 b hb, ← (hg j hj).2 b hb, he])
  omega
theorem CNT_one {w h : Nat} {f : Nat → Int32} {l N N' : Nat} (h1 : CNT w h f l N) (h2 : CNT w h f l N') : N = N' := by
  obtain ⟨e, h1⟩ := h1
  obtain ⟨e', h2⟩ := h2
  exact Nat.le_antisymm (EN_le h1 h2) (EN_le h2 h1)
theorem sm_0 {f : Nat → Nat} : ∀ {n : Nat}, sm f n = 0 ↔ ∀ k, k < n → f k = 0
  | 0 => ⟨fun _ k hk => by omega, fun _ => rfl⟩
  | n + 1 => by
    have ih := sm_0 (f := f) (n := n)
    show sm f n + f n = 0 ↔ _
    constructor
    · intro h k hk
      rcases Nat.lt_or_ge k n with h1 | h1
      · exact ih.mp (by omega) k h1
      · rw [show k = n by omega]; omega
    · intro h
      have h1 := ih.mpr (fun k hk => h k (by omega))
      have h2 := h n (by omega)
      omega
