/-! solutions, as mathematics -/
/-- all pictures with P, of which the places S count, in a row -/
def ENS (P : (Nat → Nat) → Prop) (S : Nat → Prop) (N : Nat) (e : Nat → Nat → Nat) : Prop := (∀ k, k < N → P (e k)) ∧ (∀ i j, i < j → j < N → ∃ c, S c ∧ e i c ≠ e j c) ∧ ∀ p, P p → ∃ k, k < N ∧ ∀ c, S c → e k c = p c
theorem ENS_cong {P P' : (Nat → Nat) → Prop} {S S' : Nat → Prop} {N : Nat} {e : Nat → Nat → Nat} (hP : ∀ p, P p ↔ P' p) (hS : ∀ c, S c ↔ S' c) (h : ENS P S N e) : ENS P' S' N e := by
  refine ⟨fun k hk => (hP _).mp (h.1 k hk), fun i j h1 h2 => ?_, fun p hp => ?_⟩
  · obtain ⟨c, g1, g2⟩ := h.2.1 i j h1 h2
    exact ⟨c, (hS c).mp g1, g2⟩
  · obtain ⟨k, g1, g2⟩ := h.2.2 p ((hP p).mpr hp)
    exact ⟨k, g1, fun c hc => g2 c ((hS c).mpr hc)⟩
theorem ENS_one {P : (Nat → Nat) → Prop} {S : Nat → Prop} {N M : Nat} {e g : Nat → Nat → Nat} (h1 : ENS P S N e) (h2 : ENS P S M g) : N = M := by
  have key : ∀ {N M : Nat} {e g : Nat → Nat → Nat}, ENS P S N e → ENS P S M g → N ≤ M := by
    intro N M e g h1 h2
    have hex : ∀ k, ∃ j, k < N → j < M ∧ ∀ c, S c → g j c = e k c := fun k => by
      by_cases hk : k < N
      · obtain ⟨j, a, b⟩ := h2.2.2 (e k) (h1.1 k hk)
        exact ⟨j, fun _ => ⟨a, b⟩⟩
      · exact ⟨0, fun h => absurd h hk⟩
    refine fb_holes M N (fun k => (hex k).choose) (fun k hk => ((hex k).choose_spec hk).1) (fun i j hij hj he => ?_)
    obtain ⟨c, c1, c2⟩ := h1.2.1 i j hij hj
    have a1 := ((hex i).choose_spec (by omega)).2 c c1
    have a2 := ((hex j).choose_spec hj).2 c c1
    try dsimp only at he
    rw [he] at a1
    omega
  exact Nat.le_antisymm (key h1 h2) (key h2 h1)
