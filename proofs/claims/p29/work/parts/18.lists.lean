/-! the reference: all possible fillings of a line -/
theorem pcN_cong {f : Nat → Int32} {l : Nat} {s t : Nat → Nat} {i : Nat} : ∀ {k : Nat}, (∀ b, b < k → s b = t b) → pcN f l s k i = pcN f l t k i
  | 0, _ => rfl
  | k + 1, h => by
    show pcN f l s k i ||| _ = pcN f l t k i ||| _
    rw [pcN_cong (k := k) (fun b hb => h b (by omega)), h k (by omega)]
/-- the possible fillings whose codes have P, in ascending order -/
def EN (w h : Nat) (f : Nat → Int32) (l N : Nat) (e : Nat → Nat → Nat) (P : Nat → Prop) : Prop :=
  (∀ k, k < N → vld f l (cellsN w h l) (e k) ∧ fitN w h f l (e k) ∧ P (cd (e k) (manyN f l))) ∧ (∀ i j, i < j → j < N → cd (e i) (manyN f l) < cd (e j) (manyN f l)) ∧ ∀ s, vld f l (cellsN w h l) s → fitN w h f l s → P (cd s (manyN f l)) → ∃ k, k < N ∧ ∀ b, b < manyN f l → e k b = s b
theorem EN_0 {w h : Nat} {f : Nat → Int32} {l : Nat} {e : Nat → Nat → Nat} {P : Nat → Prop} (hP : ∀ s, vld f l (cellsN w h l) s → ¬ P (cd s (manyN f l))) : EN w h f l 0 e P := ⟨fun k hk => by omega, fun i j h1 h2 => by omega, fun s h1 _ h3 => absurd h3 (hP s h1)⟩
theorem EN_cong {w h : Nat} {f : Nat → Int32} {l N : Nat} {e : Nat → Nat → Nat} {P Q : Nat → Prop} (hPQ : ∀ s, vld f l (cellsN w h l) s → (P (cd s (manyN f l)) ↔ Q (cd s (manyN f l)))) (hE : EN w h f l N e P) : EN w h f l N e Q := ⟨fun k hk => ⟨(hE.1 k hk).1, (hE.1 k hk).2.1, (hPQ _ (hE.1 k hk).1).mp (hE.1 k hk).2.2⟩, hE.2.1, fun s h1 h2 h3 => hE.2.2 s h1 h2 ((hPQ s h1).mpr h3)⟩
theorem EN_fit {w h : Nat} {f : Nat → Int32} {l N : Nat} {e : Nat → Nat → Nat} {s : Nat → Nat} (hok : okl 3 f l) (h8 : cellsN w h l ≤ 8) (hv : vld f l (cellsN w h l) s) (hf : fitN w h f l s) (hE : EN w h f l N e (fun c => c < cd s (manyN f l))) : EN w h f l (N + 1) (fun k => if k = N then s else e k) (fun c => c ≤ cd s (manyN f l)) := by
  refine ⟨fun k hk => ?_, fun i j hij hj => ?_, fun t h1 h2 h3 => ?_⟩
  · try dsimp only
    by_cases h4 : k = N
    · rw [if_pos h4]
      exact ⟨hv, hf, Nat.le_refl _⟩
    · rw [if_neg h4]
      have := hE.1 k (by omega)
      exact ⟨this.1, this.2.1, Nat.le_of_lt this.2.2⟩
  · try dsimp only
    rw [if_neg (by omega)]
    by_cases h4 : j = N
    · rw [if_pos h4]
      exact (hE.1 i (by omega)).2.2
    · rw [if_neg h4]
      exact hE.2.1 i j hij (by omega)
  · rcases Nat.lt_or_eq_of_le h3 with h4 | h4
    · obtain ⟨k, h5, h6⟩ := hE.2.2 t h1 h2 h4
      refine ⟨k, by omega, fun b hb => ?_⟩
      try dsimp only
      rw [if_neg (by omega)]
      exact h6 b hb
    · refine ⟨N, by omega, fun b hb => ?_⟩
      try dsimp only
      rw [if_pos rfl]
      exact cd_eq (fun i hi => by have := vld_16 hok hv hi; omega) (fun i hi => by have := vld_16 hok h1 hi; omega) h4.symm b hb
theorem cd_bound {s : Nat → Nat} : ∀ {k : Nat}, (∀ i, i < k → s i < 16) → cd s k < 16 ^ k
  | 0, _ => by simp [cd]
  | k + 1, h => by
    have h1 := cd_bound (k := k) (fun i hi => h i (by omega))
    have h2 := h k (by omega)
    show cd s k * 16 + s k < 16 ^ (k + 1)
    rw [Nat.pow_succ]
    omega
