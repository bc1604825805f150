/-! the class: what a line is narrowed to is what the mathematics says (own work) -/
theorem b_00 (i : Nat) : bt (nI 0) i = false := by
  by_cases hi : i < 32
  · rw [b_nI hi, Nat.zero_testBit]
  · exact b_big (by omega)
section LN
variable {w h : Nat} {f : Nat → Int32} {u : Nat → Nat} {l : Nat} {I : fx_MI}
end LN
/-! by overlap -/
section LO
variable {w h : Nat} {f : Nat → Int32} {u : Nat → Nat} {l : Nat} {I : fx_MI}
theorem low_ex {P : Nat → Prop} {N : Nat} (hN : ∀ a, P a → a < N) (hne : ∃ a, P a) : ∃ a, P a ∧ ∀ i, i < a → ¬ P i := by
  obtain ⟨a, ha⟩ := hne
  induction a using Nat.strongRecOn with
  | _ a ih =>
    by_cases h : ∃ i, i < a ∧ P i
    · obtain ⟨i, h1, h2⟩ := h
      exact ih i h1 h2
    · exact ⟨a, ha, fun i h1 h2 => h ⟨i, h1, h2⟩⟩
theorem hig_ex {P : Nat → Prop} {N : Nat} (hN : ∀ a, P a → a < N) (hne : ∃ a, P a) : ∃ a, P a ∧ ∀ i, a < i → ¬ P i := by
  have key : ∀ d, ∀ a, a + d = N → P a → ∃ a, P a ∧ ∀ i, a < i → ¬ P i := by
    intro d
    induction d using Nat.strongRecOn with
    | _ d ih =>
      intro a had ha
      by_cases h : ∃ i, a < i ∧ P i
      · obtain ⟨i, h1, h2⟩ := h
        have := hN i h2
        exact ih (N - i) (by omega) i (by omega) h2
      · exact ⟨a, ha, fun i h1 h2 => h ⟨i, h1, h2⟩⟩
  obtain ⟨a, ha⟩ := hne
  have := hN a ha
  exact key (N - a) a (by omega) ha
/-- the least and the greatest starts stand in the rows -/
theorem exR_el (hok : okl 3 f l) (hn : cellsN w h l ≤ 8) (hne : ∃ s, PF w h f u l s) (hx : exR w h f u l I) : ∃ E L : Nat → Nat, elS I (manyN f l) (cellsN w h l) E L (lenN f l) (colN f l) ∧ ∀ b, b < manyN f l → Es w h f u l b (E b) ∧ Ls w h f u l b (L b) := by
  have hm := (many_eq hok).2
  obtain ⟨⟨k1, k2, k3, k4, k5⟩, h6, h7, h8⟩ := hx
  have hex : ∀ b, ∃ E L, b < manyN f l → (SB w h f u l b E ∧ ∀ i, i < E → ¬ SB w h f u l b i) ∧ SB w h f u l b L ∧ ∀ i, L < i → ¬ SB w h f u l b i := fun b => by
    by_cases hb : b < manyN f l
    · obtain ⟨s, hs⟩ := hne
      have hN : ∀ a, SB w h f u l b a → a < cellsN w h l := fun a => SB_lt hok hb
      obtain ⟨E, e1⟩ := low_ex hN ⟨s b, s, hs, rfl⟩
      obtain ⟨L, e2⟩ := hig_ex hN ⟨s b, s, hs, rfl⟩
      exact ⟨E, L, fun _ => ⟨e1, e2⟩⟩
    · exact ⟨0, 0, fun z => absurd z hb⟩
  obtain ⟨EE, hEE⟩ := Classical.skolem.mp hex
  obtain ⟨LL, hLL⟩ := Classical.skolem.mp hEE
  refine ⟨EE, LL, ⟨k2, k3, hm, hn, fun b hb => ?_⟩, fun b hb => ?_⟩
  · obtain ⟨⟨e1, e2⟩, e3, e4⟩ := hLL b hb
    generalize LL b = L0 at *
    generalize EE b = E0 at *
    obtain ⟨b1, b2, b3⟩ := k5 b hb
    have g1 := len_eq hok hb
    have g2 := col_eq (by omega) hok hb
    have hE8 := SB_lt hok hb e1
    have hL8 := SB_lt hok hb e3
    obtain ⟨s, s1, s2⟩ := e3
    have hend := pvl_e (FP_all.mpr s1).2.1 hb
    refine ⟨b1, b2, lowI_at (by omega) ?_ (fun i hi => ?_), higI_at (by omega) ?_ (fun i hi => ?_), by omega, ?_, by omega, by omega⟩
    · rw [l_i2l _ (by omega), if_pos (by omega)]
      exact (h8 b hb _).mpr e1
    · rw [l_i2l _ (by omega), if_pos (by omega)]
      exact bnt fun z => e2 i hi ((h8 b hb _).mp z)
    · exact (h8 b hb _).mpr ⟨s, s1, s2⟩
    · exact bnt fun z => e4 i hi ((h8 b hb _).mp z)
    · rcases Nat.lt_or_ge L0 E0 with z | z
      · exact absurd ⟨s, s1, s2⟩ (e2 L0 z)
      · exact z
  · obtain ⟨⟨e1, e2⟩, e3, e4⟩ := hLL b hb
    generalize LL b = L0 at *
    generalize EE b = E0 at *
    refine ⟨⟨e1, fun s hs => ?_⟩, e3, fun s hs => ?_⟩
    · rcases Nat.lt_or_ge (s b) E0 with z | z
      · exact absurd ⟨s, hs, rfl⟩ (e2 _ z)
      · exact z
    · rcases Nat.lt_or_ge L0 (s b) with z | z
      · exact absurd ⟨s, hs, rfl⟩ (e4 _ z)
      · exact z
end LO
