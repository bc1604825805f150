/-! narrowing, of the cells of the puzzle alone -/
theorem PF_uc {w h : Nat} {f : Nat → Int32} {u u' : Nat → Nat} {l : Nat} {s : Nat → Nat} (hw : w ≤ 8) (hh : h ≤ 8) (hl : l < h + w) (he : ∀ k, k < w * h → u k = u' k) : PF w h f u l s ↔ PF w h f u' l s := by
  unfold PF
  refine and_congr Iff.rfl ⟨fun g i hi => ?_, fun g i hi => ?_⟩
  · rw [← he _ (atN_lt hw hh hl hi)]
    exact g i hi
  · rw [he _ (atN_lt hw hh hl hi)]
    exact g i hi
