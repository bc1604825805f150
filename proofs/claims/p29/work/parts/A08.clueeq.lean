/-! rows that have the same clues (own work) -/
def cqL (f f' : Nat → Int32) (l : Nat) : Prop := ((f' l = nI 0 ↔ f l = nI 0) ∧ manyN f' l = manyN f l) ∧ ∀ b, b < manyN f l → lenN f' l b = lenN f l b ∧ colN f' l b = colN f l b ∧ gapN f' l b = gapN f l b
def cq (f f' : Nat → Int32) : Prop := ∀ l, l < 16 → cqL f f' l
section CQ_
variable {f f' : Nat → Int32} {l : Nat}
theorem cqL_sym (h : cqL f f' l) : cqL f' f l := ⟨⟨h.1.1.symm, h.1.2.symm⟩, fun b hb => by
  obtain ⟨h1, h2, h3⟩ := h.2 b (by rw [← h.1.2]; exact hb)
  exact ⟨h1.symm, h2.symm, h3.symm⟩⟩
theorem cq_vld1 (h : cqL f f' l) {n : Nat} {s : Nat → Nat} (g : vld f l n s) : vld f' l n s := fun b hb => by
  rw [h.1.2] at hb ⊢
  obtain ⟨h1, h2, h3⟩ := h.2 b hb
  refine ⟨fun hb1 => ?_, fun hb1 => ?_⟩
  · rw [h1, (h.2 (b + 1) hb1).2.2]
    exact (g b hb).1 hb1
  · rw [h1]
    exact (g b hb).2 hb1
theorem cq_vld (h : cqL f f' l) {n : Nat} {s : Nat → Nat} : vld f' l n s ↔ vld f l n s := ⟨cq_vld1 (cqL_sym h), cq_vld1 h⟩
theorem cq_pcN (h : cqL f f' l) {s : Nat → Nat} {i : Nat} : ∀ {k : Nat}, k ≤ manyN f l → pcN f' l s k i = pcN f l s k i
  | 0, _ => rfl
  | k + 1, hk => by
    obtain ⟨h1, h2, h3⟩ := h.2 k (by omega)
    show pcN f' l s k i ||| _ = pcN f l s k i ||| _
    rw [cq_pcN h (k := k) (by omega), h1, h2]
theorem cq_PF (h : cqL f f' l) {w h' : Nat} {u s : Nat → Nat} : PF w h' f' u l s ↔ PF w h' f u l s := by
  unfold PF
  rw [cq_vld h, h.1.2]
  simp only [cq_pcN h (Nat.le_refl _)]
theorem cq_room1 (h : cqL f f' l) : ∀ {k : Nat}, k ≤ manyN f l → roomN f' l k = roomN f l k := fun {k} hk => by
  unfold roomN
  exact sm_cong fun b hb => by
    obtain ⟨h1, h2, h3⟩ := h.2 b (by omega)
    rw [h1, h3]
theorem cq_room (h : cqL f f' l) : roomN f' l (manyN f' l) = roomN f l (manyN f l) := by
  rw [h.1.2]
  exact cq_room1 h (Nat.le_refl _)
theorem cq_CNu (h : cqL f f' l) {w h' N : Nat} {u : Nat → Nat} : CNu w h' f' u l N ↔ CNu w h' f u l N := by
  unfold CNu
  rw [h.1.2]
  exact ⟨fun ⟨e, he⟩ => ⟨e, ENS_cong (fun s => cq_PF h) (fun _ => Iff.rfl) he⟩, fun ⟨e, he⟩ => ⟨e, ENS_cong (fun s => (cq_PF h).symm) (fun _ => Iff.rfl) he⟩⟩
end CQ_
section CR_
variable {f f' : Nat → Int32} {w h : Nat} {u v : Nat → Nat}
end CR_
