/-! rows that have the same clues (own work) -/
def cqL (f f' : Nat → Int32) (l : Nat) : Prop := ((f' l = nI 0 ↔ f l = nI 0) ∧ manyN f' l = manyN f l) ∧ ∀ b, b < manyN f l → lenN f' l b = lenN f l b ∧ colN f' l b = colN f l b ∧ gapN f' l b = gapN f l b
def cq (f f' : Nat → Int32) : Prop := ∀ l, l < 16 → cqL f f' l
section CQ_
variable {f f' : Nat → Int32} {l : Nat}
theorem cqL_sym (h : cqL f f' l) : cqL f' f l := ⟨⟨h.1.1.symm, h.1.2.symm⟩, fun b hb => by
  obtain ⟨h1, h2, h3⟩ := h.2 b (by rw [← h.1.2]; exact hb)
  exact ⟨h1.symm, h2.symm, h3.symm⟩⟩
theorem cq_sym (h : cq f f') : cq f' f := fun l hl => cqL_sym (h l hl)
theorem cq_vld1 (h : cqL f f' l) {n : Nat} {s : Nat → Nat} (g : vld f l n s) : vld f' l n s := fun b hb => by
  rw [h.1.2] at hb ⊢
  obtain ⟨h1, h2, h3⟩ := h.2 b hb
  refine ⟨fun hb1 => ?_, fun hb1 => ?_⟩
  · rw [h1, (h.2 (b + 1) hb1).2.2]
    exact (g b hb).1 hb1
  · rw [h1]
    exact (g b hb).2 hb1
theorem cq_vld (h : cqL f f' l) {n : Nat} {s : Nat → Nat} : vld f' l n s ↔ vld f l n s := ⟨cq_vld1 (cqL_sym h), cq_vld1 h⟩
theorem cq_pcN (h : cqL f f' l) {s : Nat → Nat} {i : Nat} : ∀ {k : Nat}, k ≤ manyN f l → pcN f' l s k i = pcN f l s k i
  | 0, _ => rfl
  | k + 1, hk => by
    obtain ⟨h1, h2, h3⟩ := h.2 k (by omega)
    show pcN f' l s k i ||| _ = pcN f l s k i ||| _
    rw [cq_pcN h (k := k) (by omega), h1, h2]
theorem cq_PF (h : cqL f f' l) {w h' : Nat} {u s : Nat → Nat} : PF w h' f' u l s ↔ PF w h' f u l s := by
  unfold PF
  rw [cq_vld h, h.1.2]
  simp only [cq_pcN h (Nat.le_refl _)]
theorem cq_room1 (h : cqL f f' l) : ∀ {k : Nat}, k ≤ manyN f l → roomN f' l k = roomN f l k := fun {k} hk => by
  unfold roomN
  exact sm_cong fun b hb => by
    obtain ⟨h1, h2, h3⟩ := h.2 b (by omega)
    rw [h1, h3]
theorem cq_room (h : cqL f f' l) : roomN f' l (manyN f' l) = roomN f l (manyN f l) := by
  rw [h.1.2]
  exact cq_room1 h (Nat.le_refl _)
theorem cq_BT1 (h : cqL f f' l) {w h' lev i x : Nat} {u : Nat → Nat} (g : BT w h' f lev u l i x) : BT w h' f' lev u l i x := by
  unfold BT at g ⊢
  split at g
  · rename_i hl1
    rw [if_pos hl1]
    unfold B1 Es Ls at g ⊢
    simp only [cq_PF h, h.1.2]
    obtain ⟨E, L, g1, g2⟩ := g
    have hlen : ∀ b, b < manyN f l → lenN f' l b = lenN f l b ∧ colN f' l b = colN f l b := fun b hb => ⟨(h.2 b hb).1, (h.2 b hb).2.1⟩
    refine ⟨E, L, g1, ?_⟩
    rcases g2 with ⟨b, k1, k2, k3, k4⟩ | ⟨k1, ⟨b, k2, k3, k4⟩, k5⟩ | ⟨k1, k2, k5⟩
    · exact Or.inl ⟨b, k1, k2, by rw [(hlen b k1).1]; exact k3, by rw [(hlen b k1).2]; exact k4⟩
    · exact Or.inr (Or.inl ⟨fun b hb => by rw [(hlen b hb).1]; exact k1 b hb, ⟨b, k2, k3, by rw [(hlen b k2).1]; exact k4⟩, k5⟩)
    · exact Or.inr (Or.inr ⟨fun b hb => by rw [(hlen b hb).1]; exact k1 b hb, fun b hb => by rw [(hlen b hb).1]; exact k2 b hb, k5⟩)
  · rename_i hl1
    rw [if_neg hl1]
    unfold B2 at g ⊢
    simp only [cq_PF h, h.1.2, cq_pcN h (Nat.le_refl _)]
    exact g
theorem cq_BT (h : cqL f f' l) {w h' lev i x : Nat} {u : Nat → Nat} : BT w h' f' lev u l i x ↔ BT w h' f lev u l i x := ⟨cq_BT1 (cqL_sym h), cq_BT1 h⟩
theorem cq_CNu (h : cqL f f' l) {w h' N : Nat} {u : Nat → Nat} : CNu w h' f' u l N ↔ CNu w h' f u l N := by
  unfold CNu
  rw [h.1.2]
  exact ⟨fun ⟨e, he⟩ => ⟨e, ENS_cong (fun s => cq_PF h) (fun _ => Iff.rfl) he⟩, fun ⟨e, he⟩ => ⟨e, ENS_cong (fun s => (cq_PF h).symm) (fun _ => Iff.rfl) he⟩⟩
theorem cq_gvA (h : cqL f f' l) {w h' lev i x : Nat} {u : Nat → Nat} : gvA w h' f' lev u l i x ↔ gvA w h' f lev u l i x := by
  unfold gvA
  simp only [cq_BT h]
theorem cq_stU (h : cqL f f' l) {w h' lev : Nat} {u : Nat → Nat} : stU w h' f' lev u l ↔ stU w h' f lev u l := by
  unfold stU
  simp only [cq_BT h]
end CQ_
section CR_
variable {f f' : Nat → Int32} {w h : Nat} {u v : Nat → Nat}
theorem cq_good1 (hc : cq f f') (hwh : h + w ≤ 16) {lev : Nat} (g : good w h f lev u) : good w h f' lev u := fun l hl hn => by
  have h1 := hc l (by omega)
  obtain ⟨⟨s, hs⟩, g2⟩ := g l hl (fun z => hn (h1.1.1.mpr z))
  exact ⟨⟨s, (cq_PF h1).mpr hs⟩, fun i hi => (cq_BT h1).mpr (g2 i hi)⟩
theorem cq_good (hc : cq f f') (hwh : h + w ≤ 16) {lev : Nat} : good w h f' lev u ↔ good w h f lev u := ⟨cq_good1 (cq_sym hc) hwh, cq_good1 hc hwh⟩
theorem cq_NFc (hc : cq f f') (hwh : h + w ≤ 16) {lev : Nat} : NFc w h f' lev u ↔ NFc w h f lev u := by
  unfold NFc
  simp only [cq_good hc hwh]
theorem cq_NTc (hc : cq f f') (hwh : h + w ≤ 16) {lev : Nat} : NTc w h f' lev u v ↔ NTc w h f lev u v := by
  unfold NTc
  simp only [cq_good hc hwh]
theorem cq_NF (hc : cq f f') (hwh : h + w ≤ 16) {lev : Nat} : NF w h f' lev u ↔ NF w h f lev u := by
  unfold NF
  simp only [cq_good hc hwh]
theorem cq_ref2 (hc : cq f f') (hwh : h + w ≤ 16) {k c : Nat} : ref2 w h f' u k c ↔ ref2 w h f u k c := by
  unfold ref2
  rw [cq_NF hc hwh]
theorem cq_goodT (hc : cq f f') (hwh : h + w ≤ 16) {c : Nat} : goodT w h c f' u ↔ goodT w h c f u := by
  unfold goodT
  simp only [cq_good hc hwh, cq_ref2 hc hwh]
theorem cq_TTc (hc : cq f f') (hwh : h + w ≤ 16) {c : Nat} : TTc w h c f' u v ↔ TTc w h c f u v := by
  unfold TTc
  simp only [cq_goodT hc hwh]
theorem cq_TFc (hc : cq f f') (hwh : h + w ≤ 16) {c : Nat} : TFc w h c f' u ↔ TFc w h c f u := by
  unfold TFc
  simp only [cq_goodT hc hwh]
theorem cq_NLc (hc : cq f f') (hwh : h + w ≤ 16) {c lev : Nat} : NLc w h c f' lev u v ↔ NLc w h c f lev u v := by
  unfold NLc
  simp only [cq_TTc hc hwh, cq_NTc hc hwh]
theorem cq_NGc (hc : cq f f') (hwh : h + w ≤ 16) {c lev : Nat} : NGc w h c f' lev u ↔ NGc w h c f lev u := by
  unfold NGc
  simp only [cq_TFc hc hwh, cq_NFc hc hwh]
theorem cq_sol1 (hc : cq f f') (hwh : h + w ≤ 16) {p : Nat → Nat} (g : sol w h f u p) : sol w h f' u p := ⟨g.1, fun l hl hn => by
  have h1 := hc l (by omega)
  obtain ⟨s, s1, s2⟩ := g.2 l hl (fun z => hn (h1.1.1.mpr z))
  refine ⟨s, (cq_vld h1).mpr s1, fun i hi => ?_⟩
  rw [h1.1.2, cq_pcN h1 (Nat.le_refl _)]
  exact s2 i hi⟩
theorem cq_sol (hc : cq f f') (hwh : h + w ≤ 16) {p : Nat → Nat} : sol w h f' u p ↔ sol w h f u p := ⟨cq_sol1 (cq_sym hc) hwh, cq_sol1 hc hwh⟩
theorem cq_rf0 (hc : cq f f') (hwh : h + w ≤ 16) {c : Nat} : rf0 w h c f' u ↔ rf0 w h c f u := by
  unfold rf0
  simp only [cq_ref2 hc hwh]
theorem cq_rfF (hc : cq f f') (hwh : h + w ≤ 16) {c k cc : Nat} : rfF w h c f' u k cc ↔ rfF w h c f u k cc := by
  unfold rfF
  simp only [cq_ref2 hc hwh]
theorem cq_gvU1 (hc : cq f f') (hwh : h + w ≤ 16) {lev l i x : Nat} (g : gvU w h f lev u l i x) : gvU w h f' lev u l i x := by
  obtain ⟨⟨g1, g2, g3⟩, N, g4, g5⟩ := g
  have h1 := hc l (by omega)
  refine ⟨⟨g1, fun z => g2 (h1.1.1.mp z), (cq_gvA h1).mpr g3⟩, N, (cq_CNu h1).mpr g4, fun l' N' i' x' hl' hn' hN' hg' => ?_⟩
  have h2 := hc l' (by omega)
  exact g5 l' N' i' x' hl' (fun z => hn' (h2.1.1.mpr z)) ((cq_CNu h2).mp hN') ((cq_gvA h2).mp hg')
theorem cq_gvU (hc : cq f f') (hwh : h + w ≤ 16) {lev l i x : Nat} : gvU w h f' lev u l i x ↔ gvU w h f lev u l i x := ⟨cq_gvU1 (cq_sym hc) hwh, cq_gvU1 hc hwh⟩
end CR_
