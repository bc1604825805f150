/-! the reference: narrowing all lines -/
section
variable {f f' : Nat → Int32} {l : Nat}
theorem row_many (h : ∀ j, j < 288 → f' j = f j) (hl : l < 16) : manyN f' l = manyN f l := by
  unfold manyN
  rw [h _ (by omega)]
theorem row_len (h : ∀ j, j < 288 → f' j = f j) (hl : l < 16) {b : Nat} (hb : b < 8) : lenN f' l b = lenN f l b ∧ colN f' l b = colN f l b ∧ gapN f' l b = gapN f l b := by
  unfold lenN colN gapN
  rw [h _ (by omega), h _ (by omega), h _ (by omega)]
  exact ⟨rfl, rfl, rfl⟩
theorem row_okl (h : ∀ j, j < 288 → f' j = f j) (hl : l < 16) (hok : okl 3 f l) : okl 3 f' l := by
  have hm := many_eq hok
  refine ⟨by rw [h _ (by omega)]; exact hok.1, by rw [h _ (by omega)]; exact hok.2.1, by rw [h _ (by omega), h _ (by omega)]; exact hok.2.2.1, fun b hb => ?_⟩
  rw [row_many h hl] at hb
  have h1 := row_len h hl (b := b) (by omega)
  rw [h1.1, h1.2.1, h _ (by omega), h _ (by omega)]
  exact hok.2.2.2 b hb
theorem row_vld (h : ∀ j, j < 288 → f' j = f j) (hl : l < 16) (hm : manyN f l ≤ 8) {n : Nat} {s : Nat → Nat} : vld f' l n s ↔ vld f l n s := by
  unfold vld
  rw [row_many h hl]
  constructor
  · intro g b hb
    have h1 := row_len h hl (b := b) (by omega)
    refine ⟨fun h2 => ?_, fun h2 => ?_⟩
    · have h3 := row_len h hl (b := b + 1) (by omega)
      rw [← h1.1, ← h3.2.2]
      exact (g b hb).1 h2
    · rw [← h1.1]
      exact (g b hb).2 h2
  · intro g b hb
    have h1 := row_len h hl (b := b) (by omega)
    refine ⟨fun h2 => ?_, fun h2 => ?_⟩
    · have h3 := row_len h hl (b := b + 1) (by omega)
      rw [h1.1, h3.2.2]
      exact (g b hb).1 h2
    · rw [h1.1]
      exact (g b hb).2 h2
theorem row_pcN (h : ∀ j, j < 288 → f' j = f j) (hl : l < 16) {s : Nat → Nat} {i : Nat} : ∀ {k : Nat}, k ≤ 8 → pcN f' l s k i = pcN f l s k i
  | 0, _ => rfl
  | k + 1, hk => by
    have h1 := row_len h hl (b := k) (by omega)
    show pcN f' l s k i ||| _ = pcN f l s k i ||| _
    rw [row_pcN h hl (k := k) (by omega), h1.1, h1.2.1]
theorem row_PF (h : ∀ j, j < 288 → f' j = f j) (hl : l < 16) (hm : manyN f l ≤ 8) {w h' : Nat} {u s : Nat → Nat} : PF w h' f' u l s ↔ PF w h' f u l s := by
  unfold PF
  rw [row_vld h hl hm, row_many h hl]
  simp only [row_pcN h hl hm]
theorem row_BT (h : ∀ j, j < 288 → f' j = f j) (hl : l < 16) (hm : manyN f l ≤ 8) {w h' lev i x : Nat} {u : Nat → Nat} : BT w h' f' lev u l i x ↔ BT w h' f lev u l i x := by
  have hlen : ∀ b, b < manyN f l → lenN f' l b = lenN f l b ∧ colN f' l b = colN f l b := fun b hb => by
    have := row_len h hl (b := b) (by omega)
    exact ⟨this.1, this.2.1⟩
  unfold BT
  split
  · unfold B1 Es Ls
    simp only [row_PF h hl hm, row_many h hl]
    constructor
    · rintro ⟨E, L, g1, g2⟩
      refine ⟨E, L, g1, ?_⟩
      rcases g2 with ⟨b, k1, k2, k3, k4⟩ | ⟨k1, ⟨b, k2, k3, k4⟩, k5⟩ | ⟨k1, k2, k5⟩
      · exact Or.inl ⟨b, k1, k2, by rw [← (hlen b k1).1]; exact k3, by rw [← (hlen b k1).2]; exact k4⟩
      · exact Or.inr (Or.inl ⟨fun b hb => by rw [← (hlen b hb).1]; exact k1 b hb, ⟨b, k2, k3, by rw [← (hlen b k2).1]; exact k4⟩, k5⟩)
      · exact Or.inr (Or.inr ⟨fun b hb => by rw [← (hlen b hb).1]; exact k1 b hb, fun b hb => by rw [← (hlen b hb).1]; exact k2 b hb, k5⟩)
    · rintro ⟨E, L, g1, g2⟩
      refine ⟨E, L, g1, ?_⟩
      rcases g2 with ⟨b, k1, k2, k3, k4⟩ | ⟨k1, ⟨b, k2, k3, k4⟩, k5⟩ | ⟨k1, k2, k5⟩
      · exact Or.inl ⟨b, k1, k2, by rw [(hlen b k1).1]; exact k3, by rw [(hlen b k1).2]; exact k4⟩
      · exact Or.inr (Or.inl ⟨fun b hb => by rw [(hlen b hb).1]; exact k1 b hb, ⟨b, k2, k3, by rw [(hlen b k2).1]; exact k4⟩, k5⟩)
      · exact Or.inr (Or.inr ⟨fun b hb => by rw [(hlen b hb).1]; exact k1 b hb, fun b hb => by rw [(hlen b hb).1]; exact k2 b hb, k5⟩)
  · unfold B2
    simp only [row_PF h hl hm, row_many h hl, row_pcN h hl hm]
end
theorem atN_inj {w h l i j : Nat} (hw : 1 ≤ w) (hij : i < j) : atN w h l i ≠ atN w h l j := by
  unfold atN
  split
  · omega
  · have : w * i < w * j := Nat.mul_lt_mul_of_pos_left hij hw
    omega
/-- what narrowing may change -/
def frN (I I' : fx_MI) : Prop := ∀ q j, (q ≠ 3 ∧ q ≠ 4 ∧ q ≠ 5 ∧ q ≠ 6 ∧ q ≠ 7 ∧ q ≠ 8 ∧ (q ≠ 0 ∨ j ≠ 13) ∧ (q ≠ 1 ∨ j < 288 ∨ 352 ≤ j)) → I' q j = I q j
/-- what holds of the whole puzzle's clues and marks -/
def preN (I : fx_MI) : Prop := dimM I ∧ (∀ k, k < 64 → rg (I 1 (288 + k)) 16) ∧ ∀ l, l < 16 → okl 3 (I 1) l
def lvN (v : Int32) : Nat := if v = nI 1 then 1 else 2
/-- on the way: marks below those of the start, above each fixed point -/
def inN (I : fx_MI) (lev : Nat) (I' : fx_MI) : Prop := frN I I' ∧ (∀ k, k < 64 → rg (I' 1 (288 + k)) 16) ∧ (∀ k, sub (mkN (I' 1) k) (mkN (I 1) k)) ∧ (∀ r, (∀ k, sub (r k) (mkN (I 1) k)) → good (rW I) (rH I) (I 1) lev r → ∀ k, sub (r k) (mkN (I' 1) k)) ∧ ∀ k, rW I * rH I ≤ k → mkN (I' 1) k = mkN (I 1) k
theorem frN_d {I I' : fx_MI} (h : frN I I') : rW I' = rW I ∧ rH I' = rH I ∧ rC I' = rC I ∧ (dimM I → dimM I') ∧ ∀ j, j < 288 → I' 1 j = I 1 j := by
  have h2 := dim_row3 (I := I) (I' := I') (h 0 3 (by omega)) (h 0 4 (by omega)) (h 0 5 (by omega))
  exact ⟨h2.2.1, h2.2.2.1, h2.2.2.2, fun hd => by rw [h2.1]; exact hd, fun j hj => h 1 j (by omega)⟩
theorem frN_L {I I' I'' : fx_MI} (h : frN I I') (h' : frL I' I'') : frN I I'' := fun q j hq => by rw [h' q j (by omega), h q j hq]
theorem preN_in {I I' : fx_MI} {lev : Nat} (hp : preN I) (h : inN I lev I') : preN I' := by
  obtain ⟨h1, h2, h3, h4, h5⟩ := frN_d h.1
  exact ⟨h4 hp.1, h.2.1, fun l hl => row_okl h5 hl (hp.2.2 l hl)⟩
theorem preN_L {I : fx_MI} (hp : preN I) {l : Nat} (hl : l < rH I + rW I) : preL I l := by
  obtain ⟨hw, hh, -⟩ := dim_of hp.1
  exact ⟨hp.1, hp.2.1, hl, hp.2.2 l (by omega)⟩
theorem inN_L {I I' I'' : fx_MI} {lev : Nat} (h : inN I lev I') (h' : frL I' I'') : inN I lev I'' := by
  have hr := (frL_d h').1
  obtain ⟨g1, g2, g3, g4, g5⟩ := h
  exact ⟨frN_L g1 h', by rw [hr]; exact g2, by rw [hr]; exact g3, by rw [hr]; exact g4, by rw [hr]; exact g5⟩
/-- a line's new marks -/
theorem inN_line {I I1 I2 : fx_MI} {lev l : Nat} {x : Nat → Nat} (hp : preN I) (h1 : inN I lev I1) (hl : l < rH I + rW I) (hhas : ¬ I 1 l = nI 0) (hne : ∃ s, PF (rW I) (rH I) (I 1) (mkN (I1 1)) l s) (hx : ∀ i, i < cellsN (rW I) (rH I) l → BT (rW I) (rH I) (I 1) lev (mkN (I1 1)) l i (x i)) (hfr : ∀ q j, (q ≠ 8 ∧ (q ≠ 1 ∨ ∀ i, i < cellsN (rW I) (rH I) l → j ≠ 288 + atN (rW I) (rH I) l i)) → I2 q j = I1 q j) (hin : ∀ i, i < cellsN (rW I) (rH I) l → I2 1 (288 + atN (rW I) (rH I) l i) = nI (x i)) : inN I lev I2 := by
  obtain ⟨g1, g2, g3, g4, g5⟩ := h1
  obtain ⟨hw, hh, -⟩ := dim_of hp.1
  have hwh := wh_le hw.2 hh.2
  have hok := hp.2.2 l (by omega)
  have h16 : ∀ i, i < cellsN (rW I) (rH I) l → x i < 16 := fun i hi => BT_16 hok (by
    have := atN_lt hw.2 hh.2 hl hi
    exact (mark_eq g2 (by omega)).2) (hx i hi)
  have hsub : ∀ i, i < cellsN (rW I) (rH I) l → sub (x i) (mkN (I1 1) (atN (rW I) (rH I) l i)) := fun i hi => BT_sub hok hi hne (hx i hi)
  -- a cell is on the line, or not
  have hcell : ∀ k, (∃ i, i < cellsN (rW I) (rH I) l ∧ k = atN (rW I) (rH I) l i ∧ mkN (I2 1) k = x i) ∨ ((∀ i, i < cellsN (rW I) (rH I) l → k ≠ atN (rW I) (rH I) l i) ∧ I2 1 (288 + k) = I1 1 (288 + k)) := fun k => by
    by_cases hk : ∃ i, i < cellsN (rW I) (rH I) l ∧ k = atN (rW I) (rH I) l i
    · obtain ⟨i, hi, rfl⟩ := hk
      refine Or.inl ⟨i, hi, rfl, ?_⟩
      unfold mkN
      rw [hin i hi, nv_nI (by have := h16 i hi; omega)]
    · have hk' : ∀ i, i < cellsN (rW I) (rH I) l → k ≠ atN (rW I) (rH I) l i := fun i hi z => hk ⟨i, hi, z⟩
      exact Or.inr ⟨hk', hfr 1 (288 + k) ⟨by omega, Or.inr (fun i hi z => hk' i hi (by omega))⟩⟩
  refine ⟨fun q j hq => ?_, fun k hk => ?_, fun k => ?_, fun r hr hg k => ?_, fun k hk => ?_⟩
  · rw [hfr q j ⟨by omega, ?_⟩, g1 q j hq]
    by_cases hq1 : q = 1
    · refine Or.inr (fun i hi z => ?_)
      have := atN_lt hw.2 hh.2 hl hi
      omega
    · exact Or.inl hq1
  · rcases hcell k with ⟨i, hi, rfl, -⟩ | ⟨-, h⟩
    · exact ⟨x i, h16 i hi, hin i hi⟩
    · rw [h]
      exact g2 k hk
  · rcases hcell k with ⟨i, hi, rfl, h⟩ | ⟨-, h⟩
    · rw [h]
      exact sub_trans (hsub i hi) (g3 _)
    · unfold mkN
      rw [h]
      exact g3 k
  · rcases hcell k with ⟨i, hi, rfl, h⟩ | ⟨-, h⟩
    · rw [h]
      have hgl := hg l hl hhas
      exact BT_fix hok (g4 r hr hg) hgl.1 (hgl.2 i hi) (hx i hi)
    · unfold mkN
      rw [h]
      exact g4 r hr hg k
  · rcases hcell k with ⟨i, hi, rfl, -⟩ | ⟨-, h⟩
    · have := atN_lt hw.2 hh.2 hl hi
      omega
    · unfold mkN
      rw [h]
      exact g5 k hk
theorem sm_lt {g g' : Nat → Nat} : ∀ {n : Nat}, (∀ k, k < n → g k ≤ g' k) → (∃ k, k < n ∧ g k < g' k) → sm g n < sm g' n
  | 0, _, ⟨k, hk, _⟩ => by omega
  | n + 1, h, ⟨k, hk, h2⟩ => by
    show sm g n + g n < sm g' n + g' n
    have h3 := h n (by omega)
    by_cases hn : k = n
    · subst hn
      have : sm g k ≤ sm g' k := by
        clear h2 hk h3
        induction k with
        | zero => exact Nat.le_refl _
        | succ k ih =>
          have := ih (fun q hq => h q (by omega))
          have := h k (by omega)
          show sm g k + g k ≤ sm g' k + g' k
          omega
      omega
    · have := sm_lt (n := n) (fun q hq => h q (by omega)) ⟨k, by omega, h2⟩
      omega
