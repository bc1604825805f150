/-! the stages of a line, as mathematics (own work) -/
section SG
variable {w h : Nat} {f : Nat → Int32} {l : Nat}
/-- color c leads on from stage t, by the first k blocks -/
def ONW (f : Nat → Int32) (l k c t : Nat) : Prop := ∃ b, b < k ∧ ((gapN f l b = 1 ∧ c = 0 ∧ t = roomN f l b) ∨ (c = colN f l b ∧ ∃ j, j < lenN f l b ∧ t = roomN f l b + gapN f l b + j))
/-- an empty cell changes nothing at stage t -/
def STY0 (f : Nat → Int32) (l k t : Nat) : Prop := t ≤ roomN f l (manyN f l) ∧ ∀ b, b < k → ¬ (gapN f l b = 1 ∧ t = roomN f l b) ∧ ∀ j, 1 ≤ j → j < lenN f l b → t ≠ roomN f l b + gapN f l b + j
def stp (f : Nat → Int32) (l c t t' : Nat) : Prop := (t' = t + 1 ∧ ONW f l (manyN f l) c t) ∨ (t' = t ∧ ((¬ f l = nI 0 ∧ c = 0 ∧ STY0 f l (manyN f l) t) ∨ (f l = nI 0 ∧ t = 0)))
theorem room_s {b : Nat} : roomN f l (b + 1) = roomN f l b + (lenN f l b + gapN f l b) := rfl
theorem room_m {b b' : Nat} (hb : b ≤ b') : roomN f l b ≤ roomN f l b' := sm_mono hb
theorem room_u {b b' t : Nat} (h1 : roomN f l b ≤ t) (h2 : t < roomN f l (b + 1)) (h3 : roomN f l b' ≤ t) (h4 : t < roomN f l (b' + 1)) : b = b' := by
  rcases Nat.lt_trichotomy b b' with h5 | h5 | h5
  · have := room_m (f := f) (l := l) (show b + 1 ≤ b' by omega)
    omega
  · exact h5
  · have := room_m (f := f) (l := l) (show b' + 1 ≤ b by omega)
    omega
/-- a step's sign lies in a block's part -/
theorem ONW_in {k c t b : Nat} (hlen : 1 ≤ lenN f l b) (hx : (gapN f l b = 1 ∧ c = 0 ∧ t = roomN f l b) ∨ (c = colN f l b ∧ ∃ j, j < lenN f l b ∧ t = roomN f l b + gapN f l b + j)) (_hk : b < k) : roomN f l b ≤ t ∧ t < roomN f l (b + 1) := by
  rw [room_s]
  rcases hx with ⟨h1, -, h2⟩ | ⟨-, j, h1, h2⟩ <;> omega
theorem ONW_lt {c t : Nat} (hok : okl 3 f l) (hx : ONW f l (manyN f l) c t) : t < roomN f l (manyN f l) := by
  obtain ⟨b, hb, hx⟩ := hx
  have h1 := ONW_in (len_eq hok hb).2.2 hx hb
  have := room_m (f := f) (l := l) (show b + 1 ≤ manyN f l by omega)
  omega
theorem stp_det {c t t' t'' : Nat} (hok : okl 3 f l) (h1 : stp f l c t t') (h2 : stp f l c t t'') : t' = t'' := by
  have hno : ONW f l (manyN f l) c t → ¬ ((¬ f l = nI 0 ∧ c = 0 ∧ STY0 f l (manyN f l) t) ∨ (f l = nI 0 ∧ t = 0)) := by
    rintro ⟨b, hb, hx⟩ (⟨-, rfl, g⟩ | ⟨g1, -⟩)
    · have hcol := col_eq (by omega) hok hb
      rcases hx with ⟨q1, -, q2⟩ | ⟨q1, -⟩
      · exact (g.2 b hb).1 ⟨q1, q2⟩
      · omega
    · have h3 := hok.2.2.1 g1
      have h4 := (many_eq hok).1
      rw [h3] at h4
      have h5 := (many_eq hok).2
      have : (0 : Int32) = nI (manyN f l) := h4
      rw [lit, nI_eq' (by omega) (by omega)] at this
      have h6 : (0 : Nat) = manyN f l := this
      omega
  rcases h1 with ⟨e1, q1⟩ | ⟨e1, q1⟩ <;> rcases h2 with ⟨e2, q2⟩ | ⟨e2, q2⟩
  · omega
  · exact absurd q2 (hno q1)
  · exact absurd q1 (hno q2)
  · omega
theorem stp_le {c t t' : Nat} (hok : okl 3 f l) (h0 : f l = nI 0 → roomN f l (manyN f l) = 0) (h1 : stp f l c t t') : t' ≤ t + 1 ∧ t ≤ t' ∧ t' ≤ roomN f l (manyN f l) := by
  rcases h1 with ⟨e, q⟩ | ⟨e, ⟨-, -, q⟩ | ⟨q1, q2⟩⟩
  · have := ONW_lt hok q
    omega
  · have := q.1
    omega
  · have := h0 q1
    omega
/-- the marks that leave a picture alone -/
def uP (p : Nat → Nat) : Nat → Nat := fun k => 2 ^ p k
theorem cnP {p : Nat → Nat} {c i : Nat} (hc : c < 4) (hp : i < cellsN w h l → p (atN w h l i) < 4) : cnB w h (uP p) l c i ↔ i < cellsN w h l ∧ p (atN w h l i) = c := by
  unfold cnB uP
  refine and_congr_right fun hi => ?_
  rw [bit_p2 _ (hp hi) _ hc]
  exact ⟨fun e => e.symm, fun e => e.symm⟩
theorem PF_P {p s : Nat → Nat} (hok : okl 3 f l) (hp : ∀ i, i < cellsN w h l → p (atN w h l i) < 4) : PF w h f (uP p) l s ↔ vld f l (cellsN w h l) s ∧ ∀ i, i < cellsN w h l → p (atN w h l i) = pcN f l s (manyN f l) i := by
  unfold PF uP
  refine and_congr_right fun _ => ⟨fun g i hi => ?_, fun g i hi => ?_⟩
  · have h1 := pcN_lt (s := s) (i := i) hok (Nat.le_refl (manyN f l))
    exact ((bit_p2 _ (hp i hi) _ (by omega)).mp (g i hi)).symm
  · have h1 := pcN_lt (s := s) (i := i) hok (Nat.le_refl (manyN f l))
    exact (bit_p2 _ (hp i hi) _ (by omega)).mpr (g i hi).symm
/-- how far the first cells of a picture have come -/
def cfg (w h : Nat) (f : Nat → Int32) (l : Nat) (p : Nat → Nat) (k t : Nat) : Prop := (∃ b, b ≤ manyN f l ∧ t = roomN f l b ∧ (b = manyN f l ∨ gapN f l b = 1) ∧ FR w h f (uP p) l b k) ∨ ∃ b j a, b < manyN f l ∧ j < lenN f l b ∧ a + j = k ∧ t = roomN f l b + gapN f l b + j ∧ (∃ s, FS w h f (uP p) l b a s) ∧ ∀ i, a ≤ i → i < k → cnB w h (uP p) l (colN f l b) i
theorem cfg_bd {p : Nat → Nat} {k b : Nat} (hok : okl 3 f l) (hb : b ≤ manyN f l) (hF : FR w h f (uP p) l b k) : cfg w h f l p k (roomN f l b) := by
  rcases Nat.eq_or_lt_of_le hb with h1 | h1
  · exact Or.inl ⟨b, hb, rfl, Or.inl h1, hF⟩
  · rcases gapN_01 (f := f) (l := l) b with h2 | h2
    · have hlen := len_eq hok h1
      obtain ⟨s, hs⟩ := hF
      exact Or.inr ⟨b, 0, k, h1, by omega, rfl, by omega, ⟨s, (FS_g0 h2).mpr hs⟩, fun i h3 h4 => by omega⟩
    · exact Or.inl ⟨b, hb, rfl, Or.inr h2.1, hF⟩
theorem cfg_s {p : Nat → Nat} {k t t' : Nat} (hok : okl 3 f l) (hn : ¬ f l = nI 0) (hp : ∀ i, i < cellsN w h l → p (atN w h l i) < 4) (hk : k < cellsN w h l) (hc : cfg w h f l p k t) (hs : stp f l (p (atN w h l k)) t t') : cfg w h f l p (k + 1) t' := by
  have hcell : cnB w h (uP p) l (p (atN w h l k)) k := (cnP (hp k hk) (hp k)).mpr ⟨hk, rfl⟩
  have hr : ∀ {b}, b < manyN f l → roomN f l b + gapN f l b + lenN f l b ≤ roomN f l (manyN f l) := fun {b} hb => by
    have := room_m (f := f) (l := l) (show b + 1 ≤ manyN f l by omega)
    rw [room_s] at this
    omega
  rcases hc with ⟨b, hb, rfl, hbg, s, hF⟩ | ⟨b, j, a, hb, hj, rfl, rfl, ⟨s, hF⟩, hrun⟩
  · rcases hs with ⟨rfl, b', hb', hx⟩ | ⟨rfl, ⟨-, hc0, hst⟩ | ⟨q, -⟩⟩
    · have hlen' := len_eq hok hb'
      have h1 := ONW_in hlen'.2.2 hx hb'
      have hbm : b < manyN f l := by
        rcases Nat.eq_or_lt_of_le hb with z | z
        · have := hr hb'
          rw [room_s] at h1
          rw [z] at h1
          omega
        · exact z
      have hlen := len_eq hok hbm
      have hg : gapN f l b = 1 := hbg.resolve_left (by omega)
      have e : b = b' := room_u (Nat.le_refl _) (by rw [room_s]; omega) h1.1 h1.2
      subst e
      rcases hx with ⟨-, hc0, -⟩ | ⟨-, j, h2, h3⟩
      · rw [hc0] at hcell
        refine Or.inr ⟨b, 0, k + 1, hbm, by omega, rfl, by omega, ⟨s, ?_⟩, fun i h3 h4 => by omega⟩
        have hb0 : 0 < b := by
          rcases gapN_01 (f := f) (l := l) b with z | z
          · omega
          · exact z.2
        exact (FS_g1 hg hb0).mpr ⟨by omega, hF, hcell⟩
      · omega
    · rw [hc0] at hcell
      rcases Nat.eq_or_lt_of_le hb with z | z
      · exact Or.inl ⟨b, hb, rfl, Or.inl z, s, FP_emp hF (Nat.le_succ k) (fun i h1 h2 => by rw [show i = k by omega]; exact hcell)⟩
      · exact absurd ⟨hbg.resolve_left (by omega), rfl⟩ (hst.2 b z).1
    · exact absurd q hn
  · have hlen := len_eq hok hb
    rcases hs with ⟨rfl, b', hb', hx⟩ | ⟨rfl, ⟨-, hc0, hst⟩ | ⟨q, -⟩⟩
    · have hlen' := len_eq hok hb'
      have h1 := ONW_in hlen'.2.2 hx hb'
      have e : b = b' := room_u (t := roomN f l b + gapN f l b + j) (by omega) (by rw [room_s]; omega) h1.1 h1.2
      subst e
      rcases hx with ⟨h2, -, h3⟩ | ⟨hcc, -⟩
      · omega
      · rw [hcc] at hcell
        have hrun' : ∀ i, a ≤ i → i < a + j + 1 → cnB w h (uP p) l (colN f l b) i := fun i h1 h2 => by
          by_cases h3 : i < a + j
          · exact hrun i h1 h3
          · rw [show i = a + j by omega]
            exact hcell
        by_cases hjl : j + 1 < lenN f l b
        · exact Or.inr ⟨b, j + 1, a, hb, hjl, by omega, by omega, ⟨s, hF⟩, hrun'⟩
        · have hput := FP_put hok hb hF (t := fun q => if q < b then s q else a) (fun i hi => hrun' (a + i) (by omega) (by omega)) (fun q hq => if_pos hq) (if_neg (Nat.lt_irrefl b))
          have := cfg_bd (k := a + j + 1) hok (show b + 1 ≤ manyN f l by omega) ⟨_, by rw [show a + j + 1 = a + lenN f l b by omega]; exact hput⟩
          rw [room_s] at this
          rw [show roomN f l b + gapN f l b + j + 1 = roomN f l b + (lenN f l b + gapN f l b) by omega]
          exact this
    · rw [hc0] at hcell
      have hj0 : j = 0 := by
        rcases Nat.eq_zero_or_pos j with z | z
        · exact z
        · exact absurd rfl ((hst.2 b hb).2 j z hj)
      subst hj0
      refine Or.inr ⟨b, 0, a + 0 + 1, hb, hj, rfl, rfl, ⟨s, FP_emp hF.1 (by omega) (fun i h1 h2 => by rw [show i = a + 0 by omega]; exact hcell), fun q hq => ?_⟩, fun i h3 h4 => by omega⟩
      have := hF.2 q hq
      omega
    · exact absurd q hn
theorem cfg_end {p : Nat → Nat} (hok : okl 3 f l) (hc : cfg w h f l p (cellsN w h l) (roomN f l (manyN f l))) : ∃ s, PF w h f (uP p) l s := by
  rcases hc with ⟨b, hb, hr, hbg, hF⟩ | ⟨b, j, a, hb, hj, -, hr, -⟩
  · rcases Nat.eq_or_lt_of_le hb with z | z
    · rw [z] at hF
      exact FR_all.mp hF
    · have hlen := len_eq hok z
      have := room_m (f := f) (l := l) (show b + 1 ≤ manyN f l by omega)
      rw [room_s] at this
      omega
  · have := room_m (f := f) (l := l) (show b + 1 ≤ manyN f l by omega)
    rw [room_s] at this
    omega
/-- the stage behind k cells of a filling -/
def sgS (f : Nat → Int32) (l : Nat) (s : Nat → Nat) (k t : Nat) : Prop := (t = roomN f l (manyN f l) ∧ ∀ j, j < manyN f l → s j + lenN f l j ≤ k) ∨ (∃ b, b < manyN f l ∧ gapN f l b = 1 ∧ t = roomN f l b ∧ s (b - 1) + lenN f l (b - 1) = k) ∨ (∃ b, b < manyN f l ∧ t = roomN f l b + gapN f l b ∧ k ≤ s b ∧ ∀ j, j + 1 = b → s j + lenN f l j + gapN f l b ≤ k) ∨ ∃ b j, b < manyN f l ∧ 1 ≤ j ∧ j < lenN f l b ∧ t = roomN f l b + gapN f l b + j ∧ s b + j = k
theorem sgS_bd {n k b : Nat} {s : Nat → Nat} (hok : okl 3 f l) (hv : vld f l n s) (hb : b < manyN f l) (hk : s b + lenN f l b = k) : sgS f l s k (roomN f l (b + 1)) := by
  by_cases h1 : b + 1 < manyN f l
  · have h2 := (hv b hb).1 h1
    rcases gapN_01 (f := f) (l := l) (b + 1) with h3 | h3
    · refine Or.inr (Or.inr (Or.inl ⟨b + 1, h1, by omega, by omega, fun j hj => ?_⟩))
      have e : j = b := by omega
      subst e
      omega
    · exact Or.inr (Or.inl ⟨b + 1, h1, h3.1, rfl, hk⟩)
  · refine Or.inl ⟨by rw [show b + 1 = manyN f l by omega], fun j hj => ?_⟩
    rcases Nat.eq_or_lt_of_le (show j ≤ b by omega) with z | z
    · rw [z]
      omega
    · have := vld_ap hok hv z hb
      omega
theorem sgS_0 {n : Nat} {s : Nat → Nat} (_hv : vld f l n s) : sgS f l s 0 0 := by
  by_cases h1 : 0 < manyN f l
  · refine Or.inr (Or.inr (Or.inl ⟨0, h1, ?_, Nat.zero_le _, fun j hj => by omega⟩))
    rcases gapN_01 (f := f) (l := l) 0 with h3 | h3
    · rw [h3]
      rfl
    · omega
  · refine Or.inl ⟨?_, fun j hj => absurd hj (by omega)⟩
    rw [show manyN f l = 0 by omega]
    rfl
theorem sgS_end {n t : Nat} {s : Nat → Nat} (hok : okl 3 f l) (hv : vld f l n s) (hs : sgS f l s n t) : t = roomN f l (manyN f l) := by
  have hend : ∀ b, b < manyN f l → s b + lenN f l b ≤ n := fun b hb => by
    rcases Nat.eq_or_lt_of_le (show b ≤ manyN f l - 1 by omega) with z | z
    · exact (hv b hb).2 (by omega)
    · have h1 := vld_ap hok hv z (by omega)
      have h2 := (hv (manyN f l - 1) (by omega)).2 (by omega)
      omega
  rcases hs with ⟨h1, -⟩ | ⟨b, hb, h1, h2, h3⟩ | ⟨b, hb, h1, h2, -⟩ | ⟨b, j, hb, h1, h2, h3, h4⟩
  · exact h1
  · have h4 := hend b hb
    have h5 := len_eq hok hb
    rcases gapN_01 (f := f) (l := l) b with z | z
    · omega
    · have h6 := (hv (b - 1) (by omega)).1 (by omega)
      rw [show b - 1 + 1 = b by omega] at h6
      omega
  · have h4 := hend b hb
    have h5 := len_eq hok hb
    omega
  · have h5 := hend b hb
    omega
theorem sgS_s {n k t : Nat} {s : Nat → Nat} (hok : okl 3 f l) (hn : ¬ f l = nI 0) (hv : vld f l n s) (hs : sgS f l s k t) : ∃ t', stp f l (pcN f l s (manyN f l) k) t t' ∧ sgS f l s (k + 1) t' := by
  have hone : ∀ {b b' : Nat}, b < b' → b' < manyN f l → s b + lenN f l b ≤ s b' := fun h1 h2 => vld_ap hok hv h1 h2
  rcases hs with ⟨rfl, h2⟩ | ⟨b, hb, h1, rfl, h3⟩ | ⟨b, hb, rfl, h2, h3⟩ | ⟨b, j, hb, h1, h2, rfl, h4⟩
  · have hc : pcN f l s (manyN f l) k = 0 := pcN_out fun j hj => by have := h2 j hj; omega
    refine ⟨_, Or.inr ⟨rfl, Or.inl ⟨hn, hc, Nat.le_refl _, fun b hb => ?_⟩⟩, Or.inl ⟨rfl, fun j hj => by have := h2 j hj; omega⟩⟩
    have h5 := room_m (f := f) (l := l) (show b + 1 ≤ manyN f l by omega)
    rw [room_s] at h5
    have h6 := len_eq hok hb
    exact ⟨fun z => by omega, fun j z1 z2 => by omega⟩
  · have hb0 : 0 < b := by
      rcases gapN_01 (f := f) (l := l) b with z | z
      · omega
      · exact z.2
    have h6 := (hv (b - 1) (by omega)).1 (by omega)
    rw [show b - 1 + 1 = b by omega] at h6
    have hc : pcN f l s (manyN f l) k = 0 := pcN_out fun j hj => by
      rcases Nat.lt_trichotomy j (b - 1) with z | z | z
      · have := hone z (by omega)
        omega
      · rw [z]
        omega
      · rcases Nat.eq_or_lt_of_le (show b ≤ j by omega) with y | y
        · rw [← y]
          omega
        · have := hone y hj
          omega
    refine ⟨_, Or.inl ⟨rfl, b, hb, Or.inl ⟨h1, hc, rfl⟩⟩, Or.inr (Or.inr (Or.inl ⟨b, hb, by omega, by omega, fun j hj => ?_⟩))⟩
    rw [show j = b - 1 by omega]
    omega
  · have hlen := len_eq hok hb
    by_cases hks : k = s b
    · have hc : pcN f l s (manyN f l) k = colN f l b := pcN_in hok hv (by omega) (by omega) hb (Nat.le_refl _)
      refine ⟨_, Or.inl ⟨rfl, b, hb, Or.inr ⟨hc, 0, by omega, rfl⟩⟩, ?_⟩
      by_cases hl1 : lenN f l b = 1
      · have := sgS_bd (k := k + 1) hok hv hb (by omega)
        rw [room_s] at this
        rw [show roomN f l b + gapN f l b + 1 = roomN f l b + (lenN f l b + gapN f l b) by omega]
        exact this
      · exact Or.inr (Or.inr (Or.inr ⟨b, 1, hb, by omega, by omega, by omega, by omega⟩))
    · have hc : pcN f l s (manyN f l) k = 0 := pcN_out fun j hj => by
        rcases Nat.lt_or_ge j b with z | z
        · have e1 : s j + lenN f l j ≤ k := by
            rcases Nat.eq_or_lt_of_le (show j + 1 ≤ b by omega) with y | y
            · have := h3 j y
              omega
            · have g1 := hone (show j < b - 1 by omega) (by omega)
              have g2 := h3 (b - 1) (by omega)
              have g3 := len_eq hok (show b - 1 < manyN f l by omega)
              omega
          omega
        · rcases Nat.eq_or_lt_of_le z with y | y
          · rw [← y]
            omega
          · have := hone y hj
            omega
      refine ⟨_, Or.inr ⟨rfl, Or.inl ⟨hn, hc, ?_, fun b' hb' => ?_⟩⟩, Or.inr (Or.inr (Or.inl ⟨b, hb, rfl, by omega, fun j hj => by have := h3 j hj; omega⟩))⟩
      · have := room_m (f := f) (l := l) (show b + 1 ≤ manyN f l by omega)
        rw [room_s] at this
        omega
      · have hlen' := len_eq hok hb'
        have hu := fun (t : Nat) (g1 : roomN f l b ≤ t) (g2 : t < roomN f l (b + 1)) (g3 : roomN f l b' ≤ t) (g4 : t < roomN f l (b' + 1)) => room_u g1 g2 g3 g4
        refine ⟨fun z => ?_, fun j z1 z2 z3 => ?_⟩
        · have e := hu _ (Nat.le_add_right _ (gapN f l b)) (by rw [room_s]; omega) (by omega) (by rw [room_s]; omega)
          subst e
          omega
        · have e := hu _ (Nat.le_add_right _ (gapN f l b)) (by rw [room_s]; omega) (by omega) (by rw [room_s]; omega)
          subst e
          omega
  · have hlen := len_eq hok hb
    have hc : pcN f l s (manyN f l) k = colN f l b := pcN_in hok hv (by omega) (by omega) hb (Nat.le_refl _)
    refine ⟨_, Or.inl ⟨rfl, b, hb, Or.inr ⟨hc, j, h2, rfl⟩⟩, ?_⟩
    by_cases hl1 : j + 1 < lenN f l b
    · exact Or.inr (Or.inr (Or.inr ⟨b, j + 1, hb, by omega, hl1, by omega, by omega⟩))
    · have := sgS_bd (k := k + 1) hok hv hb (by omega)
      rw [room_s] at this
      rw [show roomN f l b + gapN f l b + j + 1 = roomN f l b + (lenN f l b + gapN f l b) by omega]
      exact this
/-- a way through the stages, with the colors of a picture -/
def wayS (w h : Nat) (f : Nat → Int32) (l : Nat) (p : Nat → Nat) (t : Nat → Nat) : Prop := t 0 = 0 ∧ (∀ i, i < cellsN w h l → stp f l (p (atN w h l i)) (t i) (t (i + 1))) ∧ t (cellsN w h l) = roomN f l (manyN f l)
/-- the picture fits the clue of a line, if it has one -/
def fitL (w h : Nat) (f : Nat → Int32) (l : Nat) (p : Nat → Nat) : Prop := ¬ f l = nI 0 → ∃ s, vld f l (cellsN w h l) s ∧ ∀ i, i < cellsN w h l → p (atN w h l i) = pcN f l s (manyN f l) i
theorem way_fit {p : Nat → Nat} (hok : okl 3 f l) (hp : ∀ i, i < cellsN w h l → p (atN w h l i) < 4) (h0 : f l = nI 0 → roomN f l (manyN f l) = 0) : (∃ t, wayS w h f l p t) ↔ fitL w h f l p := by
  constructor
  · rintro ⟨t, t0, ts, tn⟩ hn
    have key : ∀ k, k ≤ cellsN w h l → cfg w h f l p k (t k) := by
      intro k
      induction k with
      | zero =>
        intro _
        rw [t0]
        exact cfg_bd (b := 0) hok (Nat.zero_le _) (FR_0.mpr ⟨Nat.zero_le _, fun i h1 h2 => by omega⟩)
      | succ k ih =>
        intro hk
        exact cfg_s hok hn hp hk (ih (by omega)) (ts k hk)
    have := key _ (Nat.le_refl _)
    rw [tn] at this
    obtain ⟨s, hs⟩ := cfg_end hok this
    exact ⟨s, (PF_P hok hp).mp hs⟩
  · intro hf
    by_cases hn : f l = nI 0
    · exact ⟨fun _ => 0, rfl, fun i hi => Or.inr ⟨rfl, Or.inr ⟨hn, rfl⟩⟩, (h0 hn).symm⟩
    · obtain ⟨s, hv, hc⟩ := hf hn
      have hex : ∀ k t, ∃ t', sgS f l s k t → stp f l (pcN f l s (manyN f l) k) t t' ∧ sgS f l s (k + 1) t' := fun k t => by
        by_cases hz : sgS f l s k t
        · obtain ⟨t', h1⟩ := sgS_s hok hn hv hz
          exact ⟨t', fun _ => h1⟩
        · exact ⟨0, fun z => absurd z hz⟩
      obtain ⟨F, hF⟩ := Classical.skolem.mp (fun k => Classical.skolem.mp (hex k))
      have hT : ∀ k, sgS f l s k (Nat.rec (motive := fun _ => Nat) 0 (fun k t => F k t) k) := by
        intro k
        induction k with
        | zero => exact sgS_0 hv
        | succ k ih => exact (hF k _ ih).2
      refine ⟨fun k => Nat.rec (motive := fun _ => Nat) 0 (fun k t => F k t) k, rfl, fun i hi => ?_, ?_⟩
      · rw [hc i hi]
        exact (hF i _ (hT i)).1
      · exact sgS_end hok hv (hT _)
end SG
