/-! possible fillings, block by block, as mathematics (own work) -/
section PT
variable {w h : Nat} {f : Nat → Int32} {u : Nat → Nat} {l : Nat}
/-- cell i of line l can have color c -/
def cnB (w h : Nat) (u : Nat → Nat) (l c i : Nat) : Prop := i < cellsN w h l ∧ u (atN w h l i) / 2 ^ c % 2 = 1
/-- cells that can be empty -/
def emp (w h : Nat) (u : Nat → Nat) (l a e : Nat) : Prop := ∀ i, a ≤ i → i < e → cnB w h u l 0 i
/-- cells that can have the color of block b -/
def runB (w h : Nat) (f : Nat → Int32) (u : Nat → Nat) (l b a : Nat) : Prop := ∀ i, i < lenN f l b → cnB w h u l (colN f l b) (a + i)
/-- the first b blocks lie before p, one behind the other -/
def pvl (f : Nat → Int32) (l b p : Nat) (s : Nat → Nat) : Prop := ∀ j, j < b → (j + 1 < b → s j + lenN f l j + gapN f l (j + 1) ≤ s (j + 1)) ∧ (j + 1 = b → s j + lenN f l j ≤ p)
/-- they fill the cells before p -/
def FP (w h : Nat) (f : Nat → Int32) (u : Nat → Nat) (l b p : Nat) (s : Nat → Nat) : Prop := p ≤ cellsN w h l ∧ pvl f l b p s ∧ ∀ i, i < p → cnB w h u l (pcN f l s b i) i
/-- and block b can begin at a -/
def FS (w h : Nat) (f : Nat → Int32) (u : Nat → Nat) (l b a : Nat) (s : Nat → Nat) : Prop := FP w h f u l b a s ∧ ∀ j, j + 1 = b → s j + lenN f l j + gapN f l b ≤ a
theorem FP_all {s : Nat → Nat} : FP w h f u l (manyN f l) (cellsN w h l) s ↔ PF w h f u l s :=
  ⟨fun h => ⟨h.2.1, fun i hi => (h.2.2 i hi).2⟩, fun h => ⟨Nat.le_refl _, h.1, fun i hi => ⟨hi, h.2 i hi⟩⟩⟩
theorem pvl_end {b p : Nat} {s : Nat → Nat} (hp : pvl f l b p s) : ∀ {d j : Nat}, j + d + 1 = b → s j + lenN f l j ≤ p
  | 0, j, hj => (hp j (by omega)).2 (by omega)
  | d + 1, j, hj => by
    have h1 := (hp j (by omega)).1 (by omega)
    have h2 := pvl_end hp (d := d) (j := j + 1) (by omega)
    omega
theorem pvl_e {b p j : Nat} {s : Nat → Nat} (hp : pvl f l b p s) (hj : j < b) : s j + lenN f l j ≤ p := pvl_end hp (d := b - j - 1) (by omega)
theorem pvl_to {b p q : Nat} {s : Nat → Nat} (hp : pvl f l b p s) (hq : ∀ j, j + 1 = b → s j + lenN f l j ≤ q) : pvl f l b q s := fun j hj => ⟨(hp j hj).1, hq j⟩
theorem pcN_0 {b p i : Nat} {s : Nat → Nat} (hp : pvl f l b p s) (hi : p ≤ i) : pcN f l s b i = 0 := pcN_out fun j hj => by
  have := pvl_e hp hj
  omega
theorem FP_cong {b p : Nat} {s t : Nat → Nat} (he : ∀ j, j < b → s j = t j) (hs : FP w h f u l b p s) : FP w h f u l b p t := by
  refine ⟨hs.1, fun j hj => ?_, fun i hi => ?_⟩
  · have h1 := hs.2.1 j hj
    refine ⟨fun h2 => ?_, fun h2 => ?_⟩
    · rw [← he j hj, ← he (j + 1) h2]
      exact h1.1 h2
    · rw [← he j hj]
      exact h1.2 h2
  · rw [← pcN_cong he]
    exact hs.2.2 i hi
theorem FS_cong {b a : Nat} {s t : Nat → Nat} (he : ∀ j, j < b → s j = t j) (hs : FS w h f u l b a s) : FS w h f u l b a t := ⟨FP_cong he hs.1, fun j hj => by
  rw [← he j (by omega)]
  exact hs.2 j hj⟩
theorem FP_0 {p : Nat} {s : Nat → Nat} : FP w h f u l 0 p s ↔ p ≤ cellsN w h l ∧ emp w h u l 0 p :=
  ⟨fun h => ⟨h.1, fun i _ hi => h.2.2 i hi⟩, fun h => ⟨h.1, fun j hj => absurd hj (Nat.not_lt_zero j), fun i hi => h.2 i (Nat.zero_le i) hi⟩⟩
theorem FP_emp {b p q : Nat} {s : Nat → Nat} (hs : FP w h f u l b p s) (hpq : p ≤ q) (he : emp w h u l p q) : FP w h f u l b q s := by
  refine ⟨?_, pvl_to hs.2.1 (fun j hj => by have := pvl_e hs.2.1 (show j < b by omega); omega), fun i hi => ?_⟩
  · rcases Nat.eq_or_lt_of_le hpq with h1 | h1
    · rw [← h1]
      exact hs.1
    · have := (he (q - 1) (by omega) (by omega)).1
      omega
  · by_cases h1 : i < p
    · exact hs.2.2 i h1
    · rw [pcN_0 hs.2.1 (by omega)]
      exact he i (by omega) hi
theorem FP_less {b p q : Nat} {s : Nat → Nat} (hs : FP w h f u l b p s) (hq : q ≤ p) (hj : ∀ j, j + 1 = b → s j + lenN f l j ≤ q) : FP w h f u l b q s ∧ emp w h u l q p := by
  have hv := pvl_to hs.2.1 hj
  refine ⟨⟨Nat.le_trans hq hs.1, hv, fun i hi => hs.2.2 i (by omega)⟩, fun i h1 h2 => ?_⟩
  have := hs.2.2 i h2
  rw [pcN_0 hv h1] at this
  exact this
theorem gapN_01 (b : Nat) : gapN f l b = 0 ∨ (gapN f l b = 1 ∧ 0 < b) := by
  unfold gapN
  split
  · rename_i h
    exact Or.inr ⟨rfl, h.1⟩
  · exact Or.inl rfl
theorem FS_g0 {b a : Nat} {s : Nat → Nat} (hg : gapN f l b = 0) : FS w h f u l b a s ↔ FP w h f u l b a s := ⟨fun h => h.1, fun h => ⟨h, fun j hj => by
  have := pvl_e h.2.1 (show j < b by omega)
  omega⟩⟩
theorem FS_g1 {b a : Nat} {s : Nat → Nat} (hg : gapN f l b = 1) (hb : 0 < b) : FS w h f u l b a s ↔ 1 ≤ a ∧ FP w h f u l b (a - 1) s ∧ cnB w h u l 0 (a - 1) := by
  constructor
  · intro hs
    have h1 := hs.2 (b - 1) (by omega)
    have h2 := FP_less hs.1 (q := a - 1) (by omega) (fun j hj => by have := hs.2 j hj; omega)
    exact ⟨by omega, h2.1, h2.2 (a - 1) (Nat.le_refl _) (by omega)⟩
  · rintro ⟨h1, h2, h3⟩
    refine ⟨FP_emp h2 (by omega) (fun i hi hi2 => by rw [show i = a - 1 by omega]; exact h3), fun j hj => ?_⟩
    have := pvl_e h2.2.1 (show j < b by omega)
    omega
theorem FP_put {b a : Nat} {s t : Nat → Nat} (hok : okl 3 f l) (hb : b < manyN f l) (hs : FS w h f u l b a s) (hr : runB w h f u l b a) (ht : ∀ j, j < b → t j = s j) (hta : t b = a) : FP w h f u l (b + 1) (a + lenN f l b) t := by
  have hlen := len_eq hok hb
  have hs' := FS_cong (t := t) (fun j hj => (ht j hj).symm) hs
  refine ⟨?_, fun j hj => ⟨fun h1 => ?_, fun h1 => ?_⟩, fun i hi => ?_⟩
  · have := (hr (lenN f l b - 1) (by omega)).1
    omega
  · by_cases h2 : j + 1 = b
    · have := hs'.2 j h2
      rw [h2, hta]
      exact this
    · exact (hs'.1.2.1 j (by omega)).1 (by omega)
  · have e : j = b := by omega
    subst e
    omega
  · show cnB w h u l (pcN f l t b i ||| (if t b ≤ i ∧ i < t b + lenN f l b then colN f l b else 0)) i
    by_cases h1 : i < a
    · rw [if_neg (by omega), Nat.or_zero]
      exact hs'.1.2.2 i h1
    · rw [pcN_0 hs'.1.2.1 (by omega), if_pos (by omega), Nat.zero_or]
      have := hr (i - a) (by omega)
      rw [show a + (i - a) = i by omega] at this
      exact this
theorem FP_take {b p : Nat} {s : Nat → Nat} (hs : FP w h f u l (b + 1) p s) : FS w h f u l b (s b) s ∧ runB w h f u l b (s b) ∧ emp w h u l (s b + lenN f l b) p ∧ s b + lenN f l b ≤ p := by
  have hend := pvl_e hs.2.1 (Nat.lt_succ_self b)
  have hv : pvl f l b (s b) s := fun j hj => ⟨fun h1 => (hs.2.1 j (by omega)).1 (by omega), fun h1 => by
    have := (hs.2.1 j (by omega)).1 (by omega)
    rw [h1] at this
    omega⟩
  have hcell : ∀ i, i < p → cnB w h u l (pcN f l s b i ||| (if s b ≤ i ∧ i < s b + lenN f l b then colN f l b else 0)) i := fun i hi => hs.2.2 i hi
  refine ⟨⟨⟨by have := hs.1; omega, hv, fun i hi => ?_⟩, fun j hj => ?_⟩, fun i hi => ?_, fun i h1 h2 => ?_, hend⟩
  · have := hcell i (by omega)
    rw [if_neg (by omega), Nat.or_zero] at this
    exact this
  · have := (hs.2.1 j (by omega)).1 (by omega)
    rw [hj] at this
    exact this
  · have := hcell (s b + i) (by omega)
    rw [pcN_0 hv (by omega), if_pos (by omega), Nat.zero_or] at this
    exact this
  · have := hcell i h2
    rw [pcN_0 hv (by omega), if_neg (by omega), Nat.zero_or] at this
    exact this
/-- where the block behind block k begins, or the line's end -/
def nxt (w h : Nat) (f : Nat → Int32) (l : Nat) (t : Nat → Nat) (k : Nat) : Nat := if k + 1 < manyN f l then t (k + 1) else cellsN w h l
theorem PF_pre {t : Nat → Nat} (ht : PF w h f u l t) : ∀ {d k : Nat}, k + d + 1 = manyN f l → FS w h f u l k (t k) t ∧ runB w h f u l k (t k) ∧ emp w h u l (t k + lenN f l k) (nxt w h f l t k) ∧ t k + lenN f l k ≤ nxt w h f l t k
  | 0, k, hk => by
    have h1 := FP_all.mpr ht
    rw [← hk] at h1
    have h2 := FP_take h1
    unfold nxt
    rw [if_neg (by omega)]
    exact h2
  | d + 1, k, hk => by
    have h1 := (PF_pre ht (d := d) (k := k + 1) (by omega)).1.1
    have h2 := FP_take h1
    unfold nxt
    rw [if_pos (by omega)]
    exact h2
theorem PF_at {t : Nat → Nat} {k : Nat} (ht : PF w h f u l t) (hk : k < manyN f l) : FS w h f u l k (t k) t ∧ runB w h f u l k (t k) ∧ emp w h u l (t k + lenN f l k) (nxt w h f l t k) ∧ t k + lenN f l k ≤ nxt w h f l t k := PF_pre ht (d := manyN f l - k - 1) (by omega)
/-- from q on the blocks from b on can lie as in t, and empty cells ahead of them -/
def TL (w h : Nat) (f : Nat → Int32) (u : Nat → Nat) (l b q : Nat) (t : Nat → Nat) : Prop := q ≤ cellsN w h l ∧ (b = manyN f l → emp w h u l q (cellsN w h l)) ∧ (b < manyN f l → PF w h f u l t ∧ q ≤ t b ∧ emp w h u l q (t b))
def mixS (b : Nat) (s t : Nat → Nat) : Nat → Nat := fun j => if j < b then s j else t j
theorem TL_join {b q : Nat} {s t : Nat → Nat} (hok : okl 3 f l) (hb : b ≤ manyN f l) (hs : FP w h f u l b q s) (ht : TL w h f u l b q t) (hg : ∀ j, j + 1 = b → b < manyN f l → s j + lenN f l j + gapN f l b ≤ t b) : PF w h f u l (mixS b s t) := by
  rcases Nat.eq_or_lt_of_le hb with h1 | h1
  · subst h1
    exact FP_all.mp (FP_cong (fun j hj => (if_pos hj).symm) (FP_emp hs ht.1 (ht.2.1 rfl)))
  · obtain ⟨t1, t2, t3⟩ := ht.2.2 h1
    have key : ∀ d, b + d < manyN f l → FS w h f u l (b + d) (t (b + d)) (mixS b s t) := by
      intro d
      induction d with
      | zero =>
        intro _
        exact FS_cong (fun j hj => (if_pos hj).symm) ⟨FP_emp hs t2 t3, fun j hj => hg j hj h1⟩
      | succ d ih =>
        intro hd
        obtain ⟨p1, p2, p3, p4⟩ := PF_at t1 (show b + d < manyN f l by omega)
        have e : nxt w h f l t (b + d) = t (b + (d + 1)) := by
          unfold nxt
          rw [if_pos (by omega)]
          rfl
        rw [e] at p3 p4
        have h2 := FP_put hok (by omega) (ih (by omega)) p2 (t := mixS b s t) (fun _ _ => rfl) (if_neg (by omega))
        refine ⟨FP_emp h2 p4 p3, fun j hj => ?_⟩
        have e2 : j = b + d := by omega
        subst e2
        have := (t1.1 (b + d) (by omega)).1 (by omega)
        show mixS b s t (b + d) + _ + _ ≤ _
        rw [show mixS b s t (b + d) = t (b + d) from if_neg (by omega)]
        exact this
    obtain ⟨p1, p2, p3, p4⟩ := PF_at t1 (show manyN f l - 1 < manyN f l by omega)
    have e : nxt w h f l t (manyN f l - 1) = cellsN w h l := if_neg (by omega)
    rw [e] at p3 p4
    have h2 := key (manyN f l - 1 - b) (by omega)
    rw [show b + (manyN f l - 1 - b) = manyN f l - 1 by omega] at h2
    have h3 := FP_put hok (by omega) h2 p2 (t := mixS b s t) (fun _ _ => rfl) (if_neg (by omega))
    have h4 := FP_emp h3 p4 p3
    rw [show manyN f l - 1 + 1 = manyN f l by omega] at h4
    exact FP_all.mp h4
/-- starts, what can lie ahead, what can lie behind -/
def SB (w h : Nat) (f : Nat → Int32) (u : Nat → Nat) (l b a : Nat) : Prop := ∃ s, PF w h f u l s ∧ s b = a
def SFr (w h : Nat) (f : Nat → Int32) (u : Nat → Nat) (l b a : Nat) : Prop := (∃ s, FS w h f u l b a s) ∧ runB w h f u l b a
def FR (w h : Nat) (f : Nat → Int32) (u : Nat → Nat) (l b p : Nat) : Prop := ∃ s, FP w h f u l b p s
def BK (w h : Nat) (f : Nat → Int32) (u : Nat → Nat) (l b q : Nat) : Prop := ∃ t, TL w h f u l b q t
theorem FR_0 {p : Nat} : FR w h f u l 0 p ↔ p ≤ cellsN w h l ∧ emp w h u l 0 p := ⟨fun ⟨_, h⟩ => FP_0.mp h, fun h => ⟨fun _ => 0, FP_0.mpr h⟩⟩
theorem FR_s {b p : Nat} (hok : okl 3 f l) (hb : b < manyN f l) : FR w h f u l (b + 1) p ↔ ∃ a, SFr w h f u l b a ∧ a + lenN f l b ≤ p ∧ emp w h u l (a + lenN f l b) p := by
  constructor
  · rintro ⟨s, hs⟩
    obtain ⟨h1, h2, h3, h4⟩ := FP_take hs
    exact ⟨s b, ⟨⟨s, h1⟩, h2⟩, h4, h3⟩
  · rintro ⟨a, ⟨⟨s, h1⟩, h2⟩, h4, h3⟩
    exact ⟨_, FP_emp (FP_put hok hb h1 h2 (t := fun j => if j < b then s j else a) (fun j hj => if_pos hj) (if_neg (Nat.lt_irrefl b))) h4 h3⟩
theorem SFr_g0 {b a : Nat} (hg : gapN f l b = 0) : SFr w h f u l b a ↔ FR w h f u l b a ∧ runB w h f u l b a := by
  unfold SFr FR
  simp only [FS_g0 hg]
theorem SFr_g1 {b a : Nat} (hg : gapN f l b = 1) (hb : 0 < b) : SFr w h f u l b a ↔ (1 ≤ a ∧ FR w h f u l b (a - 1) ∧ cnB w h u l 0 (a - 1)) ∧ runB w h f u l b a := by
  unfold SFr FR
  simp only [FS_g1 hg hb]
  constructor
  · rintro ⟨⟨s, h1, h2, h3⟩, h4⟩
    exact ⟨⟨h1, ⟨s, h2⟩, h3⟩, h4⟩
  · rintro ⟨⟨h1, ⟨s, h2⟩, h3⟩, h4⟩
    exact ⟨⟨s, h1, h2, h3⟩, h4⟩
theorem FR_all : FR w h f u l (manyN f l) (cellsN w h l) ↔ ∃ s, PF w h f u l s := ⟨fun ⟨s, h⟩ => ⟨s, FP_all.mp h⟩, fun ⟨s, h⟩ => ⟨s, FP_all.mpr h⟩⟩
theorem SB_lt {b a : Nat} (hok : okl 3 f l) (hb : b < manyN f l) (hs : SB w h f u l b a) : a < cellsN w h l := by
  obtain ⟨s, h1, rfl⟩ := hs
  have := len_eq hok hb
  exact ((PF_at h1 hb).2.1 0 (by omega)).1
theorem BK_m {q : Nat} : BK w h f u l (manyN f l) q ↔ q ≤ cellsN w h l ∧ emp w h u l q (cellsN w h l) := ⟨fun ⟨_, h⟩ => ⟨h.1, h.2.1 rfl⟩, fun h => ⟨fun _ => 0, h.1, fun _ => h.2, fun h2 => absurd h2 (Nat.lt_irrefl _)⟩⟩
theorem BK_s {b q : Nat} (hok : okl 3 f l) (hb : b < manyN f l) : BK w h f u l b q ↔ ∃ a, SB w h f u l b a ∧ q ≤ a ∧ emp w h u l q a := by
  constructor
  · rintro ⟨t, h1, h2, h3⟩
    obtain ⟨g1, g2, g3⟩ := h3 hb
    exact ⟨t b, ⟨t, g1, rfl⟩, g2, g3⟩
  · rintro ⟨a, hS, h2, h3⟩
    have := SB_lt hok hb hS
    obtain ⟨s, h1, rfl⟩ := hS
    exact ⟨s, by omega, fun e => by omega, fun _ => ⟨h1, h2, h3⟩⟩
/-- behind block b: what can follow -/
def AF (w h : Nat) (f : Nat → Int32) (u : Nat → Nat) (l b e : Nat) : Prop := if b + 1 < manyN f l ∧ gapN f l (b + 1) = 1 then cnB w h u l 0 e ∧ BK w h f u l (b + 1) (e + 1) else BK w h f u l (b + 1) e
theorem SB_i {b a : Nat} (hok : okl 3 f l) (hb : b < manyN f l) : SB w h f u l b a ↔ SFr w h f u l b a ∧ AF w h f u l b (a + lenN f l b) := by
  constructor
  · rintro ⟨s, h1, rfl⟩
    obtain ⟨p1, p2, p3, p4⟩ := PF_at h1 hb
    refine ⟨⟨⟨s, p1⟩, p2⟩, ?_⟩
    unfold nxt at p3 p4
    unfold AF
    by_cases h2 : b + 1 < manyN f l
    · rw [if_pos h2] at p3 p4
      have g1 := (PF_at h1 h2).1
      by_cases h3 : gapN f l (b + 1) = 1
      · rw [if_pos ⟨h2, h3⟩]
        have h4 := (h1.1 b hb).1 h2
        refine ⟨p3 _ (Nat.le_refl _) (by omega), s, by have := g1.1.1; omega, fun e => by omega, fun _ => ⟨h1, by omega, fun i hi => p3 i (by omega)⟩⟩
      · rw [if_neg (fun z => h3 z.2)]
        exact ⟨s, by have := g1.1.1; omega, fun e => by omega, fun _ => ⟨h1, p4, p3⟩⟩
    · rw [if_neg h2] at p3 p4
      rw [if_neg (fun z => h2 z.1)]
      exact ⟨s, p4, fun _ => p3, fun z => absurd z h2⟩
  · rintro ⟨⟨⟨s, h1⟩, h2⟩, h3⟩
    have hF := FP_put hok hb h1 h2 (t := fun j => if j < b then s j else a) (fun j hj => if_pos hj) (if_neg (Nat.lt_irrefl b))
    have hend : ∀ t : Nat → Nat, mixS (b + 1) (fun j => if j < b then s j else a) t b = a := fun t => by
      unfold mixS
      rw [if_pos (Nat.lt_succ_self b)]
      exact if_neg (Nat.lt_irrefl b)
    unfold AF at h3
    split at h3
    · rename_i h4
      obtain ⟨h5, t, h6⟩ := h3
      refine ⟨_, TL_join hok (by omega) (FP_emp hF (Nat.le_succ _) (fun i hi hi2 => by rw [show i = a + lenN f l b by omega]; exact h5)) h6 (fun j hj h7 => ?_), hend t⟩
      have e : j = b := by omega
      subst e
      have := (h6.2.2 h7).2.1
      rw [if_neg (Nat.lt_irrefl j), h4.2]
      exact this
    · rename_i h4
      obtain ⟨t, h6⟩ := h3
      refine ⟨_, TL_join hok (by omega) hF h6 (fun j hj h7 => ?_), hend t⟩
      have e : j = b := by omega
      subst e
      have := (h6.2.2 h7).2.1
      rw [if_neg (Nat.lt_irrefl j)]
      rcases gapN_01 (f := f) (l := l) (j + 1) with h8 | h8
      · rw [h8]
        exact this
      · exact absurd ⟨h7, h8.1⟩ h4
end PT
