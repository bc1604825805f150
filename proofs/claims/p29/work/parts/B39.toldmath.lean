/-! what is told of a line, as mathematics (own work) -/
theorem lp_G_c {m n : Nat} {col col' len len' : Nat → Nat} {g : Nat → Nat} (h : ∀ k, k < m → col' k = col k ∧ len' k = len k) : lp_G m col len n g ↔ lp_G m col' len' n g := by
  unfold lp_G
  constructor
  · rintro ⟨h1, h2⟩
    refine ⟨fun k hk => ?_, h2⟩
    obtain ⟨x, y, g1, g2, g3, g4⟩ := h1 k hk
    exact ⟨x, y, g1, by rw [(h k hk).1]; exact g2, g3, by rw [(h k hk).2]; exact g4⟩
  · rintro ⟨h1, h2⟩
    refine ⟨fun k hk => ?_, h2⟩
    obtain ⟨x, y, g1, g2, g3, g4⟩ := h1 k hk
    exact ⟨x, y, g1, by rw [← (h k hk).1]; exact g2, g3, by rw [← (h k hk).2]; exact g4⟩
section LT_
variable {w h c l : Nat} {A Bm f : Nat → Int32}
theorem lwR_8 (hR : lwR w h c A Bm f) : w ≤ 8 ∧ h ≤ 8 := by
  obtain ⟨⟨h1, h2, -⟩, -⟩ := hR.1
  omega
theorem lwR_B (hR : lwR w h c A Bm f) : lkB (w * h) Bm := fun k hk => by
  obtain ⟨h1, h2, h3, -⟩ := hR.2.2 k hk
  obtain ⟨⟨-, -, hc⟩, -⟩ := hR.1
  have hle : 2 ^ (c + 1) ≤ 2 ^ 3 := Nat.pow_le_pow_right (by omega) (by omega)
  exact ⟨mkN f k, by omega, h1.trans h2⟩
/-- the law's test is the property's -/
theorem lwR_P (hR : lwR w h c A Bm f) (hl : l < h + w) {k : Nat} : ((∀ i, i < cellsN w h l → nv (Bm (atN w h l i)) / 2 ^ lp_dg (c + 1) k i % 2 = 1) ∧ (A (6 * l) = -nI 1 ∨ lp_G (am A l) (ac A l) (an A l) (cellsN w h l) (lp_dg (c + 1) k))) ↔ lp_P w h f (c + 1) l k := by
  have h8 := lwR_8 hR
  have hmk : ∀ i, i < cellsN w h l → nv (Bm (atN w h l i)) = mkN f (atN w h l i) := fun i hi => by
    obtain ⟨h1, h2, -⟩ := lwR_mark hR h8.1 h8.2 hl hi
    rw [h1, nv_nI (by omega)]
  have hne : ¬ nI 0 = nI 1 := by decide +kernel
  have hG : (A (6 * l) = -nI 1 ∨ lp_G (am A l) (ac A l) (an A l) (cellsN w h l) (lp_dg (c + 1) k)) ↔ (f l = nI 1 → lp_F f l (cellsN w h l) (lp_dg (c + 1) k)) := by
    have ham : am A l = manyN f l := lwR_am hR hl
    have hc2 := lp_G_c (m := manyN f l) (n := cellsN w h l) (col := ac A l) (col' := colN f l) (len := an A l) (len' := lenN f l) (g := lp_dg (c + 1) k) (fun k hk => by
      obtain ⟨h1, h2⟩ := lwR_k hR hl hk
      exact ⟨h1.symm, h2.symm⟩)
    rw [ham, hc2]
    rcases (lwR_f01 hR hl).1 with ⟨h1, h2⟩ | ⟨h1, h2⟩
    · have h5 := lwR_m5 hR hl
      rw [h2]
      constructor
      · rintro (h3 | h3) _
        · exact absurd h3 (m1_ne (by omega))
        · exact h3
      · exact fun h3 => Or.inr (h3 h1)
    · rw [h1]
      exact ⟨fun _ h3 => absurd h3 hne, fun _ => Or.inl h2⟩
  unfold lp_P
  rw [hG]
  refine and_congr_left fun _ => ?_
  unfold lp_M
  constructor
  · intro h1 i hi
    rw [← hmk i hi]
    exact h1 i hi
  · intro h1 i hi
    rw [hmk i hi]
    exact h1 i hi
/-- how many possible fillings -/
noncomputable def ptK (w h c : Nat) (f : Nat → Int32) (l K : Nat) : Nat := sm (fun k => b01 (lp_P w h f (c + 1) l k)) K
theorem ptK_le {K : Nat} : ptK w h c f l K ≤ K := by
  have := sm_le (f := fun k => b01 (lp_P w h f (c + 1) l k)) (c := 1) (n := K) (fun _ _ => b01_le)
  rw [Nat.mul_one] at this
  exact this
theorem ptK_s {K : Nat} (hP : lp_P w h f (c + 1) l K) : ptK w h c f l (K + 1) = ptK w h c f l K + 1 := by
  show ptK w h c f l K + b01 (lp_P w h f (c + 1) l K) = _
  rw [b01_1 hP]
theorem ptK_n {K : Nat} (hP : ¬ lp_P w h f (c + 1) l K) : ptK w h c f l (K + 1) = ptK w h c f l K := by
  show ptK w h c f l K + b01 (lp_P w h f (c + 1) l K) = _
  rw [b01_0 hP, Nat.add_zero]
theorem ptK_all (hR : lwR w h c A Bm f) (hl : l < h + w) : lineV w h f l 2 = nI (ptK w h c f l ((c + 1) ^ cellsN w h l)) := by
  have h8 := lwR_8 hR
  have hcn := cellsN_le (l := l) h8.1 h8.2
  obtain ⟨hok, -⟩ := hR.2.1 l hl
  obtain ⟨⟨-, -, hc⟩, -⟩ := hR.1
  have hne : ¬ nI 0 = nI 1 := by decide +kernel
  rw [lineV_2]
  rcases (lwR_f01 hR hl).1 with ⟨h1, -⟩ | ⟨h1, -⟩
  · rw [if_pos h1, lp_cntF hok (by omega) rfl hcn h1]
    rfl
  · rw [if_neg (by rw [h1]; exact hne)]
    congr 1
    rw [← lp_count0 (w := w) (h := h) (f := f) (B := c + 1) (l := l) (by omega) (fun i hi => by
      obtain ⟨-, -, h3, -⟩ := hR.2.2 _ (atN_lt h8.1 h8.2 hl hi)
      exact h3)]
    unfold ptK
    refine sm_cong fun k _ => b01_cong ⟨fun z => ⟨z, fun z2 => absurd (h1.symm.trans z2) hne⟩, fun z => z.1⟩
theorem ptK_wr (hR : lwR w h c A Bm f) (hl : l < h + w) (h1 : f l = nI 1) : wrN w h f l = 1 ↔ ptK w h c f l ((c + 1) ^ cellsN w h l) = 0 := by
  have h8 := lwR_8 hR
  obtain ⟨hok, -⟩ := hR.2.1 l hl
  obtain ⟨⟨-, -, hc⟩, -⟩ := hR.1
  exact lp_wr hok (by omega) rfl (cellsN_le h8.1 h8.2) h1
theorem known_all (hR : lwR w h c A Bm f) (hl : l < h + w) : sm (fun i => kn1 (Bm (atN w h l i))) (cellsN w h l) = knownN w h f l (cellsN w h l) := by
  have h8 := lwR_8 hR
  unfold knownN
  exact sm_cong fun i hi => (lwR_mark hR h8.1 h8.2 hl hi).2.2
/-- the rows early and late -/
def tE (w h c : Nat) (f : Nat → Int32) (l K b : Nat) (v : Int32) : Prop := ∃ x, v = nI x ∧ x ≤ 5 ∧ lp_E w h f (c + 1) l K b x
def tL (w h c : Nat) (f : Nat → Int32) (l K b : Nat) (v : Int32) : Prop := ∃ x, v = nI x ∧ x ≤ 5 ∧ lp_L w h f (c + 1) l K b x
theorem tE_n {K b : Nat} {v : Int32} (hP : ¬ lp_P w h f (c + 1) l K) (h1 : tE w h c f l K b v) : tE w h c f l (K + 1) b v := by
  obtain ⟨x, e, hx, ⟨k, hk, g1, g2⟩, hall⟩ := h1
  refine ⟨x, e, hx, ⟨k, by omega, g1, g2⟩, fun k' hk' g3 y g4 => ?_⟩
  rcases Nat.eq_or_lt_of_le (show k' ≤ K by omega) with h5 | h5
  · subst h5
    exact absurd g3 hP
  · exact hall k' h5 g3 y g4
theorem tL_n {K b : Nat} {v : Int32} (hP : ¬ lp_P w h f (c + 1) l K) (h1 : tL w h c f l K b v) : tL w h c f l (K + 1) b v := by
  obtain ⟨x, e, hx, ⟨k, hk, g1, g2⟩, hall⟩ := h1
  refine ⟨x, e, hx, ⟨k, by omega, g1, g2⟩, fun k' hk' g3 y g4 => ?_⟩
  rcases Nat.eq_or_lt_of_le (show k' ≤ K by omega) with h5 | h5
  · subst h5
    exact absurd g3 hP
  · exact hall k' h5 g3 y g4
theorem tE_first {K b x : Nat} (hx : x ≤ 5) (hP : lp_P w h f (c + 1) l K) (h0 : ptK w h c f l K = 0) (hs : lp_RS (lp_dg (c + 1) K) (cellsN w h l) b x) : tE w h c f l (K + 1) b (nI x) ∧ tL w h c f l (K + 1) b (nI x) := by
  have hno : ∀ k, k < K → ¬ lp_P w h f (c + 1) l k := fun k hk z => by
    have := (sm_0 (f := fun k => b01 (lp_P w h f (c + 1) l k))).mp h0 k hk
    rw [b01_1 z] at this
    omega
  refine ⟨⟨x, rfl, hx, ⟨K, by omega, hP, hs⟩, fun k hk g1 y g2 => ?_⟩, ⟨x, rfl, hx, ⟨K, by omega, hP, hs⟩, fun k hk g1 y g2 => ?_⟩⟩
  · rcases Nat.eq_or_lt_of_le (show k ≤ K by omega) with h5 | h5
    · subst h5
      exact Nat.le_of_eq (lp_RS_one hs g2)
    · exact absurd g1 (hno k h5)
  · rcases Nat.eq_or_lt_of_le (show k ≤ K by omega) with h5 | h5
    · subst h5
      exact Nat.le_of_eq (lp_RS_one g2 hs)
    · exact absurd g1 (hno k h5)
theorem tE_less {K b x y : Nat} (hx : x ≤ 5) (hP : lp_P w h f (c + 1) l K) (hs : lp_RS (lp_dg (c + 1) K) (cellsN w h l) b x) (h1 : lp_E w h f (c + 1) l K b y) (hxy : x < y) : tE w h c f l (K + 1) b (nI x) := by
  refine ⟨x, rfl, hx, ⟨K, by omega, hP, hs⟩, fun k hk g1 z g2 => ?_⟩
  rcases Nat.eq_or_lt_of_le (show k ≤ K by omega) with h5 | h5
  · subst h5
    exact Nat.le_of_eq (lp_RS_one hs g2)
  · have := h1.2 k h5 g1 z g2
    omega
theorem tE_keep {K b x y : Nat} (hy : y ≤ 5) (hs : lp_RS (lp_dg (c + 1) K) (cellsN w h l) b x) (h1 : lp_E w h f (c + 1) l K b y) (hxy : y ≤ x) : tE w h c f l (K + 1) b (nI y) := by
  obtain ⟨⟨k, hk, g1, g2⟩, hall⟩ := h1
  refine ⟨y, rfl, hy, ⟨k, by omega, g1, g2⟩, fun k' hk' g3 z g4 => ?_⟩
  rcases Nat.eq_or_lt_of_le (show k' ≤ K by omega) with h5 | h5
  · subst h5
    rw [← lp_RS_one hs g4]
    exact hxy
  · exact hall k' h5 g3 z g4
theorem tL_more {K b x y : Nat} (hx : x ≤ 5) (hP : lp_P w h f (c + 1) l K) (hs : lp_RS (lp_dg (c + 1) K) (cellsN w h l) b x) (h1 : lp_L w h f (c + 1) l K b y) (hxy : y < x) : tL w h c f l (K + 1) b (nI x) := by
  refine ⟨x, rfl, hx, ⟨K, by omega, hP, hs⟩, fun k hk g1 z g2 => ?_⟩
  rcases Nat.eq_or_lt_of_le (show k ≤ K by omega) with h5 | h5
  · subst h5
    exact Nat.le_of_eq (lp_RS_one g2 hs)
  · have := h1.2 k h5 g1 z g2
    omega
theorem tL_keep {K b x y : Nat} (hy : y ≤ 5) (hs : lp_RS (lp_dg (c + 1) K) (cellsN w h l) b x) (h1 : lp_L w h f (c + 1) l K b y) (hxy : x ≤ y) : tL w h c f l (K + 1) b (nI y) := by
  obtain ⟨⟨k, hk, g1, g2⟩, hall⟩ := h1
  refine ⟨y, rfl, hy, ⟨k, by omega, g1, g2⟩, fun k' hk' g3 z g4 => ?_⟩
  rcases Nat.eq_or_lt_of_le (show k' ≤ K by omega) with h5 | h5
  · subst h5
    rw [← lp_RS_one hs g4]
    exact hxy
  · exact hall k' h5 g3 z g4
theorem tE_all (hR : lwR w h c A Bm f) (hl : l < h + w) (h1 : f l = nI 1) {b : Nat} (hb : b < manyN f l) {v : Int32} (hE : tE w h c f l ((c + 1) ^ cellsN w h l) b v) : v = nI (esF w h f l b) := by
  have h8 := lwR_8 hR
  obtain ⟨hok, -⟩ := hR.2.1 l hl
  obtain ⟨⟨-, -, hc⟩, -⟩ := hR.1
  obtain ⟨x, e, -, hx⟩ := hE
  rw [e, lp_E_es hok (by omega) rfl (cellsN_le h8.1 h8.2) h1 hb hx]
theorem tL_all (hR : lwR w h c A Bm f) (hl : l < h + w) (h1 : f l = nI 1) {b : Nat} (hb : b < manyN f l) {v : Int32} (hE : tL w h c f l ((c + 1) ^ cellsN w h l) b v) : v = nI (lsF w h f l b) := by
  have h8 := lwR_8 hR
  obtain ⟨hok, -⟩ := hR.2.1 l hl
  obtain ⟨⟨-, -, hc⟩, -⟩ := hR.1
  obtain ⟨x, e, -, hx⟩ := hE
  rw [e, lp_L_ls hok (by omega) rfl (cellsN_le h8.1 h8.2) h1 hb hx]
end LT_
