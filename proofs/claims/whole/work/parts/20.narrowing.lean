/-! narrowing, as mathematics: of a line's marks, and of all -/
def sub (a b : Nat) : Prop := ∀ c, c < 4 → a / 2 ^ c % 2 = 1 → b / 2 ^ c % 2 = 1
theorem sub_rfl {a : Nat} : sub a a := fun _ _ h => h
theorem sub_trans {a b c : Nat} (h : sub a b) (h' : sub b c) : sub a c := fun k hk hx => h' k hk (h k hk hx)
theorem sub_anti {x y : Nat} (hx : x < 16) (hy : y < 16) (h : sub x y) (h' : sub y x) : x = y := by
  have key : ∀ x, x < 16 → ∀ y, y < 16 → (∀ c, c < 4 → (x / 2 ^ c % 2 = 1 ↔ y / 2 ^ c % 2 = 1)) → x = y := by decide +kernel
  exact key x hx y hy (fun c hc => ⟨h c hc, h' c hc⟩)
theorem sub_le {x y : Nat} (hx : x < 16) (hy : y < 16) (h : sub x y) : x ≤ y := by
  have key : ∀ x, x < 16 → ∀ y, y < 16 → (∀ c, c < 4 → x / 2 ^ c % 2 = 1 → y / 2 ^ c % 2 = 1) → x ≤ y := by decide +kernel
  exact key x hx y hy h
theorem bit_p2 : ∀ c, c < 4 → ∀ d, d < 4 → (2 ^ c / 2 ^ d % 2 = 1 ↔ d = c) := by decide +kernel
theorem bit_1 : ∀ d, d < 4 → (1 / 2 ^ d % 2 = 1 ↔ d = 0) := by decide +kernel
/-- s is a possible filling of line l under the marks u -/
def PF (w h : Nat) (f : Nat → Int32) (u : Nat → Nat) (l : Nat) (s : Nat → Nat) : Prop := vld f l (cellsN w h l) s ∧ ∀ i, i < cellsN w h l → u (atN w h l i) / 2 ^ (pcN f l s (manyN f l) i) % 2 = 1
theorem pcN_lt {f : Nat → Int32} {l : Nat} {s : Nat → Nat} {i : Nat} (hok : okl 3 f l) : ∀ {k : Nat}, k ≤ manyN f l → pcN f l s k i < 2 ^ 2
  | 0, _ => by
    show 0 < 2 ^ 2
    decide
  | k + 1, hk => by
    have h1 := pcN_lt (s := s) (i := i) hok (k := k) (by omega)
    have h2 := col_eq (by omega) hok (show k < manyN f l by omega)
    refine Nat.or_lt_two_pow h1 ?_
    split <;> omega
theorem PF_mono {w h : Nat} {f : Nat → Int32} {u v : Nat → Nat} {l : Nat} {s : Nat → Nat} (hok : okl 3 f l) (huv : ∀ k, sub (u k) (v k)) (hp : PF w h f u l s) : PF w h f v l s := ⟨hp.1, fun i hi => huv _ _ (by have := pcN_lt (s := s) (i := i) hok (Nat.le_refl _); omega) (hp.2 i hi)⟩
/-- runs lie one behind the other -/
theorem vld_apart {f : Nat → Int32} {l n : Nat} {s : Nat → Nat} (hok : okl 3 f l) (hv : vld f l n s) : ∀ {d b : Nat}, b + d + 1 < manyN f l → s b + lenN f l b ≤ s (b + d + 1)
  | 0, b, h => by
    have := (hv b (by omega)).1 (by omega)
    rw [Nat.add_zero]
    omega
  | d + 1, b, h => by
    have h1 := vld_apart hok hv (d := d) (b := b) (by omega)
    have h2 := (hv (b + d + 1) (by omega)).1 (by omega)
    have h3 := len_eq hok (show b + d + 1 < manyN f l by omega)
    rw [show b + (d + 1) + 1 = b + d + 1 + 1 by omega]
    omega
theorem vld_ap {f : Nat → Int32} {l n : Nat} {s : Nat → Nat} (hok : okl 3 f l) (hv : vld f l n s) {b b' : Nat} (h : b < b') (hb : b' < manyN f l) : s b + lenN f l b ≤ s b' := by
  have := vld_apart hok hv (d := b' - b - 1) (b := b) (by omega)
  rw [show b + (b' - b - 1) + 1 = b' by omega] at this
  exact this
theorem pcN_out {f : Nat → Int32} {l : Nat} {s : Nat → Nat} {i : Nat} : ∀ {k : Nat}, (∀ b, b < k → ¬ (s b ≤ i ∧ i < s b + lenN f l b)) → pcN f l s k i = 0
  | 0, _ => rfl
  | k + 1, h => by
    show pcN f l s k i ||| _ = 0
    rw [pcN_out (k := k) (fun b hb => h b (by omega)), if_neg (h k (by omega))]
    rfl
theorem pcN_in {f : Nat → Int32} {l n : Nat} {s : Nat → Nat} {i b : Nat} (hok : okl 3 f l) (hv : vld f l n s) (h1 : s b ≤ i) (h2 : i < s b + lenN f l b) : ∀ {k : Nat}, b < k → k ≤ manyN f l → pcN f l s k i = colN f l b
  | 0, h, _ => by omega
  | k + 1, h, hk => by
    show pcN f l s k i ||| _ = _
    by_cases hb : b = k
    · subst hb
      rw [if_pos ⟨h1, h2⟩, pcN_out (fun b' hb' => ?_), Nat.zero_or]
      have := vld_ap hok hv hb' (by omega)
      omega
    · rw [pcN_in hok hv h1 h2 (k := k) (by omega) (by omega), if_neg, Nat.or_zero]
      have := vld_ap hok hv (show b < k by omega) (by omega)
      omega
/-- the least and the greatest start of a block -/
def Es (w h : Nat) (f : Nat → Int32) (u : Nat → Nat) (l b a : Nat) : Prop := (∃ s, PF w h f u l s ∧ s b = a) ∧ ∀ s, PF w h f u l s → a ≤ s b
def Ls (w h : Nat) (f : Nat → Int32) (u : Nat → Nat) (l b a : Nat) : Prop := (∃ s, PF w h f u l s ∧ s b = a) ∧ ∀ s, PF w h f u l s → s b ≤ a
/-- the mark that cell i gets: by overlap (level 1), by fillings -/
def B1 (w h : Nat) (f : Nat → Int32) (u : Nat → Nat) (l i x : Nat) : Prop := ∃ E L : Nat → Nat, (∀ b, b < manyN f l → Es w h f u l b (E b) ∧ Ls w h f u l b (L b)) ∧
  ((∃ b, b < manyN f l ∧ L b ≤ i ∧ i < E b + lenN f l b ∧ x = 2 ^ colN f l b) ∨
  ((∀ b, b < manyN f l → ¬ (L b ≤ i ∧ i < E b + lenN f l b)) ∧ (∃ b, b < manyN f l ∧ E b ≤ i ∧ i < L b + lenN f l b) ∧ x = u (atN w h l i)) ∨
  ((∀ b, b < manyN f l → ¬ (L b ≤ i ∧ i < E b + lenN f l b)) ∧ (∀ b, b < manyN f l → ¬ (E b ≤ i ∧ i < L b + lenN f l b)) ∧ x = 1))
def B2 (w h : Nat) (f : Nat → Int32) (u : Nat → Nat) (l i x : Nat) : Prop := x < 16 ∧ ∀ c, c < 4 → (x / 2 ^ c % 2 = 1 ↔ ∃ s, PF w h f u l s ∧ pcN f l s (manyN f l) i = c)
def BT (w h : Nat) (f : Nat → Int32) (lev : Nat) (u : Nat → Nat) (l i x : Nat) : Prop := if lev = 1 then B1 w h f u l i x else B2 w h f u l i x
theorem B1_16 {w h : Nat} {f : Nat → Int32} {u : Nat → Nat} {l i x : Nat} (hok : okl 3 f l) (hu : u (atN w h l i) < 16) (hx : B1 w h f u l i x) : x < 16 := by
  obtain ⟨E, L, -, ⟨b, hb, -, -, rfl⟩ | ⟨-, -, rfl⟩ | ⟨-, -, rfl⟩⟩ := hx
  · exact p2_16 _ (by have := col_eq (by omega) hok hb; omega)
  · exact hu
  · decide
theorem BT_16 {w h : Nat} {f : Nat → Int32} {lev : Nat} {u : Nat → Nat} {l i x : Nat} (hok : okl 3 f l) (hu : u (atN w h l i) < 16) (hx : BT w h f lev u l i x) : x < 16 := by
  unfold BT at hx
  split at hx
  · exact B1_16 hok hu hx
  · exact hx.1
/-- the new mark lies in the old one -/
theorem BT_sub {w h : Nat} {f : Nat → Int32} {lev : Nat} {u : Nat → Nat} {l i x : Nat} (hok : okl 3 f l) (hi : i < cellsN w h l) (hne : ∃ s, PF w h f u l s) (hx : BT w h f lev u l i x) : sub x (u (atN w h l i)) := by
  unfold BT at hx
  split at hx
  · obtain ⟨s, hs⟩ := hne
    obtain ⟨E, L, hEL, ⟨b, hb, h1, h2, rfl⟩ | ⟨-, -, rfl⟩ | ⟨h1, h2, rfl⟩⟩ := hx
    · intro c hc hbit
      have hcol := col_eq (by omega) hok hb
      rw [bit_p2 _ (by omega) _ hc] at hbit
      subst hbit
      have g1 := (hEL b hb).1.2 s hs
      have g2 := (hEL b hb).2.2 s hs
      have := hs.2 i hi
      rw [pcN_in hok hs.1 (b := b) (by omega) (by omega) hb (Nat.le_refl _)] at this
      exact this
    · exact sub_rfl
    · intro c hc hbit
      rw [bit_1 _ hc] at hbit
      subst hbit
      have := hs.2 i hi
      rw [pcN_out (fun b hb g => h2 b hb ?_)] at this
      · exact this
      · have g1 := (hEL b hb).1.2 s hs
        have g2 := (hEL b hb).2.2 s hs
        omega
  · intro c hc hbit
    obtain ⟨s, hs, hp⟩ := (hx.2 c hc).mp hbit
    have := hs.2 i hi
    rw [hp] at this
    exact this
/-- a fixed point below stays below -/
theorem BT_fix {w h : Nat} {f : Nat → Int32} {lev : Nat} {r u : Nat → Nat} {l i x : Nat} (hok : okl 3 f l) (hru : ∀ k, sub (r k) (u k)) (hne : ∃ s, PF w h f r l s) (hr : BT w h f lev r l i (r (atN w h l i))) (hx : BT w h f lev u l i x) : sub (r (atN w h l i)) x := by
  unfold BT at hr hx
  by_cases hl : lev = 1
  · rw [if_pos hl] at hr hx
    obtain ⟨s, hs⟩ := hne
    obtain ⟨E, L, hEL, hx⟩ := hx
    obtain ⟨E', L', hEL', hr⟩ := hr
    have hE : ∀ b, b < manyN f l → E b ≤ E' b ∧ L' b ≤ L b ∧ E' b ≤ s b ∧ s b ≤ L' b := fun b hb => by
      obtain ⟨s1, g1, g2⟩ := (hEL' b hb).1.1
      obtain ⟨s2, g3, g4⟩ := (hEL' b hb).2.1
      have k1 := (hEL b hb).1.2 s1 (PF_mono hok hru g1)
      have k2 := (hEL b hb).2.2 s2 (PF_mono hok hru g3)
      exact ⟨by omega, by omega, (hEL' b hb).1.2 s hs, (hEL' b hb).2.2 s hs⟩
    rcases hx with ⟨b, hb, h1, h2, rfl⟩ | ⟨-, -, rfl⟩ | ⟨h1, h2, rfl⟩
    · have k := hE b hb
      rcases hr with ⟨b', hb', h1', h2', he⟩ | ⟨hno, -, -⟩ | ⟨hno, -, -⟩
      · have k' := hE b' hb'
        have e1 := pcN_in hok hs.1 (b := b) (i := i) (by omega) (by omega) hb (Nat.le_refl _)
        have e2 := pcN_in hok hs.1 (b := b') (i := i) (by omega) (by omega) hb' (Nat.le_refl _)
        rw [he, ← e2, e1]
        exact sub_rfl
      · exact absurd ⟨by omega, by omega⟩ (hno b hb)
      · exact absurd ⟨by omega, by omega⟩ (hno b hb)
    · exact hru _
    · rcases hr with ⟨b', hb', h1', h2', he⟩ | ⟨-, ⟨b', hb', h1', h2'⟩, -⟩ | ⟨-, -, he⟩
      · have k' := hE b' hb'
        exact absurd ⟨by omega, by omega⟩ (h2 b' hb')
      · have k' := hE b' hb'
        exact absurd ⟨by omega, by omega⟩ (h2 b' hb')
      · rw [he]
        exact sub_rfl
  · rw [if_neg hl] at hr hx
    intro c hc hbit
    obtain ⟨s, hs, hp⟩ := (hr.2 c hc).mp hbit
    exact (hx.2 c hc).mpr ⟨s, PF_mono hok hru hs, hp⟩
/-- the new mark is one alone -/
theorem BT_one {w h : Nat} {f : Nat → Int32} {lev : Nat} {u : Nat → Nat} {l i x y : Nat} (hok : okl 3 f l) (hne : ∃ s, PF w h f u l s) (hx : BT w h f lev u l i x) (hy : BT w h f lev u l i y) : x = y := by
  unfold BT at hx hy
  by_cases hl : lev = 1
  · rw [if_pos hl] at hx hy
    obtain ⟨s, hs⟩ := hne
    obtain ⟨E, L, hEL, hx⟩ := hx
    obtain ⟨E', L', hEL', hy⟩ := hy
    have hE : ∀ b, b < manyN f l → E b = E' b ∧ L' b = L b ∧ E' b ≤ s b ∧ s b ≤ L' b := fun b hb => by
      obtain ⟨s1, g1, g2⟩ := (hEL' b hb).1.1
      obtain ⟨s2, g3, g4⟩ := (hEL' b hb).2.1
      obtain ⟨s3, g5, g6⟩ := (hEL b hb).1.1
      obtain ⟨s4, g7, g8⟩ := (hEL b hb).2.1
      have k1 := (hEL b hb).1.2 s1 g1
      have k2 := (hEL b hb).2.2 s2 g3
      have k3 := (hEL' b hb).1.2 s3 g5
      have k4 := (hEL' b hb).2.2 s4 g7
      exact ⟨by omega, by omega, (hEL' b hb).1.2 s hs, (hEL' b hb).2.2 s hs⟩
    rcases hx with ⟨b, hb, h1, h2, rfl⟩ | ⟨hn, ⟨b, hb, h1, h2⟩, rfl⟩ | ⟨hn, h2, rfl⟩
    · have k := hE b hb
      rcases hy with ⟨b', hb', h1', h2', rfl⟩ | ⟨hno, -, -⟩ | ⟨hno, -, -⟩
      · have k' := hE b' hb'
        have e1 := pcN_in hok hs.1 (b := b) (i := i) (by omega) (by omega) hb (Nat.le_refl _)
        have e2 := pcN_in hok hs.1 (b := b') (i := i) (by omega) (by omega) hb' (Nat.le_refl _)
        rw [← e2, e1]
      · exact absurd ⟨by omega, by omega⟩ (hno b hb)
      · exact absurd ⟨by omega, by omega⟩ (hno b hb)
    · have k := hE b hb
      rcases hy with ⟨b', hb', h1', h2', rfl⟩ | ⟨-, -, rfl⟩ | ⟨-, hno, -⟩
      · have k' := hE b' hb'
        exact absurd ⟨by omega, by omega⟩ (hn b' hb')
      · rfl
      · exact absurd ⟨by omega, by omega⟩ (hno b hb)
    · rcases hy with ⟨b', hb', h1', h2', rfl⟩ | ⟨-, ⟨b', hb', h1', h2'⟩, rfl⟩ | ⟨-, -, rfl⟩
      · have k' := hE b' hb'
        exact absurd ⟨by omega, by omega⟩ (hn b' hb')
      · have k' := hE b' hb'
        exact absurd ⟨by omega, by omega⟩ (h2 b' hb')
      · rfl
  · rw [if_neg hl] at hx hy
    exact sub_anti hx.1 hy.1 (fun c hc hb => (hy.2 c hc).mpr ((hx.2 c hc).mp hb)) (fun c hc hb => (hx.2 c hc).mpr ((hy.2 c hc).mp hb))
/-- marks at which no line with a clue is wrong, and narrowing changes nothing -/
def good (w h : Nat) (f : Nat → Int32) (lev : Nat) (u : Nat → Nat) : Prop := ∀ l, l < h + w → ¬ f l = nI 0 → (∃ s, PF w h f u l s) ∧ ∀ i, i < cellsN w h l → BT w h f lev u l i (u (atN w h l i))
/-- what narrowing marks u ends at -/
def NT (w h : Nat) (f : Nat → Int32) (lev : Nat) (u v : Nat → Nat) : Prop := (∀ k, sub (v k) (u k)) ∧ good w h f lev v ∧ (∀ r, (∀ k, sub (r k) (u k)) → good w h f lev r → ∀ k, sub (r k) (v k)) ∧ ∀ k, w * h ≤ k → v k = u k
def NF (w h : Nat) (f : Nat → Int32) (lev : Nat) (u : Nat → Nat) : Prop := ∀ r, (∀ k, sub (r k) (u k)) → ¬ good w h f lev r
