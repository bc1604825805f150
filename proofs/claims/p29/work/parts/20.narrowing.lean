/-! narrowing, as mathematics: of a line's marks, and of all -/
def sub (a b : Nat) : Prop := ∀ c, c < 4 → a / 2 ^ c % 2 = 1 → b / 2 ^ c % 2 = 1
/-- s is a possible filling of line l under the marks u -/
def PF (w h : Nat) (f : Nat → Int32) (u : Nat → Nat) (l : Nat) (s : Nat → Nat) : Prop := vld f l (cellsN w h l) s ∧ ∀ i, i < cellsN w h l → u (atN w h l i) / 2 ^ (pcN f l s (manyN f l) i) % 2 = 1
theorem pcN_lt {f : Nat → Int32} {l : Nat} {s : Nat → Nat} {i : Nat} (hok : okl 3 f l) : ∀ {k : Nat}, k ≤ manyN f l → pcN f l s k i < 2 ^ 2
  | 0, _ => by
    show 0 < 2 ^ 2
    decide
  | k + 1, hk => by
    have h1 := pcN_lt (s := s) (i := i) hok (k := k) (by omega)
    have h2 := col_eq (by omega) hok (show k < manyN f l by omega)
    refine Nat.or_lt_two_pow h1 ?_
    split <;> omega
/-- runs lie one behind the other -/
theorem vld_apart {f : Nat → Int32} {l n : Nat} {s : Nat → Nat} (hok : okl 3 f l) (hv : vld f l n s) : ∀ {d b : Nat}, b + d + 1 < manyN f l → s b + lenN f l b ≤ s (b + d + 1)
  | 0, b, h => by
    have := (hv b (by omega)).1 (by omega)
    rw [Nat.add_zero]
    omega
  | d + 1, b, h => by
    have h1 := vld_apart hok hv (d := d) (b := b) (by omega)
    have h2 := (hv (b + d + 1) (by omega)).1 (by omega)
    have h3 := len_eq hok (show b + d + 1 < manyN f l by omega)
    rw [show b + (d + 1) + 1 = b + d + 1 + 1 by omega]
    omega
theorem vld_ap {f : Nat → Int32} {l n : Nat} {s : Nat → Nat} (hok : okl 3 f l) (hv : vld f l n s) {b b' : Nat} (h : b < b') (hb : b' < manyN f l) : s b + lenN f l b ≤ s b' := by
  have := vld_apart hok hv (d := b' - b - 1) (b := b) (by omega)
  rw [show b + (b' - b - 1) + 1 = b' by omega] at this
  exact this
theorem pcN_out {f : Nat → Int32} {l : Nat} {s : Nat → Nat} {i : Nat} : ∀ {k : Nat}, (∀ b, b < k → ¬ (s b ≤ i ∧ i < s b + lenN f l b)) → pcN f l s k i = 0
  | 0, _ => rfl
  | k + 1, h => by
    show pcN f l s k i ||| _ = 0
    rw [pcN_out (k := k) (fun b hb => h b (by omega)), if_neg (h k (by omega))]
    rfl
theorem pcN_in {f : Nat → Int32} {l n : Nat} {s : Nat → Nat} {i b : Nat} (hok : okl 3 f l) (hv : vld f l n s) (h1 : s b ≤ i) (h2 : i < s b + lenN f l b) : ∀ {k : Nat}, b < k → k ≤ manyN f l → pcN f l s k i = colN f l b
  | 0, h, _ => by omega
  | k + 1, h, hk => by
    show pcN f l s k i ||| _ = _
    by_cases hb : b = k
    · subst hb
      rw [if_pos ⟨h1, h2⟩, pcN_out (fun b' hb' => ?_), Nat.zero_or]
      have := vld_ap hok hv hb' (by omega)
      omega
    · rw [pcN_in hok hv h1 h2 (k := k) (by omega) (by omega), if_neg, Nat.or_zero]
      have := vld_ap hok hv (show b < k by omega) (by omega)
      omega
/-- the least and the greatest start of a block -/
def Es (w h : Nat) (f : Nat → Int32) (u : Nat → Nat) (l b a : Nat) : Prop := (∃ s, PF w h f u l s ∧ s b = a) ∧ ∀ s, PF w h f u l s → a ≤ s b
def Ls (w h : Nat) (f : Nat → Int32) (u : Nat → Nat) (l b a : Nat) : Prop := (∃ s, PF w h f u l s ∧ s b = a) ∧ ∀ s, PF w h f u l s → s b ≤ a
/-- the mark that cell i gets: by overlap (level 1), by fillings -/
def B1 (w h : Nat) (f : Nat → Int32) (u : Nat → Nat) (l i x : Nat) : Prop := ∃ E L : Nat → Nat, (∀ b, b < manyN f l → Es w h f u l b (E b) ∧ Ls w h f u l b (L b)) ∧
  ((∃ b, b < manyN f l ∧ L b ≤ i ∧ i < E b + lenN f l b ∧ x = 2 ^ colN f l b) ∨
  ((∀ b, b < manyN f l → ¬ (L b ≤ i ∧ i < E b + lenN f l b)) ∧ (∃ b, b < manyN f l ∧ E b ≤ i ∧ i < L b + lenN f l b) ∧ x = u (atN w h l i)) ∨
  ((∀ b, b < manyN f l → ¬ (L b ≤ i ∧ i < E b + lenN f l b)) ∧ (∀ b, b < manyN f l → ¬ (E b ≤ i ∧ i < L b + lenN f l b)) ∧ x = 1))
def B2 (w h : Nat) (f : Nat → Int32) (u : Nat → Nat) (l i x : Nat) : Prop := x < 16 ∧ ∀ c, c < 4 → (x / 2 ^ c % 2 = 1 ↔ ∃ s, PF w h f u l s ∧ pcN f l s (manyN f l) i = c)
def BT (w h : Nat) (f : Nat → Int32) (lev : Nat) (u : Nat → Nat) (l i x : Nat) : Prop := if lev = 1 then B1 w h f u l i x else B2 w h f u l i x
