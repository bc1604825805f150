/-! the reference: what a state is -/
def sm (f : Nat → Nat) : Nat → Nat
  | 0 => 0
  | n + 1 => sm f n + f n
theorem sm_le {f : Nat → Nat} {c : Nat} : ∀ {n : Nat}, (∀ k, k < n → f k ≤ c) → sm f n ≤ n * c
  | 0, _ => Nat.zero_le _
  | n + 1, h => by
    have ih := sm_le (n := n) (fun k hk => h k (by omega))
    have := h n (by omega)
    show sm f n + f n ≤ (n + 1) * c
    rw [Nat.succ_mul]
    omega
theorem sm_cong {f g : Nat → Nat} : ∀ {n : Nat}, (∀ k, k < n → f k = g k) → sm f n = sm g n
  | 0, _ => rfl
  | n + 1, h => by
    show sm f n + f n = sm g n + g n
    rw [sm_cong (n := n) (fun k hk => h k (by omega)), h n (by omega)]
/-- what block b of line l takes, with the gap ahead of it -/
def gapN (f : Nat → Int32) (l b : Nat) : Nat := if 0 < b ∧ f (160 + (8 * l + b)) = f (160 + (8 * l + b) - 1) then 1 else 0
def lenN (f : Nat → Int32) (l b : Nat) : Nat := nv (f (32 + (8 * l + b)))
def colN (f : Nat → Int32) (l b : Nat) : Nat := nv (f (160 + (8 * l + b)))
def manyN (f : Nat → Int32) (l : Nat) : Nat := nv (f (16 + l))
def roomN (f : Nat → Int32) (l k : Nat) : Nat := sm (fun b => lenN f l b + gapN f l b) k
def cellsN (w h l : Nat) : Nat := if l < h then w else h
def atN (w h l i : Nat) : Nat := if l < h then w * l + i else w * i + l - h
/-- the clue of a line -/
def okl (c : Nat) (f : Nat → Int32) (l : Nat) : Prop := rg (f l) 2 ∧ rg (f (16 + l)) 9 ∧ (f l = 0 → f (16 + l) = 0) ∧ ∀ b, b < manyN f l → (rg (f (32 + (8 * l + b))) 9 ∧ 1 ≤ lenN f l b) ∧ rg (f (160 + (8 * l + b))) (c + 1) ∧ 1 ≤ colN f l b
def okc (w h c : Nat) (f : Nat → Int32) : Prop := (∀ l, l < 16 → okl c f l) ∧ ∀ l, l < h + w → roomN f l (manyN f l) ≤ cellsN w h l
def okp (c : Nat) (f : Nat → Int32) : Prop := ∀ k, k < 64 → (rg (f (288 + k)) (2 ^ (c + 1)) ∧ 1 ≤ nv (f (288 + k))) ∧ rg (f (352 + k)) (c + 1)
def rW (I : fx_MI) : Nat := nv (I 0 3)
def rH (I : fx_MI) : Nat := nv (I 0 4)
def rC (I : fx_MI) : Nat := nv (I 0 5)
theorem dim_of {I : fx_MI} (h : dimM I) : (1 ≤ rW I ∧ rW I ≤ 8) ∧ (1 ≤ rH I ∧ rH I ≤ 8) ∧ (1 ≤ rC I ∧ rC I ≤ 3) ∧ I 0 3 = nI (rW I) ∧ I 0 4 = nI (rH I) ∧ I 0 5 = nI (rC I) := by
  obtain ⟨w, h', c, hw, hh, hc, e1, e2, e3⟩ := dimM_eq h
  simp (disch := omega) only [rW, rH, rC, e1, e2, e3, nv_nI]
  exact ⟨hw, hh, hc, trivial, trivial, trivial⟩
theorem cellsN_le {w h l : Nat} (hw : w ≤ 8) (hh : h ≤ 8) : cellsN w h l ≤ 8 := by
  unfold cellsN
  split <;> omega
theorem atN_lt {w h l i : Nat} (hw : w ≤ 8) (hh : h ≤ 8) (hl : l < h + w) (hi : i < cellsN w h l) : atN w h l i < w * h := by
  unfold cellsN at hi
  unfold atN
  split at hi
  · rename_i h1
    rw [if_pos h1]
    have h2 : w * l + w ≤ w * h := by
      rw [← Nat.mul_succ]
      exact Nat.mul_le_mul_left w h1
    omega
  · rename_i h1
    rw [if_neg h1]
    have h2 : w * i + w ≤ w * h := by
      rw [← Nat.mul_succ]
      exact Nat.mul_le_mul_left w hi
    omega
theorem wh_le {w h : Nat} (hw : w ≤ 8) (hh : h ≤ 8) : w * h ≤ 64 := Nat.mul_le_mul hw hh
theorem many_eq {c : Nat} {f : Nat → Int32} {l : Nat} (h : okl c f l) : f (16 + l) = nI (manyN f l) ∧ manyN f l ≤ 8 := by
  have := rg_eq h.2.1 (by omega)
  exact ⟨this.1, by unfold manyN; omega⟩
theorem len_eq {c : Nat} {f : Nat → Int32} {l b : Nat} (h : okl c f l) (hb : b < manyN f l) : f (32 + (8 * l + b)) = nI (lenN f l b) ∧ lenN f l b ≤ 8 ∧ 1 ≤ lenN f l b := by
  have h1 := h.2.2.2 b hb
  have := rg_eq h1.1.1 (by omega)
  exact ⟨this.1, by unfold lenN; omega, h1.1.2⟩
theorem col_eq {c : Nat} {f : Nat → Int32} {l b : Nat} (hc : c ≤ 3) (h : okl c f l) (hb : b < manyN f l) : f (160 + (8 * l + b)) = nI (colN f l b) ∧ colN f l b ≤ c ∧ 1 ≤ colN f l b := by
  have h1 := h.2.2.2 b hb
  have := rg_eq h1.2.1 (by omega)
  exact ⟨this.1, by unfold colN; omega, h1.2.2⟩
