/-! the reference: simple calls -/
theorem keepsM_ne {I : fx_MI} {q j : Nat} (h : q ≠ 2) (h2 : q ≠ 0 ∨ j ≠ 2) : keepsM I q j = I q j := by
  unfold keepsM k1M
  split <;> simp (disch := omega) only [up_ne, fill_ne]
def inL (I : fx_MI) (l : Int32) : Bool := in_M l 0 (I 0 4 + I 0 3 - 1)
theorem keepsM_row {I : fx_MI} : keepsM I 1 = I 1 := by
  funext j
  exact keepsM_ne (by omega) (by omega)
def gapK (f : Nat → Int32) (l m : Nat) (c : Int32) : Nat := if 0 < m ∧ f (160 + (8 * l + m) - 1) = c then 1 else 0
theorem room_ge {c : Nat} {f : Nat → Int32} {l m : Nat} (h : okl c f l) : ∀ {k : Nat}, k ≤ manyN f l → m ≤ k → m ≤ roomN f l k
  | 0, _, h2 => h2
  | k + 1, h1, h2 => by
    have h3 := len_eq h (show k < manyN f l by omega)
    show m ≤ roomN f l k + (lenN f l k + gapN f l k)
    rcases Nat.lt_or_ge k m with h4 | h4
    · have := room_ge h (m := k) (k := k) (by omega) (Nat.le_refl _)
      omega
    · have := room_ge h (m := m) (k := k) (by omega) h4
      omega
def post_M_setClue : fx_Post := fun st I J R r I' J' R' => match st with
  | [_, .int l, .int v] => inL I l = false ∧ r = some (.int (-2)) ∧ I' = I ∧ J' = J ∧ R' = R ∨ ∃ n, n < rH I + rW I ∧ l = nI n ∧ r = some (.int (I 1 n)) ∧ I' = fx_up (fx_up (keepsM I) 1 n (if v = nI 0 then nI 0 else nI 1)) 1 (16 + n) (nI 0) ∧ J' = J ∧ R' = R
  | _ => True
def post_M_addBlock : fx_Post := fun st I J R r I' J' R' => match st with
  | [_, .int l, .int v, .int c] => (inL I l && in_M v 1 8 && in_M c 1 (I 0 5)) = false ∧ r = some (.int (-2)) ∧ I' = I ∧ J' = J ∧ R' = R ∨ ∃ n b k, n < rH I + rW I ∧ l = nI n ∧ (1 ≤ b ∧ b ≤ 8) ∧ v = nI b ∧ (1 ≤ k ∧ k ≤ rC I) ∧ c = nI k ∧ ((cellsN (rW I) (rH I) n < roomN (I 1) n (manyN (I 1) n) + b + gapK (I 1) n (manyN (I 1) n) (nI k) ∧ r = some (.int (-3)) ∧ I' = I ∧ J' = J ∧ R' = R) ∨ (roomN (I 1) n (manyN (I 1) n) + b + gapK (I 1) n (manyN (I 1) n) (nI k) ≤ cellsN (rW I) (rH I) n ∧ r = some (.int (nI (manyN (I 1) n + 1))) ∧ I' = fx_up (fx_up (fx_up (fx_up (keepsM I) 1 n (nI 1)) 1 (32 + (8 * n + manyN (I 1) n)) v) 1 (160 + (8 * n + manyN (I 1) n)) c) 1 (16 + n) (nI (manyN (I 1) n + 1)) ∧ J' = J ∧ R' = R))
  | _ => True
/-- known cells of a line -/
def one (x : Int32) : Nat := if bitsM x = nI 1 then 1 else 0
def knownN (w h : Nat) (f : Nat → Int32) (l k : Nat) : Nat := sm (fun i => one (f (288 + atN w h l i))) k
theorem one_le (x : Int32) : one x ≤ 1 := by
  unfold one
  split <;> omega
