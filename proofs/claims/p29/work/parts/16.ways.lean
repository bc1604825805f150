/-! the ways to put the blocks of a line: valid starts, their order, how many there are at most (fb_holes: pasted from kit/laws) -/
theorem fb_holes : ∀ (m n : Nat) (f : Nat → Nat), (∀ i, i < n → f i < m) → (∀ i j, i < j → j < n → f i ≠ f j) → n ≤ m := by
  intro m
  induction m with
  | zero =>
    intro n f h1 _
    rcases Nat.eq_zero_or_pos n with h | h
    · omega
    · exact absurd (h1 0 h) (Nat.not_lt_zero _)
  | succ m ih =>
    intro n f h1 h2
    by_cases hx : ∃ i, i < n ∧ f i = m
    · obtain ⟨a, ha, hfa⟩ := hx
      have hg := ih (n - 1) (fun i => if i < a then f i else f (i + 1)) (by
        intro i hi
        by_cases q : i < a
        · simp only [if_pos q]
          have b1 := h1 i (by omega)
          have b2 := h2 i a q ha
          omega
        · simp only [if_neg q]
          have b1 := h1 (i + 1) (by omega)
          have b2 := h2 a (i + 1) (by omega) (by omega)
          omega) (by
        intro i j hij hj
        by_cases q : i < a
        · by_cases r : j < a
          · simp only [if_pos q, if_pos r]
            exact h2 i j hij (by omega)
          · simp only [if_pos q, if_neg r]
            exact h2 i (j + 1) (by omega) (by omega)
        · have r : ¬ j < a := by omega
          simp only [if_neg q, if_neg r]
          exact h2 (i + 1) (j + 1) (by omega) (by omega))
      omega
    · have hg := ih n f (fun i hi => by
        have b1 := h1 i hi
        have b2 : f i ≠ m := fun e => hx ⟨i, hi, e⟩
        omega) h2
      omega
/-- starts that fit into n cells -/
def vld (f : Nat → Int32) (l n : Nat) (s : Nat → Nat) : Prop := ∀ b, b < manyN f l → (b + 1 < manyN f l → s b + lenN f l b + gapN f l (b + 1) ≤ s (b + 1)) ∧ (b + 1 = manyN f l → s b + lenN f l b ≤ n)
/-- the order -/
def cd (s : Nat → Nat) : Nat → Nat
  | 0 => 0
  | k + 1 => cd s k * 16 + s k
theorem cd_cong {s t : Nat → Nat} : ∀ {k : Nat}, (∀ i, i < k → s i = t i) → cd s k = cd t k
  | 0, _ => rfl
  | k + 1, h => by
    show cd s k * 16 + s k = cd t k * 16 + t k
    rw [cd_cong (k := k) (fun i hi => h i (by omega)), h k (by omega)]
theorem cd_eq {s t : Nat → Nat} : ∀ {k : Nat}, (∀ i, i < k → s i < 16) → (∀ i, i < k → t i < 16) → cd s k = cd t k → ∀ i, i < k → s i = t i
  | 0, _, _, _ => fun i hi => by omega
  | k + 1, hs, ht, he => by
    have h1 := hs k (by omega)
    have h2 := ht k (by omega)
    have h3 : cd s k * 16 + s k = cd t k * 16 + t k := he
    have ih := cd_eq (k := k) (fun i hi => hs i (by omega)) (fun i hi => ht i (by omega)) (by omega)
    intro i hi
    by_cases h4 : i = k
    · subst h4
      omega
    · exact ih i (by omega)
/-- valid starts ascend and lie in the line -/
theorem vld_up {f : Nat → Int32} {l n : Nat} {s : Nat → Nat} (hok : okl 3 f l) (hv : vld f l n s) {b : Nat} (hb : b + 1 < manyN f l) : s b < s (b + 1) := by
  have h1 := (hv b (by omega)).1 hb
  have h2 := len_eq hok (show b < manyN f l by omega)
  omega
theorem vld_lt {f : Nat → Int32} {l n : Nat} {s : Nat → Nat} (hok : okl 3 f l) (hv : vld f l n s) : ∀ {d b : Nat}, b + d + 1 = manyN f l → s b < n
  | 0, b, h => by
    have h1 := (hv b (by omega)).2 (by omega)
    have h2 := len_eq hok (show b < manyN f l by omega)
    omega
  | d + 1, b, h => by
    have h1 := vld_lt hok hv (d := d) (b := b + 1) (by omega)
    have h2 := vld_up hok hv (b := b) (by omega)
    omega
theorem vld_16 {f : Nat → Int32} {l n : Nat} {s : Nat → Nat} (hok : okl 3 f l) (hv : vld f l n s) {b : Nat} (hb : b < manyN f l) : s b < n := vld_lt hok hv (d := manyN f l - 1 - b) (by omega)
/-- ascending rows of m numbers from lo on, below 8 -/
def inc : Nat → Nat → List (List Nat)
  | 0, _ => [[]]
  | m + 1, lo => (List.range 8).flatMap (fun a => if lo ≤ a then (inc m (a + 1)).map (fun r => a :: r) else [])
theorem inc_len : ∀ m, m < 9 → (inc m 0).length ≤ 70 := by decide +kernel
def lst (s : Nat → Nat) : Nat → Nat → List Nat
  | 0, _ => []
  | m + 1, b => s b :: lst s m (b + 1)
theorem lst_inc {s : Nat → Nat} : ∀ {m b lo : Nat}, (∀ i, i + 1 < m → s (b + i) < s (b + (i + 1))) → (∀ i, i < m → s (b + i) < 8) → (0 < m → lo ≤ s b) → lst s m b ∈ inc m lo
  | 0, b, lo, _, _, _ => by simp [lst, inc]
  | m + 1, b, lo, h1, h2, h3 => by
    have ih := lst_inc (s := s) (m := m) (b := b + 1) (lo := s b + 1) (fun i hi => by
      have := h1 (i + 1) (by omega)
      rw [show b + 1 + i = b + (i + 1) by omega, show b + 1 + (i + 1) = b + (i + 1 + 1) by omega]
      exact this) (fun i hi => by
      have := h2 (i + 1) (by omega)
      rw [show b + 1 + i = b + (i + 1) by omega]
      exact this) (fun hm => by
      have := h1 0 (by omega)
      rw [Nat.add_zero] at this
      exact this)
    have h4 := h2 0 (by omega)
    rw [Nat.add_zero] at h4
    simp only [lst, inc, List.mem_flatMap, List.mem_range]
    refine ⟨s b, h4, ?_⟩
    rw [if_pos (h3 (by omega))]
    exact List.mem_map.mpr ⟨_, ih, rfl⟩
theorem lst_eq {s t : Nat → Nat} : ∀ {m b : Nat}, lst s m b = lst t m b → ∀ i, i < m → s (b + i) = t (b + i)
  | 0, _, _ => fun i hi => by omega
  | m + 1, b, h => by
    simp only [lst, List.cons.injEq] at h
    intro i hi
    rcases Nat.eq_zero_or_pos i with h0 | h0
    · subst h0
      exact h.1
    · have := lst_eq h.2 (i - 1) (by omega)
      rw [show b + 1 + (i - 1) = b + i by omega] at this
      exact this
