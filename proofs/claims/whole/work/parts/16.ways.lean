/-! the ways to put the blocks of a line: valid starts, their order, how many there are at most (fb_holes: pasted from kit/laws) -/
theorem fb_holes : ∀ (m n : Nat) (f : Nat → Nat), (∀ i, i < n → f i < m) → (∀ i j, i < j → j < n → f i ≠ f j) → n ≤ m := by
  intro m
  induction m with
  | zero =>
    intro n f h1 _
    rcases Nat.eq_zero_or_pos n with h | h
    · omega
    · exact absurd (h1 0 h) (Nat.not_lt_zero _)
  | succ m ih =>
    intro n f h1 h2
    by_cases hx : ∃ i, i < n ∧ f i = m
    · obtain ⟨a, ha, hfa⟩ := hx
      have hg := ih (n - 1) (fun i => if i < a then f i else f (i + 1)) (by
        intro i hi
        by_cases q : i < a
        · simp only [if_pos q]
          have b1 := h1 i (by omega)
          have b2 := h2 i a q ha
          omega
        · simp only [if_neg q]
          have b1 := h1 (i + 1) (by omega)
          have b2 := h2 a (i + 1) (by omega) (by omega)
          omega) (by
        intro i j hij hj
        by_cases q : i < a
        · by_cases r : j < a
          · simp only [if_pos q, if_pos r]
            exact h2 i j hij (by omega)
          · simp only [if_pos q, if_neg r]
            exact h2 i (j + 1) (by omega) (by omega)
        · have r : ¬ j < a := by omega
          simp only [if_neg q, if_neg r]
          exact h2 (i + 1) (j + 1) (by omega) (by omega))
      omega
    · have hg := ih n f (fun i hi => by
        have b1 := h1 i hi
        have b2 : f i ≠ m := fun e => hx ⟨i, hi, e⟩
        omega) h2
      omega
/-- starts that fit into n cells -/
def vld (f : Nat → Int32) (l n : Nat) (s : Nat → Nat) : Prop := ∀ b, b < manyN f l → (b + 1 < manyN f l → s b + lenN f l b + gapN f l (b + 1) ≤ s (b + 1)) ∧ (b + 1 = manyN f l → s b + lenN f l b ≤ n)
theorem stN_0 {f : Nat → Int32} {l b p : Nat} : stN f l b p 0 = p := by
  simp [stN, posN]
theorem stN_s {f : Nat → Int32} {l b p j : Nat} : stN f l b p (j + 1) = stN f l b p j + lenN f l (b + j) + gapN f l (b + (j + 1)) := by
  unfold stN
  rw [if_pos (Nat.succ_pos j)]
  rfl
theorem posN_st {f : Nat → Int32} {l b p j : Nat} : posN f l b p (j + 1) = stN f l b p j + lenN f l (b + j) := rfl
/-- packed starts are the least -/
theorem stN_le {f : Nat → Int32} {l n b p : Nat} {s : Nat → Nat} (hv : vld f l n s) (hp : p ≤ s b) : ∀ {j : Nat}, b + j < manyN f l → stN f l b p j ≤ s (b + j)
  | 0, _ => by rw [stN_0]; exact hp
  | j + 1, hj => by
    have ih := stN_le hv hp (j := j) (by omega)
    have h1 := (hv (b + j) (by omega)).1 (by omega)
    rw [stN_s]
    rw [show b + j + 1 = b + (j + 1) by omega] at h1
    omega
theorem pos_le {f : Nat → Int32} {l n b p : Nat} {s : Nat → Nat} (hv : vld f l n s) (hp : p ≤ s b) (hb : b < manyN f l) : posN f l b p (manyN f l - b) ≤ n := by
  obtain ⟨j, hj⟩ : ∃ j, manyN f l - b = j + 1 := ⟨manyN f l - b - 1, by omega⟩
  have h1 := stN_le hv hp (j := j) (by omega)
  have h2 := (hv (b + j) (by omega)).2 (by omega)
  rw [hj, posN_st]
  omega
/-- from block b on packed from p, ahead of it as before -/
def goon (f : Nat → Int32) (l b p : Nat) (s : Nat → Nat) : Nat → Nat := fun i => if i < b then s i else stN f l b p (i - b)
theorem goon_vld {f : Nat → Int32} {l n b p : Nat} {s : Nat → Nat} (hv : ∀ i, i < b → i + 1 < b → s i + lenN f l i + gapN f l (i + 1) ≤ s (i + 1)) (hb : b < manyN f l) (hp : ∀ i, i + 1 = b → s i + lenN f l i + gapN f l b ≤ p) (hn : posN f l b p (manyN f l - b) ≤ n) : vld f l n (goon f l b p s) := by
  intro i hi
  refine ⟨fun h1 => ?_, fun h1 => ?_⟩
  · unfold goon
    by_cases h2 : i + 1 < b
    · rw [if_pos (by omega), if_pos h2]
      exact hv i (by omega) h2
    · rw [if_neg h2]
      by_cases h3 : i < b
      · rw [if_pos h3, show i + 1 - b = 0 by omega, stN_0]
        have := hp i (by omega)
        rw [show i + 1 = b by omega]
        exact this
      · rw [if_neg h3, show i + 1 - b = (i - b) + 1 by omega, stN_s, show b + (i - b) = i by omega, show b + (i - b + 1) = i + 1 by omega]
        exact Nat.le_refl _
  · unfold goon
    rw [if_neg (by omega)]
    obtain ⟨j, hj⟩ : ∃ j, manyN f l - b = j + 1 := ⟨manyN f l - b - 1, by omega⟩
    rw [hj, posN_st] at hn
    rw [show i - b = j by omega, show i = b + j by omega]
    exact hn
/-- the order -/
def cd (s : Nat → Nat) : Nat → Nat
  | 0 => 0
  | k + 1 => cd s k * 16 + s k
theorem cd_cong {s t : Nat → Nat} : ∀ {k : Nat}, (∀ i, i < k → s i = t i) → cd s k = cd t k
  | 0, _ => rfl
  | k + 1, h => by
    show cd s k * 16 + s k = cd t k * 16 + t k
    rw [cd_cong (k := k) (fun i hi => h i (by omega)), h k (by omega)]
theorem cd_le {s t : Nat → Nat} : ∀ {k : Nat}, (∀ i, i < k → s i ≤ t i) → cd s k ≤ cd t k
  | 0, _ => Nat.le_refl _
  | k + 1, h => by
    have h1 := cd_le (k := k) (fun i hi => h i (by omega))
    have h2 := h k (by omega)
    show cd s k * 16 + s k ≤ cd t k * 16 + t k
    omega
theorem cd_lt {s t : Nat → Nat} : ∀ {k b : Nat}, b < k → (∀ i, i < k → s i < 16) → (∀ i, i < b → s i = t i) → s b < t b → cd s k < cd t k
  | 0, _, h, _, _, _ => by omega
  | k + 1, b, hb, hs, he, hl => by
    show cd s k * 16 + s k < cd t k * 16 + t k
    by_cases h1 : b = k
    · subst h1
      rw [cd_cong he]
      omega
    · have := cd_lt (k := k) (b := b) (by omega) (fun i hi => hs i (by omega)) he hl
      have := hs k (by omega)
      omega
theorem cd_eq {s t : Nat → Nat} : ∀ {k : Nat}, (∀ i, i < k → s i < 16) → (∀ i, i < k → t i < 16) → cd s k = cd t k → ∀ i, i < k → s i = t i
  | 0, _, _, _ => fun i hi => by omega
  | k + 1, hs, ht, he => by
    have h1 := hs k (by omega)
    have h2 := ht k (by omega)
    have h3 : cd s k * 16 + s k = cd t k * 16 + t k := he
    have ih := cd_eq (k := k) (fun i hi => hs i (by omega)) (fun i hi => ht i (by omega)) (by omega)
    intro i hi
    by_cases h4 : i = k
    · subst h4
      omega
    · exact ih i (by omega)
theorem cd_lt_ex {s t : Nat → Nat} : ∀ {k : Nat}, (∀ i, i < k → s i < 16) → (∀ i, i < k → t i < 16) → cd s k < cd t k → ∃ b, b < k ∧ (∀ i, i < b → s i = t i) ∧ s b < t b
  | 0, _, _, h => by
    have : (0 : Nat) < 0 := h
    omega
  | k + 1, hs, ht, h => by
    have h1 := hs k (by omega)
    have h2 := ht k (by omega)
    have h3 : cd s k * 16 + s k < cd t k * 16 + t k := h
    by_cases h4 : cd s k < cd t k
    · obtain ⟨b, g1, g2, g3⟩ := cd_lt_ex (k := k) (fun i hi => hs i (by omega)) (fun i hi => ht i (by omega)) h4
      exact ⟨b, by omega, g2, g3⟩
    · exact ⟨k, by omega, cd_eq (fun i hi => hs i (by omega)) (fun i hi => ht i (by omega)) (by omega), by omega⟩
/-- valid starts ascend and lie in the line -/
theorem vld_up {f : Nat → Int32} {l n : Nat} {s : Nat → Nat} (hok : okl 3 f l) (hv : vld f l n s) {b : Nat} (hb : b + 1 < manyN f l) : s b < s (b + 1) := by
  have h1 := (hv b (by omega)).1 hb
  have h2 := len_eq hok (show b < manyN f l by omega)
  omega
theorem vld_lt {f : Nat → Int32} {l n : Nat} {s : Nat → Nat} (hok : okl 3 f l) (hv : vld f l n s) : ∀ {d b : Nat}, b + d + 1 = manyN f l → s b < n
  | 0, b, h => by
    have h1 := (hv b (by omega)).2 (by omega)
    have h2 := len_eq hok (show b < manyN f l by omega)
    omega
  | d + 1, b, h => by
    have h1 := vld_lt hok hv (d := d) (b := b + 1) (by omega)
    have h2 := vld_up hok hv (b := b) (by omega)
    omega
theorem vld_16 {f : Nat → Int32} {l n : Nat} {s : Nat → Nat} (hok : okl 3 f l) (hv : vld f l n s) {b : Nat} (hb : b < manyN f l) : s b < n := vld_lt hok hv (d := manyN f l - 1 - b) (by omega)
/-- the next ones: none lies between -/
theorem next_least {f : Nat → Int32} {l n b : Nat} {s t : Nat → Nat} (hok : okl 3 f l) (hn : n ≤ 8) (hs : vld f l n s) (ht : vld f l n t) (hb : b < manyN f l) (hfit : posN f l b (s b + 1) (manyN f l - b) ≤ n) (hlong : ∀ b', b < b' → b' < manyN f l → n < posN f l b' (s b' + 1) (manyN f l - b')) (hst : cd s (manyN f l) < cd t (manyN f l)) : cd (goon f l b (s b + 1) s) (manyN f l) ≤ cd t (manyN f l) := by
  have hs16 : ∀ i, i < manyN f l → s i < 16 := fun i hi => by have := vld_16 hok hs hi; omega
  have ht16 : ∀ i, i < manyN f l → t i < 16 := fun i hi => by have := vld_16 hok ht hi; omega
  obtain ⟨b0, h1, h2, h3⟩ := cd_lt_ex hs16 ht16 hst
  have h4 : b0 ≤ b := by
    rcases Nat.lt_or_ge b b0 with h | h
    · have := hlong b0 h h1
      have h5 := pos_le (p := s b0 + 1) ht (by omega) h1
      omega
    · exact h
  rcases Nat.lt_or_eq_of_le h4 with h5 | h5
  · refine Nat.le_of_lt (cd_lt h1 (fun i hi => ?_) (fun i hi => ?_) ?_)
    · have hg := goon_vld (s := s) (fun i _ h7 => (hs i (by omega)).1 (by omega)) hb (fun i h7 => by
        have h8 := (hs i (by omega)).1 (by omega)
        rw [h7] at h8
        omega) hfit
      have := vld_16 hok hg hi
      omega
    · unfold goon
      rw [if_pos (by omega)]
      exact h2 i hi
    · unfold goon
      rw [if_pos h5]
      exact h3
  · subst h5
    refine cd_le (fun i hi => ?_)
    unfold goon
    by_cases h6 : i < b0
    · rw [if_pos h6, h2 i h6]
      exact Nat.le_refl _
    · rw [if_neg h6]
      have := stN_le (b := b0) (p := s b0 + 1) ht (by omega) (j := i - b0) (by omega)
      rw [show b0 + (i - b0) = i by omega] at this
      exact this
theorem none_left {f : Nat → Int32} {l n : Nat} {s t : Nat → Nat} (hok : okl 3 f l) (hn : n ≤ 8) (hs : vld f l n s) (ht : vld f l n t) (hlong : ∀ b', b' < manyN f l → n < posN f l b' (s b' + 1) (manyN f l - b')) : cd t (manyN f l) ≤ cd s (manyN f l) := by
  rcases Nat.lt_or_ge (cd s (manyN f l)) (cd t (manyN f l)) with h | h
  · obtain ⟨b0, h1, h2, h3⟩ := cd_lt_ex (fun i hi => by have := vld_16 hok hs hi; omega) (fun i hi => by have := vld_16 hok ht hi; omega) h
    have := hlong b0 h1
    have h5 := pos_le (p := s b0 + 1) ht (by omega) h1
    omega
  · exact h
theorem goon_next {f : Nat → Int32} {l n b : Nat} {s : Nat → Nat} (hs : vld f l n s) (hb : b < manyN f l) (hfit : posN f l b (s b + 1) (manyN f l - b) ≤ n) : vld f l n (goon f l b (s b + 1) s) :=
  goon_vld (s := s) (fun i _ h7 => (hs i (by omega)).1 (by omega)) hb (fun i h7 => by
    have h8 := (hs i (by omega)).1 (by omega)
    rw [h7] at h8
    omega) hfit
theorem goon_gt {f : Nat → Int32} {l n b : Nat} {s : Nat → Nat} (hok : okl 3 f l) (hn : n ≤ 8) (hs : vld f l n s) (hb : b < manyN f l) : cd s (manyN f l) < cd (goon f l b (s b + 1) s) (manyN f l) := by
  refine cd_lt hb (fun i hi => by have := vld_16 hok hs hi; omega) (fun i hi => ?_) ?_
  · unfold goon
    rw [if_pos hi]
  · unfold goon
    rw [if_neg (by omega), show b - b = 0 by omega, stN_0]
    omega
theorem first_vld {f : Nat → Int32} {l n : Nat} {s : Nat → Nat} (h : posN f l 0 0 (manyN f l) ≤ n) : vld f l n (goon f l 0 0 s) := by
  rcases Nat.eq_zero_or_pos (manyN f l) with h0 | h0
  · intro b hb
    omega
  · exact goon_vld (fun i hi => by omega) h0 (fun i hi => by omega) (by rw [Nat.sub_zero]; exact h)
theorem first_least {f : Nat → Int32} {l n : Nat} {s t : Nat → Nat} (ht : vld f l n t) : cd (goon f l 0 0 s) (manyN f l) ≤ cd t (manyN f l) := by
  refine cd_le (fun i hi => ?_)
  unfold goon
  rw [if_neg (by omega)]
  have := stN_le (b := 0) (p := 0) ht (Nat.zero_le _) (j := i) (by omega)
  rw [Nat.zero_add] at this
  exact this
theorem first_fits {f : Nat → Int32} {l n : Nat} {t : Nat → Nat} (ht : vld f l n t) : posN f l 0 0 (manyN f l) ≤ n := by
  rcases Nat.eq_zero_or_pos (manyN f l) with h0 | h0
  · rw [h0]
    exact Nat.zero_le _
  · have := pos_le (b := 0) (p := 0) ht (Nat.zero_le _) h0
    rw [Nat.sub_zero] at this
    exact this
/-- ascending rows of m numbers from lo on, below 8 -/
def inc : Nat → Nat → List (List Nat)
  | 0, _ => [[]]
  | m + 1, lo => (List.range 8).flatMap (fun a => if lo ≤ a then (inc m (a + 1)).map (fun r => a :: r) else [])
theorem inc_len : ∀ m, m < 9 → (inc m 0).length ≤ 70 := by decide +kernel
def lst (s : Nat → Nat) : Nat → Nat → List Nat
  | 0, _ => []
  | m + 1, b => s b :: lst s m (b + 1)
theorem lst_inc {s : Nat → Nat} : ∀ {m b lo : Nat}, (∀ i, i + 1 < m → s (b + i) < s (b + (i + 1))) → (∀ i, i < m → s (b + i) < 8) → (0 < m → lo ≤ s b) → lst s m b ∈ inc m lo
  | 0, b, lo, _, _, _ => by simp [lst, inc]
  | m + 1, b, lo, h1, h2, h3 => by
    have ih := lst_inc (s := s) (m := m) (b := b + 1) (lo := s b + 1) (fun i hi => by
      have := h1 (i + 1) (by omega)
      rw [show b + 1 + i = b + (i + 1) by omega, show b + 1 + (i + 1) = b + (i + 1 + 1) by omega]
      exact this) (fun i hi => by
      have := h2 (i + 1) (by omega)
      rw [show b + 1 + i = b + (i + 1) by omega]
      exact this) (fun hm => by
      have := h1 0 (by omega)
      rw [Nat.add_zero] at this
      exact this)
    have h4 := h2 0 (by omega)
    rw [Nat.add_zero] at h4
    simp only [lst, inc, List.mem_flatMap, List.mem_range]
    refine ⟨s b, h4, ?_⟩
    rw [if_pos (h3 (by omega))]
    exact List.mem_map.mpr ⟨_, ih, rfl⟩
theorem lst_eq {s t : Nat → Nat} : ∀ {m b : Nat}, lst s m b = lst t m b → ∀ i, i < m → s (b + i) = t (b + i)
  | 0, _, _ => fun i hi => by omega
  | m + 1, b, h => by
    simp only [lst, List.cons.injEq] at h
    intro i hi
    rcases Nat.eq_zero_or_pos i with h0 | h0
    · subst h0
      exact h.1
    · have := lst_eq h.2 (i - 1) (by omega)
      rw [show b + 1 + (i - 1) = b + i by omega] at this
      exact this
/-- different valid starts: seventy at most -/
theorem ways_70 {f : Nat → Int32} {l n N : Nat} {e : Nat → Nat → Nat} (hok : okl 3 f l) (hn : n ≤ 8) (hm : manyN f l ≤ 8) (hv : ∀ k, k < N → vld f l n (e k)) (hne : ∀ i j, i < j → j < N → cd (e i) (manyN f l) < cd (e j) (manyN f l)) : N ≤ 70 := by
  have hmem : ∀ k, k < N → lst (e k) (manyN f l) 0 ∈ inc (manyN f l) 0 := fun k hk => lst_inc (fun i hi => by
    rw [Nat.zero_add, Nat.zero_add]
    exact vld_up hok (hv k hk) hi) (fun i hi => by
    rw [Nat.zero_add]
    have := vld_16 hok (hv k hk) hi
    omega) (fun _ => Nat.zero_le _)
  refine Nat.le_trans ?_ (inc_len (manyN f l) (by omega))
  refine fb_holes _ _ (fun k => (inc (manyN f l) 0).idxOf (lst (e k) (manyN f l) 0)) (fun k hk => List.idxOf_lt_length_of_mem (hmem k hk)) ?_
  intro i j hij hj h
  have h1 : lst (e i) (manyN f l) 0 = lst (e j) (manyN f l) 0 := by
    have g1 := List.getElem_idxOf (List.idxOf_lt_length_of_mem (hmem i (by omega)))
    have g2 := List.getElem_idxOf (List.idxOf_lt_length_of_mem (hmem j hj))
    rw [← g1, ← g2]
    simp only [h]
  have h2 := hne i j hij hj
  have h3 : cd (e i) (manyN f l) = cd (e j) (manyN f l) := cd_cong (fun q hq => by
    have := lst_eq h1 q hq
    rw [Nat.zero_add] at this
    exact this)
  omega
