/-! the property's words, as mathematics: runs of a filling (own work) -/
/-- a run begins at cell i -/
def lp_rb (g : Nat → Nat) (i : Nat) : Bool := decide (0 < g i) && (decide (i = 0) || !decide (g (i - 1) = g i))
/-- runs that begin ahead of cell i -/
def lp_rc (g : Nat → Nat) : Nat → Nat
  | 0 => 0
  | i + 1 => lp_rc g i + (if lp_rb g i = true then 1 else 0)
/-- run number r begins at x; if there is none, x = n -/
def lp_RS (g : Nat → Nat) (n r x : Nat) : Prop := (x < n ∧ lp_rb g x = true ∧ lp_rc g x = r) ∨ (x = n ∧ lp_rc g n ≤ r)
/-- color c goes from x up to y -/
def lp_RE (g : Nat → Nat) (n c x y : Nat) : Prop := (x ≤ y ∧ y ≤ n) ∧ (∀ i, x ≤ i → i < y → g i = c) ∧ (y = n ∨ ¬ g y = c)
theorem lp_rb_i {g : Nat → Nat} {i : Nat} : lp_rb g i = true ↔ 0 < g i ∧ (i = 0 ∨ ¬ g (i - 1) = g i) := by
  unfold lp_rb
  rw [Bool.and_eq_true, Bool.or_eq_true, decide_eq_true_eq, decide_eq_true_eq, Bool.not_eq_true', decide_eq_false_iff_not]
theorem lp_rc_mono {g : Nat → Nat} {i : Nat} : ∀ {d : Nat}, lp_rc g i ≤ lp_rc g (i + d)
  | 0 => Nat.le_refl _
  | d + 1 => Nat.le_trans (lp_rc_mono (d := d)) (Nat.le_add_right _ _)
theorem lp_rc_le {g : Nat → Nat} {i j : Nat} (h : i ≤ j) : lp_rc g i ≤ lp_rc g j := by
  have := lp_rc_mono (g := g) (i := i) (d := j - i)
  rwa [show i + (j - i) = j by omega] at this
theorem lp_rc_s {g : Nat → Nat} {i : Nat} (h : lp_rb g i = true) : lp_rc g (i + 1) = lp_rc g i + 1 := by
  show lp_rc g i + (if lp_rb g i = true then 1 else 0) = _
  rw [if_pos h]
theorem lp_no {g : Nat → Nat} {i : Nat} : ∀ {d : Nat}, (∀ j, i ≤ j → j < i + d → ¬ lp_rb g j = true) → lp_rc g (i + d) = lp_rc g i
  | 0, _ => rfl
  | d + 1, h => by
    show lp_rc g (i + d) + (if lp_rb g (i + d) = true then 1 else 0) = _
    rw [if_neg (h (i + d) (by omega) (by omega)), lp_no (d := d) (fun j h1 h2 => h j h1 (by omega)), Nat.add_zero]
theorem lp_no2 {g : Nat → Nat} {i j : Nat} (hij : i ≤ j) (h : ∀ t, i ≤ t → t < j → ¬ lp_rb g t = true) : lp_rc g j = lp_rc g i := by
  have := lp_no (g := g) (i := i) (d := j - i) (fun t h1 h2 => h t h1 (by omega))
  rwa [show i + (j - i) = j by omega] at this
theorem lp_RS_one {g : Nat → Nat} {n r x y : Nat} (h1 : lp_RS g n r x) (h2 : lp_RS g n r y) : x = y := by
  have key : ∀ {x y : Nat}, lp_RS g n r x → lp_RS g n r y → ¬ x < y := by
    intro x y h1 h2 hxy
    rcases h1 with ⟨a1, a2, a3⟩ | ⟨a1, a2⟩
    · have hs := lp_rc_s a2
      have hm := lp_rc_le (g := g) (show x + 1 ≤ y from hxy)
      rcases h2 with ⟨b1, b2, b3⟩ | ⟨b1, b2⟩
      · omega
      · subst b1
        omega
    · rcases h2 with ⟨b1, -⟩ | ⟨b1, -⟩ <;> omega
  have k1 := key h1 h2
  have k2 := key h2 h1
  omega
theorem lp_RE_one {g : Nat → Nat} {n c x y z : Nat} (h1 : lp_RE g n c x y) (h2 : lp_RE g n c x z) : y = z := by
  have key : ∀ {y z : Nat}, lp_RE g n c x y → lp_RE g n c x z → ¬ y < z := by
    intro y z h1 h2 hyz
    rcases h1.2.2 with h3 | h3
    · have := h2.1.2
      omega
    · exact h3 (h2.2.1 y h1.1.1 hyz)
  have k1 := key h1 h2
  have k2 := key h2 h1
  omega
section LP_
variable {f : Nat → Int32} {l n c : Nat} {s : Nat → Nat} {g : Nat → Nat}
/-- blocks ascend -/
theorem lp_lt (hok : okl 3 f l) (hv : vld f l n s) {b b' : Nat} (h : b < b') (hb : b' < manyN f l) : s b < s b' := by
  have h1 := vld_ap hok hv h hb
  have h2 := (len_eq hok (show b < manyN f l by omega)).2.2
  omega
theorem lp_in (hg : ∀ i, i < n → g i = pcN f l s (manyN f l) i) {i : Nat} (hi : i < n) (h0 : 0 < g i) : ∃ b, b < manyN f l ∧ s b ≤ i ∧ i < s b + lenN f l b := by
  refine Classical.byContradiction fun hx => ?_
  have := pcN_out (f := f) (l := l) (s := s) (i := i) (k := manyN f l) (fun b hb z => hx ⟨b, hb, z⟩)
  rw [hg i hi, this] at h0
  exact absurd h0 (Nat.lt_irrefl 0)
theorem lp_col (hok : okl 3 f l) (hv : vld f l n s) (hg : ∀ i, i < n → g i = pcN f l s (manyN f l) i) {i b : Nat} (hi : i < n) (hb : b < manyN f l) (h1 : s b ≤ i) (h2 : i < s b + lenN f l b) : g i = colN f l b ∧ 1 ≤ colN f l b := by
  rw [hg i hi]
  exact ⟨pcN_in hok hv h1 h2 hb (Nat.le_refl _), (col_eq (by omega) hok hb).2.2⟩
/-- where runs begin -/
theorem lp_st (hok : okl 3 f l) (hv : vld f l n s) (hg : ∀ i, i < n → g i = pcN f l s (manyN f l) i) {i : Nat} (hi : i < n) : lp_rb g i = true ↔ ∃ b, b < manyN f l ∧ i = s b := by
  rw [lp_rb_i]
  constructor
  · rintro ⟨h0, h1⟩
    obtain ⟨b, hb, h2, h3⟩ := lp_in hg hi h0
    refine ⟨b, hb, ?_⟩
    refine Classical.byContradiction fun hx => ?_
    have e1 := (lp_col hok hv hg hi hb h2 h3).1
    have e2 := (lp_col hok hv hg (show i - 1 < n by omega) hb (by omega) (by omega)).1
    rcases h1 with h1 | h1
    · omega
    · exact h1 (e2.trans e1.symm)
  · rintro ⟨b, hb, rfl⟩
    have hlen := (len_eq hok hb).2.2
    obtain ⟨e1, e2⟩ := lp_col hok hv hg hi hb (Nat.le_refl _) (by omega)
    refine ⟨by omega, ?_⟩
    rcases Nat.eq_zero_or_pos (s b) with h0 | h0
    · exact Or.inl h0
    · refine Or.inr fun he => ?_
      obtain ⟨b', hb', h2, h3⟩ := lp_in hg (show s b - 1 < n by omega) (by omega)
      have e3 := (lp_col hok hv hg (show s b - 1 < n by omega) hb' h2 h3).1
      rcases Nat.lt_trichotomy b' b with h4 | h4 | h4
      · have h5 := vld_ap hok hv h4 hb
        by_cases h6 : b' + 1 = b
        · subst h6
          have h7 := (hv b' hb').1 hb
          have hz : gapN f l (b' + 1) = 0 := by omega
          unfold gapN at hz
          have hcc : f (160 + (8 * l + (b' + 1))) = f (160 + (8 * l + (b' + 1)) - 1) := by
            rw [show 160 + (8 * l + (b' + 1)) - 1 = 160 + (8 * l + b') by omega, (col_eq (by omega) hok hb).1, (col_eq (by omega) hok hb').1]
            congr 1
            omega
          rw [if_pos ⟨Nat.succ_pos _, hcc⟩] at hz
          omega
        · have h7 := vld_ap hok hv (show b' < b' + 1 by omega) (show b' + 1 < manyN f l by omega)
          have h8 := lp_lt hok hv (show b' + 1 < b by omega) hb
          omega
      · subst h4
        omega
      · have := lp_lt hok hv h4 hb'
        omega
theorem lp_cnt (hok : okl 3 f l) (hv : vld f l n s) (hg : ∀ i, i < n → g i = pcN f l s (manyN f l) i) : ∀ {b : Nat}, b < manyN f l → lp_rc g (s b) = b
  | 0, hb => by
    have hn := vld_16 hok hv hb
    refine (lp_no2 (Nat.zero_le _) fun t _ h2 h3 => ?_).trans rfl
    obtain ⟨b', hb', h4⟩ := (lp_st hok hv hg (show t < n by omega)).mp h3
    rcases Nat.eq_zero_or_pos b' with h5 | h5
    · subst h5
      omega
    · have := lp_lt hok hv h5 hb'
      omega
  | b + 1, hb => by
    have hn := vld_16 hok hv hb
    have hn' := vld_16 hok hv (show b < manyN f l by omega)
    have ih := lp_cnt hok hv hg (b := b) (by omega)
    have hs := lp_rc_s ((lp_st hok hv hg hn').mpr ⟨b, by omega, rfl⟩)
    have hlt := lp_lt hok hv (show b < b + 1 by omega) hb
    rw [lp_no2 (show s b + 1 ≤ s (b + 1) from hlt) fun t h1 h2 h3 => ?_, hs, ih]
    obtain ⟨b', hb', h4⟩ := (lp_st hok hv hg (show t < n by omega)).mp h3
    rcases Nat.lt_trichotomy b' b with h5 | h5 | h5
    · have := lp_lt hok hv h5 (show b < manyN f l by omega)
      omega
    · subst h5
      omega
    · rcases Nat.eq_or_lt_of_le (show b + 1 ≤ b' from h5) with h6 | h6
      · subst h6
        omega
      · have := lp_lt hok hv h6 hb'
        omega
theorem lp_end (hok : okl 3 f l) (hv : vld f l n s) (hg : ∀ i, i < n → g i = pcN f l s (manyN f l) i) : lp_rc g n = manyN f l := by
  rcases Nat.eq_zero_or_pos (manyN f l) with h0 | h0
  · rw [h0]
    refine (lp_no2 (Nat.zero_le _) fun t _ h2 h3 => ?_).trans rfl
    obtain ⟨b', hb', -⟩ := (lp_st hok hv hg h2).mp h3
    omega
  · have hb : manyN f l - 1 < manyN f l := by omega
    have hn := vld_16 hok hv hb
    have hs := lp_rc_s ((lp_st hok hv hg hn).mpr ⟨_, hb, rfl⟩)
    rw [lp_cnt hok hv hg hb] at hs
    rw [lp_no2 (show s (manyN f l - 1) + 1 ≤ n from hn) fun t h1 h2 h3 => ?_, hs]
    · omega
    · obtain ⟨b', hb', h4⟩ := (lp_st hok hv hg h2).mp h3
      rcases Nat.eq_or_lt_of_le (show b' ≤ manyN f l - 1 by omega) with h5 | h5
      · subst h5
        omega
      · have := lp_lt hok hv h5 hb
        omega
theorem lp_RS_s (hok : okl 3 f l) (hv : vld f l n s) (hg : ∀ i, i < n → g i = pcN f l s (manyN f l) i) {b : Nat} (hb : b < manyN f l) : lp_RS g n b (s b) := Or.inl ⟨vld_16 hok hv hb, (lp_st hok hv hg (vld_16 hok hv hb)).mpr ⟨b, hb, rfl⟩, lp_cnt hok hv hg hb⟩
theorem lp_RE_s (hok : okl 3 f l) (hv : vld f l n s) (hg : ∀ i, i < n → g i = pcN f l s (manyN f l) i) {b : Nat} (hb : b < manyN f l) : lp_RE g n (colN f l b) (s b) (s b + lenN f l b) := by
  have he := vld_end hok hv hb
  have hlen := (len_eq hok hb).2.2
  refine ⟨⟨by omega, he⟩, fun i h1 h2 => (lp_col hok hv hg (by omega) hb h1 h2).1, ?_⟩
  rcases Nat.eq_or_lt_of_le he with h3 | h3
  · exact Or.inl h3
  · refine Or.inr fun h4 => ?_
    have hc := (col_eq (by omega) hok hb).2.2
    obtain ⟨b', hb', h5, h6⟩ := lp_in hg h3 (by omega)
    have hbb : b < b' := by
      rcases Nat.lt_trichotomy b b' with h7 | h7 | h7
      · exact h7
      · subst h7
        omega
      · have := vld_ap hok hv h7 hb
        omega
    have h8 := vld_ap hok hv hbb hb'
    have h9 : s b' = s b + lenN f l b := by omega
    have h10 := (lp_rb_i.mp ((lp_st hok hv hg h3).mpr ⟨b', hb', h9.symm⟩)).2
    have h11 := (lp_col hok hv hg (show s b + lenN f l b - 1 < n by omega) hb (by omega) (by omega)).1
    rcases h10 with h10 | h10
    · omega
    · exact h10 (by rw [h11, h4])
/-- the runs of a filling, as the property reads them -/
def lp_F (f : Nat → Int32) (l n : Nat) (g : Nat → Nat) : Prop := (∀ k, k < manyN f l → ∃ x y, lp_RS g n k x ∧ lp_RE g n (colN f l k) x y ∧ ¬ x = n ∧ y - x = lenN f l k) ∧ lp_RS g n (manyN f l) n
theorem lp_F_of (hok : okl 3 f l) (hv : vld f l n s) (hg : ∀ i, i < n → g i = pcN f l s (manyN f l) i) : lp_F f l n g := by
  refine ⟨fun k hk => ⟨s k, s k + lenN f l k, lp_RS_s hok hv hg hk, lp_RE_s hok hv hg hk, ?_, by omega⟩, Or.inr ⟨rfl, Nat.le_of_eq (lp_end hok hv hg)⟩⟩
  have := vld_16 hok hv hk
  omega
/-- the beginning of the run of a cell -/
theorem lp_first {i : Nat} : 0 < g i → ∃ j, j ≤ i ∧ lp_rb g j = true ∧ ∀ t, j ≤ t → t ≤ i → g t = g i := by
  induction i with
  | zero => exact fun h => ⟨0, Nat.le_refl _, lp_rb_i.mpr ⟨h, Or.inl rfl⟩, fun t _ h2 => by rw [Nat.le_zero.mp h2]⟩
  | succ i ih =>
    intro h
    by_cases h1 : g i = g (i + 1)
    · obtain ⟨j, h2, h3, h4⟩ := ih (by omega)
      refine ⟨j, by omega, h3, fun t h5 h6 => ?_⟩
      rcases Nat.eq_or_lt_of_le h6 with h7 | h7
      · rw [h7]
      · rw [h4 t h5 (by omega), h1]
    · refine ⟨i + 1, Nat.le_refl _, lp_rb_i.mpr ⟨h, Or.inr h1⟩, fun t h2 h3 => by rw [show t = i + 1 by omega]⟩
theorem lp_F_to (hok : okl 3 f l) (hF : lp_F f l n g) : ∃ s, vld f l n s ∧ ∀ i, i < n → g i = pcN f l s (manyN f l) i := by
  have hx : ∀ k, ∃ x, k < manyN f l → lp_RS g n k x ∧ lp_RE g n (colN f l k) x (x + lenN f l k) ∧ x < n := fun k => by
    by_cases hk : k < manyN f l
    · obtain ⟨x, y, h1, h2, h3, h4⟩ := hF.1 k hk
      refine ⟨x, fun _ => ⟨h1, ?_, ?_⟩⟩
      · have := h2.1.1
        rw [show x + lenN f l k = y by omega]
        exact h2
      · have h5 := h2.1.1
        have h6 := h2.1.2
        omega
    · exact ⟨0, fun h => absurd h hk⟩
  obtain ⟨s, hs⟩ := Classical.axiomOfChoice hx
  have hst : ∀ k, k < manyN f l → lp_rb g (s k) = true ∧ lp_rc g (s k) = k := fun k hk => by
    obtain ⟨h1, h2, h3⟩ := hs k hk
    rcases h1 with ⟨-, h4, h5⟩ | ⟨h4, -⟩
    · exact ⟨h4, h5⟩
    · have h3 : s k < n := h3
      omega
  have hcol : ∀ k i, k < manyN f l → s k ≤ i → i < s k + lenN f l k → g i = colN f l k := fun k i hk h1 h2 => (hs k hk).2.1.2.1 i h1 h2
  have hle : ∀ k, k < manyN f l → s k + lenN f l k ≤ n := fun k hk => (hs k hk).2.1.1.2
  have hlen : ∀ k, k < manyN f l → 1 ≤ lenN f l k := fun k hk => (len_eq hok hk).2.2
  have hv : vld f l n s := by
    intro b hb
    refine ⟨fun hb1 => ?_, fun _ => hle b hb⟩
    have h1 := (hst b hb).2
    have h2 := (hst (b + 1) hb1).2
    have hl0 := hlen b hb
    have hl1 := hlen (b + 1) hb1
    have h3 : s b < s (b + 1) := by
      refine Classical.byContradiction fun z => ?_
      have := lp_rc_le (g := g) (show s (b + 1) ≤ s b by omega)
      omega
    have h4 := (lp_rb_i.mp (hst (b + 1) hb1).1).2
    have h5 : s b + lenN f l b ≤ s (b + 1) := by
      refine Classical.byContradiction fun z => ?_
      have e1 := hcol b (s (b + 1)) hb (by omega) (by omega)
      have e2 := hcol b (s (b + 1) - 1) hb (by omega) (by omega)
      rcases h4 with h4 | h4
      · omega
      · exact h4 (e2.trans e1.symm)
    by_cases hg : gapN f l (b + 1) = 0
    · omega
    · have hg1 : gapN f l (b + 1) = 1 ∧ f (160 + (8 * l + (b + 1))) = f (160 + (8 * l + (b + 1)) - 1) := by
        unfold gapN at hg ⊢
        split
        · rename_i h6
          exact ⟨rfl, h6.2⟩
        · rename_i h6
          rw [if_neg h6] at hg
          exact absurd rfl hg
      have hcc : colN f l (b + 1) = colN f l b := by
        have h6 := hg1.2
        rw [show 160 + (8 * l + (b + 1)) - 1 = 160 + (8 * l + b) by omega] at h6
        unfold colN
        rw [h6]
      refine Classical.byContradiction fun z => ?_
      have h6 : s (b + 1) = s b + lenN f l b := by omega
      have e1 := hcol (b + 1) (s (b + 1)) hb1 (Nat.le_refl _) (by omega)
      have e2 := hcol b (s (b + 1) - 1) hb (by omega) (by omega)
      rcases h4 with h4 | h4
      · omega
      · exact h4 (by rw [e2, e1, hcc])
  refine ⟨s, hv, fun i hi => ?_⟩
  by_cases hb : ∃ b, b < manyN f l ∧ s b ≤ i ∧ i < s b + lenN f l b
  · obtain ⟨b, hb, h1, h2⟩ := hb
    rw [pcN_in hok hv h1 h2 hb (Nat.le_refl _)]
    exact hcol b i hb h1 h2
  · rw [pcN_out (fun b hb' z => hb ⟨b, hb', z⟩)]
    refine Classical.byContradiction fun h0 => ?_
    obtain ⟨j, h1, h2, h3⟩ := lp_first (g := g) (i := i) (by omega)
    have hm : lp_rc g n ≤ manyN f l := by
      rcases hF.2 with ⟨h4, -⟩ | ⟨-, h4⟩
      · omega
      · exact h4
    have h4 := lp_rc_s h2
    have h5 := lp_rc_le (g := g) (show j + 1 ≤ n by omega)
    have hr : lp_rc g j < manyN f l := by omega
    have h6 : s (lp_rc g j) = j := lp_RS_one (hs _ hr).1 (Or.inl ⟨by omega, h2, rfl⟩)
    have h7 := hlen _ hr
    have e1 := hcol _ (s (lp_rc g j)) hr (Nat.le_refl _) (by omega)
    rw [h6] at e1
    refine hb ⟨lp_rc g j, hr, by omega, ?_⟩
    refine Classical.byContradiction fun h8 => ?_
    have h9 := h3 (s (lp_rc g j) + lenN f l (lp_rc g j)) (by omega) (by omega)
    rcases (hs _ hr).2.1.2.2 with h10 | h10
    · have h10 : s (lp_rc g j) + lenN f l (lp_rc g j) = n := h10
      omega
    · exact h10 (by rw [h9, ← h3 j (Nat.le_refl _) h1, e1])
end LP_
/-! numbers as fillings: their digits (own work) -/
def lp_dg (B k i : Nat) : Nat := k / B ^ i % B
theorem lp_dg_lt {B k i : Nat} (hB : 0 < B) : lp_dg B k i < B := Nat.mod_lt _ hB
theorem lp_dg_s {B k i : Nat} : lp_dg B (k / B) i = lp_dg B k (i + 1) := by
  unfold lp_dg
  rw [Nat.div_div_eq_div_mul, Nat.pow_succ, Nat.mul_comm]
theorem lp_dg_one {B : Nat} (hB : 0 < B) : ∀ {n k k' : Nat}, k < B ^ n → k' < B ^ n → (∀ i, i < n → lp_dg B k i = lp_dg B k' i) → k = k'
  | 0, k, k', h1, h2, _ => by
    rw [Nat.pow_zero] at h1 h2
    omega
  | n + 1, k, k', h1, h2, h => by
    have ih := lp_dg_one hB (n := n) (k := k / B) (k' := k' / B) ((Nat.div_lt_iff_lt_mul hB).mpr (by rw [← Nat.pow_succ]; exact h1)) ((Nat.div_lt_iff_lt_mul hB).mpr (by rw [← Nat.pow_succ]; exact h2)) (fun i hi => by
      rw [lp_dg_s, lp_dg_s]
      exact h (i + 1) (by omega))
    have h0 := h 0 (by omega)
    unfold lp_dg at h0
    rw [Nat.pow_zero, Nat.div_one, Nat.div_one] at h0
    rw [← Nat.div_add_mod k B, ← Nat.div_add_mod k' B, ih, h0]
theorem lp_code {B : Nat} (hB : 0 < B) : ∀ {n : Nat} (g : Nat → Nat), (∀ i, i < n → g i < B) → ∃ k, k < B ^ n ∧ ∀ i, i < n → lp_dg B k i = g i
  | 0, g, _ => ⟨0, by rw [Nat.pow_zero]; omega, fun i hi => absurd hi (Nat.not_lt_zero _)⟩
  | n + 1, g, h => by
    obtain ⟨k, h1, h2⟩ := lp_code hB (n := n) (fun i => g (i + 1)) (fun i hi => h (i + 1) (by omega))
    have h0 := h 0 (by omega)
    have hd : (B * k + g 0) / B = k := by rw [Nat.mul_add_div hB, Nat.div_eq_of_lt h0, Nat.add_zero]
    refine ⟨B * k + g 0, ?_, fun i hi => ?_⟩
    · have h3 : B * (k + 1) ≤ B * B ^ n := Nat.mul_le_mul_left _ h1
      rw [Nat.mul_succ] at h3
      rw [Nat.pow_succ, Nat.mul_comm (B ^ n) B]
      omega
    · cases i with
      | zero =>
        unfold lp_dg
        rw [Nat.pow_zero, Nat.div_one, Nat.mul_add_mod, Nat.mod_eq_of_lt h0]
      | succ i =>
        rw [← lp_dg_s, hd]
        exact h2 i (by omega)
theorem sm_two {F : Nat → Nat} {a : Nat} : ∀ {b : Nat}, sm F (a * b) = sm (fun d => sm (fun k => F (a * d + k)) a) b
  | 0 => rfl
  | b + 1 => by
    have e : ∀ m, sm F (a * b + m) = sm F (a * b) + sm (fun k => F (a * b + k)) m := by
      intro m
      induction m with
      | zero => rfl
      | succ m ih =>
        show sm F (a * b + m) + F (a * b + m) = sm F (a * b) + (sm (fun k => F (a * b + k)) m + F (a * b + m))
        rw [ih, Nat.add_assoc]
    rw [Nat.mul_succ, e, sm_two (b := b)]
    rfl
theorem sm_mulr {F : Nat → Nat} {a : Nat} : ∀ {n : Nat}, sm (fun k => a * F k) n = a * sm F n
  | 0 => rfl
  | n + 1 => by
    show sm (fun k => a * F k) n + a * F n = a * (sm F n + F n)
    rw [sm_mulr (n := n), Nat.mul_add]
/-- cells' colors within their marks -/
def lp_M (w h : Nat) (f : Nat → Int32) (B l n k : Nat) : Prop := ∀ i, i < n → mkN f (atN w h l i) / 2 ^ lp_dg B k i % 2 = 1
theorem lp_dg_in {B j i d k : Nat} (hB : 0 < B) (hij : i < j) : lp_dg B (B ^ j * d + k) i = lp_dg B k i := by
  unfold lp_dg
  have e : B ^ j * d = B ^ i * (B * (B ^ (j - i - 1) * d)) := by
    rw [← Nat.mul_assoc, ← Nat.mul_assoc, ← Nat.pow_succ, ← Nat.pow_add]
    congr 2
    omega
  rw [e, Nat.mul_add_div (Nat.pow_pos hB), Nat.mul_add_mod]
theorem lp_dg_top {B j d k : Nat} (hk : k < B ^ j) (hd : d < B) : lp_dg B (B ^ j * d + k) j = d := by
  unfold lp_dg
  rw [Nat.mul_add_div (by omega), Nat.div_eq_of_lt hk, Nat.add_zero, Nat.mod_eq_of_lt hd]
theorem lp_bc : ∀ B, 2 ≤ B → B ≤ 3 → ∀ m, m < 2 ^ B → sm (fun d => m / 2 ^ d % 2) B = bc m := by
  intro B h1 h2
  rcases (show B = 2 ∨ B = 3 by omega) with rfl | rfl
  · decide +kernel
  · decide +kernel
theorem lp_count0 {w h : Nat} {f : Nat → Int32} {B l : Nat} (hB : 2 ≤ B ∧ B ≤ 3) : ∀ {n : Nat}, (∀ i, i < n → mkN f (atN w h l i) < 2 ^ B) → sm (fun k => b01 (lp_M w h f B l n k)) (B ^ n) = prN w h f l n
  | 0, _ => by
    have e : b01 (lp_M w h f B l 0 0) = 1 := b01_1 (fun i hi => absurd hi (Nat.not_lt_zero i))
    show 0 + b01 (lp_M w h f B l 0 0) = 1
    rw [e]
  | n + 1, hm => by
    have ih := lp_count0 hB (n := n) (fun i hi => hm i (by omega))
    have hB0 : 0 < B := by omega
    rw [Nat.pow_succ, sm_two]
    have e : sm (fun d => sm (fun k => b01 (lp_M w h f B l (n + 1) (B ^ n * d + k))) (B ^ n)) B = sm (fun d => prN w h f l n * (mkN f (atN w h l n) / 2 ^ d % 2)) B := by
      refine sm_cong fun d hd => ?_
      have hmod := Nat.mod_lt (mkN f (atN w h l n) / 2 ^ d) (show 0 < 2 by omega)
      have hpt : ∀ k, k < B ^ n → (lp_M w h f B l (n + 1) (B ^ n * d + k) ↔ lp_M w h f B l n k ∧ mkN f (atN w h l n) / 2 ^ d % 2 = 1) := fun k hk => by
        constructor
        · intro hM
          refine ⟨fun i hi => ?_, ?_⟩
          · have := hM i (by omega)
            rwa [lp_dg_in hB0 hi] at this
          · have := hM n (by omega)
            rwa [lp_dg_top hk hd] at this
        · rintro ⟨h1, h2⟩ i hi
          rcases Nat.eq_or_lt_of_le (show i ≤ n by omega) with h3 | h3
          · subst h3
            rw [lp_dg_top hk hd]
            exact h2
          · rw [lp_dg_in hB0 h3]
            exact h1 i h3
      by_cases hb : mkN f (atN w h l n) / 2 ^ d % 2 = 1
      · rw [hb, Nat.mul_one, ← ih]
        exact sm_cong fun k hk => b01_cong ((hpt k hk).trans ⟨fun z => z.1, fun z => ⟨z, hb⟩⟩)
      · rw [show mkN f (atN w h l n) / 2 ^ d % 2 = 0 by omega, Nat.mul_zero]
        refine sm_0.mpr fun k hk => b01_0 fun z => hb ((hpt k hk).mp z).2
    rw [e, sm_mulr, lp_bc B hB.1 hB.2 _ (hm n (by omega))]
    rfl
/-- the property's possible fillings -/
def lp_P (w h : Nat) (f : Nat → Int32) (B l k : Nat) : Prop := lp_M w h f B l (cellsN w h l) k ∧ (f l = nI 1 → lp_F f l (cellsN w h l) (lp_dg B k))
def lp_C (w h : Nat) (f : Nat → Int32) (B l k : Nat) (s : Nat → Nat) : Prop := ∀ i, i < cellsN w h l → lp_dg B k i = pcN f l s (manyN f l) i
section LN_
variable {w h B l c : Nat} {f : Nat → Int32}
theorem lp_P_i (hok : okl 3 f l) (h1 : f l = nI 1) {k : Nat} : lp_P w h f B l k ↔ ∃ s, PF w h f (mkN f) l s ∧ lp_C w h f B l k s := by
  constructor
  · rintro ⟨hm, hF⟩
    obtain ⟨s, hv, hg⟩ := lp_F_to hok (hF h1)
    exact ⟨s, ⟨hv, fun i hi => by rw [← hg i hi]; exact hm i hi⟩, hg⟩
  · rintro ⟨s, ⟨hv, hm⟩, hg⟩
    exact ⟨fun i hi => by rw [hg i hi]; exact hm i hi, fun _ => lp_F_of hok hv hg⟩
/-- every way has its number -/
theorem lp_has (hok : okl c f l) (hc : c ≤ 3) (hB : B = c + 1) (hn : cellsN w h l ≤ 8) {s : Nat → Nat} (hv : vld f l (cellsN w h l) s) : ∃ k, k < B ^ cellsN w h l ∧ lp_C w h f B l k s := by
  have hok3 : okl 3 f l := okl_3c hc hok
  refine lp_code (by omega) (fun i => pcN f l s (manyN f l) i) fun i hi => ?_
  show pcN f l s (manyN f l) i < B
  by_cases hb : ∃ b, b < manyN f l ∧ s b ≤ i ∧ i < s b + lenN f l b
  · obtain ⟨b, hb, h1, h2⟩ := hb
    rw [pcN_in hok3 hv h1 h2 hb (Nat.le_refl _)]
    have := (col_eq hc hok hb).2.1
    omega
  · rw [pcN_out (fun b hb' z => hb ⟨b, hb', z⟩)]
    omega
/-- how many: with a clue -/
theorem lp_count1 (hok : okl c f l) (hc : c ≤ 3) (hB : B = c + 1) (hn : cellsN w h l ≤ 8) (h1 : f l = nI 1) : CNu w h f (mkN f) l (sm (fun k => b01 (lp_P w h f B l k)) (B ^ cellsN w h l)) := by
  have hok3 : okl 3 f l := okl_3c hc hok
  have hB0 : 0 < B := by omega
  have key : ∀ K, K ≤ B ^ cellsN w h l → ∃ e, ENS (fun s => PF w h f (mkN f) l s ∧ ∃ k, k < K ∧ lp_C w h f B l k s) (fun b => b < manyN f l) (sm (fun k => b01 (lp_P w h f B l k)) K) e := by
    intro K
    induction K with
    | zero => exact fun _ => ⟨fun _ _ => 0, ENS_none fun s hs => by obtain ⟨-, k, hk, -⟩ := hs; exact absurd hk (Nat.not_lt_zero k)⟩
    | succ K ih =>
      intro hK
      obtain ⟨e, he⟩ := ih (by omega)
      show ∃ e, ENS _ _ (sm (fun k => b01 (lp_P w h f B l k)) K + b01 (lp_P w h f B l K)) e
      by_cases hP : lp_P w h f B l K
      · obtain ⟨s0, hs0, hc0⟩ := (lp_P_i hok3 h1).mp hP
        rw [b01_1 hP]
        have h2 : ENS (fun s => PF w h f (mkN f) l s ∧ lp_C w h f B l K s) (fun b => b < manyN f l) 1 (fun _ => s0) := by
          refine ⟨fun _ _ => ⟨hs0, hc0⟩, fun i j h3 h4 => by omega, fun s hs => ⟨0, by omega, fun b hb => ?_⟩⟩
          exact lp_RS_one (lp_RS_s hok3 hs0.1 hc0 hb) (lp_RS_s hok3 hs.1.1 hs.2 hb)
        refine ⟨_, ENS_or he h2 (fun s => ?_) (fun s t hs ht => ?_)⟩
        · constructor
          · rintro ⟨h3, k, hk, h4⟩
            rcases Nat.eq_or_lt_of_le (show k ≤ K by omega) with h5 | h5
            · subst h5
              exact Or.inr ⟨h3, h4⟩
            · exact Or.inl ⟨h3, k, h5, h4⟩
          · rintro (⟨h3, k, hk, h4⟩ | ⟨h3, h4⟩)
            · exact ⟨h3, k, by omega, h4⟩
            · exact ⟨h3, K, by omega, h4⟩
        · obtain ⟨-, k, hk, h4⟩ := hs
          refine Classical.byContradiction fun hx => ?_
          have heq : ∀ b, b < manyN f l → s b = t b := fun b hb => Classical.byContradiction fun z => hx ⟨b, hb, z⟩
          have : k = K := lp_dg_one hB0 (n := cellsN w h l) (by omega) (by omega) fun i hi => by
            rw [h4 i hi, ht.2 i hi]
            exact pcN_cong heq
          omega
      · rw [b01_0 hP, Nat.add_zero]
        refine ⟨e, ENS_cong (fun s => ?_) (fun _ => Iff.rfl) he⟩
        constructor
        · rintro ⟨h3, k, hk, h4⟩
          exact ⟨h3, k, by omega, h4⟩
        · rintro ⟨h3, k, hk, h4⟩
          rcases Nat.eq_or_lt_of_le (show k ≤ K by omega) with h5 | h5
          · subst h5
            exact absurd ((lp_P_i hok3 h1).mpr ⟨s, h3, h4⟩) hP
          · exact ⟨h3, k, h5, h4⟩
  obtain ⟨e, he⟩ := key _ (Nat.le_refl _)
  refine ⟨e, ENS_cong (fun s => ⟨fun z => z.1, fun z => ⟨z, lp_has hok hc hB hn z.1⟩⟩) (fun _ => Iff.rfl) he⟩
theorem lp_cntF (hok : okl c f l) (hc : c ≤ 3) (hB : B = c + 1) (hn : cellsN w h l ≤ 8) (h1 : f l = nI 1) : cntF w h f l = sm (fun k => b01 (lp_P w h f B l k)) (B ^ cellsN w h l) := by
  have hok3 : okl 3 f l := okl_3c hc hok
  obtain ⟨M, hM⟩ := CNT_ex hok3 hn
  rw [cntF_eq hM]
  exact CNu_one (CNT_u hok3 hn hM) (lp_count1 hok hc hB hn h1)
/-- the least and the greatest start among the first numbers -/
def lp_E (w h : Nat) (f : Nat → Int32) (B l K b x : Nat) : Prop := (∃ k, k < K ∧ lp_P w h f B l k ∧ lp_RS (lp_dg B k) (cellsN w h l) b x) ∧ ∀ k, k < K → lp_P w h f B l k → ∀ y, lp_RS (lp_dg B k) (cellsN w h l) b y → x ≤ y
def lp_L (w h : Nat) (f : Nat → Int32) (B l K b x : Nat) : Prop := (∃ k, k < K ∧ lp_P w h f B l k ∧ lp_RS (lp_dg B k) (cellsN w h l) b x) ∧ ∀ k, k < K → lp_P w h f B l k → ∀ y, lp_RS (lp_dg B k) (cellsN w h l) b y → y ≤ x
theorem lp_E_es (hok : okl c f l) (hc : c ≤ 3) (hB : B = c + 1) (hn : cellsN w h l ≤ 8) (h1 : f l = nI 1) {b x : Nat} (hb : b < manyN f l) (hE : lp_E w h f B l (B ^ cellsN w h l) b x) : esF w h f l b = x := by
  have hok3 : okl 3 f l := okl_3c hc hok
  obtain ⟨⟨k, hk, hP, hR⟩, hall⟩ := hE
  refine esF_eq ⟨?_, fun s hs => ?_⟩
  · obtain ⟨s, h2, h3⟩ := (lp_P_i hok3 h1).mp hP
    exact ⟨s, h2, lp_RS_one (lp_RS_s hok3 h2.1 h3 hb) hR⟩
  · obtain ⟨k', hk', h3⟩ := lp_has hok hc hB hn hs.1
    exact hall k' hk' ((lp_P_i hok3 h1).mpr ⟨s, hs, h3⟩) _ (lp_RS_s hok3 hs.1 h3 hb)
theorem lp_L_ls (hok : okl c f l) (hc : c ≤ 3) (hB : B = c + 1) (hn : cellsN w h l ≤ 8) (h1 : f l = nI 1) {b x : Nat} (hb : b < manyN f l) (hE : lp_L w h f B l (B ^ cellsN w h l) b x) : lsF w h f l b = x := by
  have hok3 : okl 3 f l := okl_3c hc hok
  obtain ⟨⟨k, hk, hP, hR⟩, hall⟩ := hE
  refine lsF_eq ⟨?_, fun s hs => ?_⟩
  · obtain ⟨s, h2, h3⟩ := (lp_P_i hok3 h1).mp hP
    exact ⟨s, h2, lp_RS_one (lp_RS_s hok3 h2.1 h3 hb) hR⟩
  · obtain ⟨k', hk', h3⟩ := lp_has hok hc hB hn hs.1
    exact hall k' hk' ((lp_P_i hok3 h1).mpr ⟨s, hs, h3⟩) _ (lp_RS_s hok3 hs.1 h3 hb)
/-- wrong: none -/
theorem lp_wr (hok : okl c f l) (hc : c ≤ 3) (hB : B = c + 1) (hn : cellsN w h l ≤ 8) (h1 : f l = nI 1) : wrN w h f l = 1 ↔ sm (fun k => b01 (lp_P w h f B l k)) (B ^ cellsN w h l) = 0 := by
  have hok3 : okl 3 f l := okl_3c hc hok
  have hne : ¬ nI 1 = nI 0 := by decide +kernel
  have hW : wrN w h f l = 1 ↔ isW w h f l := by
    unfold wrN
    by_cases hw : isW w h f l
    · rw [if_pos hw]
      exact ⟨fun _ => hw, fun _ => rfl⟩
    · rw [if_neg hw]
      exact ⟨fun z => absurd z (by omega), fun z => absurd z hw⟩
  rw [hW, sm_0]
  constructor
  · rintro ⟨-, hno⟩ k hk
    refine b01_0 fun hP => ?_
    obtain ⟨s, hs, -⟩ := (lp_P_i hok3 h1).mp hP
    exact hno ⟨s, hs⟩
  · intro hall
    refine ⟨by rw [h1]; exact hne, ?_⟩
    rintro ⟨s, hs⟩
    obtain ⟨k, hk, h3⟩ := lp_has hok hc hB hn hs.1
    have h4 := hall k hk
    rw [b01_1 ((lp_P_i hok3 h1).mpr ⟨s, hs, h3⟩)] at h4
    omega
theorem lp_wr0 (h0 : f l = nI 0) : wrN w h f l = 0 := by
  unfold wrN
  rw [if_neg (fun z => z.1 h0)]
end LN_
