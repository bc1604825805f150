/-! the class: the tables of a line are an automaton for its fillings (own work) -/
theorem pop_cut {g : Nat → Bool} {n k : Nat} (hk : k ≤ n) : pop n (fun i => g i && decide (i < k)) = pop k g := by
  induction n with
  | zero =>
    rw [show k = 0 by omega]
    rfl
  | succ n ih =>
    have e : pop (n + 1) (fun i => g i && decide (i < k)) = pop n (fun i => g i && decide (i < k)) + if (g n && decide (n < k)) = true then 1 else 0 := rfl
    rw [e]
    by_cases h : k ≤ n
    · rw [ih h]
      simp [show ¬ n < k by omega]
    · have hk1 : k = n + 1 := by omega
      subst hk1
      have e2 : pop (n + 1) g = pop n g + if g n = true then 1 else 0 := rfl
      rw [e2, pop_c (g := g) (fun i hi => by simp [show i < n + 1 by omega])]
      simp
theorem pop_range {g : Nat → Bool} {a c : Nat} : ∀ {n : Nat}, (∀ t, t < n → g t = true → a ≤ t ∧ t < c) → pop n g ≤ c - a
  | 0, _ => Nat.zero_le _
  | n + 1, h => by
    have e : pop (n + 1) g = pop n g + if g n = true then 1 else 0 := rfl
    rw [e]
    by_cases hn : g n = true
    · have h1 := h n (by omega) hn
      have h2 := pop_range (g := g) (a := a) (c := n) (n := n) (fun t ht hg => ⟨(h t (by omega) hg).1, ht⟩)
      rw [if_pos hn]
      omega
    · have h2 := pop_range (g := g) (a := a) (c := c) (n := n) (fun t ht hg => h t (by omega) hg)
      rw [if_neg hn]
      omega
/-- the automaton of a line's tables: how many ranks, the colors that go on, the next rank -/
def nmT (I : fx_MI) (l p : Nat) : Nat := nv (I 135 (9 * l + p))
def okT (I : fx_MI) (l i k c : Nat) : Bool := bt (I 136 (tbA l i k)) c
def nxT (I : fx_MI) (l i k c : Nat) : Nat := nv (I 137 (4 * tbA l i k + c))
def autT (w h : Nat) (f : Nat → Int32) (u : Nat → Nat) (l : Nat) (I : fx_MI) : Prop :=
  (∀ p, p < 9 → I 135 (9 * l + p) = nI (nmT I l p) ∧ nmT I l p ≤ 5) ∧
  (∀ p, p ≤ cellsN w h l → nmT I l p ≤ p + 1 ∧ nmT I l p ≤ cellsN w h l - p + 1) ∧
  (∀ i, i < cellsN w h l → ∀ k, k < nmT I l i → (∃ m, m < 16 ∧ I 136 (tbA l i k) = nI m) ∧ ∀ c, c < 4 → okT I l i k c = true → I 137 (4 * tbA l i k + c) = nI (nxT I l i k c) ∧ nxT I l i k c < nmT I l (i + 1)) ∧
  ∀ p : Nat → Nat, (∀ i, i < cellsN w h l → p (atN w h l i) < 4) → (((∀ i, i < cellsN w h l → cnB w h u l (p (atN w h l i)) i) ∧ fitL w h f l p) ↔ 0 < nmT I l 0 ∧ ∃ k : Nat → Nat, k 0 = 0 ∧ ∀ i, i < cellsN w h l → okT I l i (k i) (p (atN w h l i)) = true ∧ k (i + 1) = nxT I l i (k i) (p (atN w h l i)))
theorem autT_fr {w h : Nat} {f : Nat → Int32} {u : Nat → Nat} {l : Nat} {I I' : fx_MI} (h5 : ∀ p, p < 9 → I' 135 (9 * l + p) = I 135 (9 * l + p)) (h6 : ∀ j, tbA l 0 0 ≤ j → j < tbA l 8 0 → I' 136 j = I 136 j) (h7 : ∀ j, 4 * tbA l 0 0 ≤ j → j < 4 * tbA l 8 0 → I' 137 j = I 137 j) (hn : cellsN w h l ≤ 8) (hA : autT w h f u l I) : autT w h f u l I' := by
  have e5 : ∀ p, p < 9 → nmT I' l p = nmT I l p := fun p hp => by
    unfold nmT
    rw [h5 p hp]
  have e6 : ∀ i k, i < 8 → k < 5 → I' 136 (tbA l i k) = I 136 (tbA l i k) := fun i k hi hk => h6 _ (by unfold tbA; omega) (by unfold tbA; omega)
  have e7 : ∀ i k c, i < 8 → k < 5 → c < 4 → I' 137 (4 * tbA l i k + c) = I 137 (4 * tbA l i k + c) := fun i k c hi hk hc => h7 _ (by unfold tbA; omega) (by unfold tbA; omega)
  obtain ⟨a1, a2, a3, a4⟩ := hA
  refine ⟨fun p hp => by rw [h5 p hp, e5 p hp]; exact a1 p hp, fun p hp => by rw [e5 p (by omega)]; exact a2 p hp, fun i hi k hk => ?_, fun p hp => ?_⟩
  · rw [e5 i (by omega)] at hk
    have hk5 : k < 5 := by have := (a1 i (by omega)).2; omega
    obtain ⟨b1, b2⟩ := a3 i hi k hk
    rw [e6 i k (by omega) hk5]
    refine ⟨b1, fun c hc hok => ?_⟩
    have hok' : okT I l i k c = true := by
      unfold okT at hok ⊢
      rw [← e6 i k (by omega) hk5]
      exact hok
    have := b2 c hc hok'
    unfold nxT at this ⊢
    rw [e7 i k c (by omega) hk5 hc, e5 (i + 1) (by omega)]
    exact this
  · rw [a4 p hp, e5 0 (by omega)]
    refine and_congr_right fun h0 => ?_
    have hlt : ∀ (k : Nat → Nat) (m : Nat), m ≤ cellsN w h l → k 0 = 0 → (∀ i, i < m → okT I l i (k i) (p (atN w h l i)) = true ∧ k (i + 1) = nxT I l i (k i) (p (atN w h l i))) → k m < nmT I l m := by
      intro k m
      induction m with
      | zero =>
        intro _ hk0 _
        rw [hk0]
        exact h0
      | succ m ih =>
        intro hm hk0 hs
        have h1 := ih (by omega) hk0 (fun i hi => hs i (by omega))
        obtain ⟨s1, s2⟩ := hs m (by omega)
        rw [s2]
        exact ((a3 m (by omega) (k m) h1).2 _ (hp m (by omega)) s1).2
    have hlt5 : ∀ (k : Nat → Nat) (m : Nat), m < cellsN w h l → k m < nmT I l m → k m < 5 := fun k m hm hk => by
      have := (a1 m (by omega)).2
      omega
    constructor
    · rintro ⟨k, hk0, hs⟩
      refine ⟨k, hk0, fun i hi => ?_⟩
      have h1 := hlt5 k i hi (hlt k i (by omega) hk0 (fun j hj => hs j (by omega)))
      have h2 := hs i hi
      unfold okT nxT at h2 ⊢
      rw [e6 i (k i) (by omega) h1, e7 i (k i) _ (by omega) h1 (hp i hi)]
      exact h2
    · rintro ⟨k, hk0, hs⟩
      have key : ∀ m, m ≤ cellsN w h l → ∀ i, i < m → okT I l i (k i) (p (atN w h l i)) = true ∧ k (i + 1) = nxT I l i (k i) (p (atN w h l i)) := by
        intro m
        induction m with
        | zero => exact fun _ i hi => absurd hi (Nat.not_lt_zero i)
        | succ m ih =>
          intro hm i hi
          have hall := ih (by omega)
          by_cases him : i < m
          · exact hall i him
          · have e : i = m := by omega
            subst e
            have h1 := hlt5 k i (by omega) (hlt k i (by omega) hk0 hall)
            have h2 := hs i (by omega)
            unfold okT nxT at h2 ⊢
            rw [e6 i (k i) (by omega) h1, e7 i (k i) _ (by omega) h1 (hp i (by omega))] at h2
            exact h2
      exact ⟨k, hk0, key _ (Nat.le_refl _)⟩
section AU
variable {w h : Nat} {f : Nat → Int32} {u : Nat → Nat} {l : Nat} {I : fx_MI}
/-- the rows of a line: signs, colors, possible stages -/
def rwS (w h : Nat) (f : Nat → Int32) (u : Nat → Nat) (l : Nat) (I : fx_MI) : Prop := (∀ c, c < 4 → ∀ t, t < 32 → (bt (I 131 c) t = true ↔ ONW f l (manyN f l) c t)) ∧ (∀ c, c < 4 → ∀ t, t < 32 → (bt (I 132 c) t = true ↔ ((¬ f l = nI 0 ∧ c = 0 ∧ STY0 f l (manyN f l) t) ∨ (f l = nI 0 ∧ t = 0)))) ∧ (∀ c, c < 4 → I 133 c = nI (cnM w h u l c)) ∧ ∀ p, p < 9 → I 134 p = if p ≤ cellsN w h l then POI (I 133) (I 131) (I 132) (cellsN w h l) (roomN f l (manyN f l)) p else nI 0
/-- the class's step -/
theorem fl_b (hs : rwS w h f u l I) {s : Int32} {c t' : Nat} (hc : c < 4) (ht : t' < 32) : bt (flI (I 131) (I 132) s c) t' = true ↔ ∃ t, t < 32 ∧ bt s t = true ∧ stp f l c t t' := by
  unfold flI
  rw [b_or, lS_b (by omega) _ ht, b_and, b_and, Bool.or_eq_true, Bool.and_eq_true, Bool.and_eq_true, Bool.and_eq_true, decide_eq_true_eq, hs.2.1 c hc t' ht]
  constructor
  · rintro (⟨h1, h2, h3⟩ | ⟨h2, h3⟩)
    · exact ⟨t' - 1, by omega, h2, Or.inl ⟨by omega, (hs.1 c hc _ (by omega)).mp h3⟩⟩
    · exact ⟨t', ht, h2, Or.inr ⟨rfl, h3⟩⟩
  · rintro ⟨t, h1, h2, ⟨h3, h4⟩ | ⟨h3, h4⟩⟩
    · subst h3
      exact Or.inl ⟨by omega, by rw [Nat.add_sub_cancel]; exact h2, by rw [Nat.add_sub_cancel]; exact (hs.1 c hc _ h1).mpr h4⟩
    · subst h3
      exact Or.inr ⟨h2, h4⟩
theorem cn_b (hn : cellsN w h l ≤ 8) (hs : rwS w h f u l I) {c i : Nat} (hc : c < 4) : bt (I 133 c) i = true ↔ cnB w h u l c i := by
  rw [hs.2.2.1 c hc]
  exact cnM_bt hn
theorem bh_b (hn : cellsN w h l ≤ 8) (hs : rwS w h f u l I) {s : Int32} {i t' : Nat} (ht : t' < 32) : bt (bhI (I 133) (I 131) (I 132) s i 4) t' = true ↔ ∃ c t, c < 4 ∧ t < 32 ∧ cnB w h u l c i ∧ bt s t = true ∧ stp f l c t t' := by
  have key : ∀ k, k ≤ 4 → (bt (bhI (I 133) (I 131) (I 132) s i k) t' = true ↔ ∃ c t, c < k ∧ t < 32 ∧ cnB w h u l c i ∧ bt s t = true ∧ stp f l c t t') := by
    intro k
    induction k with
    | zero =>
      intro _
      show bt (nI 0) t' = true ↔ _
      rw [b_00]
      exact ⟨fun z => absurd z Bool.false_ne_true, fun ⟨c, t, hc, _⟩ => absurd hc (Nat.not_lt_zero c)⟩
    | succ k ih =>
      intro hk
      unfold bhI
      by_cases hb : bt (I 133 k) i = true
      · rw [if_pos hb, b_or, Bool.or_eq_true, ih (by omega), fl_b hs (by omega) ht]
        constructor
        · rintro (⟨c, t, h1, h2⟩ | ⟨t, h1, h2, h3⟩)
          · exact ⟨c, t, by omega, h2⟩
          · exact ⟨k, t, by omega, h1, (cn_b hn hs (by omega)).mp hb, h2, h3⟩
        · rintro ⟨c, t, h1, h2, h3, h4, h5⟩
          by_cases hck : c = k
          · subst hck
            exact Or.inr ⟨t, h2, h4, h5⟩
          · exact Or.inl ⟨c, t, by omega, h2, h3, h4, h5⟩
      · rw [if_neg hb, ih (by omega)]
        constructor
        · rintro ⟨c, t, h1, h2⟩
          exact ⟨c, t, by omega, h2⟩
        · rintro ⟨c, t, h1, h2, h3, h4, h5⟩
          by_cases hck : c = k
          · subst hck
            exact absurd ((cn_b hn hs (by omega)).mpr h3) hb
          · exact ⟨c, t, by omega, h2, h3, h4, h5⟩
  exact key 4 (Nat.le_refl _)
theorem ah_b (hn : cellsN w h l ≤ 8) (hs : rwS w h f u l I) {s : Int32} {i t : Nat} (ht : t < 31) : bt (ahI (I 133) (I 131) (I 132) s i 4) t = true ↔ ∃ c t', c < 4 ∧ t' < 32 ∧ cnB w h u l c i ∧ bt s t' = true ∧ stp f l c t t' := by
  have key : ∀ k, k ≤ 4 → (bt (ahI (I 133) (I 131) (I 132) s i k) t = true ↔ ∃ c t', c < k ∧ t' < 32 ∧ cnB w h u l c i ∧ bt s t' = true ∧ stp f l c t t') := by
    intro k
    induction k with
    | zero =>
      intro _
      show bt (nI 0) t = true ↔ _
      rw [b_00]
      exact ⟨fun z => absurd z Bool.false_ne_true, fun ⟨c, t', hc, _⟩ => absurd hc (Nat.not_lt_zero c)⟩
    | succ k ih =>
      intro hk
      unfold ahI
      have hstep : bt ((uS_ s 1 &&& I 131 k) ||| (s &&& I 132 k)) t = true ↔ ∃ t', t' < 32 ∧ bt s t' = true ∧ stp f l k t t' := by
        rw [b_or, b_and, b_and, uS_b (by omega), Bool.or_eq_true, Bool.and_eq_true, Bool.and_eq_true, hs.2.1 k (by omega) t (by omega), hs.1 k (by omega) t (by omega), Nat.add_comm 1 t]
        constructor
        · rintro (⟨h1, h2⟩ | ⟨h1, h2⟩)
          · exact ⟨t + 1, by omega, h1, Or.inl ⟨rfl, h2⟩⟩
          · exact ⟨t, by omega, h1, Or.inr ⟨rfl, h2⟩⟩
        · rintro ⟨t', h1, h2, ⟨rfl, h3⟩ | ⟨rfl, h3⟩⟩
          · exact Or.inl ⟨h2, h3⟩
          · exact Or.inr ⟨h2, h3⟩
      by_cases hb : bt (I 133 k) i = true
      · rw [if_pos hb, b_or, Bool.or_eq_true, ih (by omega), hstep]
        constructor
        · rintro (⟨c, t', h1, h2⟩ | ⟨t', h1, h2, h3⟩)
          · exact ⟨c, t', by omega, h2⟩
          · exact ⟨k, t', by omega, h1, (cn_b hn hs (by omega)).mp hb, h2, h3⟩
        · rintro ⟨c, t', h1, h2, h3, h4, h5⟩
          by_cases hck : c = k
          · subst hck
            exact Or.inr ⟨t', h2, h4, h5⟩
          · exact Or.inl ⟨c, t', by omega, h2, h3, h4, h5⟩
      · rw [if_neg hb, ih (by omega)]
        constructor
        · rintro ⟨c, t', h1, h2⟩
          exact ⟨c, t', by omega, h2⟩
        · rintro ⟨c, t', h1, h2, h3, h4, h5⟩
          by_cases hck : c = k
          · subst hck
            exact absurd ((cn_b hn hs (by omega)).mpr h3) hb
          · exact ⟨c, t', by omega, h2, h3, h4, h5⟩
  exact key 4 (Nat.le_refl _)
/-- what lines keep -/
def okA (w h : Nat) (f : Nat → Int32) (l : Nat) : Prop := okl 3 f l ∧ cellsN w h l ≤ 8 ∧ (f l = nI 0 → roomN f l (manyN f l) = 0) ∧ roomN f l (manyN f l) ≤ 8
theorem FW_le (hA : okA w h f l) (hs : rwS w h f u l I) : ∀ {p t : Nat}, p ≤ 9 → t < 32 → bt (FWI (I 133) (I 131) (I 132) p) t = true → t ≤ p
  | 0, t, _, ht, hb => by
    have e1 : ∀ j, j < 32 → bt (nI 1) j = decide (j = 0) := by decide +kernel
    have : bt (nI 1) t = true := hb
    rw [e1 t ht, decide_eq_true_eq] at this
    omega
  | p + 1, t, hp, ht, hb => by
    obtain ⟨c, t0, h1, h2, h3, h4, h5⟩ := (bh_b hA.2.1 hs ht).mp hb
    have h6 := FW_le hA hs (by omega) h2 h4
    have h7 := stp_le hA.1 hA.2.2.1 h5
    omega
/-- the possible stages of a place -/
def Pst (I : fx_MI) (p t : Nat) : Prop := t < 32 ∧ bt (I 134 p) t = true
theorem P_n (hA : okA w h f l) (hs : rwS w h f u l I) {t : Nat} : Pst I (cellsN w h l) t ↔ t = roomN f l (manyN f l) ∧ bt (FWI (I 133) (I 131) (I 132) (cellsN w h l)) t = true := by
  unfold Pst
  rw [hs.2.2.2 _ (by have := hA.2.1; omega), if_pos (Nat.le_refl _)]
  unfold POI
  rw [Nat.sub_self]
  have hr := hA.2.2.2
  constructor
  · rintro ⟨ht, hb⟩
    have o1 : bt (nI 1 <<< (nI (roomN f l (manyN f l)) &&& nI 31)) t = decide (t = roomN f l (manyN f l)) := bt_one (by omega) ht
    have hb' : bt (FWI (I 133) (I 131) (I 132) (cellsN w h l) &&& (nI 1 <<< (nI (roomN f l (manyN f l)) &&& nI 31))) t = true := hb
    rw [b_and, o1, Bool.and_eq_true, decide_eq_true_eq] at hb'
    exact ⟨hb'.2, hb'.1⟩
  · rintro ⟨rfl, hb⟩
    have o1 : bt (nI 1 <<< (nI (roomN f l (manyN f l)) &&& nI 31)) (roomN f l (manyN f l)) = decide (roomN f l (manyN f l) = roomN f l (manyN f l)) := bt_one (by omega) (by omega)
    refine ⟨by omega, ?_⟩
    show bt (FWI (I 133) (I 131) (I 132) (cellsN w h l) &&& (nI 1 <<< (nI (roomN f l (manyN f l)) &&& nI 31))) (roomN f l (manyN f l)) = true
    rw [b_and, o1, hb]
    simp
theorem P_s (hA : okA w h f l) (hs : rwS w h f u l I) {i t : Nat} (hi : i < cellsN w h l) : Pst I i t ↔ t < 32 ∧ bt (FWI (I 133) (I 131) (I 132) i) t = true ∧ ∃ c t', c < 4 ∧ cnB w h u l c i ∧ stp f l c t t' ∧ Pst I (i + 1) t' := by
  have hn8 := hA.2.1
  have e1 := hs.2.2.2 i (by omega)
  have e2 := hs.2.2.2 (i + 1) (by omega)
  rw [if_pos (by omega)] at e1 e2
  have e3 : POI (I 133) (I 131) (I 132) (cellsN w h l) (roomN f l (manyN f l)) i = FWI (I 133) (I 131) (I 132) i &&& ahI (I 133) (I 131) (I 132) (I 134 (i + 1)) i 4 := by
    rw [e2]
    unfold POI
    rw [show cellsN w h l - i = (cellsN w h l - (i + 1)) + 1 by omega]
    show FWI _ _ _ (cellsN w h l - (cellsN w h l - (i + 1) + 1)) &&& ahI _ _ _ _ (cellsN w h l - (cellsN w h l - (i + 1) + 1)) 4 = _
    rw [show cellsN w h l - (cellsN w h l - (i + 1) + 1) = i by omega]
  unfold Pst
  rw [e1, e3, b_and, Bool.and_eq_true]
  refine and_congr_right fun ht => and_congr_right fun hF => ?_
  have hle := FW_le hA hs (by omega) ht hF
  rw [ah_b hn8 hs (by omega)]
  constructor
  · rintro ⟨c, t', h1, h2, h3, h4, h5⟩
    exact ⟨c, t', h1, h3, h5, h2, h4⟩
  · rintro ⟨c, t', h1, h3, h5, h2, h4⟩
    exact ⟨c, t', h1, h2, h3, h4, h5⟩
theorem P_F (hA : okA w h f l) (hs : rwS w h f u l I) {i t : Nat} (hi : i ≤ cellsN w h l) (hP : Pst I i t) : bt (FWI (I 133) (I 131) (I 132) i) t = true := by
  rcases Nat.eq_or_lt_of_le hi with h1 | h1
  · subst h1
    exact ((P_n hA hs).mp hP).2
  · exact ((P_s hA hs h1).mp hP).2.1
theorem P_rg (hA : okA w h f l) (hs : rwS w h f u l I) : ∀ {d i t : Nat}, i + d = cellsN w h l → Pst I i t → t ≤ i ∧ t ≤ roomN f l (manyN f l) ∧ roomN f l (manyN f l) ≤ t + d
  | 0, i, t, hd, hP => by
    rw [Nat.add_zero] at hd
    have h1 := FW_le hA hs (by have := hA.2.1; omega) hP.1 (P_F hA hs (by omega) hP)
    rw [hd] at hP
    have := (P_n hA hs).mp hP
    omega
  | d + 1, i, t, hd, hP => by
    have h1 := FW_le hA hs (by have := hA.2.1; omega) hP.1 (P_F hA hs (by omega) hP)
    obtain ⟨-, -, c, t', h2, h3, h4, h5⟩ := (P_s hA hs (by omega)).mp hP
    have h6 := P_rg hA hs (d := d) (i := i + 1) (by omega) h5
    have h7 := stp_le hA.1 hA.2.2.1 h4
    omega
end AU
