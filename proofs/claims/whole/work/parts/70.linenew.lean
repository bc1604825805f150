/-! the class: what a line is narrowed to is what the mathematics says (own work) -/
theorem orS_b {x st : Int32} : ∀ {j : Nat}, j ≤ 32 → ∀ i, i < 32 → (bt (orS x st j) i = true ↔ bt x i = true ∨ ∃ d, d < j ∧ d ≤ i ∧ bt st (i - d) = true)
  | 0, _, i, _ => ⟨fun h => Or.inl h, fun h => h.elim id (fun ⟨d, h1, _⟩ => absurd h1 (Nat.not_lt_zero d))⟩
  | j + 1, hj, i, hi => by
    show bt (orS x st j ||| (st <<< (nI j &&& nI 31))) i = true ↔ _
    rw [b_or, b_shl (by omega) _ hi, Bool.or_eq_true, orS_b (by omega) i hi, Bool.and_eq_true, decide_eq_true_eq]
    constructor
    · rintro ((h | ⟨d, h1, h2, h3⟩) | ⟨h1, h2⟩)
      · exact Or.inl h
      · exact Or.inr ⟨d, by omega, h2, h3⟩
      · exact Or.inr ⟨j, by omega, h1, h2⟩
    · rintro (h | ⟨d, h1, h2, h3⟩)
      · exact Or.inl (Or.inl h)
      · by_cases h4 : d = j
        · subst h4
          exact Or.inr ⟨h2, h3⟩
        · exact Or.inl (Or.inr ⟨d, by omega, h2, h3⟩)
theorem b_00 (i : Nat) : bt (nI 0) i = false := by
  by_cases hi : i < 32
  · rw [b_nI hi, Nat.zero_testBit]
  · exact b_big (by omega)
theorem nfR_b {I : fx_MI} {m : Nat} (hb : blk I m) : ∀ {k : Nat}, k ≤ m → ∀ c, c < 4 → ∀ i, i < 32 → (bt (nfR I k 109 c) i = true ↔ ∃ b, b < k ∧ nv (I 104 b) = c ∧ ∃ d, d < nv (I 103 b) ∧ d ≤ i ∧ bt (I 108 b) (i - d) = true)
  | 0, _, c, hc, i, hi => by
    show bt (fill I 109 0 4 (fun _ => nI 0) 109 c) i = true ↔ _
    rw [fill_in (by omega) (by omega), b_00]
    exact ⟨fun h => absurd h Bool.false_ne_true, fun ⟨b, h1, _⟩ => absurd h1 (Nat.not_lt_zero b)⟩
  | k + 1, hk, c, hc, i, hi => by
    obtain ⟨⟨ln, l1, l2, l3⟩, co, c1, c2, c3⟩ := hb.2.2 k (by omega)
    have hln : nv (I 103 k) = ln := by rw [l1, nv_nI (by omega)]
    have ih := nfR_b hb (k := k) (by omega) c hc i hi
    show bt (fx_up (nfR I k) 109 (nv (I 104 k)) (orS (nfR I k 109 (nv (I 104 k))) (I 108 k) (nv (I 103 k))) 109 c) i = true ↔ _
    by_cases h1 : nv (I 104 k) = c
    · rw [h1, up_eq, orS_b (by omega) i hi, ih]
      constructor
      · rintro (⟨b, g1, g2, g3⟩ | ⟨d, g1, g2, g3⟩)
        · exact ⟨b, by omega, g2, g3⟩
        · exact ⟨k, by omega, h1, d, g1, g2, g3⟩
      · rintro ⟨b, g1, g2, g3⟩
        by_cases g4 : b = k
        · subst g4
          exact Or.inr g3
        · exact Or.inl ⟨b, by omega, g2, g3⟩
    · rw [up_ne (by omega), ih]
      constructor
      · rintro ⟨b, g1, g2, g3⟩
        exact ⟨b, by omega, g2, g3⟩
      · rintro ⟨b, g1, g2, g3⟩
        by_cases g4 : b = k
        · subst g4
          exact absurd g2 h1
        · exact ⟨b, by omega, g2, g3⟩
theorem orF_b {I : fx_MI} {x : Int32} {i : Nat} : ∀ {k : Nat}, bt (orF I x k) i = true ↔ bt x i = true ∨ ∃ b, b < k ∧ bt (I 106 b) i = true ∧ bt (I 107 b) (i + 1) = true
  | 0 => ⟨fun h => Or.inl h, fun h => h.elim id (fun ⟨d, h1, _⟩ => absurd h1 (Nat.not_lt_zero d))⟩
  | k + 1 => by
    show bt (orF I x k ||| (I 106 k &&& uS_ (I 107 k) 1)) i = true ↔ _
    rw [b_or, b_and, uS_b (by omega), Bool.or_eq_true, orF_b (k := k), Bool.and_eq_true, Nat.add_comm 1 i]
    constructor
    · rintro ((h | ⟨b, h1, h2⟩) | h)
      · exact Or.inl h
      · exact Or.inr ⟨b, by omega, h2⟩
      · exact Or.inr ⟨k, by omega, h⟩
    · rintro (h | ⟨b, h1, h2⟩)
      · exact Or.inl (Or.inl h)
      · by_cases h4 : b = k
        · subst h4
          exact Or.inr h2
        · exact Or.inl (Or.inr ⟨b, by omega, h2⟩)
theorem nfF_b {I : fx_MI} {m : Nat} (hb : blk I m) {c : Nat} (hc : c < 4) {i : Nat} (hi : i < 32) : bt (nfF I m 109 c) i = true ↔ (c = 0 ∧ bt (I 102 0) i = true ∧ ∃ b, b ≤ m ∧ bt (I 106 b) i = true ∧ bt (I 107 b) (i + 1) = true) ∨ (1 ≤ c ∧ ∃ b, b < m ∧ nv (I 104 b) = c ∧ ∃ d, d < nv (I 103 b) ∧ d ≤ i ∧ bt (I 108 b) (i - d) = true) := by
  unfold nfF
  by_cases h0 : c = 0
  · subst h0
    rw [up_eq, b_and, Bool.and_eq_true, orF_b, nfR_b hb (Nat.le_refl m) 0 (by omega) i hi]
    constructor
    · rintro ⟨⟨b, g1, g2, -⟩ | ⟨b, g1, g2⟩, g3⟩
      · obtain ⟨-, co, c1, c2, c3⟩ := hb.2.2 b g1
        rw [c1, nv_nI (by omega)] at g2
        omega
      · exact Or.inl ⟨rfl, g3, b, by omega, g2⟩
    · rintro (⟨-, g3, b, g1, g2⟩ | ⟨h, -⟩)
      · exact ⟨Or.inr ⟨b, by omega, g2⟩, g3⟩
      · omega
  · rw [up_ne (by omega), nfR_b hb (Nat.le_refl m) c hc i hi]
    constructor
    · intro h
      exact Or.inr ⟨by omega, h⟩
    · rintro (⟨h, -⟩ | ⟨-, h⟩)
      · exact absurd h h0
      · exact h
section LN
variable {w h : Nat} {f : Nat → Int32} {u : Nat → Nat} {l : Nat} {I : fx_MI}
theorem exR_blk (hok : okl 3 f l) (hx : exR w h f u l I) : blk I (manyN f l) := by
  have hm := (many_eq hok).2
  obtain ⟨⟨k1, k2, k3, k4, k5⟩, -, -, -⟩ := hx
  refine ⟨k2, hm, fun b hb => ?_⟩
  obtain ⟨b1, b2, b3⟩ := k5 b hb
  have h1 := len_eq hok hb
  have h2 := col_eq (by omega) hok hb
  exact ⟨⟨_, b1, by omega, by omega⟩, _, b2, by omega, by omega⟩
/-- the mark that cell i of the line is left -/
def xOf (I : fx_MI) (i : Nat) : Nat := mskF 4 (fun c => bt (I 109 c) i)
theorem xOf_bit {I : fx_MI} {i c : Nat} (hc : c < 4) : xOf I i / 2 ^ c % 2 = 1 ↔ bt (I 109 c) i = true := by
  rw [← tb_iff]
  unfold xOf
  rw [mskF_bit]
  simp [hc]
theorem nfF_BT (hok : okl 3 f l) (hn : cellsN w h l ≤ 8) (hx : exR w h f u l I) {i : Nat} (hi : i < cellsN w h l) : BT w h f 2 u l i (xOf (nfF I (manyN f l)) i) := by
  have hb := exR_blk hok hx
  obtain ⟨hk, h6, h7, h8⟩ := hx
  have hcn := lkR_cn hn hk
  obtain ⟨k1, k2, k3, k4, k5⟩ := hk
  unfold BT
  rw [if_neg (by omega)]
  refine ⟨mskF_lt 4 _, fun c hc => ?_⟩
  rw [xOf_bit hc, nfF_b hb hc (by omega)]
  by_cases h0 : c = 0
  · subst h0
    rw [PF_c0 hok hi]
    constructor
    · rintro (⟨-, g1, b, g2, g3, g4⟩ | ⟨g, -⟩)
      · exact ⟨(hcn 0 (by omega) i).mp g1, b, g2, (h6 b g2 i (by omega)).mp g3, (h7 b g2 _).mp g4⟩
      · omega
    · rintro ⟨g1, b, g2, g3, g4⟩
      exact Or.inl ⟨rfl, (hcn 0 (by omega) i).mpr g1, b, g2, (h6 b g2 i (by omega)).mpr g3, (h7 b g2 _).mpr g4⟩
  · rw [PF_c1 hok (by omega)]
    constructor
    · rintro (⟨g, -⟩ | ⟨-, b, g1, g2, d, g3, g4, g5⟩)
      · exact absurd g h0
      · have e1 := len_eq hok g1
        have e2 := col_eq (by omega) hok g1
        rw [(k5 b g1).2.1, nv_nI (by omega)] at g2
        rw [(k5 b g1).1, nv_nI (by omega)] at g3
        exact ⟨b, g1, g2, d, g3, g4, (h8 b g1 _).mp g5⟩
    · rintro ⟨b, g1, g2, d, g3, g4, g5⟩
      have e1 := len_eq hok g1
      have e2 := col_eq (by omega) hok g1
      refine Or.inr ⟨by omega, b, g1, ?_, d, ?_, g4, (h8 b g1 _).mpr g5⟩
      · rw [(k5 b g1).2.1, nv_nI (by omega)]
        exact g2
      · rw [(k5 b g1).1, nv_nI (by omega)]
        exact g3
/-- what is left was there -/
theorem nfF_can (hok : okl 3 f l) (hn : cellsN w h l ≤ 8) (hx : exR w h f u l I) {i c : Nat} (hc : c < 4) (hi : i < 32) (hb : bt (nfF I (manyN f l) 109 c) i = true) : bt (I 102 c) i = true := by
  have hbk := exR_blk hok hx
  obtain ⟨hk, h6, h7, h8⟩ := hx
  have hcn := lkR_cn hn hk
  obtain ⟨k1, k2, k3, k4, k5⟩ := hk
  rw [nfF_b hbk hc hi] at hb
  rcases hb with ⟨rfl, g, -⟩ | ⟨g0, b, g1, g2, d, g3, g4, g5⟩
  · exact g
  · have e1 := len_eq hok g1
    have e2 := col_eq (by omega) hok g1
    rw [(k5 b g1).2.1, nv_nI (by omega)] at g2
    rw [(k5 b g1).1, nv_nI (by omega)] at g3
    obtain ⟨s, s1, s2⟩ := (h8 b g1 _).mp g5
    have := (PF_at s1 g1).2.1 d g3
    rw [s2, g2, show i - d + d = i by omega] at this
    exact (hcn c hc i).mpr this
end LN
/-! by overlap -/
theorem b_cov : ∀ a, a < 9 → ∀ e, e ≤ a → ∀ i, i < 32 → bt (nI 1 <<< (nI a &&& nI 31) - nI 1 <<< (nI e &&& nI 31)) i = (decide (e ≤ i) && decide (i < a)) := by decide +kernel
theorem b_cells : ∀ a, a < 9 → ∀ i, i < 32 → bt (nI 1 <<< (nI a &&& nI 31) - nI 1) i = decide (i < a) := by decide +kernel
theorem cvI_b {I : fx_MI} {m n : Nat} {E L ln co : Nat → Nat} (hS : elS I m n E L ln co) : ∀ {k : Nat}, k ≤ m → ∀ i, i < 32 → (bt (cvI I E L ln k) i = true ↔ ∃ b, b < k ∧ E b ≤ i ∧ i < L b + ln b)
  | 0, _, i, _ => by
    show bt (nI 0) i = true ↔ _
    rw [b_00]
    exact ⟨fun h => absurd h Bool.false_ne_true, fun ⟨b, h1, _⟩ => absurd h1 (Nat.not_lt_zero b)⟩
  | k + 1, hk, i, hi => by
    obtain ⟨-, -, b2, b3, b4, b5, b6, b7⟩ := hS.2.2.2.2 k (by omega)
    have hn := hS.2.2.2.1
    show bt (cvI I E L ln k ||| _) i = true ↔ _
    rw [b_or, Bool.or_eq_true, cvI_b hS (by omega) i hi, b_cov _ (by omega) _ (by omega) i hi, Bool.and_eq_true, decide_eq_true_eq, decide_eq_true_eq]
    constructor
    · rintro (⟨b, g1, g2⟩ | g)
      · exact ⟨b, by omega, g2⟩
      · exact ⟨k, by omega, g⟩
    · rintro ⟨b, g1, g2⟩
      by_cases g4 : b = k
      · subst g4
        exact Or.inr g2
      · exact Or.inl ⟨b, by omega, g2⟩
theorem b_not (x : Int32) {i : Nat} (hi : i < 32) : bt (x ^^^ -1) i = !bt x i := by
  rw [b_xor, b_m1 i hi]
  cases bt x i <;> rfl
theorem lvI_b {I : fx_MI} {k c : Nat} {w : Int32} (hk : k < 4) (hc : c < 4) {i : Nat} (hi : i < 32) : bt (lvI I (nI k) w c) i = true ↔ bt (I 109 c) i = true ∧ (bt w i = true → c = k) := by
  unfold lvI
  by_cases h : c = k
  · rw [if_pos (by rw [h])]
    simp [h]
  · rw [if_neg (by rw [nI_eq' (by omega) (by omega)]; exact h), b_and, b_not _ hi]
    simp [h]
theorem ovR_b {I : fx_MI} {m n : Nat} {E L ln co : Nat → Nat} (hS : elS I m n E L ln co) : ∀ {k : Nat}, k ≤ m → ∀ c, c < 4 → ∀ i, i < 32 → (bt (ovR I E L ln co k 109 c) i = true ↔ bt (I 102 c) i = true ∧ ∀ b, b < k → L b ≤ i → i < E b + ln b → c = co b)
  | 0, _, c, hc, i, _ => by
    show bt (fill I 109 0 4 (fun c => I 102 c) 109 c) i = true ↔ _
    rw [fill_in (by omega) (by omega)]
    exact ⟨fun h => ⟨h, fun b hb => absurd hb (Nat.not_lt_zero b)⟩, fun h => h.1⟩
  | k + 1, hk, c, hc, i, hi => by
    obtain ⟨-, -, b2, b3, b4, b5, b6, b7⟩ := hS.2.2.2.2 k (by omega)
    have hn := hS.2.2.2.1
    have ih := ovR_b hS (k := k) (by omega) c hc i hi
    unfold ovR
    split
    · rename_i h1
      rw [fill_in (by omega) (by omega), Nat.sub_zero, lvI_b b4 hc hi, ih, b_cov _ (by omega) _ (by omega) i hi, Bool.and_eq_true, decide_eq_true_eq, decide_eq_true_eq]
      constructor
      · rintro ⟨⟨g1, g2⟩, g3⟩
        refine ⟨g1, fun b hb q1 q2 => ?_⟩
        by_cases q3 : b = k
        · subst q3
          exact g3 ⟨q1, q2⟩
        · exact g2 b (by omega) q1 q2
      · rintro ⟨g1, g2⟩
        exact ⟨⟨g1, fun b hb => g2 b (by omega)⟩, fun q => g2 k (by omega) q.1 q.2⟩
    · rename_i h1
      rw [ih]
      refine and_congr_right fun _ => ⟨fun g b hb q1 q2 => ?_, fun g b hb => g b (by omega)⟩
      by_cases q3 : b = k
      · subst q3
        omega
      · exact g b (by omega) q1 q2
theorem ovF_b {I : fx_MI} {m n : Nat} {E L ln co : Nat → Nat} (hS : elS I m n E L ln co) {c : Nat} (hc : c < 4) {i : Nat} (hi : i < 32) : bt (ovF I E L ln co m n 109 c) i = true ↔ bt (I 102 c) i = true ∧ (∀ b, b < m → L b ≤ i → i < E b + ln b → c = co b) ∧ ((i < n ∧ ∀ b, b < m → ¬ (E b ≤ i ∧ i < L b + ln b)) → c = 0) := by
  have hn := hS.2.2.2.1
  unfold ovF
  rw [fill_in (by omega) (by omega), Nat.sub_zero, lvI_b (by omega) hc hi, ovR_b hS (Nat.le_refl m) c hc i hi, b_and, b_cells _ (by omega) i hi, b_not _ hi, and_assoc]
  refine and_congr_right fun _ => and_congr_right fun _ => ⟨fun g h1 => g ?_, fun g h1 => g ?_⟩
  · rw [Bool.and_eq_true, decide_eq_true_eq]
    refine ⟨h1.1, ?_⟩
    rw [bnt (x := bt (cvI I E L ln m) i) (fun z => by
      obtain ⟨b, q1, q2⟩ := (cvI_b hS (Nat.le_refl m) i hi).mp z
      exact h1.2 b q1 q2)]
    rfl
  · rw [Bool.and_eq_true, decide_eq_true_eq] at h1
    refine ⟨h1.1, fun b hb z => ?_⟩
    rw [(cvI_b hS (Nat.le_refl m) i hi).mpr ⟨b, hb, z⟩] at h1
    cases h1.2
section LO
variable {w h : Nat} {f : Nat → Int32} {u : Nat → Nat} {l : Nat} {I : fx_MI}
theorem low_ex {P : Nat → Prop} {N : Nat} (hN : ∀ a, P a → a < N) (hne : ∃ a, P a) : ∃ a, P a ∧ ∀ i, i < a → ¬ P i := by
  obtain ⟨a, ha⟩ := hne
  induction a using Nat.strongRecOn with
  | _ a ih =>
    by_cases h : ∃ i, i < a ∧ P i
    · obtain ⟨i, h1, h2⟩ := h
      exact ih i h1 h2
    · exact ⟨a, ha, fun i h1 h2 => h ⟨i, h1, h2⟩⟩
theorem hig_ex {P : Nat → Prop} {N : Nat} (hN : ∀ a, P a → a < N) (hne : ∃ a, P a) : ∃ a, P a ∧ ∀ i, a < i → ¬ P i := by
  have key : ∀ d, ∀ a, a + d = N → P a → ∃ a, P a ∧ ∀ i, a < i → ¬ P i := by
    intro d
    induction d using Nat.strongRecOn with
    | _ d ih =>
      intro a had ha
      by_cases h : ∃ i, a < i ∧ P i
      · obtain ⟨i, h1, h2⟩ := h
        have := hN i h2
        exact ih (N - i) (by omega) i (by omega) h2
      · exact ⟨a, ha, fun i h1 h2 => h ⟨i, h1, h2⟩⟩
  obtain ⟨a, ha⟩ := hne
  have := hN a ha
  exact key (N - a) a (by omega) ha
/-- the least and the greatest starts stand in the rows -/
theorem exR_el (hok : okl 3 f l) (hn : cellsN w h l ≤ 8) (hne : ∃ s, PF w h f u l s) (hx : exR w h f u l I) : ∃ E L : Nat → Nat, elS I (manyN f l) (cellsN w h l) E L (lenN f l) (colN f l) ∧ ∀ b, b < manyN f l → Es w h f u l b (E b) ∧ Ls w h f u l b (L b) := by
  have hm := (many_eq hok).2
  obtain ⟨⟨k1, k2, k3, k4, k5⟩, h6, h7, h8⟩ := hx
  have hex : ∀ b, ∃ E L, b < manyN f l → (SB w h f u l b E ∧ ∀ i, i < E → ¬ SB w h f u l b i) ∧ SB w h f u l b L ∧ ∀ i, L < i → ¬ SB w h f u l b i := fun b => by
    by_cases hb : b < manyN f l
    · obtain ⟨s, hs⟩ := hne
      have hN : ∀ a, SB w h f u l b a → a < cellsN w h l := fun a => SB_lt hok hb
      obtain ⟨E, e1⟩ := low_ex hN ⟨s b, s, hs, rfl⟩
      obtain ⟨L, e2⟩ := hig_ex hN ⟨s b, s, hs, rfl⟩
      exact ⟨E, L, fun _ => ⟨e1, e2⟩⟩
    · exact ⟨0, 0, fun z => absurd z hb⟩
  obtain ⟨EE, hEE⟩ := Classical.skolem.mp hex
  obtain ⟨LL, hLL⟩ := Classical.skolem.mp hEE
  refine ⟨EE, LL, ⟨k2, k3, hm, hn, fun b hb => ?_⟩, fun b hb => ?_⟩
  · obtain ⟨⟨e1, e2⟩, e3, e4⟩ := hLL b hb
    generalize LL b = L0 at *
    generalize EE b = E0 at *
    obtain ⟨b1, b2, b3⟩ := k5 b hb
    have g1 := len_eq hok hb
    have g2 := col_eq (by omega) hok hb
    have hE8 := SB_lt hok hb e1
    have hL8 := SB_lt hok hb e3
    obtain ⟨s, s1, s2⟩ := e3
    have hend := pvl_e (FP_all.mpr s1).2.1 hb
    refine ⟨b1, b2, lowI_at (by omega) ?_ (fun i hi => ?_), higI_at (by omega) ?_ (fun i hi => ?_), by omega, ?_, by omega, by omega⟩
    · rw [l_i2l _ (by omega), if_pos (by omega)]
      exact (h8 b hb _).mpr e1
    · rw [l_i2l _ (by omega), if_pos (by omega)]
      exact bnt fun z => e2 i hi ((h8 b hb _).mp z)
    · exact (h8 b hb _).mpr ⟨s, s1, s2⟩
    · exact bnt fun z => e4 i hi ((h8 b hb _).mp z)
    · rcases Nat.lt_or_ge L0 E0 with z | z
      · exact absurd ⟨s, s1, s2⟩ (e2 L0 z)
      · exact z
  · obtain ⟨⟨e1, e2⟩, e3, e4⟩ := hLL b hb
    generalize LL b = L0 at *
    generalize EE b = E0 at *
    refine ⟨⟨e1, fun s hs => ?_⟩, e3, fun s hs => ?_⟩
    · rcases Nat.lt_or_ge (s b) E0 with z | z
      · exact absurd ⟨s, hs, rfl⟩ (e2 _ z)
      · exact z
    · rcases Nat.lt_or_ge L0 (s b) with z | z
      · exact absurd ⟨s, hs, rfl⟩ (e4 _ z)
      · exact z
theorem elS_one {m n m' n' : Nat} {E L ln co E' L' ln' co' : Nat → Nat} (h1 : elS I m n E L ln co) (h2 : elS I m' n' E' L' ln' co') : m' = m ∧ n' = n ∧ ∀ b, b < m → E' b = E b ∧ L' b = L b ∧ ln' b = ln b ∧ co' b = co b := by
  obtain ⟨a1, a2, a3, a4, a5⟩ := h1
  obtain ⟨b1, b2, b3, b4, b5⟩ := h2
  have e1 : m' = m := by
    rw [a1, nI_eq' (by omega) (by omega)] at b1
    exact b1.symm
  have e2 : n' = n := by
    rw [a2, nI_eq' (by omega) (by omega)] at b2
    exact b2.symm
  refine ⟨e1, e2, fun b hb => ?_⟩
  obtain ⟨p1, p2, p3, p4, p5, p6, p7, p8⟩ := a5 b hb
  obtain ⟨q1, q2, q3, q4, q5, q6, q7, q8⟩ := b5 b (by omega)
  rw [p1, nI_eq' (by omega) (by omega)] at q1
  rw [p2, nI_eq' (by omega) (by omega)] at q2
  rw [p3, nI_eq' (by omega) (by omega)] at q3
  rw [p4, nI_eq' (by omega) (by omega)] at q4
  omega
theorem ovF_BT {m n : Nat} {E L ln co : Nat → Nat} (hok : okl 3 f l) (hn : cellsN w h l ≤ 8) (hu : ∀ i, i < cellsN w h l → u (atN w h l i) < 16) (hne : ∃ s, PF w h f u l s) (hx : exR w h f u l I) (hS : elS I m n E L ln co) {i : Nat} (hi : i < cellsN w h l) : BT w h f 1 u l i (xOf (ovF I E L ln co m n) i) := by
  obtain ⟨E0, L0, hS0, hEL⟩ := exR_el hok hn hne hx
  obtain ⟨rfl, rfl, hS1⟩ := elS_one hS0 hS
  have hk := hx.1
  have hcn := lkR_cn hn hk
  obtain ⟨s, hs⟩ := hne
  unfold BT
  rw [if_pos rfl]
  refine ⟨E0, L0, hEL, ?_⟩
  have hx16 : xOf (ovF I E L ln co (manyN f l) (cellsN w h l)) i < 16 := mskF_lt 4 _
  have hbit : ∀ c, c < 4 → (xOf (ovF I E L ln co (manyN f l) (cellsN w h l)) i / 2 ^ c % 2 = 1 ↔ cnB w h u l c i ∧ (∀ b, b < manyN f l → L0 b ≤ i → i < E0 b + lenN f l b → c = colN f l b) ∧ ((∀ b, b < manyN f l → ¬ (E0 b ≤ i ∧ i < L0 b + lenN f l b)) → c = 0)) := fun c hc => by
    rw [xOf_bit hc, ovF_b hS hc (by omega), hcn c hc i]
    refine and_congr_right fun _ => and_congr ⟨fun g b hb q1 q2 => ?_, fun g b hb q1 q2 => ?_⟩ ⟨fun g h1 => g ⟨hi, fun b hb z => ?_⟩, fun g h1 => g fun b hb z => ?_⟩
    · have e := hS1 b hb
      rw [← e.2.2.2]
      exact g b hb (by omega) (by omega)
    · have e := hS1 b hb
      rw [e.2.2.2]
      exact g b hb (by omega) (by omega)
    · have e := hS1 b hb
      exact h1 b hb (by omega)
    · have e := hS1 b hb
      exact h1.2 b hb (by omega)
  have hsE : ∀ b, b < manyN f l → E0 b ≤ s b ∧ s b ≤ L0 b := fun b hb => ⟨(hEL b hb).1.2 s hs, (hEL b hb).2.2 s hs⟩
  by_cases h1 : ∃ b, b < manyN f l ∧ L0 b ≤ i ∧ i < E0 b + lenN f l b
  · obtain ⟨b, hb, g1, g2⟩ := h1
    refine Or.inl ⟨b, hb, g1, g2, ?_⟩
    have e1 := col_eq (by omega) hok hb
    have e2 := hsE b hb
    have hcan : cnB w h u l (colN f l b) i := by
      have := hs.2 i hi
      rw [pcN_in hok hs.1 (b := b) (by omega) (by omega) hb (Nat.le_refl _)] at this
      exact ⟨hi, this⟩
    refine sub_anti hx16 (p2_16 _ (by omega)) (fun c hc z => ?_) (fun c hc z => ?_)
    · rw [((hbit c hc).mp z).2.1 b hb g1 g2, bit_p2 _ (by omega) _ (by omega)]
    · rw [bit_p2 _ (by omega) _ hc] at z
      subst z
      refine (hbit _ hc).mpr ⟨hcan, fun b' hb' q1 q2 => ?_, fun q => absurd ⟨by omega, by omega⟩ (q b hb)⟩
      have e3 := hsE b' hb'
      rw [← pcN_in hok hs.1 (i := i) (b := b') (by omega) (by omega) hb' (Nat.le_refl _), pcN_in hok hs.1 (b := b) (by omega) (by omega) hb (Nat.le_refl _)]
  · have h1' : ∀ b, b < manyN f l → ¬ (L0 b ≤ i ∧ i < E0 b + lenN f l b) := fun b hb z => h1 ⟨b, hb, z⟩
    by_cases h2 : ∃ b, b < manyN f l ∧ E0 b ≤ i ∧ i < L0 b + lenN f l b
    · refine Or.inr (Or.inl ⟨h1', h2, ?_⟩)
      refine sub_anti hx16 (hu i hi) (fun c hc z => ((hbit c hc).mp z).1.2) (fun c hc z => (hbit c hc).mpr ⟨⟨hi, z⟩, fun b hb q1 q2 => absurd ⟨q1, q2⟩ (h1' b hb), fun q => ?_⟩)
      obtain ⟨b, hb, q2⟩ := h2
      exact absurd q2 (q b hb)
    · have h2' : ∀ b, b < manyN f l → ¬ (E0 b ≤ i ∧ i < L0 b + lenN f l b) := fun b hb z => h2 ⟨b, hb, z⟩
      refine Or.inr (Or.inr ⟨h1', h2', ?_⟩)
      have hcan : cnB w h u l 0 i := by
        have := hs.2 i hi
        rw [pcN_out (fun b hb g => h2' b hb (by have := hsE b hb; omega))] at this
        exact ⟨hi, this⟩
      refine sub_anti hx16 (by omega) (fun c hc z => ?_) (fun c hc z => ?_)
      · rw [((hbit c hc).mp z).2.2 h2']
      · rw [bit_1 _ hc] at z
        subst z
        exact (hbit 0 hc).mpr ⟨hcan, fun b hb q1 q2 => absurd ⟨q1, q2⟩ (h1' b hb), fun _ => rfl⟩
theorem ovF_can {m n : Nat} {E L ln co : Nat → Nat} (hS : elS I m n E L ln co) {i c : Nat} (hc : c < 4) (hi : i < 32) (hb : bt (ovF I E L ln co m n 109 c) i = true) : bt (I 102 c) i = true := ((ovF_b hS hc hi).mp hb).1
end LO
