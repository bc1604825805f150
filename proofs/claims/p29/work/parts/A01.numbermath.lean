/-! the class: the number of possible fillings, as mathematics (own work) -/
theorem ENS_or {P Q R : (Nat → Nat) → Prop} {S : Nat → Prop} {N M : Nat} {e g : Nat → Nat → Nat} (h1 : ENS P S N e) (h2 : ENS Q S M g) (hR : ∀ p, R p ↔ P p ∨ Q p) (hd : ∀ p q, P p → Q q → ∃ c, S c ∧ p c ≠ q c) : ENS R S (N + M) (fun k => if k < N then e k else g (k - N)) := by
  refine ⟨fun k hk => ?_, fun i j hij hj => ?_, fun p hp => ?_⟩
  · try dsimp only
    by_cases h : k < N
    · rw [if_pos h]
      exact (hR _).mpr (Or.inl (h1.1 k h))
    · rw [if_neg h]
      exact (hR _).mpr (Or.inr (h2.1 _ (by omega)))
  · try dsimp only
    by_cases h : i < N
    · rw [if_pos h]
      by_cases h' : j < N
      · rw [if_pos h']
        exact h1.2.1 i j hij h'
      · rw [if_neg h']
        exact hd _ _ (h1.1 i h) (h2.1 _ (by omega))
    · rw [if_neg h, if_neg (by omega)]
      exact h2.2.1 _ _ (by omega) (by omega)
  · rcases (hR p).mp hp with h | h
    · obtain ⟨k, hk, hc⟩ := h1.2.2 p h
      refine ⟨k, by omega, fun c hS => ?_⟩
      try dsimp only
      rw [if_pos hk]
      exact hc c hS
    · obtain ⟨k, hk, hc⟩ := h2.2.2 p h
      refine ⟨N + k, by omega, fun c hS => ?_⟩
      try dsimp only
      rw [if_neg (by omega), show N + k - N = k by omega]
      exact hc c hS
theorem ENS_none {P : (Nat → Nat) → Prop} {S : Nat → Prop} {e : Nat → Nat → Nat} (h : ∀ p, ¬ P p) : ENS P S 0 e := ⟨fun k hk => absurd hk (Nat.not_lt_zero k), fun i j _ hj => absurd hj (Nat.not_lt_zero j), fun p hp => absurd hp (h p)⟩
/-- the ways of the first blocks, up to each cell -/
def wyR (c0 : Nat → Bool) (a : Int32) (g : Nat → Int32) : Nat → Int32
  | 0 => a
  | p + 1 => (if c0 p = true then wyR c0 a g p else nI 0) + g (p + 1)
def cdW (cn : Nat → Int32) (f : Nat → Int32) (l b p : Nat) : Bool := decide (lenN f l b + gapN f l b ≤ p) && (bt (ruI (cn (colN f l b)) (lenN f l b - 1)) (p - lenN f l b) && (decide (gapN f l b = 0) || bt (cn 0) (p - lenN f l b - 1)))
def wyI (cn : Nat → Int32) (f : Nat → Int32) (l : Nat) : Nat → Nat → Int32
  | 0 => wyR (bt (cn 0)) (nI 1) (fun _ => nI 0)
  | b + 1 => wyR (bt (cn 0)) (nI 0) (fun p => if cdW cn f l b p = true then wyI cn f l b (p - lenN f l b - gapN f l b) else nI 0)
section WY_
variable {w h : Nat} {f : Nat → Int32} {u : Nat → Nat} {l : Nat} {cn : Nat → Int32}
def WC (w h : Nat) (f : Nat → Int32) (u : Nat → Nat) (l b p N : Nat) : Prop := ∃ e, ENS (FP w h f u l b p) (fun c => c < b) N e
theorem FP_down {b p : Nat} {s : Nat → Nat} (hp : p + 1 ≤ cellsN w h l) : (FP w h f u l b (p + 1) s ∧ ∀ j, j + 1 = b → s j + lenN f l j ≤ p) ↔ cnB w h u l 0 p ∧ FP w h f u l b p s := by
  constructor
  · rintro ⟨h1, h2⟩
    obtain ⟨g1, g2⟩ := FP_less h1 (Nat.le_succ p) h2
    exact ⟨g2 p (Nat.le_refl _) (by omega), g1⟩
  · rintro ⟨h1, h2⟩
    have he : emp w h u l p (p + 1) := fun i h3 h4 => by rw [show i = p by omega]; exact h1
    refine ⟨FP_emp h2 (Nat.le_succ p) he, fun j hj => (h2.2.1 j (by omega)).2 hj⟩
theorem WC_less {b p N : Nat} (hp : p + 1 ≤ cellsN w h l) (hc : cnB w h u l 0 p) (hW : WC w h f u l b p N) : ∃ e, ENS (fun s => FP w h f u l b (p + 1) s ∧ ∀ j, j + 1 = b → s j + lenN f l j ≤ p) (fun c => c < b) N e := by
  obtain ⟨e, he⟩ := hW
  exact ⟨e, ENS_cong (fun s => ⟨fun z => (FP_down hp).mpr ⟨hc, z⟩, fun z => ((FP_down hp).mp z).2⟩) (fun _ => Iff.rfl) he⟩
theorem FS_at {b a : Nat} {s : Nat → Nat} : FS w h f u l b a s ↔ gapN f l b ≤ a ∧ FP w h f u l b (a - gapN f l b) s ∧ (gapN f l b = 0 ∨ cnB w h u l 0 (a - 1)) := by
  rcases gapN_01 (f := f) (l := l) b with hg | ⟨hg, hb0⟩
  · rw [FS_g0 hg, hg, Nat.sub_zero]
    exact ⟨fun z => ⟨Nat.zero_le _, z, Or.inl rfl⟩, fun z => z.2.1⟩
  · rw [FS_g1 hg hb0, hg]
    exact ⟨fun z => ⟨z.1, z.2.1, Or.inr z.2.2⟩, fun z => ⟨z.1, z.2.1, z.2.2.resolve_left (by omega)⟩⟩
theorem cdW_i {b p : Nat} (hok : okl 3 f l) (hb : b < manyN f l) (hc : cnOK w h u l cn) : cdW cn f l b p = true ↔ lenN f l b + gapN f l b ≤ p ∧ runB w h f u l b (p - lenN f l b) ∧ (gapN f l b = 0 ∨ cnB w h u l 0 (p - lenN f l b - 1)) := by
  unfold cdW
  rw [Bool.and_eq_true, Bool.and_eq_true, Bool.or_eq_true, decide_eq_true_eq, decide_eq_true_eq, run_b hok hb hc, hc 0 (by omega)]
/-- the last block ends right here -/
theorem WC_end {b p N : Nat} (hok : okl 3 f l) (hb : b < manyN f l) (hp : p ≤ cellsN w h l) (hcd : lenN f l b + gapN f l b ≤ p ∧ runB w h f u l b (p - lenN f l b) ∧ (gapN f l b = 0 ∨ cnB w h u l 0 (p - lenN f l b - 1))) (hW : WC w h f u l b (p - lenN f l b - gapN f l b) N) : ∃ e, ENS (fun s => FP w h f u l (b + 1) p s ∧ s b + lenN f l b = p) (fun c => c < b + 1) N e := by
  obtain ⟨h1, h2, h3⟩ := hcd
  obtain ⟨e, he⟩ := hW
  have hput : ∀ s, FP w h f u l b (p - lenN f l b - gapN f l b) s → FP w h f u l (b + 1) p (fun c => if c = b then p - lenN f l b else s c) := fun s hs => by
    have hS : FS w h f u l b (p - lenN f l b) s := FS_at.mpr ⟨by omega, hs, h3⟩
    have := FP_put (t := fun c => if c = b then p - lenN f l b else s c) hok hb hS h2 (fun j hj => if_neg (by omega)) (if_pos rfl)
    rw [show p - lenN f l b + lenN f l b = p by omega] at this
    exact this
  refine ⟨fun k c => if c = b then p - lenN f l b else e k c, fun k hk => ⟨hput _ (he.1 k hk), ?_⟩, fun i j hij hj => ?_, fun s hs => ?_⟩
  · show (if b = b then p - lenN f l b else e k b) + lenN f l b = p
    rw [if_pos rfl]
    omega
  · obtain ⟨c, hc1, hc2⟩ := he.2.1 i j hij hj
    refine ⟨c, by omega, ?_⟩
    show (if c = b then p - lenN f l b else e i c) ≠ (if c = b then p - lenN f l b else e j c)
    rw [if_neg (by omega), if_neg (by omega)]
    exact hc2
  · obtain ⟨g1, g2⟩ := hs
    obtain ⟨t1, t2, t3, t4⟩ := FP_take g1
    have hsb : s b = p - lenN f l b := by omega
    rw [hsb] at t1
    obtain ⟨-, q2, -⟩ := FS_at.mp t1
    obtain ⟨k, hk, hkc⟩ := he.2.2 s q2
    refine ⟨k, hk, fun c hc => ?_⟩
    show (if c = b then p - lenN f l b else e k c) = s c
    by_cases hcb : c = b
    · rw [if_pos hcb, hcb, hsb]
    · rw [if_neg hcb]
      exact hkc c (by omega)
theorem wy_0 (hn : cellsN w h l ≤ 8) (hc : cnOK w h u l cn) : ∀ p, p ≤ cellsN w h l → ∃ N, wyI cn f l 0 p = nI N ∧ WC w h f u l 0 p N
  | 0, _ => ⟨1, rfl, fun _ _ => 0, fun k _ => FP_0.mpr ⟨Nat.zero_le _, fun i h1 h2 => absurd h2 (by omega)⟩, fun i j hij hj => by omega, fun s _ => ⟨0, by omega, fun c hc => absurd hc (Nat.not_lt_zero c)⟩⟩
  | p + 1, hp => by
    obtain ⟨N, e1, e2⟩ := wy_0 hn hc p (by omega)
    have e0 : wyI cn f l 0 (p + 1) = (if bt (cn 0) p = true then wyI cn f l 0 p else nI 0) + nI 0 := rfl
    rw [e0]
    by_cases hb : bt (cn 0) p = true
    · rw [if_pos hb, e1, nI_add]
      obtain ⟨e, he⟩ := WC_less hp ((hc 0 (by omega) p).mp hb) e2
      exact ⟨N, by rw [Nat.add_zero], e, ENS_cong (fun s => ⟨fun z => z.1, fun z => ⟨z, fun j hj => by omega⟩⟩) (fun _ => Iff.rfl) he⟩
    · rw [if_neg hb, nI_add]
      refine ⟨0, rfl, fun _ _ => 0, ENS_none fun s hs => hb ((hc 0 (by omega) p).mpr ((FP_down hp).mp ⟨hs, fun j hj => by omega⟩).1)⟩
theorem wy_s {b : Nat} (hok : okl 3 f l) (hn : cellsN w h l ≤ 8) (hb : b < manyN f l) (hc : cnOK w h u l cn) (ih : ∀ p, p ≤ cellsN w h l → ∃ N, wyI cn f l b p = nI N ∧ WC w h f u l b p N) : ∀ p, p ≤ cellsN w h l → ∃ N, wyI cn f l (b + 1) p = nI N ∧ WC w h f u l (b + 1) p N
  | 0, _ => by
    refine ⟨0, rfl, fun _ _ => 0, ENS_none fun s hs => ?_⟩
    have h1 := (FP_take hs).2.2.2
    have h2 := (len_eq hok hb).2.2
    omega
  | p + 1, hp => by
    obtain ⟨N, e1, e2⟩ := wy_s hok hn hb hc ih p (by omega)
    have e0 : wyI cn f l (b + 1) (p + 1) = (if bt (cn 0) p = true then wyI cn f l (b + 1) p else nI 0) + (if cdW cn f l b (p + 1) = true then wyI cn f l b (p + 1 - lenN f l b - gapN f l b) else nI 0) := rfl
    have hA : ∃ N1, (if bt (cn 0) p = true then wyI cn f l (b + 1) p else nI 0) = nI N1 ∧ ∃ e, ENS (fun s => FP w h f u l (b + 1) (p + 1) s ∧ s b + lenN f l b ≤ p) (fun c => c < b + 1) N1 e := by
      have hcg : ∀ s : Nat → Nat, (∀ j, j + 1 = b + 1 → s j + lenN f l j ≤ p) ↔ s b + lenN f l b ≤ p := fun s => ⟨fun z => z b rfl, fun z j hj => by rw [show j = b by omega]; exact z⟩
      by_cases hb' : bt (cn 0) p = true
      · rw [if_pos hb', e1]
        obtain ⟨e, he⟩ := WC_less hp ((hc 0 (by omega) p).mp hb') e2
        exact ⟨N, rfl, e, ENS_cong (fun s => and_congr_right fun _ => hcg s) (fun _ => Iff.rfl) he⟩
      · rw [if_neg hb']
        exact ⟨0, rfl, fun _ _ => 0, ENS_none fun s hs => hb' ((hc 0 (by omega) p).mpr ((FP_down hp).mp ⟨hs.1, (hcg s).mpr hs.2⟩).1)⟩
    have hB : ∃ N2, (if cdW cn f l b (p + 1) = true then wyI cn f l b (p + 1 - lenN f l b - gapN f l b) else nI 0) = nI N2 ∧ ∃ e, ENS (fun s => FP w h f u l (b + 1) (p + 1) s ∧ s b + lenN f l b = p + 1) (fun c => c < b + 1) N2 e := by
      by_cases hcd : cdW cn f l b (p + 1) = true
      · rw [if_pos hcd]
        obtain ⟨N2, g1, g2⟩ := ih (p + 1 - lenN f l b - gapN f l b) (by omega)
        exact ⟨N2, g1, WC_end hok hb hp ((cdW_i hok hb hc).mp hcd) g2⟩
      · rw [if_neg hcd]
        refine ⟨0, rfl, fun _ _ => 0, ENS_none fun s hs => hcd ((cdW_i hok hb hc).mpr ?_)⟩
        obtain ⟨t1, t2, t3, t4⟩ := FP_take hs.1
        have hsb : s b = p + 1 - lenN f l b := by have := hs.2; omega
        rw [hsb] at t1 t2
        obtain ⟨q1, q2, q3⟩ := FS_at.mp t1
        have hlen := (len_eq hok hb).2
        refine ⟨?_, t2, q3⟩
        have := hs.2
        omega
    obtain ⟨N1, a1, ea, a2⟩ := hA
    obtain ⟨N2, b1, eb, b2⟩ := hB
    rw [e0, a1, b1, nI_add]
    refine ⟨N1 + N2, rfl, _, ENS_or a2 b2 (fun s => ?_) (fun s t hs ht => ⟨b, by omega, fun z => ?_⟩)⟩
    · constructor
      · intro z
        have := (FP_take z).2.2.2
        rcases Nat.lt_or_ge (s b + lenN f l b) (p + 1) with h1 | h1
        · exact Or.inl ⟨z, by omega⟩
        · exact Or.inr ⟨z, by omega⟩
      · rintro (z | z)
        · exact z.1
        · exact z.1
    · have h1 := hs.2
      have h2 := ht.2
      rw [z] at h1
      omega
/-- the number of possible fillings -/
def CNu (w h : Nat) (f : Nat → Int32) (u : Nat → Nat) (l N : Nat) : Prop := ∃ e, ENS (PF w h f u l) (fun c => c < manyN f l) N e
theorem wy_all (hok : okl 3 f l) (hn : cellsN w h l ≤ 8) (hc : cnOK w h u l cn) : ∃ N, wyI cn f l (manyN f l) (cellsN w h l) = nI N ∧ CNu w h f u l N := by
  have key : ∀ b, b ≤ manyN f l → ∀ p, p ≤ cellsN w h l → ∃ N, wyI cn f l b p = nI N ∧ WC w h f u l b p N := by
    intro b
    induction b with
    | zero => exact fun _ => wy_0 hn hc
    | succ b ih => exact fun hb => wy_s hok hn (by omega) hc (ih (by omega))
  obtain ⟨N, e1, e, e2⟩ := key _ (Nat.le_refl _) _ (Nat.le_refl _)
  exact ⟨N, e1, e, ENS_cong (fun s => FP_all) (fun _ => Iff.rfl) e2⟩
theorem CNu_one {N M : Nat} (h1 : CNu w h f u l N) (h2 : CNu w h f u l M) : N = M := by
  obtain ⟨e, he⟩ := h1
  obtain ⟨g, hg⟩ := h2
  exact ENS_one he hg
theorem CNu_70 {N : Nat} (hok : okl 3 f l) (hn : cellsN w h l ≤ 8) (h1 : CNu w h f u l N) : N ≤ 70 := by
  obtain ⟨e, he⟩ := h1
  have hm := (many_eq hok).2
  have hv : ∀ k, k < N → vld f l (cellsN w h l) (e k) := fun k hk => (he.1 k hk).1
  have hmem : ∀ k, k < N → lst (e k) (manyN f l) 0 ∈ inc (manyN f l) 0 := fun k hk => lst_inc (fun i hi => by
    rw [Nat.zero_add, Nat.zero_add]
    exact vld_up hok (hv k hk) hi) (fun i hi => by
    rw [Nat.zero_add]
    have := vld_16 hok (hv k hk) hi
    omega) (fun _ => Nat.zero_le _)
  refine Nat.le_trans ?_ (inc_len (manyN f l) (by omega))
  refine fb_holes _ _ (fun k => (inc (manyN f l) 0).idxOf (lst (e k) (manyN f l) 0)) (fun k hk => List.idxOf_lt_length_of_mem (hmem k hk)) ?_
  intro i j hij hj h
  have h1 : lst (e i) (manyN f l) 0 = lst (e j) (manyN f l) 0 := by
    have g1 := List.getElem_idxOf (List.idxOf_lt_length_of_mem (hmem i (by omega)))
    have g2 := List.getElem_idxOf (List.idxOf_lt_length_of_mem (hmem j hj))
    rw [← g1, ← g2]
    simp only [h]
  obtain ⟨c, hc1, hc2⟩ := he.2.1 i j hij hj
  have := lst_eq h1 c hc1
  rw [Nat.zero_add] at this
  exact hc2 this
/-- the reference's number is this one -/
theorem CNT_u {N : Nat} (hok : okl 3 f l) (hn : cellsN w h l ≤ 8) (h1 : CNT w h f l N) : CNu w h f (mkN f) l N := by
  obtain ⟨e, h2, h3, h4⟩ := h1
  refine ⟨e, fun k hk => ⟨(h2 k hk).1, (h2 k hk).2.1⟩, fun i j hij hj => Classical.byContradiction fun z => ?_, fun s hs => h4 s hs.1 hs.2 trivial⟩
  have h5 := h3 i j hij hj
  have h6 : cd (e i) (manyN f l) = cd (e j) (manyN f l) := cd_cong fun q hq => Classical.byContradiction fun y => z ⟨q, hq, y⟩
  omega
end WY_
