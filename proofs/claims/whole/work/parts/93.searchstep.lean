/-! the class: the search's steps in its memory (own work) -/
section SP_
variable {w h : Nat} {f : Nat → Int32} {u : Nat → Nat} {I0 I : fx_MI}
theorem least4 {G : Nat → Bool} : ∀ {m d : Nat}, d < m → G d = true → ∃ c, G c = true ∧ ∀ e, G e = true → c ≤ e
  | 0, d, hd, _ => absurd hd (Nat.not_lt_zero d)
  | m + 1, d, hd, hG => by
    by_cases h1 : ∃ e, e < m ∧ G e = true
    · obtain ⟨e, he, hGe⟩ := h1
      exact least4 he hGe
    · refine ⟨d, hG, fun e he => ?_⟩
      rcases Nat.lt_or_ge e d with h2 | h2
      · exact absurd ⟨e, by omega, he⟩ h1
      · exact h2
theorem clr_msk {G : Nat → Bool} {c : Nat} (hc4 : c < 4) (hc : G c = true) (hlow : ∀ d, G d = true → c ≤ d) : nI (mskF 4 G) &&& (nI (mskF 4 G) - nI 1) = nI (mskF 4 (fun d => G d && !decide (d = c))) := by
  have hb : ∀ i, i < 32 → bt (nI (mskF 4 G)) i = (decide (i < 4) && G i) := fun i hi => by rw [b_nI hi, mskF_bit]
  refine b_ext fun i hi => ?_
  rw [clr_low (k := c) (by omega) (by rw [hb c (by omega), decide_eq_true hc4, hc]; rfl) (fun i hi => by
    rw [hb i (by omega)]
    cases hG : G i
    · rw [Bool.and_false]
    · have := hlow i hG
      omega) hi, hb i hi, b_nI hi, mskF_bit, Bool.and_assoc]
theorem low_msk {G : Nat → Bool} {c : Nat} (hc4 : c < 4) (hc : G c = true) (hlow : ∀ d, G d = true → c ≤ d) : lowI (nI (mskF 4 G)).toInt64 = nI c := by
  have h16 : mskF 4 G < 16 := mskF_lt 4 G
  refine lowI_at (by omega) ?_ fun i hi => ?_
  · rw [l_i2lN (by omega) (by omega), mskF_bit, decide_eq_true hc4, hc]
    rfl
  · rw [l_i2lN (by omega) (by omega), mskF_bit]
    cases hG : G i
    · rw [Bool.and_false]
    · have := hlow i hG
      omega
theorem stM_1 {I1 : fx_MI} {k n n' c : Nat} {g fb : Nat → Nat} {cl : Nat → Nat → Bool} (hw : 1 ≤ w ∧ w ≤ 8) (hS : stM w h I0 I k g cl fb n) (hc4 : c < 4) (hc : cl k c = true) (hlow : ∀ d, cl k d = true → c ≤ d)
    (e1 : ∀ q j, q ≠ 123 → q ≠ 127 → q ≠ 128 → (q ≠ 117 ∨ j ≠ 15) → I1 q j = I q j) (e117 : I1 117 15 = nI n') (e127 : ∀ j, I1 127 j = if j = idxK w k then I 127 (idxK w k) &&& (I 127 (idxK w k) - nI 1) else I 127 j) (e128 : ∀ j, I1 128 j = if j = idxK w k then nI c else I 128 j) (e123 : ∀ x, x ≠ k % w → I1 123 x = I 123 x) :
    stM w h I0 I1 k (g1K k c g) (cl1K k c cl) fb n' ∧ I1 128 (idxK w k) = nI c := by
  obtain ⟨hfr, hn, hent, hcol, hC⟩ := hS
  refine ⟨⟨fun q j h1 h2 => by rw [e1 q j (by omega) (by omega) (by omega) h2]; exact hfr q j h1 h2, e117, fun j hj => ?_, fun j hj => ?_, fun x hx hne => ?_⟩, by rw [e128, if_pos rfl]⟩
  · obtain ⟨⟨a1, a2, a3⟩, a4, a5⟩ := hent j hj
    have hst := g1_st (w := w) (h := h) (I := I0) (c := c) (g := g) hj
    unfold enK
    rw [e1 124 _ (by omega) (by omega) (by omega) (by omega), e1 125 _ (by omega) (by omega) (by omega) (by omega), e1 126 _ (by omega) (by omega) (by omega) (by omega), e1 129 _ (by omega) (by omega) (by omega) (by omega), hst.1, hst.2, a1, a2, a3, a5, e127]
    refine ⟨⟨rfl, rfl, rfl⟩, ?_, rfl⟩
    unfold cl1K
    by_cases hjk : j = k
    · subst hjk
      rw [if_pos rfl, a4, clr_msk hc4 hc hlow]
      congr 2
      funext d
      rw [if_pos rfl]
    · rw [if_neg (fun z => hjk (idx_inj hw z)), a4]
      congr 2
      funext d
      rw [if_neg hjk]
  · rw [e128, if_neg (fun z => by have := idx_inj hw z; omega), hcol j hj, ← g1_lt j hj]
  · rw [e123 x hne, hC x hx hne, (g1_st (Nat.le_refl k)).1]
/-- the solution kept is the picture -/
theorem fs_pic {J : fx_MJ} {p : Nat → Nat} (hw : 1 ≤ w ∧ w ≤ 8) (hh : h ≤ 8) : ∀ {N : Nat}, N ≤ w * h → (∀ k, k < N → I 128 (idxK w k) = nI (p k) ∧ p k < 4) → (∀ q, q ≠ 119 → fsK I J w N q = J q) ∧ ∀ c i, c < 4 → i < 64 → (lb (fsK I J w N 119 c) i = true ↔ ∃ k, k < N ∧ idxK w k = i ∧ p k = c)
  | 0, _, _ => by
    have e0 : fsK I J w 0 = putF J 119 (-1) 0 := rfl
    refine ⟨fun q hq => by rw [e0]; unfold putF; exact fillL_row hq, fun c i hc hi => ?_⟩
    have e : fsK I J w 0 119 c = J 119 c &&& ((-1 : Int64) ^^^ -1) := by
      rw [e0]
      unfold putF
      rw [fillL_in (Nat.zero_le _) (by omega)]
      exact if_neg (by rw [show (0 : Int32) = nI 0 from rfl, b_00]; exact Bool.false_ne_true)
    rw [e, l_and, l_xor, l_m1 i hi]
    constructor
    · intro z
      simp at z
    · rintro ⟨k, hk, -⟩
      exact absurd hk (Nat.not_lt_zero k)
  | N + 1, hN, hp => by
    obtain ⟨h1, h2⟩ := fs_pic (J := J) (p := p) hw hh (N := N) (by omega) (fun k hk => hp k (by omega))
    obtain ⟨hN1, hN4⟩ := hp N (by omega)
    have hi64 : idxK w N < 64 := by
      have := idx_dm (k := N) hw
      have := (k_dm (w := w) (h := h) (k := N) (by omega)).2
      omega
    have e0 : fsK I J w (N + 1) = putF (fsK I J w N) 119 ((1 : Int64) <<< ((nI (idxK w N)).toInt64 &&& 63)) ((1 : Int32) <<< (I 128 (idxK w N) &&& nI 31)) := rfl
    refine ⟨fun q hq => by rw [← h1 q hq, e0]; unfold putF; exact fillL_row hq, fun c i hc hi => ?_⟩
    have e : fsK I J w (N + 1) 119 c = if bt ((1 : Int32) <<< (nI (p N) &&& nI 31)) c = true then fsK I J w N 119 c ||| (1 : Int64) <<< ((nI (idxK w N)).toInt64 &&& 63) else fsK I J w N 119 c &&& ((1 : Int64) <<< ((nI (idxK w N)).toInt64 &&& 63) ^^^ -1) := by
      rw [← hN1, e0]
      unfold putF
      rw [fillL_in (Nat.zero_le _) (by omega)]
      rfl
    rw [e, bt_one (by omega) (by omega)]
    by_cases hcp : c = p N
    · rw [if_pos (decide_eq_true hcp), l_or, lb_one hi64 hi, Bool.or_eq_true, h2 c i hc hi, decide_eq_true_eq]
      constructor
      · rintro (⟨k, g1, g2, g3⟩ | g1)
        · exact ⟨k, by omega, g2, g3⟩
        · exact ⟨N, by omega, g1.symm, hcp.symm⟩
      · rintro ⟨k, g1, g2, g3⟩
        by_cases hkN : k = N
        · exact Or.inr (by rw [← g2, hkN])
        · exact Or.inl ⟨k, by omega, g2, g3⟩
    · rw [if_neg (by rw [decide_eq_true_eq]; exact hcp), l_and, l_xor, lb_one hi64 hi, l_m1 i hi, Bool.and_eq_true, h2 c i hc hi]
      constructor
      · rintro ⟨⟨k, g1, g2, g3⟩, -⟩
        exact ⟨k, by omega, g2, g3⟩
      · rintro ⟨k, g1, g2, g3⟩
        have hkN : k ≠ N := fun z => hcp (by rw [← g3, z])
        refine ⟨⟨k, by omega, g2, g3⟩, ?_⟩
        rw [decide_eq_false (fun z => hkN (idx_inj hw (g2.trans z)))]
        rfl
end SP_
