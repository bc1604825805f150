/-! one clue changed on both sides (own work) -/
def appF (f : Nat → Int32) (l m : Nat) (a d : Int32) : Nat → Int32 := fun k => if k = l then nI 1 else if k = 16 + l then nI (m + 1) else if k = 32 + (8 * l + m) then a else if k = 160 + (8 * l + m) then d else f k
def resF (f : Nat → Int32) (l : Nat) (z : Int32) : Nat → Int32 := fun k => if k = l then z else if k = 16 + l then nI 0 else f k
def resC (I : fx_MI) (q l : Nat) (w : Int32) : fx_MI := fx_up (fx_up (fx_up I q 0 (clrB (I q 0) (nI l) w)) (q + 1) l 0) (q + 2) l 0
theorem bt_out (x : Int32) {i : Nat} (hi : 32 ≤ i) : bt x i = false := by
  unfold bt
  exact BitVec.getLsbD_of_ge _ _ hi
section RU_
variable {I : fx_MI} {q i s : Nat} {a d : Int32}
theorem ap_0 : apC I q i s a d q 0 = I q 0 ||| ((1 : Int32) <<< (nI i &&& 31)) := up_eq
theorem ap_1 (j : Nat) : apC I q i s a d (q + 1) j = if j = i then nI (s + 1) else I (q + 1) j := by
  unfold apC
  rw [up_ne (by omega)]
  by_cases h : j = i
  · rw [if_pos h, h, up_eq]
  · rw [if_neg h, up_ne (by omega), up_ne (by omega), up_ne (by omega), up_ne (by omega)]
theorem ap_2 (j : Nat) : apC I q i s a d (q + 2) j = if j = i then I (q + 2) i + nI (gapW I q i s d) + a else I (q + 2) j := by
  unfold apC
  rw [up_ne (by omega), up_ne (by omega), up_ne (by omega), up_ne (by omega)]
  by_cases h : j = i
  · rw [if_pos h, h, up_eq]
  · rw [if_neg h, up_ne (by omega)]
theorem ap_3 (j : Nat) : apC I q i s a d (q + 3) j = if j = 8 * i + s then a else I (q + 3) j := by
  unfold apC
  rw [up_ne (by omega), up_ne (by omega), up_ne (by omega)]
  by_cases h : j = 8 * i + s
  · rw [if_pos h, h, up_eq]
  · rw [if_neg h, up_ne (by omega), up_ne (by omega)]
theorem ap_4 (j : Nat) : apC I q i s a d (q + 4) j = if j = 8 * i + s then d else I (q + 4) j := by
  unfold apC
  rw [up_ne (by omega), up_ne (by omega)]
  by_cases h : j = 8 * i + s
  · rw [if_pos h, h, up_eq]
  · rw [if_neg h, up_ne (by omega), up_ne (by omega), up_ne (by omega)]
theorem ap_o {p j : Nat} (h : p < q ∨ q + 4 < p) : apC I q i s a d p j = I p j := by
  unfold apC
  rw [up_ne (by omega), up_ne (by omega), up_ne (by omega), up_ne (by omega), up_ne (by omega)]
theorem rs_o {p j : Nat} (h : p < q ∨ q + 2 < p) : resC I q i a p j = I p j := by
  unfold resC
  rw [up_ne (by omega), up_ne (by omega), up_ne (by omega)]
theorem rs_1 (j : Nat) : resC I q i a (q + 1) j = if j = i then 0 else I (q + 1) j := by
  unfold resC
  rw [up_ne (by omega)]
  by_cases h : j = i
  · rw [if_pos h, h, up_eq]
  · rw [if_neg h, up_ne (by omega), up_ne (by omega)]
theorem rs_2 (j : Nat) : resC I q i a (q + 2) j = if j = i then 0 else I (q + 2) j := by
  unfold resC
  by_cases h : j = i
  · rw [if_pos h, h, up_eq]
  · rw [if_neg h, up_ne (by omega), up_ne (by omega), up_ne (by omega)]
theorem rs_00 : resC I q i a q 0 = clrB (I q 0) (nI i) a := by
  unfold resC
  rw [up_ne (by omega), up_ne (by omega), up_eq]
theorem bt_set {x : Int32} (hi : i < 32) (j : Nat) : bt (x ||| ((1 : Int32) <<< (nI i &&& 31))) j = if j = i then true else bt x j := by
  by_cases hj : j < 32
  · rw [b_or, show ((1 : Int32) <<< (nI i &&& 31)) = (1 : Int32) <<< (nI i &&& nI 31) from rfl, bt_one hi hj]
    by_cases h : j = i
    · rw [if_pos h, decide_eq_true h, Bool.or_true]
    · rw [if_neg h, decide_eq_false h, Bool.or_false]
  · rw [bt_out _ (by omega), if_neg (by omega), bt_out _ (by omega)]
theorem bt_clr {x w : Int32} (hi : i < 32) (j : Nat) : bt (clrB x (nI i) w) j = if j = i then decide (w ≠ 0) else bt x j := by
  unfold clrB
  by_cases hw : w = 0
  · rw [if_pos hw]
    by_cases hj : j < 32
    · rw [b_and, b_xor, show ((1 : Int32) <<< (nI i &&& 31)) = (1 : Int32) <<< (nI i &&& nI 31) from rfl, bt_one hi hj, b_m1 _ hj, Bool.xor_true]
      by_cases h : j = i
      · rw [if_pos h, decide_eq_true h, Bool.not_true, Bool.and_false]
        exact (decide_eq_false (fun z => z hw)).symm
      · rw [if_neg h, decide_eq_false h, Bool.not_false, Bool.and_true]
    · rw [bt_out _ (by omega), if_neg (by omega), bt_out _ (by omega)]
  · rw [if_neg hw, bt_set hi, decide_eq_true hw]
end RU_
section RV_
variable {w h c q l : Nat} {I : fx_MI} {f : Nat → Int32}
theorem clR_res {y : Int32} (hwh : h + w ≤ 16) (hl : l < h + w) (h1 : clR w h c I q f) : clR w h c (resC I q l y) q (resF f l (if y = nI 0 then nI 0 else nI 1)) := by
  have hz : ∀ k, resF f l (if y = nI 0 then nI 0 else nI 1) k = if k = l then (if y = nI 0 then nI 0 else nI 1) else if k = 16 + l then nI 0 else f k := fun k => rfl
  have hm : ∀ l', l' < 16 → l' ≠ l → manyN (resF f l (if y = nI 0 then nI 0 else nI 1)) l' = manyN f l' := fun l' h2 h3 => by
    unfold manyN
    rw [hz, if_neg (by omega), if_neg (by omega)]
  have hm0 : manyN (resF f l (if y = nI 0 then nI 0 else nI 1)) l = 0 := by
    unfold manyN
    rw [hz, if_neg (by omega), if_pos rfl]
    exact nv_nI (by omega)
  refine ⟨fun l' hl' => ?_, fun l' hb => ?_, fun l' hl' => ?_⟩
  · obtain ⟨g1, g2, g3, g4⟩ := h1.1 l' hl'
    by_cases e : l' = l
    · subst e
      refine ⟨⟨?_, ?_, fun _ => ?_, fun b hb => ?_⟩, ?_, ?_, fun b hb => ?_⟩
      · rw [hz, if_pos rfl]
        split
        · exact ⟨0, by omega, rfl⟩
        · exact ⟨1, by omega, rfl⟩
      · rw [hz, if_neg (by omega), if_pos rfl]
        exact ⟨0, by omega, rfl⟩
      · rw [hz, if_neg (by omega), if_pos rfl]
        rfl
      · rw [hm0] at hb
        omega
      · rw [cf_has hl', rs_00, bt_clr (by omega), if_pos rfl, hz, if_pos rfl]
        by_cases hy : y = nI 0
        · rw [if_pos hy, decide_eq_false (fun z => z hy)]
          rfl
        · rw [if_neg hy, decide_eq_true (show y ≠ 0 from hy)]
          rfl
      · rw [cf_sz hl', rs_1, if_pos rfl, hz, if_neg (by omega), if_pos rfl]
        rfl
      · rw [hm0] at hb
        omega
    · have h8 := many8 g1
      refine ⟨⟨?_, ?_, ?_, fun b hb => ?_⟩, ?_, ?_, fun b hb => ?_⟩
      · rw [hz, if_neg e, if_neg (by omega)]
        exact g1.1
      · rw [hz, if_neg (by omega), if_neg (by omega)]
        exact g1.2.1
      · rw [hz, hz, if_neg e, if_neg (by omega), if_neg (by omega), if_neg (by omega)]
        exact g1.2.2.1
      · rw [hm l' hl' e] at hb
        have := g1.2.2.2 b hb
        unfold lenN colN at this ⊢
        rw [hz, hz, if_neg (by omega), if_neg (by omega), if_neg (by omega), if_neg (by omega)]
        exact this
      · rw [cf_has hl', rs_00, bt_clr (by omega), if_neg e, hz, if_neg e, if_neg (by omega), ← g2, cf_has hl']
      · rw [cf_sz hl', rs_1, if_neg e, hz, if_neg (by omega), if_neg (by omega), ← g3, cf_sz hl']
      · rw [hm l' hl' e] at hb
        obtain ⟨k1, k2⟩ := g4 b hb
        rw [cf_ln hl' (by omega)] at k1
        rw [cf_co] at k2
        rw [cf_ln hl' (by omega), cf_co]
        rw [hz, hz, if_neg (by omega), if_neg (by omega), if_neg (by omega), if_neg (by omega), rs_o (by omega), rs_o (by omega)]
        exact ⟨k1, k2⟩
  · rw [rs_00, bt_clr (by omega)] at hb
    by_cases e : l' = l
    · omega
    · rw [if_neg e] at hb
      exact h1.2.1 l' hb
  · rw [rs_2]
    by_cases e : l' = l
    · subst e
      rw [if_pos rfl, hm0]
      exact ⟨rfl, Nat.zero_le _⟩
    · rw [if_neg e, hm l' (by omega) e]
      have h8 := many8 (h1.1 l' (by omega)).1
      have zo : ∀ k, k ≠ l → k ≠ 16 + l → resF f l (if y = nI 0 then nI 0 else nI 1) k = f k := fun k z1 z2 => by
        rw [hz, if_neg z1, if_neg z2]
      have hroom : ∀ k, k ≤ 8 → roomN (resF f l (if y = nI 0 then nI 0 else nI 1)) l' k = roomN f l' k := fun k hk => by
        unfold roomN
        refine sm_cong fun b hb => ?_
        unfold lenN gapN
        by_cases hb0 : 0 < b
        · rw [zo _ (by omega) (by omega), zo _ (by omega) (by omega), zo _ (by omega) (by omega)]
        · rw [zo _ (by omega) (by omega), if_neg (fun z => hb0 z.1), if_neg (fun z => hb0 z.1)]
      rw [hroom _ h8]
      exact h1.2.2 l' hl'
theorem clR_app {m a d : Nat} (hc : c ≤ 3) (hw8 : w ≤ 8) (hh8 : h ≤ 8) (hl : l < h + w) (h1 : clR w h c I q f) (hm : manyN f l = m) (ha : 1 ≤ a ∧ a ≤ 8) (hd : 1 ≤ d ∧ d ≤ c) (hr : roomN f l m + a + gapK f l m (nI d) ≤ cellsN w h l) : m < 8 ∧ clR w h c (apC I q l m (nI a) (nI d)) q (appF f l m (nI a) (nI d)) := by
  have hcl := cellsN_le (l := l) hw8 hh8
  obtain ⟨o1, o2, o3, o4⟩ := h1.1 l (by omega)
  have hm8 : m ≤ 8 := by rw [← hm]; exact many8 o1
  have hrg := room_ge o1 (m := m) (k := m) (by omega) (Nat.le_refl _)
  have hmlt : m < 8 := by omega
  refine ⟨hmlt, ?_⟩
  have hz : ∀ k, appF f l m (nI a) (nI d) k = if k = l then nI 1 else if k = 16 + l then nI (m + 1) else if k = 32 + (8 * l + m) then nI a else if k = 160 + (8 * l + m) then nI d else f k := fun k => rfl
  have zo : ∀ k, k ≠ l → k ≠ 16 + l → k ≠ 32 + (8 * l + m) → k ≠ 160 + (8 * l + m) → appF f l m (nI a) (nI d) k = f k := fun k z1 z2 z3 z4 => by
    rw [hz, if_neg z1, if_neg z2, if_neg z3, if_neg z4]
  have hm1 : ∀ l', l' < 16 → l' ≠ l → manyN (appF f l m (nI a) (nI d)) l' = manyN f l' := fun l' h2 h3 => by
    unfold manyN
    rw [zo _ (by omega) (by omega) (by omega) (by omega)]
  have z1 : appF f l m (nI a) (nI d) l = nI 1 := if_pos rfl
  have z2 : appF f l m (nI a) (nI d) (16 + l) = nI (m + 1) := by rw [hz, if_neg (by omega), if_pos rfl]
  have z3 : appF f l m (nI a) (nI d) (32 + (8 * l + m)) = nI a := by rw [hz, if_neg (by omega), if_neg (by omega), if_pos rfl]
  have z4 : appF f l m (nI a) (nI d) (160 + (8 * l + m)) = nI d := by rw [hz, if_neg (by omega), if_neg (by omega), if_neg (by omega), if_pos rfl]
  have hm2 : manyN (appF f l m (nI a) (nI d)) l = m + 1 := by
    unfold manyN
    rw [z2, nv_nI (by omega)]
  have hroom : ∀ l' k, l' < 16 → k ≤ 8 → (l' = l → k ≤ m) → roomN (appF f l m (nI a) (nI d)) l' k = roomN f l' k := fun l' k h2 h3 h4 => by
    unfold roomN
    refine sm_cong fun b hb => ?_
    unfold lenN gapN
    by_cases hb0 : 0 < b
    · rw [zo _ (by omega) (by omega) (by omega) (by omega), zo _ (by omega) (by omega) (by omega) (by omega), zo _ (by omega) (by omega) (by omega) (by omega)]
    · rw [zo _ (by omega) (by omega) (by omega) (by omega), if_neg (fun z => hb0 z.1), if_neg (fun z => hb0 z.1)]
  have hgap : gapW I q l m (nI d) = gapK f l m (nI d) := by
    unfold gapW gapK
    by_cases h0 : 0 < m
    · have := (o4 (m - 1) (by omega)).2
      rw [cf_co] at this
      rw [this, show 160 + (8 * l + (m - 1)) = 160 + (8 * l + m) - 1 by omega]
    · rw [if_neg (fun z => h0 z.1), if_neg (fun z => h0 z.1)]
  have hgap2 : gapN (appF f l m (nI a) (nI d)) l m = gapK f l m (nI d) := by
    unfold gapN gapK
    by_cases h0 : 0 < m
    · rw [z4, zo (160 + (8 * l + m) - 1) (by omega) (by omega) (by omega) (by omega)]
      by_cases h2 : f (160 + (8 * l + m) - 1) = nI d
      · rw [if_pos ⟨h0, h2.symm⟩, if_pos ⟨h0, h2⟩]
      · rw [if_neg (fun z => h2 z.2.symm), if_neg (fun z => h2 z.2)]
    · rw [if_neg (fun z => h0 z.1), if_neg (fun z => h0 z.1)]
  have hlen2 : lenN (appF f l m (nI a) (nI d)) l m = a := by
    unfold lenN
    rw [z3, nv_nI (by omega)]
  refine ⟨fun l' hl' => ?_, fun l' hb => ?_, fun l' hl' => ?_⟩
  · obtain ⟨g1, g2, g3, g4⟩ := h1.1 l' hl'
    have h8 := many8 g1
    by_cases e : l' = l
    · subst e
      have hne : ¬ nI 1 = (0 : Int32) := by decide
      refine ⟨⟨?_, ?_, fun z => ?_, fun b hb => ?_⟩, ?_, ?_, fun b hb => ?_⟩
      · rw [z1]
        exact ⟨1, by omega, rfl⟩
      · rw [z2]
        exact ⟨m + 1, by omega, rfl⟩
      · rw [z1] at z
        exact absurd z hne
      · rw [hm2] at hb
        by_cases hbm : b = m
        · subst hbm
          rw [z3, hlen2, z4]
          unfold colN
          rw [z4, nv_nI (by omega)]
          exact ⟨⟨⟨a, by omega, rfl⟩, ha.1⟩, ⟨d, by omega, rfl⟩, hd.1⟩
        · have := g1.2.2.2 b (by omega)
          unfold lenN colN at this ⊢
          rw [zo _ (by omega) (by omega) (by omega) (by omega), zo _ (by omega) (by omega) (by omega) (by omega)]
          exact this
      · rw [cf_has hl', ap_0, bt_set (by omega), if_pos rfl, z1]
        rfl
      · rw [cf_sz hl', ap_1, if_pos rfl, z2]
      · rw [hm2] at hb
        rw [cf_ln hl' (by omega), cf_co, ap_3, ap_4]
        by_cases hbm : b = m
        · subst hbm
          rw [if_pos rfl, if_pos rfl, z3, z4]
          exact ⟨rfl, rfl⟩
        · obtain ⟨k1, k2⟩ := g4 b (by omega)
          rw [cf_ln hl' (by omega)] at k1
          rw [cf_co] at k2
          rw [if_neg (by omega), if_neg (by omega), zo _ (by omega) (by omega) (by omega) (by omega), zo _ (by omega) (by omega) (by omega) (by omega)]
          exact ⟨k1, k2⟩
    · refine ⟨⟨?_, ?_, ?_, fun b hb => ?_⟩, ?_, ?_, fun b hb => ?_⟩
      · rw [zo _ (by omega) (by omega) (by omega) (by omega)]
        exact g1.1
      · rw [zo _ (by omega) (by omega) (by omega) (by omega)]
        exact g1.2.1
      · rw [zo _ (by omega) (by omega) (by omega) (by omega), zo _ (by omega) (by omega) (by omega) (by omega)]
        exact g1.2.2.1
      · rw [hm1 l' hl' e] at hb
        have := g1.2.2.2 b hb
        unfold lenN colN at this ⊢
        rw [zo _ (by omega) (by omega) (by omega) (by omega), zo _ (by omega) (by omega) (by omega) (by omega)]
        exact this
      · rw [cf_has hl', ap_0, bt_set (by omega), if_neg e, zo _ (by omega) (by omega) (by omega) (by omega), ← g2, cf_has hl']
      · rw [cf_sz hl', ap_1, if_neg e, zo _ (by omega) (by omega) (by omega) (by omega), ← g3, cf_sz hl']
      · rw [hm1 l' hl' e] at hb
        obtain ⟨k1, k2⟩ := g4 b hb
        rw [cf_ln hl' (by omega)] at k1
        rw [cf_co] at k2
        rw [cf_ln hl' (by omega), cf_co]
        rw [ap_3, ap_4, if_neg (by omega), if_neg (by omega), zo _ (by omega) (by omega) (by omega) (by omega), zo _ (by omega) (by omega) (by omega) (by omega)]
        exact ⟨k1, k2⟩
  · rw [ap_0, bt_set (by omega)] at hb
    by_cases e : l' = l
    · omega
    · rw [if_neg e] at hb
      exact h1.2.1 l' hb
  · rw [ap_2]
    obtain ⟨k1, k2⟩ := h1.2.2 l' hl'
    by_cases e : l' = l
    · subst e
      rw [hm] at k1 k2
      rw [if_pos rfl, hm2, k1, hgap, room_s, hroom l' m (by omega) (by omega) (fun _ => Nat.le_refl _), hlen2, hgap2]
      refine ⟨?_, by omega⟩
      simp (disch := omega) only [nI_add]
      congr 1
      omega
    · have h8 := many8 (h1.1 l' (by omega)).1
      rw [if_neg e, hm1 l' (by omega) e, hroom l' _ (by omega) h8 (fun z => absurd z e)]
      exact ⟨k1, k2⟩
end RV_
