/-! the law's state: its rows agree with what the class's memory stands for (own work) -/
def LX (w h c : Nat) (I : fx_MI) (J : fx_MJ) : Prop := (cW I = w ∧ cH I = h ∧ cC I = c) ∧ ∃ Ir, REL I J Ir ∧ lwR w h c (I 140) (I 141) (Ir 1)
section LX_
variable {w h c l : Nat} {I I' : fx_MI} {J J' : fx_MJ} {R' : fx_MR} {Ir : fx_MI} {r : Option Value}
theorem REL_hi (hr : REL I J Ir) (hI : ∀ q, q < 140 → I' q = I q) : REL I' J Ir := by
  have e : I' = mrg I I' := by
    funext q
    unfold mrg
    split
    · rename_i h
      exact hI q h
    · rfl
  rw [e, ← mrg_s (X := J)]
  exact REL_mrg hr
theorem dim_hi (hI : ∀ q, q < 140 → I' q = I q) : cW I' = cW I ∧ cH I' = cH I ∧ cC I' = cC I := by
  unfold cW cH cC
  rw [hI 1 (by omega)]
  exact ⟨rfl, rfl, rfl⟩
/-- sizes as the reference has them -/
theorem REL_dim (hr : REL I J Ir) : cW I = rW Ir ∧ cH I = rH Ir ∧ cC I = rC Ir := by
  obtain ⟨⟨e1, e2, e3⟩, -⟩ := REL_ref hr
  exact ⟨e1.symm, e2.symm, e3.symm⟩
theorem REL_f (hr : REL I J Ir) : (∀ l, l < 16 → okl (cC I) (Ir 1) l) ∧ (∀ l, l < cH I + cW I → roomN (Ir 1) l (manyN (Ir 1) l) ≤ cellsN (cW I) (cH I) l) ∧ ∀ k, k < 64 → Ir 1 (288 + k) = nI (mkN (Ir 1) k) ∧ mkN (Ir 1) k < 2 ^ (cC I + 1) ∧ 1 ≤ mkN (Ir 1) k := by
  obtain ⟨⟨e1, e2, e3⟩, -, -, -, hokc, -⟩ := REL_ref hr
  rw [e1, e2, e3] at hokc
  obtain ⟨hw, hh, hc, -⟩ := dimC_of hr.1.1.1
  refine ⟨hokc.1, hokc.2, fun k hk => ?_⟩
  obtain ⟨⟨h1, h2⟩, -⟩ := hr.2.1.2.2.2 k hk
  have hle : 2 ^ (cC I + 1) ≤ 2 ^ 4 := Nat.pow_le_pow_right (by omega) (by omega)
  have h3 := rg_eq h1 (by omega)
  exact ⟨h3.1, h3.2, h2⟩
theorem lwR_mk {A Bm : Nat → Int32} (hr : REL I J Ir) (hd : cW I = w ∧ cH I = h ∧ cC I = c) (hs : (1 ≤ w ∧ w ≤ 5) ∧ (1 ≤ h ∧ h ≤ 5) ∧ (1 ≤ c ∧ c ≤ 2)) (he : A 60 = nI w ∧ A 61 = nI h ∧ A 62 = nI c)
    (hA : ∀ l, l < h + w → ((Ir 1 l = nI 1 ∧ A (6 * l) = nI (manyN (Ir 1) l)) ∨ (Ir 1 l = nI 0 ∧ A (6 * l) = -nI 1)) ∧ ∀ k, k < manyN (Ir 1) l → A (6 * l + 1 + k) = nI (4 * lenN (Ir 1) l k + colN (Ir 1) l k)) (hB : ∀ k, k < w * h → Bm k = Ir 1 (288 + k)) : lwR w h c A Bm (Ir 1) := by
  obtain ⟨f1, f2, f3⟩ := REL_f hr
  rw [hd.1, hd.2.1] at f2
  rw [hd.2.2] at f1 f3
  have hwh : w * h ≤ 25 := Nat.mul_le_mul hs.1.2 hs.2.1.2
  have hm5 : ∀ l, l < h + w → manyN (Ir 1) l ≤ 5 := fun l hl => by
    have h1 := room_ge (f1 l (by omega)) (m := manyN (Ir 1) l) (k := manyN (Ir 1) l) (Nat.le_refl _) (Nat.le_refl _)
    have h2 := f2 l hl
    have h3 : cellsN w h l ≤ 5 := by
      unfold cellsN
      split <;> omega
    omega
  have h0 : ∀ l, l < h + w → Ir 1 l = nI 0 → manyN (Ir 1) l = 0 := fun l hl h1 => by
    unfold manyN
    rw [(f1 l (by omega)).2.2.1 h1]
    rfl
  refine ⟨⟨hs, he, fun l hl => ?_⟩, fun l hl => ⟨f1 l (by omega), ?_, f2 l hl, (hA l hl).2⟩, fun k hk => ⟨hB k hk, (f3 k (by omega)).1, (f3 k (by omega)).2.1, (f3 k (by omega)).2.2⟩⟩
  · have hm := hm5 l hl
    have hval : nv (A (6 * l)) ≤ manyN (Ir 1) l := by
      rcases (hA l hl).1 with ⟨-, h1⟩ | ⟨-, h1⟩
      · rw [h1, nv_nI (by omega)]
        exact Nat.le_refl _
      · rw [h1, nv_m1]
        omega
    refine ⟨?_, fun k hk => ⟨_, ?_, (hA l hl).2 k (by omega)⟩⟩
    · rcases (hA l hl).1 with ⟨-, h1⟩ | ⟨-, h1⟩
      · exact Or.inr ⟨_, hm, h1⟩
      · exact Or.inl h1
    · have h1 := (len_eq (f1 l (by omega)) (show k < manyN (Ir 1) l by omega)).2.1
      have h2 := (col_eq (by omega) (f1 l (by omega)) (show k < manyN (Ir 1) l by omega)).2.1
      omega
  · rcases (hA l hl).1 with h1 | ⟨h1, h2⟩
    · exact Or.inl h1
    · exact Or.inr ⟨h1, h2, h0 l hl h1⟩
theorem lwR_f01 {A Bm f : Nat → Int32} (hR : lwR w h c A Bm f) (hl : l < h + w) : ((f l = nI 1 ∧ A (6 * l) = nI (manyN f l)) ∨ (f l = nI 0 ∧ A (6 * l) = -nI 1)) ∧ ∀ k, k < manyN f l → A (6 * l + 1 + k) = nI (4 * lenN f l k + colN f l k) := by
  obtain ⟨-, h1, -, h2⟩ := hR.2.1 l hl
  refine ⟨?_, h2⟩
  rcases h1 with h1 | ⟨h1, h3, -⟩
  · exact Or.inl h1
  · exact Or.inr ⟨h1, h3⟩
theorem lwR_m5 {A Bm f : Nat → Int32} (hR : lwR w h c A Bm f) (hl : l < h + w) : manyN f l ≤ 5 := by
  rw [← lwR_am hR hl]
  exact (lkA_l hR.1 hl).1
theorem in_kt {k a b : Nat} (h1 : a ≤ k) (h2 : k ≤ b) (hb : b < 2 ^ 31) : in_M (nI k) (nI a) (nI b) = true := by
  rw [in_k (by omega) (by omega) hb, decide_eq_true h1, decide_eq_true h2]
  rfl
theorem in_kf {k a b : Nat} (h1 : k < a ∨ b < k) (hk : k < 2 ^ 31) (ha : a < 2 ^ 31) (hb : b < 2 ^ 31) : in_M (nI k) (nI a) (nI b) = false := by
  rw [in_k hk ha hb]
  rcases h1 with h1 | h1
  · rw [decide_eq_false (show ¬ a ≤ k by omega)]
    rfl
  · rw [decide_eq_false (show ¬ k ≤ b by omega), Bool.and_false]
theorem bgM_f {a b : Int32} (hc : c < 4) : (∀ k, k < 288 → beginsM Ir a b (nI c) 1 k = 0) ∧ ∀ k, k < 64 → beginsM Ir a b (nI c) 1 (288 + k) = nI (2 ^ (c + 1) - 1) := by
  refine ⟨fun k hk => ?_, fun k hk => ?_⟩
  · unfold beginsM
    rw [fill_out (by omega), up_ne (by omega), up_ne (by omega), up_ne (by omega), up_ne (by omega), up_ne (by omega)]
    exact if_pos ⟨rfl, by omega, by omega⟩
  · unfold beginsM
    rw [← full_v c hc]
    exact if_pos ⟨rfl, by omega, by omega⟩
/-- a beginning -/
theorem LX_start (hr : REL I J Ir) (hs : (1 ≤ w ∧ w ≤ 5) ∧ (1 ≤ h ∧ h ≤ 5) ∧ (1 ≤ c ∧ c ≤ 2)) (he : I 140 60 = nI w ∧ I 140 61 = nI h ∧ I 140 62 = nI c) (hA : ∀ l, l < h + w → I 140 (6 * l) = -nI 1) (hB : ∀ k, k < 25 → I 141 k = nI (2 ^ (c + 1) - 1)) (hm : mP I J r I' J' R' (post_M_start [.ref 0, .int (nI w), .int (nI h), .int (nI c)])) : (r = some (.int (nI (w + h))) ∧ ∃ b', R' = R0C b') ∧ LX w h c I' J' := by
  obtain ⟨⟨hb, hq⟩, hm⟩ := hm
  have hin : (in_M (nI w) 1 8 && in_M (nI h) 1 8 && in_M (nI c) 1 3) = true := by
    rw [lit, lit, lit, in_kt (by omega) (by omega) (by omega), in_kt (by omega) (by omega) (by omega), in_kt (by omega) (by omega) (by omega)]
    rfl
  obtain ⟨h1, h2⟩ := hm Ir hr (some (.int (nI h + nI w))) (beginsM Ir (nI w) (nI h) (nI c)) (Or.inr ⟨hin, rfl, rfl, rfl, rfl⟩)
  obtain ⟨d1, d2, d3⟩ := REL_dim h2
  obtain ⟨f1, f2⟩ := bgM_f (Ir := Ir) (a := nI w) (b := nI h) (c := c) (by omega)
  have g5 : beginsM Ir (nI w) (nI h) (nI c) 0 5 = nI c := by
    unfold beginsM
    rw [fill_ne (by omega), up_ne (by omega), up_ne (by omega), up_eq]
  have hd : cW I' = w ∧ cH I' = h ∧ cC I' = c := by
    rw [d1, d2, d3]
    unfold rW rH rC
    rw [beginsM_3, beginsM_4, g5, nv_nI (by omega), nv_nI (by omega), nv_nI (by omega)]
    exact ⟨rfl, rfl, rfl⟩
  refine ⟨⟨by rw [h1, nI_add, Nat.add_comm], hb⟩, hd, _, h2, ?_⟩
  rw [hq 140 (by omega), hq 141 (by omega)]
  have hwh : w * h ≤ 25 := Nat.mul_le_mul hs.1.2 hs.2.1.2
  refine lwR_mk h2 hd hs he (fun l hl => ⟨Or.inr ⟨f1 l (by omega), hA l hl⟩, fun k hk => ?_⟩) (fun k hk => ?_)
  · have : manyN (beginsM Ir (nI w) (nI h) (nI c) 1) l = 0 := by
      unfold manyN
      rw [f1 _ (by omega)]
      rfl
    omega
  · rw [hB k (by omega), f2 k (by omega)]
/-- a clue set or taken away -/
theorem LX_setClue {x : Int32} (hX : LX w h c I J) (hl : l < h + w) (hx : x = nI 0 ∨ x = nI 1) {I1 : fx_MI} (h1 : I1 = fx_up I 140 (6 * l) (if x = nI 0 then -nI 1 else nI 0)) (hm : mP I1 J r I' J' R' (post_M_setClue [.ref 0, .int (nI l), .int x])) : (r = some (.int (if I 140 (6 * l) = -nI 1 then nI 0 else nI 1)) ∧ ∃ b', R' = R0C b') ∧ LX w h c I' J' := by
  obtain ⟨hd, Ir, hr, hR⟩ := hX
  have hlo : ∀ q, q < 140 → I1 q = I q := fun q hq => by
    rw [h1]
    exact fx_up_ne (by omega)
  have hr1 := REL_hi hr hlo
  obtain ⟨⟨hb, hq⟩, hm⟩ := hm
  have hs := hR.1.1
  obtain ⟨d1, d2, d3⟩ := REL_dim hr1
  have hd1 := dim_hi hlo
  obtain ⟨h2, h3⟩ := hm Ir hr1 (some (.int (Ir 1 l))) (fx_up (fx_up (keepsM Ir) 1 l (if x = nI 0 then nI 0 else nI 1)) 1 (16 + l) (nI 0)) (Or.inr ⟨l, by rw [← d1, ← d2, hd1.1, hd1.2.1, hd.1, hd.2.1]; exact hl, rfl, rfl, rfl, rfl, rfl⟩)
  have hne : ¬ nI 1 = nI 0 := by decide +kernel
  have hne1 : ¬ nI (manyN (Ir 1) l) = -nI 1 := m1_ne (by have := lwR_m5 hR hl; omega)
  have hdd : cW I' = w ∧ cH I' = h ∧ cC I' = c := by
    obtain ⟨y1, y2, y3⟩ := REL_dim h3
    have z1 : rW (fx_up (fx_up (keepsM Ir) 1 l (if x = nI 0 then nI 0 else nI 1)) 1 (16 + l) (nI 0)) = rW Ir := by
      unfold rW
      rw [up_ne (by omega), up_ne (by omega), keepsM_ne (by omega) (by omega)]
    have z2 : rH (fx_up (fx_up (keepsM Ir) 1 l (if x = nI 0 then nI 0 else nI 1)) 1 (16 + l) (nI 0)) = rH Ir := by
      unfold rH
      rw [up_ne (by omega), up_ne (by omega), keepsM_ne (by omega) (by omega)]
    have z3 : rC (fx_up (fx_up (keepsM Ir) 1 l (if x = nI 0 then nI 0 else nI 1)) 1 (16 + l) (nI 0)) = rC Ir := by
      unfold rC
      rw [up_ne (by omega), up_ne (by omega), keepsM_ne (by omega) (by omega)]
    rw [y1, y2, y3, z1, z2, z3, ← d1, ← d2, ← d3, hd1.1, hd1.2.1, hd1.2.2]
    exact hd
  refine ⟨⟨?_, hb⟩, hdd, _, h3, ?_⟩
  · rw [h2]
    rcases (lwR_f01 hR hl).1 with ⟨g1, g2⟩ | ⟨g1, g2⟩
    · rw [g2, if_neg hne1, g1]
    · rw [g2, if_pos rfl, g1]
  · rw [hq 140 (by omega), hq 141 (by omega)]
    obtain ⟨F, hF⟩ : ∃ F, F = fx_up (fx_up (keepsM Ir) 1 l (if x = nI 0 then nI 0 else nI 1)) 1 (16 + l) (nI 0) := ⟨_, rfl⟩
    rw [← hF] at h3 ⊢
    have v1 : F 1 l = if x = nI 0 then nI 0 else nI 1 := by rw [hF, up_ne (by omega), up_eq]
    have v2 : F 1 (16 + l) = nI 0 := by rw [hF, up_eq]
    have v3 : ∀ k, k ≠ l → k ≠ 16 + l → F 1 k = Ir 1 k := fun k h4 h5 => by rw [hF, up_ne (by omega), up_ne (by omega), keepsM_row]
    have a1 : I1 140 (6 * l) = if x = nI 0 then -nI 1 else nI 0 := by rw [h1, up_eq]
    have a2 : ∀ k, k ≠ 6 * l → I1 140 k = I 140 k := fun k h4 => by rw [h1, up_ne (by omega)]
    have a3 : I1 141 = I 141 := by rw [h1]; exact fx_up_ne (by omega)
    have hm0 : manyN (F 1) l = 0 := by
      unfold manyN
      rw [v2]
      rfl
    refine lwR_mk h3 hdd hs (by rw [a2 60 (by omega), a2 61 (by omega), a2 62 (by omega)]; exact hR.1.2.1) (fun l' hl' => ?_) (fun k hk => ?_)
    · by_cases e : l' = l
      · subst e
        refine ⟨?_, fun k hk => absurd hk (by omega)⟩
        rw [v1, a1, hm0]
        rcases hx with rfl | rfl
        · exact Or.inr ⟨if_pos rfl, if_pos rfl⟩
        · exact Or.inl ⟨if_neg hne, if_neg hne⟩
      · have hm1 : manyN (F 1) l' = manyN (Ir 1) l' := by
          unfold manyN
          rw [v3 _ (by omega) (by omega)]
        have hl1 : ∀ k, lenN (F 1) l' k = lenN (Ir 1) l' k := fun k => by
          unfold lenN
          rw [v3 _ (by omega) (by omega)]
        have hc1 : ∀ k, colN (F 1) l' k = colN (Ir 1) l' k := fun k => by
          unfold colN
          rw [v3 _ (by omega) (by omega)]
        have h5 := lwR_m5 hR hl'
        obtain ⟨g1, g2⟩ := lwR_f01 hR hl'
        rw [hm1, v3 l' e (by omega), a2 _ (by omega)]
        exact ⟨g1, fun k hk => by rw [hl1, hc1, a2 _ (by omega)]; exact g2 k hk⟩
    · have hwh : w * h ≤ 25 := Nat.mul_le_mul hs.1.2 hs.2.1.2
      rw [a3, v3 _ (by omega) (by omega)]
      exact (hR.2.2 k hk).1
/-- a mark set -/
theorem LX_setMark {x y k : Nat} (hX : LX w h c I J) (hx : x < w) (hy : y < h) (hk1 : 1 ≤ k) (hk : k < 2 ^ (c + 1)) {I1 : fx_MI} (h1 : I1 = fx_up I 141 (w * y + x) (nI k)) (hm : mP I1 J r I' J' R' (post_M_setMark [.ref 0, .int (nI x), .int (nI y), .int (nI k)])) : (r = some (.int (I 141 (w * y + x))) ∧ ∃ b', R' = R0C b') ∧ LX w h c I' J' := by
  obtain ⟨hd, Ir, hr, hR⟩ := hX
  have hlo : ∀ q, q < 140 → I1 q = I q := fun q hq => by
    rw [h1]
    exact fx_up_ne (by omega)
  have hr1 := REL_hi hr hlo
  obtain ⟨⟨hb, hq⟩, hm⟩ := hm
  have hs := hR.1.1
  obtain ⟨d1, d2, d3⟩ := REL_dim hr1
  have hd1 := dim_hi hlo
  have w1 : rW Ir = w := by rw [← d1, hd1.1, hd.1]
  have w2 : rH Ir = h := by rw [← d2, hd1.2.1, hd.2.1]
  have w3 : rC Ir = c := by rw [← d3, hd1.2.2, hd.2.2]
  have hlt : w * y + x < w * h := by
    have h2 : w * (y + 1) ≤ w * h := Nat.mul_le_mul_left w hy
    rw [Nat.mul_succ] at h2
    omega
  have hwh : w * h ≤ 25 := Nat.mul_le_mul hs.1.2 hs.2.1.2
  obtain ⟨h2, h3⟩ := hm Ir hr1 (some (.int (Ir 1 (288 + (w * y + x))))) (fx_up (keepsM Ir) 1 (288 + (w * y + x)) (nI k)) (show Q_setMark Ir zJ R0_M (nI x) (nI y) (nI k) _ _ zJ R0_M from ⟨rfl, rfl, Or.inr ⟨x, y, k, by rw [w1]; exact hx, by rw [w2]; exact hy, hk1, by rw [w3]; exact hk, rfl, rfl, rfl, by rw [w1], by rw [w1]⟩⟩)
  have hdd : cW I' = w ∧ cH I' = h ∧ cC I' = c := by
    obtain ⟨y1, y2, y3⟩ := REL_dim h3
    have z1 : rW (fx_up (keepsM Ir) 1 (288 + (w * y + x)) (nI k)) = rW Ir := by
      unfold rW
      rw [up_ne (by omega), keepsM_ne (by omega) (by omega)]
    have z2 : rH (fx_up (keepsM Ir) 1 (288 + (w * y + x)) (nI k)) = rH Ir := by
      unfold rH
      rw [up_ne (by omega), keepsM_ne (by omega) (by omega)]
    have z3 : rC (fx_up (keepsM Ir) 1 (288 + (w * y + x)) (nI k)) = rC Ir := by
      unfold rC
      rw [up_ne (by omega), keepsM_ne (by omega) (by omega)]
    rw [y1, y2, y3, z1, z2, z3]
    exact ⟨w1, w2, w3⟩
  refine ⟨⟨?_, hb⟩, hdd, _, h3, ?_⟩
  · rw [h2, (hR.2.2 _ hlt).1]
  · rw [hq 140 (by omega), hq 141 (by omega)]
    obtain ⟨F, hF⟩ : ∃ F, F = fx_up (keepsM Ir) 1 (288 + (w * y + x)) (nI k) := ⟨_, rfl⟩
    rw [← hF] at h3 ⊢
    have v1 : F 1 (288 + (w * y + x)) = nI k := by rw [hF, up_eq]
    have v3 : ∀ j, j ≠ 288 + (w * y + x) → F 1 j = Ir 1 j := fun j h4 => by rw [hF, up_ne (by omega), keepsM_row]
    have a1 : I1 140 = I 140 := by rw [h1]; exact fx_up_ne (by omega)
    have a2 : I1 141 (w * y + x) = nI k := by rw [h1, up_eq]
    have a3 : ∀ j, j ≠ w * y + x → I1 141 j = I 141 j := fun j h4 => by rw [h1, up_ne (by omega)]
    refine lwR_mk h3 hdd hs (by rw [a1]; exact hR.1.2.1) (fun l' hl' => ?_) (fun j hj => ?_)
    · have h5 := lwR_m5 hR hl'
      have hm1 : manyN (F 1) l' = manyN (Ir 1) l' := by
        unfold manyN
        rw [v3 _ (by omega)]
      have hl1 : ∀ b, b < 8 → lenN (F 1) l' b = lenN (Ir 1) l' b := fun b hb => by
        unfold lenN
        rw [v3 _ (by omega)]
      have hc1 : ∀ b, b < 8 → colN (F 1) l' b = colN (Ir 1) l' b := fun b hb => by
        unfold colN
        rw [v3 _ (by omega)]
      obtain ⟨g1, g2⟩ := lwR_f01 hR hl'
      rw [hm1, v3 l' (by omega), a1]
      exact ⟨g1, fun b hb => by rw [hl1 b (by omega), hc1 b (by omega)]; exact g2 b hb⟩
    · by_cases e : j = w * y + x
      · rw [e, a2, v1]
      · rw [a3 j e, v3 _ (by omega)]
        exact (hR.2.2 j hj).1
end LX_
section LXA
variable {w h c l len col : Nat} {I I' : fx_MI} {J J' : fx_MJ} {R' : fx_MR} {r : Option Value}
def apA (A : Nat → Int32) (l col : Nat) : Nat := if 0 < am A l ∧ ac A l (am A l - 1) = col then 1 else 0
/-- a block that finds no room -/
theorem LX_addNo (hX : LX w h c I J) (hl : l < h + w) (hlen : 1 ≤ len ∧ len ≤ 3) (hcol : 1 ≤ col ∧ col ≤ c) (hno : cellsN w h l < roA (I 140) l (am (I 140) l) + len + apA (I 140) l col) (hm : mP I J r I' J' R' (post_M_addBlock [.ref 0, .int (nI l), .int (nI len), .int (nI col)])) : (r = some (.int (-3)) ∧ ∃ b', R' = R0C b') ∧ LX w h c I' J' ∧ I' 140 = I 140 := by
  obtain ⟨hd, Ir, hr, hR⟩ := hX
  obtain ⟨⟨hb, hq⟩, hm⟩ := hm
  obtain ⟨d1, d2, d3⟩ := REL_dim hr
  have hs := hR.1.1
  have w1 : rW Ir = w := by rw [← d1, hd.1]
  have w2 : rH Ir = h := by rw [← d2, hd.2.1]
  have w3 : rC Ir = c := by rw [← d3, hd.2.2]
  have hok := (hR.2.1 l hl).1
  have ham : am (I 140) l = manyN (Ir 1) l := lwR_am hR hl
  have hgap : gapK (Ir 1) l (manyN (Ir 1) l) (nI col) = apA (I 140) l col := by
    unfold gapK apA
    rw [ham]
    by_cases h0 : 0 < manyN (Ir 1) l
    · have hk : manyN (Ir 1) l - 1 < manyN (Ir 1) l := by omega
      have e1 := (lwR_k hR hl hk).1
      have e2 := col_eq (by omega) hok hk
      rw [e1, show 160 + (8 * l + manyN (Ir 1) l) - 1 = 160 + (8 * l + (manyN (Ir 1) l - 1)) by omega, e2.1]
      simp only [h0, true_and, nI_eq' (show colN (Ir 1) l (manyN (Ir 1) l - 1) < 2 ^ 31 by omega) (show col < 2 ^ 31 by omega)]
    · rw [if_neg (fun z => h0 z.1), if_neg (fun z => h0 z.1)]
  rw [lwR_room hR hl] at hno
  obtain ⟨h2, h3⟩ := hm Ir hr (some (.int (-3))) Ir (Or.inr ⟨l, len, col, by rw [w1, w2]; exact hl, rfl, ⟨by omega, by omega⟩, rfl, by rw [w3]; exact hcol, rfl, Or.inl ⟨by rw [w1, w2, hgap]; exact hno, rfl, rfl, rfl, rfl⟩⟩)
  obtain ⟨y1, y2, y3⟩ := REL_dim h3
  refine ⟨⟨h2, hb⟩, ⟨by rw [y1, y2, y3]; exact ⟨w1, w2, w3⟩, Ir, h3, ?_⟩, hq 140 (by omega)⟩
  rw [hq 140 (by omega), hq 141 (by omega)]
  exact hR
/-- a block put behind the others -/
theorem LX_addYes (hX : LX w h c I J) (hl : l < h + w) (hlen : 1 ≤ len ∧ len ≤ 3) (hcol : 1 ≤ col ∧ col ≤ c) (hyes : roA (I 140) l (am (I 140) l) + len + apA (I 140) l col ≤ cellsN w h l) {I1 : fx_MI} (h1 : I1 = fx_up (fx_up I 140 (6 * l) (nI (am (I 140) l + 1))) 140 (6 * l + am (I 140) l + 1) (nI (4 * len + col))) (hm : mP I1 J r I' J' R' (post_M_addBlock [.ref 0, .int (nI l), .int (nI len), .int (nI col)])) : (r = some (.int (nI (am (I 140) l + 1))) ∧ ∃ b', R' = R0C b') ∧ LX w h c I' J' := by
  obtain ⟨hd, Ir, hr, hR⟩ := hX
  have hlo : ∀ q, q < 140 → I1 q = I q := fun q hq => by
    rw [h1, fx_up_ne (by omega), fx_up_ne (by omega)]
  have hr1 := REL_hi hr hlo
  obtain ⟨⟨hb, hq⟩, hm⟩ := hm
  have hs := hR.1.1
  obtain ⟨d1, d2, d3⟩ := REL_dim hr
  have w1 : rW Ir = w := by rw [← d1, hd.1]
  have w2 : rH Ir = h := by rw [← d2, hd.2.1]
  have w3 : rC Ir = c := by rw [← d3, hd.2.2]
  have hok := (hR.2.1 l hl).1
  have ham : am (I 140) l = manyN (Ir 1) l := lwR_am hR hl
  have hgap : gapK (Ir 1) l (manyN (Ir 1) l) (nI col) = apA (I 140) l col := by
    unfold gapK apA
    rw [ham]
    by_cases h0 : 0 < manyN (Ir 1) l
    · have hk : manyN (Ir 1) l - 1 < manyN (Ir 1) l := by omega
      have e1 := (lwR_k hR hl hk).1
      have e2 := col_eq (by omega) hok hk
      rw [e1, show 160 + (8 * l + manyN (Ir 1) l) - 1 = 160 + (8 * l + (manyN (Ir 1) l - 1)) by omega, e2.1]
      simp only [h0, true_and, nI_eq' (show colN (Ir 1) l (manyN (Ir 1) l - 1) < 2 ^ 31 by omega) (show col < 2 ^ 31 by omega)]
    · rw [if_neg (fun z => h0 z.1), if_neg (fun z => h0 z.1)]
  have hroom := lwR_room hR hl
  rw [hroom] at hyes
  obtain ⟨m, hmm⟩ : ∃ m, m = manyN (Ir 1) l := ⟨_, rfl⟩
  have hcn := lkA_cn (l := l) hR.1
  have hm4 : m ≤ 4 := by
    have := room_ge hok (m := m) (k := manyN (Ir 1) l) (Nat.le_refl _) (by omega)
    omega
  rw [ham, ← hmm] at h1 ⊢
  obtain ⟨F, hF⟩ : ∃ F, F = fx_up (fx_up (fx_up (fx_up (keepsM Ir) 1 l (nI 1)) 1 (32 + (8 * l + m)) (nI len)) 1 (160 + (8 * l + m)) (nI col)) 1 (16 + l) (nI (m + 1)) := ⟨_, rfl⟩
  obtain ⟨h2, h3⟩ := hm Ir hr1 (some (.int (nI (m + 1)))) F (Or.inr ⟨l, len, col, by rw [w1, w2]; exact hl, rfl, ⟨by omega, by omega⟩, rfl, by rw [w3]; exact hcol, rfl, Or.inr ⟨by rw [w1, w2, hgap]; exact hyes, by rw [← hmm], by rw [← hmm, hF], rfl, rfl⟩⟩)
  have v0 : ∀ j, F 0 j = keepsM Ir 0 j := fun j => by rw [hF, up_ne (by omega), up_ne (by omega), up_ne (by omega), up_ne (by omega)]
  have hdd : cW I' = w ∧ cH I' = h ∧ cC I' = c := by
    obtain ⟨y1, y2, y3⟩ := REL_dim h3
    have z1 : rW F = rW Ir := by
      unfold rW
      rw [v0, keepsM_ne (by omega) (by omega)]
    have z2 : rH F = rH Ir := by
      unfold rH
      rw [v0, keepsM_ne (by omega) (by omega)]
    have z3 : rC F = rC Ir := by
      unfold rC
      rw [v0, keepsM_ne (by omega) (by omega)]
    rw [y1, y2, y3, z1, z2, z3]
    exact ⟨w1, w2, w3⟩
  refine ⟨⟨h2, hb⟩, hdd, F, h3, ?_⟩
  rw [hq 140 (by omega), hq 141 (by omega)]
  have v1 : F 1 l = nI 1 := by rw [hF, up_ne (by omega), up_ne (by omega), up_ne (by omega), up_eq]
  have v2 : F 1 (16 + l) = nI (m + 1) := by rw [hF, up_eq]
  have v3 : F 1 (32 + (8 * l + m)) = nI len := by rw [hF, up_ne (by omega), up_ne (by omega), up_eq]
  have v4 : F 1 (160 + (8 * l + m)) = nI col := by rw [hF, up_ne (by omega), up_eq]
  have v5 : ∀ k, k ≠ l → k ≠ 16 + l → k ≠ 32 + (8 * l + m) → k ≠ 160 + (8 * l + m) → F 1 k = Ir 1 k := fun k g1 g2 g3 g4 => by rw [hF, up_ne (by omega), up_ne (by omega), up_ne (by omega), up_ne (by omega), keepsM_row]
  have a1 : I1 140 (6 * l) = nI (m + 1) := by rw [h1, up_ne (by omega), up_eq]
  have a2 : I1 140 (6 * l + m + 1) = nI (4 * len + col) := by rw [h1, up_eq]
  have a3 : ∀ k, k ≠ 6 * l → k ≠ 6 * l + m + 1 → I1 140 k = I 140 k := fun k g1 g2 => by rw [h1, up_ne (by omega), up_ne (by omega)]
  have a4 : I1 141 = I 141 := by rw [h1, fx_up_ne (by omega), fx_up_ne (by omega)]
  have hmF : manyN (F 1) l = m + 1 := by
    unfold manyN
    rw [v2, nv_nI (by omega)]
  refine lwR_mk h3 hdd hs (by rw [a3 60 (by omega) (by omega), a3 61 (by omega) (by omega), a3 62 (by omega) (by omega)]; exact hR.1.2.1) (fun l' hl' => ?_) (fun k hk => ?_)
  · have h5 := lwR_m5 hR hl'
    obtain ⟨g1, g2⟩ := lwR_f01 hR hl'
    by_cases e : l' = l
    · subst e
      refine ⟨Or.inl ⟨v1, by rw [a1, hmF]⟩, fun k hk => ?_⟩
      rw [hmF] at hk
      by_cases ek : k = m
      · subst ek
        rw [show 6 * l' + 1 + k = 6 * l' + k + 1 by omega, a2]
        unfold lenN colN
        rw [v3, v4, nv_nI (by omega), nv_nI (by omega)]
      · rw [a3 _ (by omega) (by omega)]
        have e1 : lenN (F 1) l' k = lenN (Ir 1) l' k := by
          unfold lenN
          rw [v5 _ (by omega) (by omega) (by omega) (by omega)]
        have e2 : colN (F 1) l' k = colN (Ir 1) l' k := by
          unfold colN
          rw [v5 _ (by omega) (by omega) (by omega) (by omega)]
        rw [e1, e2]
        exact g2 k (by omega)
    · have hm1 : manyN (F 1) l' = manyN (Ir 1) l' := by
        unfold manyN
        rw [v5 _ (by omega) (by omega) (by omega) (by omega)]
      have e1 : ∀ k, k < 8 → lenN (F 1) l' k = lenN (Ir 1) l' k := fun k hk => by
        unfold lenN
        rw [v5 _ (by omega) (by omega) (by omega) (by omega)]
      have e2 : ∀ k, k < 8 → colN (F 1) l' k = colN (Ir 1) l' k := fun k hk => by
        unfold colN
        rw [v5 _ (by omega) (by omega) (by omega) (by omega)]
      rw [hm1, v5 l' e (by omega) (by omega) (by omega), a3 _ (by omega) (by omega)]
      refine ⟨g1, fun k hk => ?_⟩
      rw [e1 k (by omega), e2 k (by omega), a3 _ (by omega) (by omega)]
      exact g2 k hk
  · have hwh : w * h ≤ 25 := Nat.mul_le_mul hs.1.2 hs.2.1.2
    rw [a4, v5 _ (by omega) (by omega) (by omega) (by omega)]
    exact (hR.2.2 k hk).1
end LXA
