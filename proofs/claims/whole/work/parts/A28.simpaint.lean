/-! the class: paint (own work) -/
/-- only the picture of now changes -/
theorem REL_nowP {I : fx_MI} {J J' : fx_MJ} {Ir Ir' : fx_MI} (h1 : REL I J Ir) (hJ : ∀ q j, q ≠ 11 → (q < 101) → J' q j = recJ I J 2 q j) (hly : lyO (cW I) (cH I) J' 113) (hr1 : ∀ j, j < 352 → Ir' 1 j = Ir 1 j) (hr2 : ∀ j, Ir' 2 j = keepsM Ir 2 j) (hr10 : ∀ j, Ir' 10 j = keepsM Ir 10 j) (hr0 : ∀ j, j ≠ 13 → j ≠ 20 → j ≠ 21 → Ir' 0 j = keepsM Ir 0 j) (hs : pcR (cW I) (cH I) J' 10 (Ir' 1)) (ho : ∀ k, k < 64 → rg (Ir' 1 (352 + k)) (cC I + 1)) : REL (recI I 2) J' Ir' := by
  have hh := REL_his h1
  obtain ⟨hw, hh2, hc, -⟩ := dimC_of h1.1.1.1
  have hwh := wh_le hw.2 hh2.2
  have hs0 := h1.2.1
  have eJ : ∀ q d, q < 12 → q ≠ 11 → J' q d = J q d := fun q d hq h9 => (hJ q d h9 (by omega)).trans (recJ_ne (Or.inl hq) hh)
  have hcl : clR (cW I) (cH I) (cC I) (recI I 2) 3 (Ir' 1) := by
    refine ⟨fun l hl => ?_, (clR_rec h1).2.1, fun l hl => ?_⟩
    · obtain ⟨g1, g2, g3, g4⟩ := (clR_rec h1).1 l hl
      have h8 := many8 g1
      have hmm : manyN (Ir' 1) l = manyN (Ir 1) l := by unfold manyN; rw [hr1 _ (by omega)]
      refine ⟨⟨by rw [hr1 _ (by omega)]; exact g1.1, by rw [hr1 _ (by omega)]; exact g1.2.1, by rw [hr1 _ (by omega), hr1 _ (by omega)]; exact g1.2.2.1, fun b hb => ?_⟩, by rw [hr1 _ (by omega)]; exact g2, by rw [hr1 _ (by omega)]; exact g3, fun b hb => ?_⟩
      · rw [hmm] at hb
        have := g1.2.2.2 b hb
        unfold lenN colN at this ⊢
        rw [hr1 _ (by omega), hr1 _ (by omega)]
        exact this
      · rw [hmm] at hb
        rw [hr1 _ (by omega), hr1 _ (by omega)]
        exact g4 b hb
    · have hmm : manyN (Ir' 1) l = manyN (Ir 1) l := by unfold manyN; rw [hr1 _ (by omega)]
      have h8 := many8 ((clR_rec h1).1 l (by omega)).1
      have hroom : roomN (Ir' 1) l (manyN (Ir 1) l) = roomN (Ir 1) l (manyN (Ir 1) l) := by
        unfold roomN
        refine sm_cong fun b hb => ?_
        unfold lenN gapN
        rw [hr1 _ (by omega), hr1 _ (by omega), hr1 _ (by omega)]
      rw [hmm, hroom]
      exact (clR_rec h1).2.2 l hl
  exact REL_now h1 (fun q j hq => rfl) (fun q j hq => hJ q j (by omega) (by omega)) hly hr2 hr10 hr0 ⟨hcl, mkR_fr (fun d => eJ _ _ (by omega) (by omega)) ⟨hs0.2.1.1, hs0.2.1.2.1, fun k hk => by rw [hr1 _ (by omega)]; exact hs0.2.1.2.2 k hk⟩, hs, fun k hk => ⟨by rw [hr1 _ (by omega)]; exact (hs0.2.2.2 k hk).1, ho k hk⟩⟩
/-- the bits of a rectangle -/
theorem area_b {a d p q : Nat} (h1 : a + p ≤ 8) (h2 : d + q ≤ 8) (ha : a < 8) (hd : d < 8) {i : Nat} (hi : i < 64) : lb (LB (fun i => decide (i % 8 < p) && decide (i / 8 < q)) <<< ((nI (8 * d + a)).toInt64 &&& 63)) i = decide ((a ≤ i % 8 ∧ i % 8 < a + p) ∧ (d ≤ i / 8 ∧ i / 8 < d + q)) := by
  rw [l_shl (by omega) _ hi, LB_b _ (by omega)]
  rw [Bool.eq_iff_iff]
  simp only [Bool.and_eq_true, decide_eq_true_eq]
  omega
/-- a cell lies in the rectangle -/
theorem area_k {w h a d p q k : Nat} (hw : w ≤ 8) (h1 : a + p ≤ w) (hk : k < w * h) : ((a ≤ k % w ∧ k % w < a + p) ∧ (d ≤ k / w ∧ k / w < d + q)) ↔ ∃ i, i < p * q ∧ k = pcell w a d p i := by
  constructor
  · rintro ⟨⟨k1, k2⟩, k3, k4⟩
    have hx : k % w - a < p := by omega
    have hy : k / w - d < q := by omega
    refine ⟨p * (k / w - d) + (k % w - a), cell_in hx hy, ?_⟩
    have e := dm_ (w := p) (l := k / w - d) hx
    unfold pcell
    rw [e.1, e.2, show d + (k / w - d) = k / w by omega]
    have := Nat.div_add_mod k w
    omega
  · rintro ⟨i, i1, rfl⟩
    have hm := k_dm i1
    unfold pcell
    rw [Nat.add_assoc]
    have e := dm_ (w := w) (l := d + i / p) (show a + i % p < w by omega)
    rw [e.1, e.2]
    exact ⟨⟨Nat.le_add_right _ _, Nat.add_lt_add_left hm.1 _⟩, ⟨Nat.le_add_right _ _, Nat.add_lt_add_left hm.2 _⟩⟩
theorem pcell_idx {w a d p k : Nat} (h : a + k % p < w) : idxK w (pcell w a d p k) = 8 * (d + k / p) + (a + k % p) := by
  unfold pcell
  rw [Nat.add_assoc]
  exact idx_at h
/-- how many cells of a rectangle have another color -/
theorem area_pop {a d p q : Nat} {x A : Int64} {g : Nat → Nat} (hp : 1 ≤ p) (h1 : a + p ≤ 8) (h2 : d + q ≤ 8) (hA : ∀ i, i < 64 → lb A i = decide ((a ≤ i % 8 ∧ i % 8 < a + p) ∧ (d ≤ i / 8 ∧ i / 8 < d + q))) (ha : a < 8) (hd : d < 8) (hg : ∀ k, k < p * q → g k = if lb x (8 * (d + k / p) + (a + k % p)) = true then 0 else 1) : pop 64 (lb (A &&& (x ^^^ -1))) = sm g (p * q) := by
  have e1 : pop 64 (lb (A &&& (x ^^^ -1))) = pop 64 (fun i => lb A i && !lb x i) := pop_c fun i hi => by rw [l_and, l_xor, l_m1 i hi, Bool.xor_true]
  have e2 : pop ((8 * d + a) + (64 - (8 * d + a))) (fun i => lb A i && !lb x i) = pop (8 * d + a) (fun i => lb A i && !lb x i) + pop (64 - (8 * d + a)) (fun i => lb A (8 * d + a + i) && !lb x (8 * d + a + i)) := pop_add _ _ _
  have e3 : pop (8 * d + a) (fun i => lb A i && !lb x i) = 0 := by
    have : pop (8 * d + a) (fun i => lb A i && !lb x i) = pop (8 * d + a) (fun i => decide (i < 0)) := pop_c fun i hi => by
      rw [hA i (by omega), decide_eq_false (by omega), decide_eq_false (by omega), Bool.false_and]
    rw [this]
    exact pop_lt (Nat.zero_le _)
  have e4 : pop (64 - (8 * d + a)) (fun i => lb A (8 * d + a + i) && !lb x (8 * d + a + i)) = pop 64 (fun i => lb A (8 * d + a + i) && !lb x (8 * d + a + i) && decide (i < 64 - (8 * d + a))) := (pop_cut (by omega)).symm
  rw [show 8 * d + a + (64 - (8 * d + a)) = 64 by omega] at e2
  rw [e1, e2, e3, e4, Nat.zero_add, pop_idx (w := p) (h := q) ⟨hp, by omega⟩ (by omega) (fun i hb => by
    rw [Bool.and_eq_true, Bool.and_eq_true, decide_eq_true_eq] at hb
    have h5 := hb.1.1
    rw [hA _ (by omega), decide_eq_true_eq] at h5
    omega)]
  refine sm_cong fun k hk => ?_
  have hm := k_dm hk
  have he : 8 * d + a + idxK p k = 8 * (d + k / p) + (a + k % p) := by
    unfold idxK
    omega
  rw [hg k hk, he, hA _ (by omega), decide_eq_true (by omega), decide_eq_true (by unfold idxK; omega), Bool.and_true, Bool.true_and]
  cases lb x (8 * (d + k / p) + (a + k % p)) <;> rfl
def p_Out_paint : fx_Pr := fx_pr [(0, .aload_n 0, 0), (1, .getfield 12, 0), (4, .iload_n 1, 0), (5, .iload_n 2, 0), (6, .invokevirtual 171, 0), (9, .ifCond .eq 54, 63), (12, .iload_n 3, 0), (13, .iconst 1, 0), (14, .aload_n 0, 0), (15, .getfield 12, 0), (18, .getfield 175, 0), (21, .iload_n 1, 0), (22, .isub, 0), (23, .invokestatic 87, 0), (26, .ifCond .eq 37, 63), (29, .iload 4, 0), (31, .iconst 1, 0), (32, .aload_n 0, 0), (33, .getfield 12, 0), (36, .getfield 178, 0), (39, .iload_n 2, 0), (40, .isub, 0), (41, .invokestatic 87, 0), (44, .ifCond .eq 19, 63), (47, .iload 5, 0), (49, .iconst 0, 0), (50, .aload_n 0, 0), (51, .getfield 12, 0), (54, .getfield 99, 0), (57, .invokestatic 87, 0), (60, .ifCond .ne 6, 66), (63, .bipush (-2), 0), (65, .ireturn, 0), (66, .iload_n 3, 0), (67, .iload 4, 0), (69, .invokestatic 181, 0), (72, .iload_n 1, 0), (73, .iload_n 2, 0), (74, .invokestatic 185, 0), (77, .lshl, 0), (78, .lstore 6, 0), (80, .aload_n 0, 0), (81, .getfield 26, 0), (84, .aload_n 0, 0), (85, .getfield 19, 0), (88, .invokevirtual 111, 0), (91, .lload 6, 0), (93, .aload_n 0, 0), (94, .getfield 19, 0), (97, .getfield 188, 0), (100, .getfield 191, 0), (103, .iload 5, 0), (105, .laload, 0), (106, .ldc2_w 195, 0), (109, .lxor, 0), (110, .land, 0), (111, .invokestatic 197, 0), (114, .istore 8, 0), (116, .aload_n 0, 0), (117, .getfield 19, 0), (120, .getfield 188, 0), (123, .lload 6, 0), (125, .iconst 1, 0), (126, .iload 5, 0), (128, .ishl, 0), (129, .invokevirtual 202, 0), (132, .iload 8, 0), (134, .ireturn, 0)]
theorem pk_Out_paint : fx_prOK b_Out_paint p_Out_paint := fx_pr_ok (by decide +kernel)
theorem q_Out_paint_0 {nL : Nat} {M : fx_M} {ev : fx_Env} {ret : Option FieldType} {P : fx_P} {stops : List (Nat × Nat)} {K : fx_K} {n : Nat} {L : List (Option Value)} {st : List Value} {I : fx_MI} {J : fx_MJ} {R : fx_MR} {X : Nat → fx_K} (hX : fx_isX nL M ev ret P p_Out_paint stops K X) (hs : fx_stop stops 0 = none) : X (n + 1) 0 L st I J R = fx_S nL M ev ret P (.aload_n 0) 0 0 L st I J R (X n) := hX.1 _ _ _ _ _ _ _ _ _ rfl hs
theorem q_Out_paint_1 {nL : Nat} {M : fx_M} {ev : fx_Env} {ret : Option FieldType} {P : fx_P} {stops : List (Nat × Nat)} {K : fx_K} {n : Nat} {L : List (Option Value)} {st : List Value} {I : fx_MI} {J : fx_MJ} {R : fx_MR} {X : Nat → fx_K} (hX : fx_isX nL M ev ret P p_Out_paint stops K X) (hs : fx_stop stops 1 = none) : X (n + 1) 1 L st I J R = fx_S nL M ev ret P (.getfield 12) 0 1 L st I J R (X n) := hX.1 _ _ _ _ _ _ _ _ _ rfl hs
theorem q_Out_paint_4 {nL : Nat} {M : fx_M} {ev : fx_Env} {ret : Option FieldType} {P : fx_P} {stops : List (Nat × Nat)} {K : fx_K} {n : Nat} {L : List (Option Value)} {st : List Value} {I : fx_MI} {J : fx_MJ} {R : fx_MR} {X : Nat → fx_K} (hX : fx_isX nL M ev ret P p_Out_paint stops K X) (hs : fx_stop stops 4 = none) : X (n + 1) 4 L st I J R = fx_S nL M ev ret P (.iload_n 1) 0 4 L st I J R (X n) := hX.1 _ _ _ _ _ _ _ _ _ rfl hs
theorem q_Out_paint_5 {nL : Nat} {M : fx_M} {ev : fx_Env} {ret : Option FieldType} {P : fx_P} {stops : List (Nat × Nat)} {K : fx_K} {n : Nat} {L : List (Option Value)} {st : List Value} {I : fx_MI} {J : fx_MJ} {R : fx_MR} {X : Nat → fx_K} (hX : fx_isX nL M ev ret P p_Out_paint stops K X) (hs : fx_stop stops 5 = none) : X (n + 1) 5 L st I J R = fx_S nL M ev ret P (.iload_n 2) 0 5 L st I J R (X n) := hX.1 _ _ _ _ _ _ _ _ _ rfl hs
theorem q_Out_paint_6 {nL : Nat} {M : fx_M} {ev : fx_Env} {ret : Option FieldType} {P : fx_P} {stops : List (Nat × Nat)} {K : fx_K} {n : Nat} {L : List (Option Value)} {st : List Value} {I : fx_MI} {J : fx_MJ} {R : fx_MR} {X : Nat → fx_K} (hX : fx_isX nL M ev ret P p_Out_paint stops K X) (hs : fx_stop stops 6 = none) : X (n + 1) 6 L st I J R = fx_S nL M ev ret P (.invokevirtual 171) 0 6 L st I J R (X n) := hX.1 _ _ _ _ _ _ _ _ _ rfl hs
theorem q_Out_paint_9 {nL : Nat} {M : fx_M} {ev : fx_Env} {ret : Option FieldType} {P : fx_P} {stops : List (Nat × Nat)} {K : fx_K} {n : Nat} {L : List (Option Value)} {st : List Value} {I : fx_MI} {J : fx_MJ} {R : fx_MR} {x : Int32} {X : Nat → fx_K} (hX : fx_isX nL M ev ret P p_Out_paint stops K X) (hs : fx_stop stops 9 = none) : X (n + 1) 9 L (.int x :: st) I J R = ((x = 0 → X n 63 L st I J R) ∧ (¬ x = 0 → X n 12 L st I J R)) := fx_q_if hX rfl hs rfl
theorem q_Out_paint_12 {nL : Nat} {M : fx_M} {ev : fx_Env} {ret : Option FieldType} {P : fx_P} {stops : List (Nat × Nat)} {K : fx_K} {n : Nat} {L : List (Option Value)} {st : List Value} {I : fx_MI} {J : fx_MJ} {R : fx_MR} {X : Nat → fx_K} (hX : fx_isX nL M ev ret P p_Out_paint stops K X) (hs : fx_stop stops 12 = none) : X (n + 1) 12 L st I J R = fx_S nL M ev ret P (.iload_n 3) 0 12 L st I J R (X n) := hX.1 _ _ _ _ _ _ _ _ _ rfl hs
theorem q_Out_paint_13 {nL : Nat} {M : fx_M} {ev : fx_Env} {ret : Option FieldType} {P : fx_P} {stops : List (Nat × Nat)} {K : fx_K} {n : Nat} {L : List (Option Value)} {st : List Value} {I : fx_MI} {J : fx_MJ} {R : fx_MR} {X : Nat → fx_K} (hX : fx_isX nL M ev ret P p_Out_paint stops K X) (hs : fx_stop stops 13 = none) : X (n + 1) 13 L st I J R = fx_S nL M ev ret P (.iconst 1) 0 13 L st I J R (X n) := hX.1 _ _ _ _ _ _ _ _ _ rfl hs
theorem q_Out_paint_14 {nL : Nat} {M : fx_M} {ev : fx_Env} {ret : Option FieldType} {P : fx_P} {stops : List (Nat × Nat)} {K : fx_K} {n : Nat} {L : List (Option Value)} {st : List Value} {I : fx_MI} {J : fx_MJ} {R : fx_MR} {X : Nat → fx_K} (hX : fx_isX nL M ev ret P p_Out_paint stops K X) (hs : fx_stop stops 14 = none) : X (n + 1) 14 L st I J R = fx_S nL M ev ret P (.aload_n 0) 0 14 L st I J R (X n) := hX.1 _ _ _ _ _ _ _ _ _ rfl hs
theorem q_Out_paint_15 {nL : Nat} {M : fx_M} {ev : fx_Env} {ret : Option FieldType} {P : fx_P} {stops : List (Nat × Nat)} {K : fx_K} {n : Nat} {L : List (Option Value)} {st : List Value} {I : fx_MI} {J : fx_MJ} {R : fx_MR} {X : Nat → fx_K} (hX : fx_isX nL M ev ret P p_Out_paint stops K X) (hs : fx_stop stops 15 = none) : X (n + 1) 15 L st I J R = fx_S nL M ev ret P (.getfield 12) 0 15 L st I J R (X n) := hX.1 _ _ _ _ _ _ _ _ _ rfl hs
theorem q_Out_paint_18 {nL : Nat} {M : fx_M} {ev : fx_Env} {ret : Option FieldType} {P : fx_P} {stops : List (Nat × Nat)} {K : fx_K} {n : Nat} {L : List (Option Value)} {st : List Value} {I : fx_MI} {J : fx_MJ} {R : fx_MR} {X : Nat → fx_K} (hX : fx_isX nL M ev ret P p_Out_paint stops K X) (hs : fx_stop stops 18 = none) : X (n + 1) 18 L st I J R = fx_S nL M ev ret P (.getfield 175) 0 18 L st I J R (X n) := hX.1 _ _ _ _ _ _ _ _ _ rfl hs
theorem q_Out_paint_21 {nL : Nat} {M : fx_M} {ev : fx_Env} {ret : Option FieldType} {P : fx_P} {stops : List (Nat × Nat)} {K : fx_K} {n : Nat} {L : List (Option Value)} {st : List Value} {I : fx_MI} {J : fx_MJ} {R : fx_MR} {X : Nat → fx_K} (hX : fx_isX nL M ev ret P p_Out_paint stops K X) (hs : fx_stop stops 21 = none) : X (n + 1) 21 L st I J R = fx_S nL M ev ret P (.iload_n 1) 0 21 L st I J R (X n) := hX.1 _ _ _ _ _ _ _ _ _ rfl hs
theorem q_Out_paint_22 {nL : Nat} {M : fx_M} {ev : fx_Env} {ret : Option FieldType} {P : fx_P} {stops : List (Nat × Nat)} {K : fx_K} {n : Nat} {L : List (Option Value)} {st : List Value} {I : fx_MI} {J : fx_MJ} {R : fx_MR} {X : Nat → fx_K} (hX : fx_isX nL M ev ret P p_Out_paint stops K X) (hs : fx_stop stops 22 = none) : X (n + 1) 22 L st I J R = fx_S nL M ev ret P (.isub) 0 22 L st I J R (X n) := hX.1 _ _ _ _ _ _ _ _ _ rfl hs
theorem q_Out_paint_23 {nL : Nat} {M : fx_M} {ev : fx_Env} {ret : Option FieldType} {P : fx_P} {stops : List (Nat × Nat)} {K : fx_K} {n : Nat} {L : List (Option Value)} {st : List Value} {I : fx_MI} {J : fx_MJ} {R : fx_MR} {X : Nat → fx_K} (hX : fx_isX nL M ev ret P p_Out_paint stops K X) (hs : fx_stop stops 23 = none) : X (n + 1) 23 L st I J R = fx_S nL M ev ret P (.invokestatic 87) 0 23 L st I J R (X n) := hX.1 _ _ _ _ _ _ _ _ _ rfl hs
theorem q_Out_paint_26 {nL : Nat} {M : fx_M} {ev : fx_Env} {ret : Option FieldType} {P : fx_P} {stops : List (Nat × Nat)} {K : fx_K} {n : Nat} {L : List (Option Value)} {st : List Value} {I : fx_MI} {J : fx_MJ} {R : fx_MR} {x : Int32} {X : Nat → fx_K} (hX : fx_isX nL M ev ret P p_Out_paint stops K X) (hs : fx_stop stops 26 = none) : X (n + 1) 26 L (.int x :: st) I J R = ((x = 0 → X n 63 L st I J R) ∧ (¬ x = 0 → X n 29 L st I J R)) := fx_q_if hX rfl hs rfl
theorem q_Out_paint_29 {nL : Nat} {M : fx_M} {ev : fx_Env} {ret : Option FieldType} {P : fx_P} {stops : List (Nat × Nat)} {K : fx_K} {n : Nat} {L : List (Option Value)} {st : List Value} {I : fx_MI} {J : fx_MJ} {R : fx_MR} {X : Nat → fx_K} (hX : fx_isX nL M ev ret P p_Out_paint stops K X) (hs : fx_stop stops 29 = none) : X (n + 1) 29 L st I J R = fx_S nL M ev ret P (.iload 4) 0 29 L st I J R (X n) := hX.1 _ _ _ _ _ _ _ _ _ rfl hs
theorem q_Out_paint_31 {nL : Nat} {M : fx_M} {ev : fx_Env} {ret : Option FieldType} {P : fx_P} {stops : List (Nat × Nat)} {K : fx_K} {n : Nat} {L : List (Option Value)} {st : List Value} {I : fx_MI} {J : fx_MJ} {R : fx_MR} {X : Nat → fx_K} (hX : fx_isX nL M ev ret P p_Out_paint stops K X) (hs : fx_stop stops 31 = none) : X (n + 1) 31 L st I J R = fx_S nL M ev ret P (.iconst 1) 0 31 L st I J R (X n) := hX.1 _ _ _ _ _ _ _ _ _ rfl hs
theorem q_Out_paint_32 {nL : Nat} {M : fx_M} {ev : fx_Env} {ret : Option FieldType} {P : fx_P} {stops : List (Nat × Nat)} {K : fx_K} {n : Nat} {L : List (Option Value)} {st : List Value} {I : fx_MI} {J : fx_MJ} {R : fx_MR} {X : Nat → fx_K} (hX : fx_isX nL M ev ret P p_Out_paint stops K X) (hs : fx_stop stops 32 = none) : X (n + 1) 32 L st I J R = fx_S nL M ev ret P (.aload_n 0) 0 32 L st I J R (X n) := hX.1 _ _ _ _ _ _ _ _ _ rfl hs
theorem q_Out_paint_33 {nL : Nat} {M : fx_M} {ev : fx_Env} {ret : Option FieldType} {P : fx_P} {stops : List (Nat × Nat)} {K : fx_K} {n : Nat} {L : List (Option Value)} {st : List Value} {I : fx_MI} {J : fx_MJ} {R : fx_MR} {X : Nat → fx_K} (hX : fx_isX nL M ev ret P p_Out_paint stops K X) (hs : fx_stop stops 33 = none) : X (n + 1) 33 L st I J R = fx_S nL M ev ret P (.getfield 12) 0 33 L st I J R (X n) := hX.1 _ _ _ _ _ _ _ _ _ rfl hs
theorem q_Out_paint_36 {nL : Nat} {M : fx_M} {ev : fx_Env} {ret : Option FieldType} {P : fx_P} {stops : List (Nat × Nat)} {K : fx_K} {n : Nat} {L : List (Option Value)} {st : List Value} {I : fx_MI} {J : fx_MJ} {R : fx_MR} {X : Nat → fx_K} (hX : fx_isX nL M ev ret P p_Out_paint stops K X) (hs : fx_stop stops 36 = none) : X (n + 1) 36 L st I J R = fx_S nL M ev ret P (.getfield 178) 0 36 L st I J R (X n) := hX.1 _ _ _ _ _ _ _ _ _ rfl hs
theorem q_Out_paint_39 {nL : Nat} {M : fx_M} {ev : fx_Env} {ret : Option FieldType} {P : fx_P} {stops : List (Nat × Nat)} {K : fx_K} {n : Nat} {L : List (Option Value)} {st : List Value} {I : fx_MI} {J : fx_MJ} {R : fx_MR} {X : Nat → fx_K} (hX : fx_isX nL M ev ret P p_Out_paint stops K X) (hs : fx_stop stops 39 = none) : X (n + 1) 39 L st I J R = fx_S nL M ev ret P (.iload_n 2) 0 39 L st I J R (X n) := hX.1 _ _ _ _ _ _ _ _ _ rfl hs
theorem q_Out_paint_40 {nL : Nat} {M : fx_M} {ev : fx_Env} {ret : Option FieldType} {P : fx_P} {stops : List (Nat × Nat)} {K : fx_K} {n : Nat} {L : List (Option Value)} {st : List Value} {I : fx_MI} {J : fx_MJ} {R : fx_MR} {X : Nat → fx_K} (hX : fx_isX nL M ev ret P p_Out_paint stops K X) (hs : fx_stop stops 40 = none) : X (n + 1) 40 L st I J R = fx_S nL M ev ret P (.isub) 0 40 L st I J R (X n) := hX.1 _ _ _ _ _ _ _ _ _ rfl hs
theorem q_Out_paint_41 {nL : Nat} {M : fx_M} {ev : fx_Env} {ret : Option FieldType} {P : fx_P} {stops : List (Nat × Nat)} {K : fx_K} {n : Nat} {L : List (Option Value)} {st : List Value} {I : fx_MI} {J : fx_MJ} {R : fx_MR} {X : Nat → fx_K} (hX : fx_isX nL M ev ret P p_Out_paint stops K X) (hs : fx_stop stops 41 = none) : X (n + 1) 41 L st I J R = fx_S nL M ev ret P (.invokestatic 87) 0 41 L st I J R (X n) := hX.1 _ _ _ _ _ _ _ _ _ rfl hs
theorem q_Out_paint_44 {nL : Nat} {M : fx_M} {ev : fx_Env} {ret : Option FieldType} {P : fx_P} {stops : List (Nat × Nat)} {K : fx_K} {n : Nat} {L : List (Option Value)} {st : List Value} {I : fx_MI} {J : fx_MJ} {R : fx_MR} {x : Int32} {X : Nat → fx_K} (hX : fx_isX nL M ev ret P p_Out_paint stops K X) (hs : fx_stop stops 44 = none) : X (n + 1) 44 L (.int x :: st) I J R = ((x = 0 → X n 63 L st I J R) ∧ (¬ x = 0 → X n 47 L st I J R)) := fx_q_if hX rfl hs rfl
theorem q_Out_paint_47 {nL : Nat} {M : fx_M} {ev : fx_Env} {ret : Option FieldType} {P : fx_P} {stops : List (Nat × Nat)} {K : fx_K} {n : Nat} {L : List (Option Value)} {st : List Value} {I : fx_MI} {J : fx_MJ} {R : fx_MR} {X : Nat → fx_K} (hX : fx_isX nL M ev ret P p_Out_paint stops K X) (hs : fx_stop stops 47 = none) : X (n + 1) 47 L st I J R = fx_S nL M ev ret P (.iload 5) 0 47 L st I J R (X n) := hX.1 _ _ _ _ _ _ _ _ _ rfl hs
theorem q_Out_paint_49 {nL : Nat} {M : fx_M} {ev : fx_Env} {ret : Option FieldType} {P : fx_P} {stops : List (Nat × Nat)} {K : fx_K} {n : Nat} {L : List (Option Value)} {st : List Value} {I : fx_MI} {J : fx_MJ} {R : fx_MR} {X : Nat → fx_K} (hX : fx_isX nL M ev ret P p_Out_paint stops K X) (hs : fx_stop stops 49 = none) : X (n + 1) 49 L st I J R = fx_S nL M ev ret P (.iconst 0) 0 49 L st I J R (X n) := hX.1 _ _ _ _ _ _ _ _ _ rfl hs
theorem q_Out_paint_50 {nL : Nat} {M : fx_M} {ev : fx_Env} {ret : Option FieldType} {P : fx_P} {stops : List (Nat × Nat)} {K : fx_K} {n : Nat} {L : List (Option Value)} {st : List Value} {I : fx_MI} {J : fx_MJ} {R : fx_MR} {X : Nat → fx_K} (hX : fx_isX nL M ev ret P p_Out_paint stops K X) (hs : fx_stop stops 50 = none) : X (n + 1) 50 L st I J R = fx_S nL M ev ret P (.aload_n 0) 0 50 L st I J R (X n) := hX.1 _ _ _ _ _ _ _ _ _ rfl hs
theorem q_Out_paint_51 {nL : Nat} {M : fx_M} {ev : fx_Env} {ret : Option FieldType} {P : fx_P} {stops : List (Nat × Nat)} {K : fx_K} {n : Nat} {L : List (Option Value)} {st : List Value} {I : fx_MI} {J : fx_MJ} {R : fx_MR} {X : Nat → fx_K} (hX : fx_isX nL M ev ret P p_Out_paint stops K X) (hs : fx_stop stops 51 = none) : X (n + 1) 51 L st I J R = fx_S nL M ev ret P (.getfield 12) 0 51 L st I J R (X n) := hX.1 _ _ _ _ _ _ _ _ _ rfl hs
theorem q_Out_paint_54 {nL : Nat} {M : fx_M} {ev : fx_Env} {ret : Option FieldType} {P : fx_P} {stops : List (Nat × Nat)} {K : fx_K} {n : Nat} {L : List (Option Value)} {st : List Value} {I : fx_MI} {J : fx_MJ} {R : fx_MR} {X : Nat → fx_K} (hX : fx_isX nL M ev ret P p_Out_paint stops K X) (hs : fx_stop stops 54 = none) : X (n + 1) 54 L st I J R = fx_S nL M ev ret P (.getfield 99) 0 54 L st I J R (X n) := hX.1 _ _ _ _ _ _ _ _ _ rfl hs
theorem q_Out_paint_57 {nL : Nat} {M : fx_M} {ev : fx_Env} {ret : Option FieldType} {P : fx_P} {stops : List (Nat × Nat)} {K : fx_K} {n : Nat} {L : List (Option Value)} {st : List Value} {I : fx_MI} {J : fx_MJ} {R : fx_MR} {X : Nat → fx_K} (hX : fx_isX nL M ev ret P p_Out_paint stops K X) (hs : fx_stop stops 57 = none) : X (n + 1) 57 L st I J R = fx_S nL M ev ret P (.invokestatic 87) 0 57 L st I J R (X n) := hX.1 _ _ _ _ _ _ _ _ _ rfl hs
theorem q_Out_paint_60 {nL : Nat} {M : fx_M} {ev : fx_Env} {ret : Option FieldType} {P : fx_P} {stops : List (Nat × Nat)} {K : fx_K} {n : Nat} {L : List (Option Value)} {st : List Value} {I : fx_MI} {J : fx_MJ} {R : fx_MR} {x : Int32} {X : Nat → fx_K} (hX : fx_isX nL M ev ret P p_Out_paint stops K X) (hs : fx_stop stops 60 = none) : X (n + 1) 60 L (.int x :: st) I J R = ((¬ x = 0 → X n 66 L st I J R) ∧ (x = 0 → X n 63 L st I J R)) := fx_q_ifne hX rfl hs rfl
theorem q_Out_paint_63 {nL : Nat} {M : fx_M} {ev : fx_Env} {ret : Option FieldType} {P : fx_P} {stops : List (Nat × Nat)} {K : fx_K} {n : Nat} {L : List (Option Value)} {st : List Value} {I : fx_MI} {J : fx_MJ} {R : fx_MR} {X : Nat → fx_K} (hX : fx_isX nL M ev ret P p_Out_paint stops K X) (hs : fx_stop stops 63 = none) : X (n + 1) 63 L st I J R = fx_S nL M ev ret P (.bipush (-2)) 0 63 L st I J R (X n) := hX.1 _ _ _ _ _ _ _ _ _ rfl hs
theorem q_Out_paint_65 {nL : Nat} {M : fx_M} {ev : fx_Env} {ret : Option FieldType} {P : fx_P} {stops : List (Nat × Nat)} {K : fx_K} {n : Nat} {L : List (Option Value)} {st : List Value} {I : fx_MI} {J : fx_MJ} {R : fx_MR} {X : Nat → fx_K} (hX : fx_isX nL M ev ret P p_Out_paint stops K X) (hs : fx_stop stops 65 = none) : X (n + 1) 65 L st I J R = fx_S nL M ev ret P (.ireturn) 0 65 L st I J R (X n) := hX.1 _ _ _ _ _ _ _ _ _ rfl hs
theorem q_Out_paint_66 {nL : Nat} {M : fx_M} {ev : fx_Env} {ret : Option FieldType} {P : fx_P} {stops : List (Nat × Nat)} {K : fx_K} {n : Nat} {L : List (Option Value)} {st : List Value} {I : fx_MI} {J : fx_MJ} {R : fx_MR} {X : Nat → fx_K} (hX : fx_isX nL M ev ret P p_Out_paint stops K X) (hs : fx_stop stops 66 = none) : X (n + 1) 66 L st I J R = fx_S nL M ev ret P (.iload_n 3) 0 66 L st I J R (X n) := hX.1 _ _ _ _ _ _ _ _ _ rfl hs
theorem q_Out_paint_67 {nL : Nat} {M : fx_M} {ev : fx_Env} {ret : Option FieldType} {P : fx_P} {stops : List (Nat × Nat)} {K : fx_K} {n : Nat} {L : List (Option Value)} {st : List Value} {I : fx_MI} {J : fx_MJ} {R : fx_MR} {X : Nat → fx_K} (hX : fx_isX nL M ev ret P p_Out_paint stops K X) (hs : fx_stop stops 67 = none) : X (n + 1) 67 L st I J R = fx_S nL M ev ret P (.iload 4) 0 67 L st I J R (X n) := hX.1 _ _ _ _ _ _ _ _ _ rfl hs
theorem q_Out_paint_69 {nL : Nat} {M : fx_M} {ev : fx_Env} {ret : Option FieldType} {P : fx_P} {stops : List (Nat × Nat)} {K : fx_K} {n : Nat} {L : List (Option Value)} {st : List Value} {I : fx_MI} {J : fx_MJ} {R : fx_MR} {X : Nat → fx_K} (hX : fx_isX nL M ev ret P p_Out_paint stops K X) (hs : fx_stop stops 69 = none) : X (n + 1) 69 L st I J R = fx_S nL M ev ret P (.invokestatic 181) 0 69 L st I J R (X n) := hX.1 _ _ _ _ _ _ _ _ _ rfl hs
theorem q_Out_paint_72 {nL : Nat} {M : fx_M} {ev : fx_Env} {ret : Option FieldType} {P : fx_P} {stops : List (Nat × Nat)} {K : fx_K} {n : Nat} {L : List (Option Value)} {st : List Value} {I : fx_MI} {J : fx_MJ} {R : fx_MR} {X : Nat → fx_K} (hX : fx_isX nL M ev ret P p_Out_paint stops K X) (hs : fx_stop stops 72 = none) : X (n + 1) 72 L st I J R = fx_S nL M ev ret P (.iload_n 1) 0 72 L st I J R (X n) := hX.1 _ _ _ _ _ _ _ _ _ rfl hs
theorem q_Out_paint_73 {nL : Nat} {M : fx_M} {ev : fx_Env} {ret : Option FieldType} {P : fx_P} {stops : List (Nat × Nat)} {K : fx_K} {n : Nat} {L : List (Option Value)} {st : List Value} {I : fx_MI} {J : fx_MJ} {R : fx_MR} {X : Nat → fx_K} (hX : fx_isX nL M ev ret P p_Out_paint stops K X) (hs : fx_stop stops 73 = none) : X (n + 1) 73 L st I J R = fx_S nL M ev ret P (.iload_n 2) 0 73 L st I J R (X n) := hX.1 _ _ _ _ _ _ _ _ _ rfl hs
theorem q_Out_paint_74 {nL : Nat} {M : fx_M} {ev : fx_Env} {ret : Option FieldType} {P : fx_P} {stops : List (Nat × Nat)} {K : fx_K} {n : Nat} {L : List (Option Value)} {st : List Value} {I : fx_MI} {J : fx_MJ} {R : fx_MR} {X : Nat → fx_K} (hX : fx_isX nL M ev ret P p_Out_paint stops K X) (hs : fx_stop stops 74 = none) : X (n + 1) 74 L st I J R = fx_S nL M ev ret P (.invokestatic 185) 0 74 L st I J R (X n) := hX.1 _ _ _ _ _ _ _ _ _ rfl hs
theorem q_Out_paint_77 {nL : Nat} {M : fx_M} {ev : fx_Env} {ret : Option FieldType} {P : fx_P} {stops : List (Nat × Nat)} {K : fx_K} {n : Nat} {L : List (Option Value)} {st : List Value} {I : fx_MI} {J : fx_MJ} {R : fx_MR} {X : Nat → fx_K} (hX : fx_isX nL M ev ret P p_Out_paint stops K X) (hs : fx_stop stops 77 = none) : X (n + 1) 77 L st I J R = fx_S nL M ev ret P (.lshl) 0 77 L st I J R (X n) := hX.1 _ _ _ _ _ _ _ _ _ rfl hs
theorem q_Out_paint_78 {nL : Nat} {M : fx_M} {ev : fx_Env} {ret : Option FieldType} {P : fx_P} {stops : List (Nat × Nat)} {K : fx_K} {n : Nat} {L : List (Option Value)} {st : List Value} {I : fx_MI} {J : fx_MJ} {R : fx_MR} {X : Nat → fx_K} (hX : fx_isX nL M ev ret P p_Out_paint stops K X) (hs : fx_stop stops 78 = none) : X (n + 1) 78 L st I J R = fx_S nL M ev ret P (.lstore 6) 0 78 L st I J R (X n) := hX.1 _ _ _ _ _ _ _ _ _ rfl hs
theorem q_Out_paint_80 {nL : Nat} {M : fx_M} {ev : fx_Env} {ret : Option FieldType} {P : fx_P} {stops : List (Nat × Nat)} {K : fx_K} {n : Nat} {L : List (Option Value)} {st : List Value} {I : fx_MI} {J : fx_MJ} {R : fx_MR} {X : Nat → fx_K} (hX : fx_isX nL M ev ret P p_Out_paint stops K X) (hs : fx_stop stops 80 = none) : X (n + 1) 80 L st I J R = fx_S nL M ev ret P (.aload_n 0) 0 80 L st I J R (X n) := hX.1 _ _ _ _ _ _ _ _ _ rfl hs
theorem q_Out_paint_81 {nL : Nat} {M : fx_M} {ev : fx_Env} {ret : Option FieldType} {P : fx_P} {stops : List (Nat × Nat)} {K : fx_K} {n : Nat} {L : List (Option Value)} {st : List Value} {I : fx_MI} {J : fx_MJ} {R : fx_MR} {X : Nat → fx_K} (hX : fx_isX nL M ev ret P p_Out_paint stops K X) (hs : fx_stop stops 81 = none) : X (n + 1) 81 L st I J R = fx_S nL M ev ret P (.getfield 26) 0 81 L st I J R (X n) := hX.1 _ _ _ _ _ _ _ _ _ rfl hs
theorem q_Out_paint_84 {nL : Nat} {M : fx_M} {ev : fx_Env} {ret : Option FieldType} {P : fx_P} {stops : List (Nat × Nat)} {K : fx_K} {n : Nat} {L : List (Option Value)} {st : List Value} {I : fx_MI} {J : fx_MJ} {R : fx_MR} {X : Nat → fx_K} (hX : fx_isX nL M ev ret P p_Out_paint stops K X) (hs : fx_stop stops 84 = none) : X (n + 1) 84 L st I J R = fx_S nL M ev ret P (.aload_n 0) 0 84 L st I J R (X n) := hX.1 _ _ _ _ _ _ _ _ _ rfl hs
theorem q_Out_paint_85 {nL : Nat} {M : fx_M} {ev : fx_Env} {ret : Option FieldType} {P : fx_P} {stops : List (Nat × Nat)} {K : fx_K} {n : Nat} {L : List (Option Value)} {st : List Value} {I : fx_MI} {J : fx_MJ} {R : fx_MR} {X : Nat → fx_K} (hX : fx_isX nL M ev ret P p_Out_paint stops K X) (hs : fx_stop stops 85 = none) : X (n + 1) 85 L st I J R = fx_S nL M ev ret P (.getfield 19) 0 85 L st I J R (X n) := hX.1 _ _ _ _ _ _ _ _ _ rfl hs
theorem q_Out_paint_88 {nL : Nat} {M : fx_M} {ev : fx_Env} {ret : Option FieldType} {P : fx_P} {stops : List (Nat × Nat)} {K : fx_K} {n : Nat} {L : List (Option Value)} {st : List Value} {I : fx_MI} {J : fx_MJ} {R : fx_MR} {X : Nat → fx_K} (hX : fx_isX nL M ev ret P p_Out_paint stops K X) (hs : fx_stop stops 88 = none) : X (n + 1) 88 L st I J R = fx_S nL M ev ret P (.invokevirtual 111) 0 88 L st I J R (X n) := hX.1 _ _ _ _ _ _ _ _ _ rfl hs
theorem q_Out_paint_91 {nL : Nat} {M : fx_M} {ev : fx_Env} {ret : Option FieldType} {P : fx_P} {stops : List (Nat × Nat)} {K : fx_K} {n : Nat} {L : List (Option Value)} {st : List Value} {I : fx_MI} {J : fx_MJ} {R : fx_MR} {X : Nat → fx_K} (hX : fx_isX nL M ev ret P p_Out_paint stops K X) (hs : fx_stop stops 91 = none) : X (n + 1) 91 L st I J R = fx_S nL M ev ret P (.lload 6) 0 91 L st I J R (X n) := hX.1 _ _ _ _ _ _ _ _ _ rfl hs
theorem q_Out_paint_93 {nL : Nat} {M : fx_M} {ev : fx_Env} {ret : Option FieldType} {P : fx_P} {stops : List (Nat × Nat)} {K : fx_K} {n : Nat} {L : List (Option Value)} {st : List Value} {I : fx_MI} {J : fx_MJ} {R : fx_MR} {X : Nat → fx_K} (hX : fx_isX nL M ev ret P p_Out_paint stops K X) (hs : fx_stop stops 93 = none) : X (n + 1) 93 L st I J R = fx_S nL M ev ret P (.aload_n 0) 0 93 L st I J R (X n) := hX.1 _ _ _ _ _ _ _ _ _ rfl hs
theorem q_Out_paint_94 {nL : Nat} {M : fx_M} {ev : fx_Env} {ret : Option FieldType} {P : fx_P} {stops : List (Nat × Nat)} {K : fx_K} {n : Nat} {L : List (Option Value)} {st : List Value} {I : fx_MI} {J : fx_MJ} {R : fx_MR} {X : Nat → fx_K} (hX : fx_isX nL M ev ret P p_Out_paint stops K X) (hs : fx_stop stops 94 = none) : X (n + 1) 94 L st I J R = fx_S nL M ev ret P (.getfield 19) 0 94 L st I J R (X n) := hX.1 _ _ _ _ _ _ _ _ _ rfl hs
theorem q_Out_paint_97 {nL : Nat} {M : fx_M} {ev : fx_Env} {ret : Option FieldType} {P : fx_P} {stops : List (Nat × Nat)} {K : fx_K} {n : Nat} {L : List (Option Value)} {st : List Value} {I : fx_MI} {J : fx_MJ} {R : fx_MR} {X : Nat → fx_K} (hX : fx_isX nL M ev ret P p_Out_paint stops K X) (hs : fx_stop stops 97 = none) : X (n + 1) 97 L st I J R = fx_S nL M ev ret P (.getfield 188) 0 97 L st I J R (X n) := hX.1 _ _ _ _ _ _ _ _ _ rfl hs
theorem q_Out_paint_100 {nL : Nat} {M : fx_M} {ev : fx_Env} {ret : Option FieldType} {P : fx_P} {stops : List (Nat × Nat)} {K : fx_K} {n : Nat} {L : List (Option Value)} {st : List Value} {I : fx_MI} {J : fx_MJ} {R : fx_MR} {X : Nat → fx_K} (hX : fx_isX nL M ev ret P p_Out_paint stops K X) (hs : fx_stop stops 100 = none) : X (n + 1) 100 L st I J R = fx_S nL M ev ret P (.getfield 191) 0 100 L st I J R (X n) := hX.1 _ _ _ _ _ _ _ _ _ rfl hs
theorem q_Out_paint_103 {nL : Nat} {M : fx_M} {ev : fx_Env} {ret : Option FieldType} {P : fx_P} {stops : List (Nat × Nat)} {K : fx_K} {n : Nat} {L : List (Option Value)} {st : List Value} {I : fx_MI} {J : fx_MJ} {R : fx_MR} {X : Nat → fx_K} (hX : fx_isX nL M ev ret P p_Out_paint stops K X) (hs : fx_stop stops 103 = none) : X (n + 1) 103 L st I J R = fx_S nL M ev ret P (.iload 5) 0 103 L st I J R (X n) := hX.1 _ _ _ _ _ _ _ _ _ rfl hs
theorem q_Out_paint_105 {nL : Nat} {M : fx_M} {ev : fx_Env} {ret : Option FieldType} {P : fx_P} {stops : List (Nat × Nat)} {K : fx_K} {n : Nat} {L : List (Option Value)} {st : List Value} {I : fx_MI} {J : fx_MJ} {R : fx_MR} {X : Nat → fx_K} (hX : fx_isX nL M ev ret P p_Out_paint stops K X) (hs : fx_stop stops 105 = none) : X (n + 1) 105 L st I J R = fx_S nL M ev ret P (.laload) 0 105 L st I J R (X n) := hX.1 _ _ _ _ _ _ _ _ _ rfl hs
theorem q_Out_paint_106 {nL : Nat} {M : fx_M} {ev : fx_Env} {ret : Option FieldType} {P : fx_P} {stops : List (Nat × Nat)} {K : fx_K} {n : Nat} {L : List (Option Value)} {st : List Value} {I : fx_MI} {J : fx_MJ} {R : fx_MR} {X : Nat → fx_K} (hX : fx_isX nL M ev ret P p_Out_paint stops K X) (hs : fx_stop stops 106 = none) : X (n + 1) 106 L st I J R = fx_S nL M ev ret P (.ldc2_w 195) 0 106 L st I J R (X n) := hX.1 _ _ _ _ _ _ _ _ _ rfl hs
theorem q_Out_paint_109 {nL : Nat} {M : fx_M} {ev : fx_Env} {ret : Option FieldType} {P : fx_P} {stops : List (Nat × Nat)} {K : fx_K} {n : Nat} {L : List (Option Value)} {st : List Value} {I : fx_MI} {J : fx_MJ} {R : fx_MR} {X : Nat → fx_K} (hX : fx_isX nL M ev ret P p_Out_paint stops K X) (hs : fx_stop stops 109 = none) : X (n + 1) 109 L st I J R = fx_S nL M ev ret P (.lxor) 0 109 L st I J R (X n) := hX.1 _ _ _ _ _ _ _ _ _ rfl hs
theorem q_Out_paint_110 {nL : Nat} {M : fx_M} {ev : fx_Env} {ret : Option FieldType} {P : fx_P} {stops : List (Nat × Nat)} {K : fx_K} {n : Nat} {L : List (Option Value)} {st : List Value} {I : fx_MI} {J : fx_MJ} {R : fx_MR} {X : Nat → fx_K} (hX : fx_isX nL M ev ret P p_Out_paint stops K X) (hs : fx_stop stops 110 = none) : X (n + 1) 110 L st I J R = fx_S nL M ev ret P (.land) 0 110 L st I J R (X n) := hX.1 _ _ _ _ _ _ _ _ _ rfl hs
theorem q_Out_paint_111 {nL : Nat} {M : fx_M} {ev : fx_Env} {ret : Option FieldType} {P : fx_P} {stops : List (Nat × Nat)} {K : fx_K} {n : Nat} {L : List (Option Value)} {st : List Value} {I : fx_MI} {J : fx_MJ} {R : fx_MR} {X : Nat → fx_K} (hX : fx_isX nL M ev ret P p_Out_paint stops K X) (hs : fx_stop stops 111 = none) : X (n + 1) 111 L st I J R = fx_S nL M ev ret P (.invokestatic 197) 0 111 L st I J R (X n) := hX.1 _ _ _ _ _ _ _ _ _ rfl hs
theorem q_Out_paint_114 {nL : Nat} {M : fx_M} {ev : fx_Env} {ret : Option FieldType} {P : fx_P} {stops : List (Nat × Nat)} {K : fx_K} {n : Nat} {L : List (Option Value)} {st : List Value} {I : fx_MI} {J : fx_MJ} {R : fx_MR} {X : Nat → fx_K} (hX : fx_isX nL M ev ret P p_Out_paint stops K X) (hs : fx_stop stops 114 = none) : X (n + 1) 114 L st I J R = fx_S nL M ev ret P (.istore 8) 0 114 L st I J R (X n) := hX.1 _ _ _ _ _ _ _ _ _ rfl hs
theorem q_Out_paint_116 {nL : Nat} {M : fx_M} {ev : fx_Env} {ret : Option FieldType} {P : fx_P} {stops : List (Nat × Nat)} {K : fx_K} {n : Nat} {L : List (Option Value)} {st : List Value} {I : fx_MI} {J : fx_MJ} {R : fx_MR} {X : Nat → fx_K} (hX : fx_isX nL M ev ret P p_Out_paint stops K X) (hs : fx_stop stops 116 = none) : X (n + 1) 116 L st I J R = fx_S nL M ev ret P (.aload_n 0) 0 116 L st I J R (X n) := hX.1 _ _ _ _ _ _ _ _ _ rfl hs
theorem q_Out_paint_117 {nL : Nat} {M : fx_M} {ev : fx_Env} {ret : Option FieldType} {P : fx_P} {stops : List (Nat × Nat)} {K : fx_K} {n : Nat} {L : List (Option Value)} {st : List Value} {I : fx_MI} {J : fx_MJ} {R : fx_MR} {X : Nat → fx_K} (hX : fx_isX nL M ev ret P p_Out_paint stops K X) (hs : fx_stop stops 117 = none) : X (n + 1) 117 L st I J R = fx_S nL M ev ret P (.getfield 19) 0 117 L st I J R (X n) := hX.1 _ _ _ _ _ _ _ _ _ rfl hs
theorem q_Out_paint_120 {nL : Nat} {M : fx_M} {ev : fx_Env} {ret : Option FieldType} {P : fx_P} {stops : List (Nat × Nat)} {K : fx_K} {n : Nat} {L : List (Option Value)} {st : List Value} {I : fx_MI} {J : fx_MJ} {R : fx_MR} {X : Nat → fx_K} (hX : fx_isX nL M ev ret P p_Out_paint stops K X) (hs : fx_stop stops 120 = none) : X (n + 1) 120 L st I J R = fx_S nL M ev ret P (.getfield 188) 0 120 L st I J R (X n) := hX.1 _ _ _ _ _ _ _ _ _ rfl hs
theorem q_Out_paint_123 {nL : Nat} {M : fx_M} {ev : fx_Env} {ret : Option FieldType} {P : fx_P} {stops : List (Nat × Nat)} {K : fx_K} {n : Nat} {L : List (Option Value)} {st : List Value} {I : fx_MI} {J : fx_MJ} {R : fx_MR} {X : Nat → fx_K} (hX : fx_isX nL M ev ret P p_Out_paint stops K X) (hs : fx_stop stops 123 = none) : X (n + 1) 123 L st I J R = fx_S nL M ev ret P (.lload 6) 0 123 L st I J R (X n) := hX.1 _ _ _ _ _ _ _ _ _ rfl hs
theorem q_Out_paint_125 {nL : Nat} {M : fx_M} {ev : fx_Env} {ret : Option FieldType} {P : fx_P} {stops : List (Nat × Nat)} {K : fx_K} {n : Nat} {L : List (Option Value)} {st : List Value} {I : fx_MI} {J : fx_MJ} {R : fx_MR} {X : Nat → fx_K} (hX : fx_isX nL M ev ret P p_Out_paint stops K X) (hs : fx_stop stops 125 = none) : X (n + 1) 125 L st I J R = fx_S nL M ev ret P (.iconst 1) 0 125 L st I J R (X n) := hX.1 _ _ _ _ _ _ _ _ _ rfl hs
theorem q_Out_paint_126 {nL : Nat} {M : fx_M} {ev : fx_Env} {ret : Option FieldType} {P : fx_P} {stops : List (Nat × Nat)} {K : fx_K} {n : Nat} {L : List (Option Value)} {st : List Value} {I : fx_MI} {J : fx_MJ} {R : fx_MR} {X : Nat → fx_K} (hX : fx_isX nL M ev ret P p_Out_paint stops K X) (hs : fx_stop stops 126 = none) : X (n + 1) 126 L st I J R = fx_S nL M ev ret P (.iload 5) 0 126 L st I J R (X n) := hX.1 _ _ _ _ _ _ _ _ _ rfl hs
theorem q_Out_paint_128 {nL : Nat} {M : fx_M} {ev : fx_Env} {ret : Option FieldType} {P : fx_P} {stops : List (Nat × Nat)} {K : fx_K} {n : Nat} {L : List (Option Value)} {st : List Value} {I : fx_MI} {J : fx_MJ} {R : fx_MR} {X : Nat → fx_K} (hX : fx_isX nL M ev ret P p_Out_paint stops K X) (hs : fx_stop stops 128 = none) : X (n + 1) 128 L st I J R = fx_S nL M ev ret P (.ishl) 0 128 L st I J R (X n) := hX.1 _ _ _ _ _ _ _ _ _ rfl hs
theorem q_Out_paint_129 {nL : Nat} {M : fx_M} {ev : fx_Env} {ret : Option FieldType} {P : fx_P} {stops : List (Nat × Nat)} {K : fx_K} {n : Nat} {L : List (Option Value)} {st : List Value} {I : fx_MI} {J : fx_MJ} {R : fx_MR} {X : Nat → fx_K} (hX : fx_isX nL M ev ret P p_Out_paint stops K X) (hs : fx_stop stops 129 = none) : X (n + 1) 129 L st I J R = fx_S nL M ev ret P (.invokevirtual 202) 0 129 L st I J R (X n) := hX.1 _ _ _ _ _ _ _ _ _ rfl hs
theorem q_Out_paint_132 {nL : Nat} {M : fx_M} {ev : fx_Env} {ret : Option FieldType} {P : fx_P} {stops : List (Nat × Nat)} {K : fx_K} {n : Nat} {L : List (Option Value)} {st : List Value} {I : fx_MI} {J : fx_MJ} {R : fx_MR} {X : Nat → fx_K} (hX : fx_isX nL M ev ret P p_Out_paint stops K X) (hs : fx_stop stops 132 = none) : X (n + 1) 132 L st I J R = fx_S nL M ev ret P (.iload 8) 0 132 L st I J R (X n) := hX.1 _ _ _ _ _ _ _ _ _ rfl hs
theorem q_Out_paint_134 {nL : Nat} {M : fx_M} {ev : fx_Env} {ret : Option FieldType} {P : fx_P} {stops : List (Nat × Nat)} {K : fx_K} {n : Nat} {L : List (Option Value)} {st : List Value} {I : fx_MI} {J : fx_MJ} {R : fx_MR} {X : Nat → fx_K} (hX : fx_isX nL M ev ret P p_Out_paint stops K X) (hs : fx_stop stops 134 = none) : X (n + 1) 134 L st I J R = fx_S nL M ev ret P (.ireturn) 0 134 L st I J R (X n) := hX.1 _ _ _ _ _ _ _ _ _ rfl hs
def pre_Out_paint (n : Nat) : fx_Pre := fun st I J R => (∃ b, R = R0C b) ∧ (match st with
  | [.ref 0, .int v, .int w, .int y, .int z, .int s] => relE I J
  | _ => False)
theorem pi_Out_paint {n : Nat} {st : List Value} {I : fx_MI} {J : fx_MJ} {R : fx_MR} (h : pre_Out_paint n st I J R) : (∃ b, R = R0C b) ∧ ∃ v, ∃ w, ∃ y, ∃ z, ∃ s, st = [.ref 0, .int v, .int w, .int y, .int z, .int s] ∧ (relE I J) := by
  unfold pre_Out_paint at h
  obtain ⟨h0, h⟩ := h
  split at h
  · exact ⟨h0, _, _, _, _, _, rfl, h⟩
  · cases h
def post_Out_paint (n : Nat) : fx_Post := fun st I J R r I' J' R' => match st with
  | [_, .int v, .int w, .int y, .int z, .int s] => simP (post_M_paint [.ref 0, .int v, .int w, .int y, .int z, .int s]) I J r I' J' R'
  | _ => True
theorem pz_Out_paint {st : List Value} {I : fx_MI} {J : fx_MJ} {R : fx_MR} (n : Nat) (h : pre_Out_paint n st I J R) : ∃ q r, st = .ref q :: r ∧ (MC n).2.2.1 q = some (.inl 0) ∧ r.length = 5 := by
  obtain ⟨_, _, _, _, _, _, rfl, _⟩ := pi_Out_paint h
  exact ⟨_, _, rfl, rfl, rfl⟩
def v_Out_paint (n : Nat) : fx_Env := [(.getfield 12, fx_tget (MC n) 0 0), (.invokevirtual 171, fx_tcall 3 (pre_Grid_hasCell n) (post_Grid_hasCell n)), (.getfield 175, fx_tget (MC n) 1 0), (.invokestatic 87, fx_tcall 3 (pre_Out_isWithin n) (post_Out_isWithin n)), (.getfield 178, fx_tget (MC n) 1 1), (.getfield 99, fx_tget (MC n) 1 2), (.invokestatic 181, fx_tcall 2 (pre_Grid_rectangle n) (post_Grid_rectangle n)), (.invokestatic 185, fx_tcall 2 (pre_Grid_index n) (post_Grid_index n)), (.getfield 26, fx_tget (MC n) 0 2), (.getfield 19, fx_tget (MC n) 0 1), (.invokevirtual 111, fx_tcall 2 (pre_History_record n) (post_History_record n)), (.getfield 188, fx_tget (MC n) 2 2), (.getfield 191, fx_tget (MC n) 4 0), (.ldc2_w 195, fx_tldc (.long (-1))), (.invokestatic 197, fx_tcall 1 (pre_J13_bitCount_95d88 n) (post_J13_bitCount_95d88 n)), (.invokevirtual 202, fx_tcall 3 (pre_Layer_put n) (post_Layer_put n))]
abbrev rm_Out_paint : Room := { frames := 4, cells := 0, slots := 0, locals := 123 }
abbrev ws_Out_paint : List Cond := Cond.code y_Out_paint b_Out_paint 9 (some .int) :: w_C
theorem e_Out_c181 {l : Launch} {c0 : Cond} {rm : Room} {n nL : Nat} {cc : ByteArray} (hR : rm_Grid_rectangle.frames + 1 ≤ rm.frames ∧ 8 + (2 + 11) + rm_Grid_rectangle.locals ≤ rm.locals) : fx_E1 l R_Out (c0 :: w_C) rm (MC n) nL cc (.invokestatic 181) (fx_tcall 2 (pre_Grid_rectangle n) (post_Grid_rectangle n)) := fx_callS2 (c_Grid_rectangle l n) (w_C_GS (w_C_h11 1 rfl) (w_C_h6 22 rfl) (w_C_h0 37 rfl) (w_C_h6 17 rfl)) rfl ⟨rfl, rfl⟩ (by decide) hR (fun st I J R h => pz_Grid_rectangle n h)
theorem e_Out_c185 {l : Launch} {c0 : Cond} {rm : Room} {n nL : Nat} {cc : ByteArray} (hR : rm_Grid_index.frames + 1 ≤ rm.frames ∧ 8 + (2 + 11) + rm_Grid_index.locals ≤ rm.locals) : fx_E1 l R_Out (c0 :: w_C) rm (MC n) nL cc (.invokestatic 185) (fx_tcall 2 (pre_Grid_index n) (post_Grid_index n)) := fx_callS2 (c_Grid_index l n) (w_C_GS (w_C_h11 2 rfl) (w_C_h2 36 rfl) (w_C_h0 37 rfl) (w_C_h2 33 rfl)) rfl ⟨rfl, rfl⟩ (by decide) hR (fun st I J R h => pz_Grid_index n h)
theorem vk_Out_paint {l : Launch} {n : Nat} : fx_EV l R_Out ws_Out_paint rm_Out_paint (MC n) 9 b_Out_paint (v_Out_paint n) := (fx_EV_cons e_Out_g12 (fx_EV_cons (e_Out_c171 (by decide)) (fx_EV_cons e_Out_g175 (fx_EV_cons (e_Out_c87 (by decide)) (fx_EV_cons e_Out_g178 (fx_EV_cons e_Out_g99 (fx_EV_cons (e_Out_c181 (by decide)) (fx_EV_cons (e_Out_c185 (by decide)) (fx_EV_cons e_Out_g26 (fx_EV_cons e_Out_g19 (fx_EV_cons (e_Out_c111 (by decide)) (fx_EV_cons e_Out_g188 (fx_EV_cons e_Out_g191 (fx_EV_cons e_Out_l195 (fx_EV_cons (e_Out_c197 (by decide)) (fx_EV_cons (e_Out_c202 (by decide)) fx_EV_nil))))))))))))))))
theorem r_Out_paint (n : Nat) (st : List Value) (I : fx_MI) (J : fx_MJ) (R : fx_MR) (h : pre_Out_paint n st I J R) : fx_sz st ≤ 9 ∧ fx_R 9 (MC n) (v_Out_paint n) (some .int) (post_Out_paint n st I J R) p_Out_paint 0 (fx_en st) [] I J R := by
  obtain ⟨⟨b, rfl⟩, v, w, y, z, s, rfl, hp⟩ := pi_Out_paint h
  clear h
  refine ⟨Nat.le_of_ble_eq_true rfl, ?_⟩
  obtain ⟨Ir0, hr0⟩ := hp
  have hh := REL_his hr0
  obtain ⟨hw, hh2, hc, e0, e1, e2⟩ := dimC_of hr0.1.1.1
  have hwh := wh_le hw.2 hh2.2
  have eJ : ∀ q d, (q < 12 ∨ 94 ≤ q) → recJ I J 2 q d = J q d := fun q d hq => recJ_ne hq hh
  have hpc : ∀ Ir, REL I J Ir → paintC Ir v w y z s = (hasC (cW I) (cH I) v w && in_M y (nI 1) (nI (cW I) - v) && in_M z (nI 1) (nI (cH I) - w) && in_M s (nI 0) (nI (cC I))) := fun Ir hr => by
    obtain ⟨g1, g2, g3⟩ := REL_d hr
    unfold paintC
    rw [inC_e hr, g1, g2, g3]
    rfl
  have hno : (hasC (cW I) (cH I) v w && in_M y (nI 1) (nI (cW I) - v) && in_M z (nI 1) (nI (cH I) - w) && in_M s (nI 0) (nI (cC I))) = false → post_Out_paint n [.ref 0, .int v, .int w, .int y, .int z, .int s] I J (R0C b) (some (.int (-nI 2))) I J (R0C b) := fun h1 => by
    refine ⟨⟨b, rfl⟩, fun Ir hr Jr r2 Ir2 Jr2 Rr2 hq => ?_⟩
    obtain ⟨rfl, rfl, ⟨k1, rfl, rfl⟩ | ⟨k1, -⟩⟩ := hq
    · exact ⟨rfl, rfl, hr⟩
    · rw [hpc Ir hr, h1] at k1
      exact absurd k1 (by decide)
  refine fx_run0 120 fun X hX => ?_
  simp only [q_Out_paint_0 hX rfl, q_Out_paint_1 hX rfl, q_Out_paint_4 hX rfl, q_Out_paint_5 hX rfl, q_Out_paint_6 hX rfl, q_Out_paint_9 hX rfl, q_Out_paint_12 hX rfl, q_Out_paint_13 hX rfl, q_Out_paint_14 hX rfl, q_Out_paint_15 hX rfl, q_Out_paint_18 hX rfl, q_Out_paint_21 hX rfl, q_Out_paint_22 hX rfl, q_Out_paint_23 hX rfl, q_Out_paint_26 hX rfl, q_Out_paint_29 hX rfl, q_Out_paint_31 hX rfl, q_Out_paint_32 hX rfl, q_Out_paint_33 hX rfl, q_Out_paint_36 hX rfl, q_Out_paint_39 hX rfl, q_Out_paint_40 hX rfl, q_Out_paint_41 hX rfl, q_Out_paint_44 hX rfl, q_Out_paint_47 hX rfl, q_Out_paint_49 hX rfl, q_Out_paint_50 hX rfl, q_Out_paint_51 hX rfl, q_Out_paint_54 hX rfl, q_Out_paint_57 hX rfl, q_Out_paint_60 hX rfl, q_Out_paint_63 hX rfl, q_Out_paint_65 hX rfl, q_Out_paint_66 hX rfl, q_Out_paint_67 hX rfl, q_Out_paint_69 hX rfl, q_Out_paint_72 hX rfl, q_Out_paint_73 hX rfl, q_Out_paint_74 hX rfl, q_Out_paint_77 hX rfl, q_Out_paint_78 hX rfl, q_Out_paint_80 hX rfl, q_Out_paint_81 hX rfl, q_Out_paint_84 hX rfl, q_Out_paint_85 hX rfl, q_Out_paint_88 hX rfl, q_Out_paint_91 hX rfl, q_Out_paint_93 hX rfl, q_Out_paint_94 hX rfl, q_Out_paint_97 hX rfl, q_Out_paint_100 hX rfl, q_Out_paint_103 hX rfl, q_Out_paint_105 hX rfl, q_Out_paint_106 hX rfl, q_Out_paint_109 hX rfl, q_Out_paint_110 hX rfl, q_Out_paint_111 hX rfl, q_Out_paint_114 hX rfl, q_Out_paint_116 hX rfl, q_Out_paint_117 hX rfl, q_Out_paint_120 hX rfl, q_Out_paint_123 hX rfl, q_Out_paint_125 hX rfl, q_Out_paint_126 hX rfl, q_Out_paint_128 hX rfl, q_Out_paint_129 hX rfl, q_Out_paint_132 hX rfl, q_Out_paint_134 hX rfl, fs_aload_n0, fs_aload_n1, fs_aload_n2, fs_aload_n3, fs_bipush, fs_getfield, fs_iconst, fs_ifCond, fs_iload, fs_iload_n0, fs_iload_n1, fs_iload_n2, fs_iload_n3, fs_invokestatic, fs_invokevirtual, fs_ireturn, fs_ishl, fs_istore, fs_isub, fs_laload, fs_land, fs_ldc2_w, fs_lload, fs_lshl, fs_lstore, fs_lxor, v_Out_paint, ci_1, ci_0, cb_m2, lt_7_9, lt_8_9, pre_Grid_hasCell, post_Grid_hasCell, pre_Out_isWithin, post_Out_isWithin, pre_Grid_rectangle, post_Grid_rectangle, pre_Grid_index, post_Grid_index, pre_History_record, post_History_record, pre_J13_bitCount_95d88, post_J13_bitCount_95d88, pre_Layer_put, post_Layer_put, kd_C_0_0, pl_C_0, R0C_0_0, pl_C_1, kd_C_1_0, kd_C_1_1, kd_C_1_2, kd_C_0_2, R0C_0_2, pl_C_12, kd_C_0_1, R0C_0_1, pl_C_2, kd_C_2_2, R0C_2_2, pl_C_10, kd_C_4_0, pl_C_8, R0C_8_0, pl_C_9, R0C_10_0, pl_C_11, pl_C_113, R0C_113_0, pl_C_114, pl_C_115, R0C_115_0, pl_C_116, pl_C_118, R0C_118_0, pl_C_119, fx_oi_s, fx_ol_s, fx_or_s, fx_do_s, fx_lg_0, fx_lg_s, fx_ls_0, fx_ls_s, fx_ls_n0, fx_ls_ns, fx_en, fx_sz, Value.category, fx_nl, fx_lk, fx_tget, fx_tput, fx_tcall, fx_tldc, fx_fv, va_rf, fx_cat, fx_in, fx_cnd, fx_len, fx_narI, fx_narZ0, fx_narZ1, fx_narZb, zb_e, zb_ne, Option.some.injEq, Value.int.injEq, Value.long.injEq, Value.ref.injEq, List.cons.injEq, Nat.reduceAdd, Nat.reduceLeDiff, Nat.le_refl, List.take, List.drop, List.reverse_cons, List.reverse_nil, List.nil_append, List.cons_append, List.append_nil, List.map_cons, List.map_nil, List.sum_cons, List.sum_nil, List.length_cons, List.length_nil, Option.toList, fx_all4, forall_const, true_and, and_true, not_true_eq_false, not_false_eq_true, false_implies, true_implies, ne_eq, reduceCtorEq, Nat.reduceEqDiff, ite_true, ite_false, reduceIte, Instr.getfield.injEq, Instr.putfield.injEq, Instr.invokevirtual.injEq, Instr.invokestatic.injEq, Instr.ldc2_w.injEq, fx_tcopy, Instr.ldc.injEq, Instr.ldc_w.injEq, exists_eq_left, exists_prop, R0C_ex]
  simp (disch := omega) only [lit, nI_add, nI_mul', nI_sub', nI_clamp, nI_lt', nI_le', nI_eq', nI_in', iinc1, zb_n0, nI_div', nI_rem2, true_and, and_true, Nat.reduceEqDiff, Nat.reduceLeDiff, Nat.one_ne_zero, Nat.zero_ne_one, not_false_eq_true, not_true_eq_false, false_implies, true_implies, forall_const, Nat.zero_add, Nat.add_zero, nv_nI, up_eq, up_ne, fill_ne, nI_clamp, nI_add, e0, e1, e2]
  refine ⟨fun h1 => hno ?_, fun h1 => ⟨fun h2 => hno ?_, fun h2 => ⟨fun h3 => hno ?_, fun h3 => ⟨fun h4 => ?_, fun h4 => hno ?_⟩⟩⟩⟩
  · rw [show hasC (cW I) (cH I) v w = false from h1, Bool.false_and, Bool.false_and, Bool.false_and]
  · rw [h2, Bool.and_false, Bool.false_and, Bool.false_and]
  · rw [h3, Bool.and_false, Bool.false_and]
  rotate_left
  · rw [h4, Bool.and_false]
  have hb1 := bnf h1
  have hb2 := bnf h2
  have hb3 := bnf h3
  have hb4 := bnf h4
  obtain ⟨a, d, ha, hd, rfl, rfl⟩ := hasC_t hw hh2 hb1
  rw [nI_sub' (by omega)] at hb2 hb3
  obtain ⟨p, hp1, hp2, rfl⟩ := in_t (by omega) (by omega) hb2
  obtain ⟨q, hq1, hq2, rfl⟩ := in_t (by omega) (by omega) hb3
  obtain ⟨k, -, hk, rfl⟩ := in_t (by omega) (by omega) hb4
  have hsh : nI 8 * nI d + nI a = nI (8 * d + a) := by simp (disch := omega) only [nI_mul', nI_add]
  rw [nv_nI (by omega), nv_nI (by omega), hsh, show (nI k).toNatClampNeg = k from nv_nI (by omega), eJ 11 k (by omega)]
  have hA := fun i (hi : i < 64) => area_b (a := a) (d := d) (p := p) (q := q) (by omega) (by omega) (by omega) (by omega) hi
  generalize (LB fun i => decide (i % 8 < p) && decide (i / 8 < q)) <<< ((nI (8 * d + a)).toInt64 &&& 63) = A at hA ⊢
  refine ⟨⟨p, q, by omega, by omega, hq1, rfl, rfl⟩, ⟨rfl, hh⟩, by simp (disch := omega) only [nI_in'], rfl, ⟨b, rfl⟩, fun Ir hr Jr r2 Ir2 Jr2 Rr2 hq => ?_⟩
  obtain ⟨⟨f1, f2, f3⟩, -⟩ := REL_ref hr
  obtain ⟨rfl, rfl, ⟨k1, -⟩ | ⟨k1, a', d', p', q', k', g1, g2, g3, g4, g5, g6, g7, g8, g9, g10, hr2, gfr, gin⟩⟩ := hq
  · rw [hpc Ir hr, show hasC (cW I) (cH I) (nI a) (nI d) = true from hb1, nI_sub' (by omega), nI_sub' (by omega), hb2, hb3, hb4] at k1
    exact absurd k1 (by decide)
  rw [f1] at g8 hr2 gfr gin
  rw [f2] at g9
  rw [f3] at g10
  have q1 := congrArg nv g1
  have q2 := congrArg nv g2
  have q3 := congrArg nv g3
  have q4 := congrArg nv g4
  have q5 := congrArg nv g5
  rw [nv_nI (by omega), nv_nI (by omega)] at q1 q2 q3 q4 q5
  subst q1 q2 q3 q4 q5
  have hpcs : pcR (cW I) (cH I) J 10 (Ir 1) := hr.2.1.2.2.1
  have hpv : ∀ j, j < 64 → Ir 1 (352 + j) = nI (picN (Ir 1) j) ∧ picN (Ir 1) j ≤ cC I := fun j hj => picv (by omega) hr.2.1.2.2.2 hj
  refine ⟨rfl, ?_, ?_⟩
  · rw [hr2]
    congr 3
    refine area_pop hp1 (by omega) (by omega) hA (by omega) (by omega) fun i hi => ?_
    have hlt := pcell_lt (x := a) (y := d) g8 g9 (by omega) hi
    have hm := k_dm hi
    have hix := pcell_idx (w := cW I) (a := a) (d := d) (p := p) (k := i) (by omega)
    have hat := pc_at hw hh2.2 hpcs hlt (show k < 4 by omega)
    obtain ⟨v1, v2⟩ := hpv (pcell (cW I) a d p i) (by omega)
    rw [hix] at hat
    unfold df1
    rw [v1]
    by_cases h5 : picN (Ir 1) (pcell (cW I) a d p i) = k
    · rw [if_pos (by rw [h5]), if_pos (hat.mpr h5)]
    · rw [if_neg (fun z => h5 (by
        have := congrArg nv z
        rw [nv_nI (by omega), nv_nI (by omega)] at this
        exact this)), if_neg (fun z => h5 (hat.mp z))]
  · have gout : ∀ j, (∀ i, i < p * q → j ≠ pcell (cW I) a d p i) → Ir2 1 (352 + j) = Ir 1 (352 + j) := fun j hj => by
      rw [gfr 1 _ (Or.inr fun i hi z => hj i hi (by omega)), keepsM_row]
    refine REL_nowP hr (fun q' j h11 _ => putF_ne h11 ▸ rfl) (REL_ly hr fun d' => by rw [putF_ne (by omega)]; exact eJ 114 d' (by omega)) (fun j hj => by rw [gfr 1 j (Or.inr fun i hi z => by omega), keepsM_row]) (fun j => gfr 2 j (Or.inl (by omega))) (fun j => gfr 10 j (Or.inl (by omega))) (fun j _ _ _ => gfr 0 j (Or.inl (by omega))) (fun dd i hdd hi => ?_) (fun j hj => ?_)
    · have hbt : bt (nI 1 <<< (nI k &&& nI 31)) dd = decide (dd = k) := bt_one (by omega) (by omega)
      rw [putF_b hdd hi, hbt, hA i hi, eJ 11 dd (by omega)]
      by_cases har : (a ≤ i % 8 ∧ i % 8 < a + p) ∧ (d ≤ i / 8 ∧ i / 8 < d + q)
      · have hkk := cell_in (w := cW I) (h := cH I) (x := i % 8) (y := i / 8) (by omega) (by omega)
        have hid : idxK (cW I) (cW I * (i / 8) + i % 8) = i := by
          rw [idx_at (by omega)]
          omega
        have hdm := dm_ (w := cW I) (l := i / 8) (show i % 8 < cW I by omega)
        obtain ⟨i0, hi0, he0⟩ := (area_k (a := a) (d := d) (p := p) (q := q) hw.2 (by omega) hkk).mp (by rw [hdm.1, hdm.2]; exact har)
        have hpk : picN (Ir2 1) (cW I * (i / 8) + i % 8) = k := by
          unfold picN
          rw [he0, gin i0 hi0, nv_nI (by omega)]
        rw [decide_eq_true har, Bool.or_true, Bool.not_true, Bool.and_false]
        constructor
        · intro z
          refine ⟨_, hkk, hid, ?_⟩
          rw [hpk]
          by_cases h5 : dd = k
          · exact h5.symm
          · rw [decide_eq_false h5, if_neg Bool.false_ne_true] at z
            exact absurd z (by decide)
        · rintro ⟨k', z1, z2, z3⟩
          have h6 := idx_inj hw (z2.trans hid.symm)
          rw [h6, hpk] at z3
          rw [decide_eq_true z3.symm, if_pos rfl]
      · rw [decide_eq_false har, Bool.or_false, Bool.not_false, Bool.and_true, ite_self, hpcs dd i hdd hi]
        have hp : ∀ k', k' < cW I * cH I → idxK (cW I) k' = i → picN (Ir2 1) k' = picN (Ir 1) k' := fun k' z1 z2 => by
          unfold picN
          rw [gout k' fun i0 hi0 z => har ?_]
          have hdm := idx_dm (k := k') hw
          rw [z2] at hdm
          rw [hdm.1, hdm.2]
          exact (area_k hw.2 (by omega) z1).mpr ⟨i0, hi0, z⟩
        constructor
        · rintro ⟨k', z1, z2, z3⟩
          exact ⟨k', z1, z2, by rw [hp k' z1 z2]; exact z3⟩
        · rintro ⟨k', z1, z2, z3⟩
          exact ⟨k', z1, z2, by rw [← hp k' z1 z2]; exact z3⟩
    · by_cases h5 : ∃ i, i < p * q ∧ j = pcell (cW I) a d p i
      · obtain ⟨i, i1, rfl⟩ := h5
        rw [gin i i1]
        exact ⟨k, by omega, rfl⟩
      · rw [gout j fun i hi z => h5 ⟨i, hi, z⟩]
        exact (hr.2.1.2.2.2 j hj).2
theorem c_Out_paint (l : Launch) (n : Nat) : fx_Met l y_Out_paint ws_Out_paint rm_Out_paint (MC n) (pre_Out_paint n) (post_Out_paint n) := fx_met (MC_ok n) (MC_tys n) (by decide) rfl pk_Out_paint vk_Out_paint (fun st I J R h => r_Out_paint n st I J R h)
