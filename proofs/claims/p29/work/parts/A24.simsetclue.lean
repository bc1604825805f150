/-! the class: setClue and addBlock (own work) -/
/-- after a record, what now holds may change -/
theorem REL_now {I I' : fx_MI} {J J' : fx_MJ} {Ir Ir' : fx_MI} (h1 : REL I J Ir) (hI : ∀ q j, (q < 2 ∨ (11 < q ∧ q < 101) ∨ q = 138) → I' q j = recI I 2 q j) (hJ : ∀ q j, (q < 2 ∨ (11 < q ∧ q < 101)) → J' q j = recJ I J 2 q j) (hly : lyO (cW I) (cH I) J' 113) (hr2 : ∀ j, Ir' 2 j = keepsM Ir 2 j) (hr10 : ∀ j, Ir' 10 j = keepsM Ir 10 j) (hr0 : ∀ j, j ≠ 13 → j ≠ 20 → j ≠ 21 → Ir' 0 j = keepsM Ir 0 j) (hs : sR (cW I) (cH I) (cC I) I' J' 2 (Ir' 1)) : REL I' J' Ir' := by
  have hh := REL_his h1
  have eW : cW (recI I 2) = cW I := by unfold cW; rw [recI_ne (by omega) hh]
  have eH : cH (recI I 2) = cH I := by unfold cH; rw [recI_ne (by omega) hh]
  have eC : cC (recI I 2) = cC I := by unfold cC; rw [recI_ne (by omega) hh]
  exact REL_up (REL_rec h1) hI hJ (by rw [eW, eH]; exact hly) hr2 hr10 hr0 (by rw [eW, eH, eC]; exact hs)
theorem REL_ly {I : fx_MI} {J : fx_MJ} {Ir : fx_MI} (h1 : REL I J Ir) {J' : fx_MJ} (h : ∀ d, J' 114 d = J 114 d) : lyO (cW I) (cH I) J' 113 := fun d hd i hi hb => h1.1.2.2 d hd i hi (by rw [← h d]; exact hb)
/-- only the clues of now change -/
theorem REL_nowC {I I' : fx_MI} {J : fx_MJ} {Ir Ir' : fx_MI} (h1 : REL I J Ir) (hI : ∀ q j, (q < 3 ∨ 7 < q) → I' q j = recI I 2 q j) (hr : ∀ q j, (q ≠ 1 ∨ 288 ≤ j) → Ir' q j = keepsM Ir q j) (hs : clR (cW I) (cH I) (cC I) I' 3 (Ir' 1)) : REL I' (recJ I J 2) Ir' := by
  have hh := REL_his h1
  obtain ⟨hw, hh2, hc, -⟩ := dimC_of h1.1.1.1
  have hwh := wh_le hw.2 hh2.2
  have ef : ∀ k, 288 ≤ k → Ir' 1 k = Ir 1 k := fun k hk => by rw [hr 1 k (Or.inr hk), keepsM_row]
  have hs0 := h1.2.1
  have eJ : ∀ q d, q < 12 → recJ I J 2 q d = J q d := fun q d hq => recJ_ne (Or.inl hq) hh
  refine REL_now h1 (fun q j hq => hI q j (by omega)) (fun q j hq => rfl) (REL_ly h1 fun d => recJ_ne (by omega) hh) (fun j => hr 2 j (by omega)) (fun j => hr 10 j (by omega)) (fun j _ _ _ => hr 0 j (by omega)) ⟨hs, mkR_fr (fun d => eJ _ _ (by omega)) ⟨hs0.2.1.1, hs0.2.1.2.1, fun k hk => by rw [ef _ (by omega)]; exact hs0.2.1.2.2 k hk⟩, pcR_fr (fun d => eJ _ _ (by omega)) (fun d i hd hi => ?_), fun k hk => by rw [ef _ (by omega), ef _ (by omega)]; exact hs0.2.2.2 k hk⟩
  rw [hs0.2.2.1 d i hd hi]
  have hp : ∀ k, picN (Ir' 1) k = picN (Ir 1) k := fun k => by
    unfold picN
    rw [ef _ (by omega)]
  simp only [hp]
theorem clR_rec {I : fx_MI} {J : fx_MJ} {Ir : fx_MI} (h1 : REL I J Ir) : clR (cW I) (cH I) (cC I) (recI I 2) 3 (Ir 1) := clR_fr (fun p j h2 h3 => recI_ne (by omega) (REL_his h1)) h1.2.1.1
theorem in_k {k a b : Nat} (hk : k < 2 ^ 31) (ha : a < 2 ^ 31) (hb : b < 2 ^ 31) : in_M (nI k) (nI a) (nI b) = (decide (a ≤ k) && decide (k ≤ b)) := by
  unfold in_M
  simp (disch := omega) only [nI_lt']
  rw [Bool.eq_iff_iff]
  simp only [Bool.and_eq_true, Bool.not_eq_true', decide_eq_false_iff_not, decide_eq_true_eq]
  omega
def p_Out_setClue : fx_Pr := fx_pr [(0, .aload_n 0, 0), (1, .getfield 12, 0), (4, .iload_n 1, 0), (5, .invokevirtual 95, 0), (8, .ifCond .ne 6, 14), (11, .bipush (-2), 0), (13, .ireturn, 0), (14, .aload_n 0, 0), (15, .getfield 19, 0), (18, .getfield 46, 0), (21, .iload_n 1, 0), (22, .invokevirtual 122, 0), (25, .ifCond .eq 7, 32), (28, .iconst 1, 0), (29, .goto 4, 33), (32, .iconst 0, 0), (33, .istore_n 3, 0), (34, .aload_n 0, 0), (35, .getfield 26, 0), (38, .aload_n 0, 0), (39, .getfield 19, 0), (42, .invokevirtual 111, 0), (45, .aload_n 0, 0), (46, .getfield 19, 0), (49, .getfield 46, 0), (52, .iload_n 1, 0), (53, .iload_n 2, 0), (54, .invokevirtual 125, 0), (57, .iload_n 3, 0), (58, .ireturn, 0)]
theorem pk_Out_setClue : fx_prOK b_Out_setClue p_Out_setClue := fx_pr_ok (by decide +kernel)
theorem q_Out_setClue_0 {nL : Nat} {M : fx_M} {ev : fx_Env} {ret : Option FieldType} {P : fx_P} {stops : List (Nat × Nat)} {K : fx_K} {n : Nat} {L : List (Option Value)} {st : List Value} {I : fx_MI} {J : fx_MJ} {R : fx_MR} {X : Nat → fx_K} (hX : fx_isX nL M ev ret P p_Out_setClue stops K X) (hs : fx_stop stops 0 = none) : X (n + 1) 0 L st I J R = fx_S nL M ev ret P (.aload_n 0) 0 0 L st I J R (X n) := hX.1 _ _ _ _ _ _ _ _ _ rfl hs
theorem q_Out_setClue_1 {nL : Nat} {M : fx_M} {ev : fx_Env} {ret : Option FieldType} {P : fx_P} {stops : List (Nat × Nat)} {K : fx_K} {n : Nat} {L : List (Option Value)} {st : List Value} {I : fx_MI} {J : fx_MJ} {R : fx_MR} {X : Nat → fx_K} (hX : fx_isX nL M ev ret P p_Out_setClue stops K X) (hs : fx_stop stops 1 = none) : X (n + 1) 1 L st I J R = fx_S nL M ev ret P (.getfield 12) 0 1 L st I J R (X n) := hX.1 _ _ _ _ _ _ _ _ _ rfl hs
theorem q_Out_setClue_4 {nL : Nat} {M : fx_M} {ev : fx_Env} {ret : Option FieldType} {P : fx_P} {stops : List (Nat × Nat)} {K : fx_K} {n : Nat} {L : List (Option Value)} {st : List Value} {I : fx_MI} {J : fx_MJ} {R : fx_MR} {X : Nat → fx_K} (hX : fx_isX nL M ev ret P p_Out_setClue stops K X) (hs : fx_stop stops 4 = none) : X (n + 1) 4 L st I J R = fx_S nL M ev ret P (.iload_n 1) 0 4 L st I J R (X n) := hX.1 _ _ _ _ _ _ _ _ _ rfl hs
theorem q_Out_setClue_5 {nL : Nat} {M : fx_M} {ev : fx_Env} {ret : Option FieldType} {P : fx_P} {stops : List (Nat × Nat)} {K : fx_K} {n : Nat} {L : List (Option Value)} {st : List Value} {I : fx_MI} {J : fx_MJ} {R : fx_MR} {X : Nat → fx_K} (hX : fx_isX nL M ev ret P p_Out_setClue stops K X) (hs : fx_stop stops 5 = none) : X (n + 1) 5 L st I J R = fx_S nL M ev ret P (.invokevirtual 95) 0 5 L st I J R (X n) := hX.1 _ _ _ _ _ _ _ _ _ rfl hs
theorem q_Out_setClue_8 {nL : Nat} {M : fx_M} {ev : fx_Env} {ret : Option FieldType} {P : fx_P} {stops : List (Nat × Nat)} {K : fx_K} {n : Nat} {L : List (Option Value)} {st : List Value} {I : fx_MI} {J : fx_MJ} {R : fx_MR} {x : Int32} {X : Nat → fx_K} (hX : fx_isX nL M ev ret P p_Out_setClue stops K X) (hs : fx_stop stops 8 = none) : X (n + 1) 8 L (.int x :: st) I J R = ((¬ x = 0 → X n 14 L st I J R) ∧ (x = 0 → X n 11 L st I J R)) := fx_q_ifne hX rfl hs rfl
theorem q_Out_setClue_11 {nL : Nat} {M : fx_M} {ev : fx_Env} {ret : Option FieldType} {P : fx_P} {stops : List (Nat × Nat)} {K : fx_K} {n : Nat} {L : List (Option Value)} {st : List Value} {I : fx_MI} {J : fx_MJ} {R : fx_MR} {X : Nat → fx_K} (hX : fx_isX nL M ev ret P p_Out_setClue stops K X) (hs : fx_stop stops 11 = none) : X (n + 1) 11 L st I J R = fx_S nL M ev ret P (.bipush (-2)) 0 11 L st I J R (X n) := hX.1 _ _ _ _ _ _ _ _ _ rfl hs
theorem q_Out_setClue_13 {nL : Nat} {M : fx_M} {ev : fx_Env} {ret : Option FieldType} {P : fx_P} {stops : List (Nat × Nat)} {K : fx_K} {n : Nat} {L : List (Option Value)} {st : List Value} {I : fx_MI} {J : fx_MJ} {R : fx_MR} {X : Nat → fx_K} (hX : fx_isX nL M ev ret P p_Out_setClue stops K X) (hs : fx_stop stops 13 = none) : X (n + 1) 13 L st I J R = fx_S nL M ev ret P (.ireturn) 0 13 L st I J R (X n) := hX.1 _ _ _ _ _ _ _ _ _ rfl hs
theorem q_Out_setClue_14 {nL : Nat} {M : fx_M} {ev : fx_Env} {ret : Option FieldType} {P : fx_P} {stops : List (Nat × Nat)} {K : fx_K} {n : Nat} {L : List (Option Value)} {st : List Value} {I : fx_MI} {J : fx_MJ} {R : fx_MR} {X : Nat → fx_K} (hX : fx_isX nL M ev ret P p_Out_setClue stops K X) (hs : fx_stop stops 14 = none) : X (n + 1) 14 L st I J R = fx_S nL M ev ret P (.aload_n 0) 0 14 L st I J R (X n) := hX.1 _ _ _ _ _ _ _ _ _ rfl hs
theorem q_Out_setClue_15 {nL : Nat} {M : fx_M} {ev : fx_Env} {ret : Option FieldType} {P : fx_P} {stops : List (Nat × Nat)} {K : fx_K} {n : Nat} {L : List (Option Value)} {st : List Value} {I : fx_MI} {J : fx_MJ} {R : fx_MR} {X : Nat → fx_K} (hX : fx_isX nL M ev ret P p_Out_setClue stops K X) (hs : fx_stop stops 15 = none) : X (n + 1) 15 L st I J R = fx_S nL M ev ret P (.getfield 19) 0 15 L st I J R (X n) := hX.1 _ _ _ _ _ _ _ _ _ rfl hs
theorem q_Out_setClue_18 {nL : Nat} {M : fx_M} {ev : fx_Env} {ret : Option FieldType} {P : fx_P} {stops : List (Nat × Nat)} {K : fx_K} {n : Nat} {L : List (Option Value)} {st : List Value} {I : fx_MI} {J : fx_MJ} {R : fx_MR} {X : Nat → fx_K} (hX : fx_isX nL M ev ret P p_Out_setClue stops K X) (hs : fx_stop stops 18 = none) : X (n + 1) 18 L st I J R = fx_S nL M ev ret P (.getfield 46) 0 18 L st I J R (X n) := hX.1 _ _ _ _ _ _ _ _ _ rfl hs
theorem q_Out_setClue_21 {nL : Nat} {M : fx_M} {ev : fx_Env} {ret : Option FieldType} {P : fx_P} {stops : List (Nat × Nat)} {K : fx_K} {n : Nat} {L : List (Option Value)} {st : List Value} {I : fx_MI} {J : fx_MJ} {R : fx_MR} {X : Nat → fx_K} (hX : fx_isX nL M ev ret P p_Out_setClue stops K X) (hs : fx_stop stops 21 = none) : X (n + 1) 21 L st I J R = fx_S nL M ev ret P (.iload_n 1) 0 21 L st I J R (X n) := hX.1 _ _ _ _ _ _ _ _ _ rfl hs
theorem q_Out_setClue_22 {nL : Nat} {M : fx_M} {ev : fx_Env} {ret : Option FieldType} {P : fx_P} {stops : List (Nat × Nat)} {K : fx_K} {n : Nat} {L : List (Option Value)} {st : List Value} {I : fx_MI} {J : fx_MJ} {R : fx_MR} {X : Nat → fx_K} (hX : fx_isX nL M ev ret P p_Out_setClue stops K X) (hs : fx_stop stops 22 = none) : X (n + 1) 22 L st I J R = fx_S nL M ev ret P (.invokevirtual 122) 0 22 L st I J R (X n) := hX.1 _ _ _ _ _ _ _ _ _ rfl hs
theorem q_Out_setClue_25 {nL : Nat} {M : fx_M} {ev : fx_Env} {ret : Option FieldType} {P : fx_P} {stops : List (Nat × Nat)} {K : fx_K} {n : Nat} {L : List (Option Value)} {st : List Value} {I : fx_MI} {J : fx_MJ} {R : fx_MR} {x : Int32} {X : Nat → fx_K} (hX : fx_isX nL M ev ret P p_Out_setClue stops K X) (hs : fx_stop stops 25 = none) : X (n + 1) 25 L (.int x :: st) I J R = ((x = 0 → X n 32 L st I J R) ∧ (¬ x = 0 → X n 28 L st I J R)) := fx_q_if hX rfl hs rfl
theorem q_Out_setClue_28 {nL : Nat} {M : fx_M} {ev : fx_Env} {ret : Option FieldType} {P : fx_P} {stops : List (Nat × Nat)} {K : fx_K} {n : Nat} {L : List (Option Value)} {st : List Value} {I : fx_MI} {J : fx_MJ} {R : fx_MR} {X : Nat → fx_K} (hX : fx_isX nL M ev ret P p_Out_setClue stops K X) (hs : fx_stop stops 28 = none) : X (n + 1) 28 L st I J R = fx_S nL M ev ret P (.iconst 1) 0 28 L st I J R (X n) := hX.1 _ _ _ _ _ _ _ _ _ rfl hs
theorem q_Out_setClue_29 {nL : Nat} {M : fx_M} {ev : fx_Env} {ret : Option FieldType} {P : fx_P} {stops : List (Nat × Nat)} {K : fx_K} {n : Nat} {L : List (Option Value)} {st : List Value} {I : fx_MI} {J : fx_MJ} {R : fx_MR} {X : Nat → fx_K} (hX : fx_isX nL M ev ret P p_Out_setClue stops K X) (hs : fx_stop stops 29 = none) : X (n + 1) 29 L st I J R = X n 33 L st I J R := fx_q_goto hX rfl hs rfl
theorem q_Out_setClue_32 {nL : Nat} {M : fx_M} {ev : fx_Env} {ret : Option FieldType} {P : fx_P} {stops : List (Nat × Nat)} {K : fx_K} {n : Nat} {L : List (Option Value)} {st : List Value} {I : fx_MI} {J : fx_MJ} {R : fx_MR} {X : Nat → fx_K} (hX : fx_isX nL M ev ret P p_Out_setClue stops K X) (hs : fx_stop stops 32 = none) : X (n + 1) 32 L st I J R = fx_S nL M ev ret P (.iconst 0) 0 32 L st I J R (X n) := hX.1 _ _ _ _ _ _ _ _ _ rfl hs
theorem q_Out_setClue_33 {nL : Nat} {M : fx_M} {ev : fx_Env} {ret : Option FieldType} {P : fx_P} {stops : List (Nat × Nat)} {K : fx_K} {n : Nat} {L : List (Option Value)} {st : List Value} {I : fx_MI} {J : fx_MJ} {R : fx_MR} {X : Nat → fx_K} (hX : fx_isX nL M ev ret P p_Out_setClue stops K X) (hs : fx_stop stops 33 = none) : X (n + 1) 33 L st I J R = fx_S nL M ev ret P (.istore_n 3) 0 33 L st I J R (X n) := hX.1 _ _ _ _ _ _ _ _ _ rfl hs
theorem q_Out_setClue_34 {nL : Nat} {M : fx_M} {ev : fx_Env} {ret : Option FieldType} {P : fx_P} {stops : List (Nat × Nat)} {K : fx_K} {n : Nat} {L : List (Option Value)} {st : List Value} {I : fx_MI} {J : fx_MJ} {R : fx_MR} {X : Nat → fx_K} (hX : fx_isX nL M ev ret P p_Out_setClue stops K X) (hs : fx_stop stops 34 = none) : X (n + 1) 34 L st I J R = fx_S nL M ev ret P (.aload_n 0) 0 34 L st I J R (X n) := hX.1 _ _ _ _ _ _ _ _ _ rfl hs
theorem q_Out_setClue_35 {nL : Nat} {M : fx_M} {ev : fx_Env} {ret : Option FieldType} {P : fx_P} {stops : List (Nat × Nat)} {K : fx_K} {n : Nat} {L : List (Option Value)} {st : List Value} {I : fx_MI} {J : fx_MJ} {R : fx_MR} {X : Nat → fx_K} (hX : fx_isX nL M ev ret P p_Out_setClue stops K X) (hs : fx_stop stops 35 = none) : X (n + 1) 35 L st I J R = fx_S nL M ev ret P (.getfield 26) 0 35 L st I J R (X n) := hX.1 _ _ _ _ _ _ _ _ _ rfl hs
theorem q_Out_setClue_38 {nL : Nat} {M : fx_M} {ev : fx_Env} {ret : Option FieldType} {P : fx_P} {stops : List (Nat × Nat)} {K : fx_K} {n : Nat} {L : List (Option Value)} {st : List Value} {I : fx_MI} {J : fx_MJ} {R : fx_MR} {X : Nat → fx_K} (hX : fx_isX nL M ev ret P p_Out_setClue stops K X) (hs : fx_stop stops 38 = none) : X (n + 1) 38 L st I J R = fx_S nL M ev ret P (.aload_n 0) 0 38 L st I J R (X n) := hX.1 _ _ _ _ _ _ _ _ _ rfl hs
theorem q_Out_setClue_39 {nL : Nat} {M : fx_M} {ev : fx_Env} {ret : Option FieldType} {P : fx_P} {stops : List (Nat × Nat)} {K : fx_K} {n : Nat} {L : List (Option Value)} {st : List Value} {I : fx_MI} {J : fx_MJ} {R : fx_MR} {X : Nat → fx_K} (hX : fx_isX nL M ev ret P p_Out_setClue stops K X) (hs : fx_stop stops 39 = none) : X (n + 1) 39 L st I J R = fx_S nL M ev ret P (.getfield 19) 0 39 L st I J R (X n) := hX.1 _ _ _ _ _ _ _ _ _ rfl hs
theorem q_Out_setClue_42 {nL : Nat} {M : fx_M} {ev : fx_Env} {ret : Option FieldType} {P : fx_P} {stops : List (Nat × Nat)} {K : fx_K} {n : Nat} {L : List (Option Value)} {st : List Value} {I : fx_MI} {J : fx_MJ} {R : fx_MR} {X : Nat → fx_K} (hX : fx_isX nL M ev ret P p_Out_setClue stops K X) (hs : fx_stop stops 42 = none) : X (n + 1) 42 L st I J R = fx_S nL M ev ret P (.invokevirtual 111) 0 42 L st I J R (X n) := hX.1 _ _ _ _ _ _ _ _ _ rfl hs
theorem q_Out_setClue_45 {nL : Nat} {M : fx_M} {ev : fx_Env} {ret : Option FieldType} {P : fx_P} {stops : List (Nat × Nat)} {K : fx_K} {n : Nat} {L : List (Option Value)} {st : List Value} {I : fx_MI} {J : fx_MJ} {R : fx_MR} {X : Nat → fx_K} (hX : fx_isX nL M ev ret P p_Out_setClue stops K X) (hs : fx_stop stops 45 = none) : X (n + 1) 45 L st I J R = fx_S nL M ev ret P (.aload_n 0) 0 45 L st I J R (X n) := hX.1 _ _ _ _ _ _ _ _ _ rfl hs
theorem q_Out_setClue_46 {nL : Nat} {M : fx_M} {ev : fx_Env} {ret : Option FieldType} {P : fx_P} {stops : List (Nat × Nat)} {K : fx_K} {n : Nat} {L : List (Option Value)} {st : List Value} {I : fx_MI} {J : fx_MJ} {R : fx_MR} {X : Nat → fx_K} (hX : fx_isX nL M ev ret P p_Out_setClue stops K X) (hs : fx_stop stops 46 = none) : X (n + 1) 46 L st I J R = fx_S nL M ev ret P (.getfield 19) 0 46 L st I J R (X n) := hX.1 _ _ _ _ _ _ _ _ _ rfl hs
theorem q_Out_setClue_49 {nL : Nat} {M : fx_M} {ev : fx_Env} {ret : Option FieldType} {P : fx_P} {stops : List (Nat × Nat)} {K : fx_K} {n : Nat} {L : List (Option Value)} {st : List Value} {I : fx_MI} {J : fx_MJ} {R : fx_MR} {X : Nat → fx_K} (hX : fx_isX nL M ev ret P p_Out_setClue stops K X) (hs : fx_stop stops 49 = none) : X (n + 1) 49 L st I J R = fx_S nL M ev ret P (.getfield 46) 0 49 L st I J R (X n) := hX.1 _ _ _ _ _ _ _ _ _ rfl hs
theorem q_Out_setClue_52 {nL : Nat} {M : fx_M} {ev : fx_Env} {ret : Option FieldType} {P : fx_P} {stops : List (Nat × Nat)} {K : fx_K} {n : Nat} {L : List (Option Value)} {st : List Value} {I : fx_MI} {J : fx_MJ} {R : fx_MR} {X : Nat → fx_K} (hX : fx_isX nL M ev ret P p_Out_setClue stops K X) (hs : fx_stop stops 52 = none) : X (n + 1) 52 L st I J R = fx_S nL M ev ret P (.iload_n 1) 0 52 L st I J R (X n) := hX.1 _ _ _ _ _ _ _ _ _ rfl hs
theorem q_Out_setClue_53 {nL : Nat} {M : fx_M} {ev : fx_Env} {ret : Option FieldType} {P : fx_P} {stops : List (Nat × Nat)} {K : fx_K} {n : Nat} {L : List (Option Value)} {st : List Value} {I : fx_MI} {J : fx_MJ} {R : fx_MR} {X : Nat → fx_K} (hX : fx_isX nL M ev ret P p_Out_setClue stops K X) (hs : fx_stop stops 53 = none) : X (n + 1) 53 L st I J R = fx_S nL M ev ret P (.iload_n 2) 0 53 L st I J R (X n) := hX.1 _ _ _ _ _ _ _ _ _ rfl hs
theorem q_Out_setClue_54 {nL : Nat} {M : fx_M} {ev : fx_Env} {ret : Option FieldType} {P : fx_P} {stops : List (Nat × Nat)} {K : fx_K} {n : Nat} {L : List (Option Value)} {st : List Value} {I : fx_MI} {J : fx_MJ} {R : fx_MR} {X : Nat → fx_K} (hX : fx_isX nL M ev ret P p_Out_setClue stops K X) (hs : fx_stop stops 54 = none) : X (n + 1) 54 L st I J R = fx_S nL M ev ret P (.invokevirtual 125) 0 54 L st I J R (X n) := hX.1 _ _ _ _ _ _ _ _ _ rfl hs
theorem q_Out_setClue_57 {nL : Nat} {M : fx_M} {ev : fx_Env} {ret : Option FieldType} {P : fx_P} {stops : List (Nat × Nat)} {K : fx_K} {n : Nat} {L : List (Option Value)} {st : List Value} {I : fx_MI} {J : fx_MJ} {R : fx_MR} {X : Nat → fx_K} (hX : fx_isX nL M ev ret P p_Out_setClue stops K X) (hs : fx_stop stops 57 = none) : X (n + 1) 57 L st I J R = fx_S nL M ev ret P (.iload_n 3) 0 57 L st I J R (X n) := hX.1 _ _ _ _ _ _ _ _ _ rfl hs
theorem q_Out_setClue_58 {nL : Nat} {M : fx_M} {ev : fx_Env} {ret : Option FieldType} {P : fx_P} {stops : List (Nat × Nat)} {K : fx_K} {n : Nat} {L : List (Option Value)} {st : List Value} {I : fx_MI} {J : fx_MJ} {R : fx_MR} {X : Nat → fx_K} (hX : fx_isX nL M ev ret P p_Out_setClue stops K X) (hs : fx_stop stops 58 = none) : X (n + 1) 58 L st I J R = fx_S nL M ev ret P (.ireturn) 0 58 L st I J R (X n) := hX.1 _ _ _ _ _ _ _ _ _ rfl hs
def pre_Out_setClue (n : Nat) : fx_Pre := fun st I J R => (∃ b, R = R0C b) ∧ (match st with
  | [.ref 0, .int v, .int w] => relE I J
  | _ => False)
theorem pi_Out_setClue {n : Nat} {st : List Value} {I : fx_MI} {J : fx_MJ} {R : fx_MR} (h : pre_Out_setClue n st I J R) : (∃ b, R = R0C b) ∧ ∃ v, ∃ w, st = [.ref 0, .int v, .int w] ∧ (relE I J) := by
  unfold pre_Out_setClue at h
  obtain ⟨h0, h⟩ := h
  split at h
  · exact ⟨h0, _, _, rfl, h⟩
  · cases h
def post_Out_setClue (n : Nat) : fx_Post := fun st I J R r I' J' R' => match st with
  | [_, .int v, .int w] => simP (post_M_setClue [.ref 0, .int v, .int w]) I J r I' J' R'
  | _ => True
theorem pz_Out_setClue {st : List Value} {I : fx_MI} {J : fx_MJ} {R : fx_MR} (n : Nat) (h : pre_Out_setClue n st I J R) : ∃ q r, st = .ref q :: r ∧ (MC n).2.2.1 q = some (.inl 0) ∧ r.length = 2 := by
  obtain ⟨_, _, _, rfl, _⟩ := pi_Out_setClue h
  exact ⟨_, _, rfl, rfl, rfl⟩
def v_Out_setClue (n : Nat) : fx_Env := [(.getfield 12, fx_tget (MC n) 0 0), (.invokevirtual 95, fx_tcall 2 (pre_Grid_hasLine n) (post_Grid_hasLine n)), (.getfield 19, fx_tget (MC n) 0 1), (.getfield 46, fx_tget (MC n) 2 0), (.invokevirtual 122, fx_tcall 2 (pre_Clues_has n) (post_Clues_has n)), (.getfield 26, fx_tget (MC n) 0 2), (.invokevirtual 111, fx_tcall 2 (pre_History_record n) (post_History_record n)), (.invokevirtual 125, fx_tcall 3 (pre_Clues_reset n) (post_Clues_reset n))]
abbrev rm_Out_setClue : Room := { frames := 4, cells := 0, slots := 0, locals := 123 }
abbrev ws_Out_setClue : List Cond := Cond.code y_Out_setClue b_Out_setClue 4 (some .int) :: w_C
theorem e_Out_c111 {l : Launch} {c0 : Cond} {rm : Room} {n nL : Nat} {cc : ByteArray} (hR : rm_History_record.frames + 1 ≤ rm.frames ∧ 8 + (2 + 11) + rm_History_record.locals ≤ rm.locals) : fx_E1 l R_Out (c0 :: w_C) rm (MC n) nL cc (.invokevirtual 111) (fx_tcall 2 (pre_History_record n) (post_History_record n)) := fx_callV (ci := 5) (C := R_History) rfl (c_History_record l n) (w_C_G (w_C_h5 26 rfl) (w_C_h5 27 rfl) (w_C_h5 28 rfl) (w_C_h4 42 rfl) (w_C_h3 28 rfl)) rfl ⟨rfl, rfl⟩ (by decide) hR (fun st I J R h => pz_History_record n h) (MC_ok n)
theorem e_Out_c125 {l : Launch} {c0 : Cond} {rm : Room} {n nL : Nat} {cc : ByteArray} (hR : rm_Clues_reset.frames + 1 ≤ rm.frames ∧ 8 + (3 + 11) + rm_Clues_reset.locals ≤ rm.locals) : fx_E1 l R_Out (c0 :: w_C) rm (MC n) nL cc (.invokevirtual 125) (fx_tcall 3 (pre_Clues_reset n) (post_Clues_reset n)) := fx_callV (ci := 3) (C := R_Clues) rfl (c_Clues_reset l n) (w_C_G (w_C_h5 34 rfl) (w_C_h5 35 rfl) (w_C_h5 36 rfl) (w_C_h0 39 rfl) (w_C_h0 31 rfl)) rfl ⟨rfl, rfl⟩ (by decide) hR (fun st I J R h => pz_Clues_reset n h) (MC_ok n)
theorem vk_Out_setClue {l : Launch} {n : Nat} : fx_EV l R_Out ws_Out_setClue rm_Out_setClue (MC n) 4 b_Out_setClue (v_Out_setClue n) := (fx_EV_cons e_Out_g12 (fx_EV_cons (e_Out_c95 (by decide)) (fx_EV_cons e_Out_g19 (fx_EV_cons e_Out_g46 (fx_EV_cons (e_Out_c122 (by decide)) (fx_EV_cons e_Out_g26 (fx_EV_cons (e_Out_c111 (by decide)) (fx_EV_cons (e_Out_c125 (by decide)) fx_EV_nil))))))))
theorem r_Out_setClue (n : Nat) (st : List Value) (I : fx_MI) (J : fx_MJ) (R : fx_MR) (h : pre_Out_setClue n st I J R) : fx_sz st ≤ 4 ∧ fx_R 4 (MC n) (v_Out_setClue n) (some .int) (post_Out_setClue n st I J R) p_Out_setClue 0 (fx_en st) [] I J R := by
  obtain ⟨⟨b, rfl⟩, v, w, rfl, hp⟩ := pi_Out_setClue h
  clear h
  refine ⟨Nat.le_of_ble_eq_true rfl, ?_⟩
  obtain ⟨Ir0, hr0⟩ := hp
  have hh := REL_his hr0
  obtain ⟨hw, hh2, hc, e0, e1, e2⟩ := dimC_of hr0.1.1.1
  have hno : in_M v (nI 0) (nI (cH I + cW I - 1)) = false → post_Out_setClue n [.ref 0, .int v, .int w] I J (R0C b) (some (.int (-nI 2))) I J (R0C b) := fun z => by
    refine ⟨⟨b, rfl⟩, fun Ir hr Jr r2 Ir2 Jr2 Rr2 hq => ?_⟩
    obtain ⟨⟨f1, f2, f3⟩, hdm, -⟩ := REL_ref hr
    obtain ⟨-, -, -, g1, g2, g3⟩ := dim_of hdm
    rcases hq with ⟨h1, rfl, rfl, rfl, rfl⟩ | ⟨k, h2, h3, -⟩
    · exact ⟨rfl, rfl, hr⟩
    · rw [f1, f2] at h2
      rw [h3, in_k (by omega) (by omega) (by omega), decide_eq_true (by omega), decide_eq_true (by omega)] at z
      exact absurd z (by decide)
  refine fx_run0 120 fun X hX => ?_
  simp only [q_Out_setClue_0 hX rfl, q_Out_setClue_1 hX rfl, q_Out_setClue_4 hX rfl, q_Out_setClue_5 hX rfl, q_Out_setClue_8 hX rfl, q_Out_setClue_11 hX rfl, q_Out_setClue_13 hX rfl, q_Out_setClue_14 hX rfl, q_Out_setClue_15 hX rfl, q_Out_setClue_18 hX rfl, q_Out_setClue_21 hX rfl, q_Out_setClue_22 hX rfl, q_Out_setClue_25 hX rfl, q_Out_setClue_28 hX rfl, q_Out_setClue_29 hX rfl, q_Out_setClue_32 hX rfl, q_Out_setClue_33 hX rfl, q_Out_setClue_34 hX rfl, q_Out_setClue_35 hX rfl, q_Out_setClue_38 hX rfl, q_Out_setClue_39 hX rfl, q_Out_setClue_42 hX rfl, q_Out_setClue_45 hX rfl, q_Out_setClue_46 hX rfl, q_Out_setClue_49 hX rfl, q_Out_setClue_52 hX rfl, q_Out_setClue_53 hX rfl, q_Out_setClue_54 hX rfl, q_Out_setClue_57 hX rfl, q_Out_setClue_58 hX rfl, fs_aload_n0, fs_aload_n1, fs_aload_n2, fs_aload_n3, fs_bipush, fs_getfield, fs_goto, fs_iconst, fs_ifCond, fs_iload_n0, fs_iload_n1, fs_iload_n2, fs_iload_n3, fs_invokevirtual, fs_ireturn, fs_istore_n0, fs_istore_n1, fs_istore_n2, fs_istore_n3, v_Out_setClue, cb_m2, ci_1, ci_0, lt_3_4, pre_Grid_hasLine, post_Grid_hasLine, pre_Clues_has, post_Clues_has, pre_History_record, post_History_record, pre_Clues_reset, post_Clues_reset, kd_C_0_0, pl_C_0, R0C_0_0, pl_C_1, kd_C_0_1, R0C_0_1, pl_C_2, kd_C_2_0, R0C_2_0, pl_C_3, kd_C_0_2, R0C_0_2, pl_C_12, fx_oi_s, fx_ol_s, fx_or_s, fx_do_s, fx_lg_0, fx_lg_s, fx_ls_0, fx_ls_s, fx_ls_n0, fx_ls_ns, fx_en, fx_sz, Value.category, fx_nl, fx_lk, fx_tget, fx_tput, fx_tcall, fx_tldc, fx_fv, va_rf, fx_cat, fx_in, fx_cnd, fx_len, fx_narI, fx_narZ0, fx_narZ1, fx_narZb, zb_e, zb_ne, Option.some.injEq, Value.int.injEq, Value.long.injEq, Value.ref.injEq, List.cons.injEq, Nat.reduceAdd, Nat.reduceLeDiff, Nat.le_refl, List.take, List.drop, List.reverse_cons, List.reverse_nil, List.nil_append, List.cons_append, List.append_nil, List.map_cons, List.map_nil, List.sum_cons, List.sum_nil, List.length_cons, List.length_nil, Option.toList, fx_all4, forall_const, true_and, and_true, not_true_eq_false, not_false_eq_true, false_implies, true_implies, ne_eq, reduceCtorEq, Nat.reduceEqDiff, ite_true, ite_false, reduceIte, Instr.getfield.injEq, Instr.putfield.injEq, Instr.invokevirtual.injEq, Instr.invokestatic.injEq, Instr.ldc2_w.injEq, fx_tcopy, Instr.ldc.injEq, Instr.ldc_w.injEq, exists_eq_left, exists_prop, R0C_ex]
  simp (disch := omega) only [lit, nI_add, nI_mul', nI_sub', nI_clamp, nI_lt', nI_le', nI_eq', nI_in', iinc1, zb_n0, nI_div', nI_rem2, true_and, and_true, Nat.reduceEqDiff, Nat.reduceLeDiff, Nat.one_ne_zero, Nat.zero_ne_one, not_false_eq_true, not_true_eq_false, false_implies, true_implies, forall_const, Nat.zero_add, Nat.add_zero, nv_nI, up_eq, up_ne, fill_ne, nI_clamp, nI_add, e0, e1]
  have hyes : ∀ l x, v = nI l → l < cH I + cW I → x = cf I 3 l → post_Out_setClue n [.ref 0, .int v, .int w] I J (R0C b) (some (.int x)) (resC (recI I 2) 3 l w) (recJ I J 2) (R0C b) := fun l x hv hl hx => by
    refine ⟨⟨b, rfl⟩, fun Ir hr Jr r2 Ir2 Jr2 Rr2 hq => ?_⟩
    obtain ⟨⟨f1, f2, f3⟩, hdm, -⟩ := REL_ref hr
    obtain ⟨-, -, -, g1, g2, g3⟩ := dim_of hdm
    rcases hq with ⟨h1, -⟩ | ⟨k, h2, h3, rfl, hI2, rfl, rfl⟩
    · unfold inL at h1
      rw [g1, g2, f1, f2, hv, nI_add, lit, lit, nI_sub' (by omega), in_k (by omega) (by omega) (by omega), decide_eq_true (by omega), decide_eq_true (by omega)] at h1
      exact absurd h1 (by decide)
    · have hkl : k = l := by
        rw [f1, f2] at h2
        have := congrArg nv (hv.symm.trans h3)
        rw [nv_nI (by omega), nv_nI (by omega)] at this
        exact this.symm
      subst hkl
      rw [hx, (hr.2.1.1.1 k (by omega)).2.1]
      refine ⟨rfl, rfl, REL_nowC hr (fun q j hq => rs_o (by omega)) (fun q j hq => ?_) ?_⟩
      · rw [hI2, up_ne (by omega), up_ne (by omega)]
      · refine clR_cong (by omega) (fun j hj => ?_) (clR_res (y := w) (by omega) hl (clR_rec hr))
        rw [hI2]
        unfold resF
        by_cases h5 : j = 16 + k
        · subst h5
          rw [up_eq, if_neg (by omega), if_pos rfl]
        · rw [up_ne (by omega)]
          by_cases h6 : j = k
          · subst h6
            rw [up_eq, if_pos rfl]
          · rw [up_ne (by omega), if_neg h6, if_neg h5, keepsM_row]
  refine ⟨fun h1 => ?_, hno⟩
  obtain ⟨l, -, hl, rfl⟩ := in_t (by omega) (by omega) (bnf h1)
  have hv : nv (nI l) = l := nv_nI (by omega)
  rw [hv]
  have ex := fun x hx => hyes l x rfl (show l < cH I + cW I by omega) hx
  refine ⟨⟨rfl, l, by omega, rfl⟩, fun h2 => ⟨⟨rfl, hh⟩, ⟨rfl, l, by omega, rfl⟩, ex _ ?_⟩, fun h2 => ⟨⟨rfl, hh⟩, ⟨rfl, l, by omega, rfl⟩, ex _ ?_⟩⟩
  · rw [cf_has (by omega), h2]
    rfl
  · rw [cf_has (by omega), bnf h2]
    rfl
theorem c_Out_setClue (l : Launch) (n : Nat) : fx_Met l y_Out_setClue ws_Out_setClue rm_Out_setClue (MC n) (pre_Out_setClue n) (post_Out_setClue n) := fx_met (MC_ok n) (MC_tys n) (by decide) rfl pk_Out_setClue vk_Out_setClue (fun st I J R h => r_Out_setClue n st I J R h)
theorem REL_d {I : fx_MI} {J : fx_MJ} {Ir : fx_MI} (h1 : REL I J Ir) : Ir 0 3 = nI (cW I) ∧ Ir 0 4 = nI (cH I) ∧ Ir 0 5 = nI (cC I) := by
  obtain ⟨hw, hh, hc, e0, e1, e2⟩ := dimC_of h1.1.1.1
  obtain ⟨-, d2, d3, d4⟩ := h1.1.1
  exact ⟨d2.symm.trans e0, d3.symm.trans e1, d4.symm.trans e2⟩
theorem inL_e {I : fx_MI} {J : fx_MJ} {Ir : fx_MI} (h1 : REL I J Ir) (v : Int32) : inL Ir v = in_M v (nI 0) (nI (cH I + cW I - 1)) := by
  obtain ⟨hw, hh, hc, -⟩ := dimC_of h1.1.1.1
  obtain ⟨g1, g2, -⟩ := REL_d h1
  unfold inL
  rw [g1, g2, nI_add, lit, lit, nI_sub' (by omega)]
theorem gap_WK {w h c q l m : Nat} {I : fx_MI} {f : Nat → Int32} {d : Int32} (hl : l < 16) (h1 : clR w h c I q f) (hm : manyN f l = m) : gapW I q l m d = gapK f l m d := by
  obtain ⟨-, -, -, o4⟩ := h1.1 l hl
  unfold gapW gapK
  by_cases h0 : 0 < m
  · have := (o4 (m - 1) (by omega)).2
    rw [cf_co] at this
    rw [this, show 160 + (8 * l + (m - 1)) = 160 + (8 * l + m) - 1 by omega]
  · rw [if_neg (fun z => h0 z.1), if_neg (fun z => h0 z.1)]
/-- a line's clue as the class holds it -/
theorem clR_l {w h c q l : Nat} {I : fx_MI} {f : Nat → Int32} (hwh : h + w ≤ 16) (hc : c ≤ 3) (hl : l < h + w) (h1 : clR w h c I q f) : manyN f l ≤ 8 ∧ I (q + 1) l = nI (manyN f l) ∧ I (q + 2) l = nI (roomN f l (manyN f l)) := by
  obtain ⟨o1, o2, o3, o4⟩ := h1.1 l (by omega)
  refine ⟨many8 o1, ?_, (h1.2.2 l hl).1⟩
  rw [cf_sz (by omega)] at o3
  rw [o3]
  exact (many_eq (okl_3c hc o1)).1
def p_Out_addBlock : fx_Pr := fx_pr [(0, .aload_n 0, 0), (1, .getfield 12, 0), (4, .iload_n 1, 0), (5, .invokevirtual 95, 0), (8, .ifCond .eq 28, 36), (11, .iload_n 2, 0), (12, .iconst 1, 0), (13, .bipush 8, 0), (15, .invokestatic 87, 0), (18, .ifCond .eq 18, 36), (21, .iload_n 3, 0), (22, .iconst 1, 0), (23, .aload_n 0, 0), (24, .getfield 12, 0), (27, .getfield 99, 0), (30, .invokestatic 87, 0), (33, .ifCond .ne 6, 39), (36, .bipush (-2), 0), (38, .ireturn, 0), (39, .aload_n 0, 0), (40, .getfield 19, 0), (43, .getfield 46, 0), (46, .iload_n 1, 0), (47, .iload_n 2, 0), (48, .iload_n 3, 0), (49, .invokevirtual 103, 0), (52, .aload_n 0, 0), (53, .getfield 12, 0), (56, .iload_n 1, 0), (57, .invokevirtual 107, 0), (60, .if_icmp .le 6, 66), (63, .bipush (-3), 0), (65, .ireturn, 0), (66, .aload_n 0, 0), (67, .getfield 26, 0), (70, .aload_n 0, 0), (71, .getfield 19, 0), (74, .invokevirtual 111, 0), (77, .aload_n 0, 0), (78, .getfield 19, 0), (81, .getfield 46, 0), (84, .iload_n 1, 0), (85, .iload_n 2, 0), (86, .iload_n 3, 0), (87, .invokevirtual 115, 0), (90, .aload_n 0, 0), (91, .getfield 19, 0), (94, .getfield 46, 0), (97, .getfield 118, 0), (100, .iload_n 1, 0), (101, .iaload, 0), (102, .ireturn, 0)]
theorem pk_Out_addBlock : fx_prOK b_Out_addBlock p_Out_addBlock := fx_pr_ok (by decide +kernel)
theorem q_Out_addBlock_0 {nL : Nat} {M : fx_M} {ev : fx_Env} {ret : Option FieldType} {P : fx_P} {stops : List (Nat × Nat)} {K : fx_K} {n : Nat} {L : List (Option Value)} {st : List Value} {I : fx_MI} {J : fx_MJ} {R : fx_MR} {X : Nat → fx_K} (hX : fx_isX nL M ev ret P p_Out_addBlock stops K X) (hs : fx_stop stops 0 = none) : X (n + 1) 0 L st I J R = fx_S nL M ev ret P (.aload_n 0) 0 0 L st I J R (X n) := hX.1 _ _ _ _ _ _ _ _ _ rfl hs
theorem q_Out_addBlock_1 {nL : Nat} {M : fx_M} {ev : fx_Env} {ret : Option FieldType} {P : fx_P} {stops : List (Nat × Nat)} {K : fx_K} {n : Nat} {L : List (Option Value)} {st : List Value} {I : fx_MI} {J : fx_MJ} {R : fx_MR} {X : Nat → fx_K} (hX : fx_isX nL M ev ret P p_Out_addBlock stops K X) (hs : fx_stop stops 1 = none) : X (n + 1) 1 L st I J R = fx_S nL M ev ret P (.getfield 12) 0 1 L st I J R (X n) := hX.1 _ _ _ _ _ _ _ _ _ rfl hs
theorem q_Out_addBlock_4 {nL : Nat} {M : fx_M} {ev : fx_Env} {ret : Option FieldType} {P : fx_P} {stops : List (Nat × Nat)} {K : fx_K} {n : Nat} {L : List (Option Value)} {st : List Value} {I : fx_MI} {J : fx_MJ} {R : fx_MR} {X : Nat → fx_K} (hX : fx_isX nL M ev ret P p_Out_addBlock stops K X) (hs : fx_stop stops 4 = none) : X (n + 1) 4 L st I J R = fx_S nL M ev ret P (.iload_n 1) 0 4 L st I J R (X n) := hX.1 _ _ _ _ _ _ _ _ _ rfl hs
theorem q_Out_addBlock_5 {nL : Nat} {M : fx_M} {ev : fx_Env} {ret : Option FieldType} {P : fx_P} {stops : List (Nat × Nat)} {K : fx_K} {n : Nat} {L : List (Option Value)} {st : List Value} {I : fx_MI} {J : fx_MJ} {R : fx_MR} {X : Nat → fx_K} (hX : fx_isX nL M ev ret P p_Out_addBlock stops K X) (hs : fx_stop stops 5 = none) : X (n + 1) 5 L st I J R = fx_S nL M ev ret P (.invokevirtual 95) 0 5 L st I J R (X n) := hX.1 _ _ _ _ _ _ _ _ _ rfl hs
theorem q_Out_addBlock_8 {nL : Nat} {M : fx_M} {ev : fx_Env} {ret : Option FieldType} {P : fx_P} {stops : List (Nat × Nat)} {K : fx_K} {n : Nat} {L : List (Option Value)} {st : List Value} {I : fx_MI} {J : fx_MJ} {R : fx_MR} {x : Int32} {X : Nat → fx_K} (hX : fx_isX nL M ev ret P p_Out_addBlock stops K X) (hs : fx_stop stops 8 = none) : X (n + 1) 8 L (.int x :: st) I J R = ((x = 0 → X n 36 L st I J R) ∧ (¬ x = 0 → X n 11 L st I J R)) := fx_q_if hX rfl hs rfl
theorem q_Out_addBlock_11 {nL : Nat} {M : fx_M} {ev : fx_Env} {ret : Option FieldType} {P : fx_P} {stops : List (Nat × Nat)} {K : fx_K} {n : Nat} {L : List (Option Value)} {st : List Value} {I : fx_MI} {J : fx_MJ} {R : fx_MR} {X : Nat → fx_K} (hX : fx_isX nL M ev ret P p_Out_addBlock stops K X) (hs : fx_stop stops 11 = none) : X (n + 1) 11 L st I J R = fx_S nL M ev ret P (.iload_n 2) 0 11 L st I J R (X n) := hX.1 _ _ _ _ _ _ _ _ _ rfl hs
theorem q_Out_addBlock_12 {nL : Nat} {M : fx_M} {ev : fx_Env} {ret : Option FieldType} {P : fx_P} {stops : List (Nat × Nat)} {K : fx_K} {n : Nat} {L : List (Option Value)} {st : List Value} {I : fx_MI} {J : fx_MJ} {R : fx_MR} {X : Nat → fx_K} (hX : fx_isX nL M ev ret P p_Out_addBlock stops K X) (hs : fx_stop stops 12 = none) : X (n + 1) 12 L st I J R = fx_S nL M ev ret P (.iconst 1) 0 12 L st I J R (X n) := hX.1 _ _ _ _ _ _ _ _ _ rfl hs
theorem q_Out_addBlock_13 {nL : Nat} {M : fx_M} {ev : fx_Env} {ret : Option FieldType} {P : fx_P} {stops : List (Nat × Nat)} {K : fx_K} {n : Nat} {L : List (Option Value)} {st : List Value} {I : fx_MI} {J : fx_MJ} {R : fx_MR} {X : Nat → fx_K} (hX : fx_isX nL M ev ret P p_Out_addBlock stops K X) (hs : fx_stop stops 13 = none) : X (n + 1) 13 L st I J R = fx_S nL M ev ret P (.bipush 8) 0 13 L st I J R (X n) := hX.1 _ _ _ _ _ _ _ _ _ rfl hs
theorem q_Out_addBlock_15 {nL : Nat} {M : fx_M} {ev : fx_Env} {ret : Option FieldType} {P : fx_P} {stops : List (Nat × Nat)} {K : fx_K} {n : Nat} {L : List (Option Value)} {st : List Value} {I : fx_MI} {J : fx_MJ} {R : fx_MR} {X : Nat → fx_K} (hX : fx_isX nL M ev ret P p_Out_addBlock stops K X) (hs : fx_stop stops 15 = none) : X (n + 1) 15 L st I J R = fx_S nL M ev ret P (.invokestatic 87) 0 15 L st I J R (X n) := hX.1 _ _ _ _ _ _ _ _ _ rfl hs
theorem q_Out_addBlock_18 {nL : Nat} {M : fx_M} {ev : fx_Env} {ret : Option FieldType} {P : fx_P} {stops : List (Nat × Nat)} {K : fx_K} {n : Nat} {L : List (Option Value)} {st : List Value} {I : fx_MI} {J : fx_MJ} {R : fx_MR} {x : Int32} {X : Nat → fx_K} (hX : fx_isX nL M ev ret P p_Out_addBlock stops K X) (hs : fx_stop stops 18 = none) : X (n + 1) 18 L (.int x :: st) I J R = ((x = 0 → X n 36 L st I J R) ∧ (¬ x = 0 → X n 21 L st I J R)) := fx_q_if hX rfl hs rfl
theorem q_Out_addBlock_21 {nL : Nat} {M : fx_M} {ev : fx_Env} {ret : Option FieldType} {P : fx_P} {stops : List (Nat × Nat)} {K : fx_K} {n : Nat} {L : List (Option Value)} {st : List Value} {I : fx_MI} {J : fx_MJ} {R : fx_MR} {X : Nat → fx_K} (hX : fx_isX nL M ev ret P p_Out_addBlock stops K X) (hs : fx_stop stops 21 = none) : X (n + 1) 21 L st I J R = fx_S nL M ev ret P (.iload_n 3) 0 21 L st I J R (X n) := hX.1 _ _ _ _ _ _ _ _ _ rfl hs
theorem q_Out_addBlock_22 {nL : Nat} {M : fx_M} {ev : fx_Env} {ret : Option FieldType} {P : fx_P} {stops : List (Nat × Nat)} {K : fx_K} {n : Nat} {L : List (Option Value)} {st : List Value} {I : fx_MI} {J : fx_MJ} {R : fx_MR} {X : Nat → fx_K} (hX : fx_isX nL M ev ret P p_Out_addBlock stops K X) (hs : fx_stop stops 22 = none) : X (n + 1) 22 L st I J R = fx_S nL M ev ret P (.iconst 1) 0 22 L st I J R (X n) := hX.1 _ _ _ _ _ _ _ _ _ rfl hs
theorem q_Out_addBlock_23 {nL : Nat} {M : fx_M} {ev : fx_Env} {ret : Option FieldType} {P : fx_P} {stops : List (Nat × Nat)} {K : fx_K} {n : Nat} {L : List (Option Value)} {st : List Value} {I : fx_MI} {J : fx_MJ} {R : fx_MR} {X : Nat → fx_K} (hX : fx_isX nL M ev ret P p_Out_addBlock stops K X) (hs : fx_stop stops 23 = none) : X (n + 1) 23 L st I J R = fx_S nL M ev ret P (.aload_n 0) 0 23 L st I J R (X n) := hX.1 _ _ _ _ _ _ _ _ _ rfl hs
theorem q_Out_addBlock_24 {nL : Nat} {M : fx_M} {ev : fx_Env} {ret : Option FieldType} {P : fx_P} {stops : List (Nat × Nat)} {K : fx_K} {n : Nat} {L : List (Option Value)} {st : List Value} {I : fx_MI} {J : fx_MJ} {R : fx_MR} {X : Nat → fx_K} (hX : fx_isX nL M ev ret P p_Out_addBlock stops K X) (hs : fx_stop stops 24 = none) : X (n + 1) 24 L st I J R = fx_S nL M ev ret P (.getfield 12) 0 24 L st I J R (X n) := hX.1 _ _ _ _ _ _ _ _ _ rfl hs
theorem q_Out_addBlock_27 {nL : Nat} {M : fx_M} {ev : fx_Env} {ret : Option FieldType} {P : fx_P} {stops : List (Nat × Nat)} {K : fx_K} {n : Nat} {L : List (Option Value)} {st : List Value} {I : fx_MI} {J : fx_MJ} {R : fx_MR} {X : Nat → fx_K} (hX : fx_isX nL M ev ret P p_Out_addBlock stops K X) (hs : fx_stop stops 27 = none) : X (n + 1) 27 L st I J R = fx_S nL M ev ret P (.getfield 99) 0 27 L st I J R (X n) := hX.1 _ _ _ _ _ _ _ _ _ rfl hs
theorem q_Out_addBlock_30 {nL : Nat} {M : fx_M} {ev : fx_Env} {ret : Option FieldType} {P : fx_P} {stops : List (Nat × Nat)} {K : fx_K} {n : Nat} {L : List (Option Value)} {st : List Value} {I : fx_MI} {J : fx_MJ} {R : fx_MR} {X : Nat → fx_K} (hX : fx_isX nL M ev ret P p_Out_addBlock stops K X) (hs : fx_stop stops 30 = none) : X (n + 1) 30 L st I J R = fx_S nL M ev ret P (.invokestatic 87) 0 30 L st I J R (X n) := hX.1 _ _ _ _ _ _ _ _ _ rfl hs
theorem q_Out_addBlock_33 {nL : Nat} {M : fx_M} {ev : fx_Env} {ret : Option FieldType} {P : fx_P} {stops : List (Nat × Nat)} {K : fx_K} {n : Nat} {L : List (Option Value)} {st : List Value} {I : fx_MI} {J : fx_MJ} {R : fx_MR} {x : Int32} {X : Nat → fx_K} (hX : fx_isX nL M ev ret P p_Out_addBlock stops K X) (hs : fx_stop stops 33 = none) : X (n + 1) 33 L (.int x :: st) I J R = ((¬ x = 0 → X n 39 L st I J R) ∧ (x = 0 → X n 36 L st I J R)) := fx_q_ifne hX rfl hs rfl
theorem q_Out_addBlock_36 {nL : Nat} {M : fx_M} {ev : fx_Env} {ret : Option FieldType} {P : fx_P} {stops : List (Nat × Nat)} {K : fx_K} {n : Nat} {L : List (Option Value)} {st : List Value} {I : fx_MI} {J : fx_MJ} {R : fx_MR} {X : Nat → fx_K} (hX : fx_isX nL M ev ret P p_Out_addBlock stops K X) (hs : fx_stop stops 36 = none) : X (n + 1) 36 L st I J R = fx_S nL M ev ret P (.bipush (-2)) 0 36 L st I J R (X n) := hX.1 _ _ _ _ _ _ _ _ _ rfl hs
theorem q_Out_addBlock_38 {nL : Nat} {M : fx_M} {ev : fx_Env} {ret : Option FieldType} {P : fx_P} {stops : List (Nat × Nat)} {K : fx_K} {n : Nat} {L : List (Option Value)} {st : List Value} {I : fx_MI} {J : fx_MJ} {R : fx_MR} {X : Nat → fx_K} (hX : fx_isX nL M ev ret P p_Out_addBlock stops K X) (hs : fx_stop stops 38 = none) : X (n + 1) 38 L st I J R = fx_S nL M ev ret P (.ireturn) 0 38 L st I J R (X n) := hX.1 _ _ _ _ _ _ _ _ _ rfl hs
theorem q_Out_addBlock_39 {nL : Nat} {M : fx_M} {ev : fx_Env} {ret : Option FieldType} {P : fx_P} {stops : List (Nat × Nat)} {K : fx_K} {n : Nat} {L : List (Option Value)} {st : List Value} {I : fx_MI} {J : fx_MJ} {R : fx_MR} {X : Nat → fx_K} (hX : fx_isX nL M ev ret P p_Out_addBlock stops K X) (hs : fx_stop stops 39 = none) : X (n + 1) 39 L st I J R = fx_S nL M ev ret P (.aload_n 0) 0 39 L st I J R (X n) := hX.1 _ _ _ _ _ _ _ _ _ rfl hs
theorem q_Out_addBlock_40 {nL : Nat} {M : fx_M} {ev : fx_Env} {ret : Option FieldType} {P : fx_P} {stops : List (Nat × Nat)} {K : fx_K} {n : Nat} {L : List (Option Value)} {st : List Value} {I : fx_MI} {J : fx_MJ} {R : fx_MR} {X : Nat → fx_K} (hX : fx_isX nL M ev ret P p_Out_addBlock stops K X) (hs : fx_stop stops 40 = none) : X (n + 1) 40 L st I J R = fx_S nL M ev ret P (.getfield 19) 0 40 L st I J R (X n) := hX.1 _ _ _ _ _ _ _ _ _ rfl hs
theorem q_Out_addBlock_43 {nL : Nat} {M : fx_M} {ev : fx_Env} {ret : Option FieldType} {P : fx_P} {stops : List (Nat × Nat)} {K : fx_K} {n : Nat} {L : List (Option Value)} {st : List Value} {I : fx_MI} {J : fx_MJ} {R : fx_MR} {X : Nat → fx_K} (hX : fx_isX nL M ev ret P p_Out_addBlock stops K X) (hs : fx_stop stops 43 = none) : X (n + 1) 43 L st I J R = fx_S nL M ev ret P (.getfield 46) 0 43 L st I J R (X n) := hX.1 _ _ _ _ _ _ _ _ _ rfl hs
theorem q_Out_addBlock_46 {nL : Nat} {M : fx_M} {ev : fx_Env} {ret : Option FieldType} {P : fx_P} {stops : List (Nat × Nat)} {K : fx_K} {n : Nat} {L : List (Option Value)} {st : List Value} {I : fx_MI} {J : fx_MJ} {R : fx_MR} {X : Nat → fx_K} (hX : fx_isX nL M ev ret P p_Out_addBlock stops K X) (hs : fx_stop stops 46 = none) : X (n + 1) 46 L st I J R = fx_S nL M ev ret P (.iload_n 1) 0 46 L st I J R (X n) := hX.1 _ _ _ _ _ _ _ _ _ rfl hs
theorem q_Out_addBlock_47 {nL : Nat} {M : fx_M} {ev : fx_Env} {ret : Option FieldType} {P : fx_P} {stops : List (Nat × Nat)} {K : fx_K} {n : Nat} {L : List (Option Value)} {st : List Value} {I : fx_MI} {J : fx_MJ} {R : fx_MR} {X : Nat → fx_K} (hX : fx_isX nL M ev ret P p_Out_addBlock stops K X) (hs : fx_stop stops 47 = none) : X (n + 1) 47 L st I J R = fx_S nL M ev ret P (.iload_n 2) 0 47 L st I J R (X n) := hX.1 _ _ _ _ _ _ _ _ _ rfl hs
theorem q_Out_addBlock_48 {nL : Nat} {M : fx_M} {ev : fx_Env} {ret : Option FieldType} {P : fx_P} {stops : List (Nat × Nat)} {K : fx_K} {n : Nat} {L : List (Option Value)} {st : List Value} {I : fx_MI} {J : fx_MJ} {R : fx_MR} {X : Nat → fx_K} (hX : fx_isX nL M ev ret P p_Out_addBlock stops K X) (hs : fx_stop stops 48 = none) : X (n + 1) 48 L st I J R = fx_S nL M ev ret P (.iload_n 3) 0 48 L st I J R (X n) := hX.1 _ _ _ _ _ _ _ _ _ rfl hs
theorem q_Out_addBlock_49 {nL : Nat} {M : fx_M} {ev : fx_Env} {ret : Option FieldType} {P : fx_P} {stops : List (Nat × Nat)} {K : fx_K} {n : Nat} {L : List (Option Value)} {st : List Value} {I : fx_MI} {J : fx_MJ} {R : fx_MR} {X : Nat → fx_K} (hX : fx_isX nL M ev ret P p_Out_addBlock stops K X) (hs : fx_stop stops 49 = none) : X (n + 1) 49 L st I J R = fx_S nL M ev ret P (.invokevirtual 103) 0 49 L st I J R (X n) := hX.1 _ _ _ _ _ _ _ _ _ rfl hs
theorem q_Out_addBlock_52 {nL : Nat} {M : fx_M} {ev : fx_Env} {ret : Option FieldType} {P : fx_P} {stops : List (Nat × Nat)} {K : fx_K} {n : Nat} {L : List (Option Value)} {st : List Value} {I : fx_MI} {J : fx_MJ} {R : fx_MR} {X : Nat → fx_K} (hX : fx_isX nL M ev ret P p_Out_addBlock stops K X) (hs : fx_stop stops 52 = none) : X (n + 1) 52 L st I J R = fx_S nL M ev ret P (.aload_n 0) 0 52 L st I J R (X n) := hX.1 _ _ _ _ _ _ _ _ _ rfl hs
theorem q_Out_addBlock_53 {nL : Nat} {M : fx_M} {ev : fx_Env} {ret : Option FieldType} {P : fx_P} {stops : List (Nat × Nat)} {K : fx_K} {n : Nat} {L : List (Option Value)} {st : List Value} {I : fx_MI} {J : fx_MJ} {R : fx_MR} {X : Nat → fx_K} (hX : fx_isX nL M ev ret P p_Out_addBlock stops K X) (hs : fx_stop stops 53 = none) : X (n + 1) 53 L st I J R = fx_S nL M ev ret P (.getfield 12) 0 53 L st I J R (X n) := hX.1 _ _ _ _ _ _ _ _ _ rfl hs
theorem q_Out_addBlock_56 {nL : Nat} {M : fx_M} {ev : fx_Env} {ret : Option FieldType} {P : fx_P} {stops : List (Nat × Nat)} {K : fx_K} {n : Nat} {L : List (Option Value)} {st : List Value} {I : fx_MI} {J : fx_MJ} {R : fx_MR} {X : Nat → fx_K} (hX : fx_isX nL M ev ret P p_Out_addBlock stops K X) (hs : fx_stop stops 56 = none) : X (n + 1) 56 L st I J R = fx_S nL M ev ret P (.iload_n 1) 0 56 L st I J R (X n) := hX.1 _ _ _ _ _ _ _ _ _ rfl hs
theorem q_Out_addBlock_57 {nL : Nat} {M : fx_M} {ev : fx_Env} {ret : Option FieldType} {P : fx_P} {stops : List (Nat × Nat)} {K : fx_K} {n : Nat} {L : List (Option Value)} {st : List Value} {I : fx_MI} {J : fx_MJ} {R : fx_MR} {X : Nat → fx_K} (hX : fx_isX nL M ev ret P p_Out_addBlock stops K X) (hs : fx_stop stops 57 = none) : X (n + 1) 57 L st I J R = fx_S nL M ev ret P (.invokevirtual 107) 0 57 L st I J R (X n) := hX.1 _ _ _ _ _ _ _ _ _ rfl hs
theorem q_Out_addBlock_60 {nL : Nat} {M : fx_M} {ev : fx_Env} {ret : Option FieldType} {P : fx_P} {stops : List (Nat × Nat)} {K : fx_K} {n : Nat} {L : List (Option Value)} {st : List Value} {I : fx_MI} {J : fx_MJ} {R : fx_MR} {x y : Int32} {X : Nat → fx_K} (hX : fx_isX nL M ev ret P p_Out_addBlock stops K X) (hs : fx_stop stops 60 = none) : X (n + 1) 60 L (.int y :: .int x :: st) I J R = ((x ≤ y → X n 66 L st I J R) ∧ (¬ x ≤ y → X n 63 L st I J R)) := fx_q_icmp hX rfl hs rfl
theorem q_Out_addBlock_63 {nL : Nat} {M : fx_M} {ev : fx_Env} {ret : Option FieldType} {P : fx_P} {stops : List (Nat × Nat)} {K : fx_K} {n : Nat} {L : List (Option Value)} {st : List Value} {I : fx_MI} {J : fx_MJ} {R : fx_MR} {X : Nat → fx_K} (hX : fx_isX nL M ev ret P p_Out_addBlock stops K X) (hs : fx_stop stops 63 = none) : X (n + 1) 63 L st I J R = fx_S nL M ev ret P (.bipush (-3)) 0 63 L st I J R (X n) := hX.1 _ _ _ _ _ _ _ _ _ rfl hs
theorem q_Out_addBlock_65 {nL : Nat} {M : fx_M} {ev : fx_Env} {ret : Option FieldType} {P : fx_P} {stops : List (Nat × Nat)} {K : fx_K} {n : Nat} {L : List (Option Value)} {st : List Value} {I : fx_MI} {J : fx_MJ} {R : fx_MR} {X : Nat → fx_K} (hX : fx_isX nL M ev ret P p_Out_addBlock stops K X) (hs : fx_stop stops 65 = none) : X (n + 1) 65 L st I J R = fx_S nL M ev ret P (.ireturn) 0 65 L st I J R (X n) := hX.1 _ _ _ _ _ _ _ _ _ rfl hs
theorem q_Out_addBlock_66 {nL : Nat} {M : fx_M} {ev : fx_Env} {ret : Option FieldType} {P : fx_P} {stops : List (Nat × Nat)} {K : fx_K} {n : Nat} {L : List (Option Value)} {st : List Value} {I : fx_MI} {J : fx_MJ} {R : fx_MR} {X : Nat → fx_K} (hX : fx_isX nL M ev ret P p_Out_addBlock stops K X) (hs : fx_stop stops 66 = none) : X (n + 1) 66 L st I J R = fx_S nL M ev ret P (.aload_n 0) 0 66 L st I J R (X n) := hX.1 _ _ _ _ _ _ _ _ _ rfl hs
theorem q_Out_addBlock_67 {nL : Nat} {M : fx_M} {ev : fx_Env} {ret : Option FieldType} {P : fx_P} {stops : List (Nat × Nat)} {K : fx_K} {n : Nat} {L : List (Option Value)} {st : List Value} {I : fx_MI} {J : fx_MJ} {R : fx_MR} {X : Nat → fx_K} (hX : fx_isX nL M ev ret P p_Out_addBlock stops K X) (hs : fx_stop stops 67 = none) : X (n + 1) 67 L st I J R = fx_S nL M ev ret P (.getfield 26) 0 67 L st I J R (X n) := hX.1 _ _ _ _ _ _ _ _ _ rfl hs
theorem q_Out_addBlock_70 {nL : Nat} {M : fx_M} {ev : fx_Env} {ret : Option FieldType} {P : fx_P} {stops : List (Nat × Nat)} {K : fx_K} {n : Nat} {L : List (Option Value)} {st : List Value} {I : fx_MI} {J : fx_MJ} {R : fx_MR} {X : Nat → fx_K} (hX : fx_isX nL M ev ret P p_Out_addBlock stops K X) (hs : fx_stop stops 70 = none) : X (n + 1) 70 L st I J R = fx_S nL M ev ret P (.aload_n 0) 0 70 L st I J R (X n) := hX.1 _ _ _ _ _ _ _ _ _ rfl hs
theorem q_Out_addBlock_71 {nL : Nat} {M : fx_M} {ev : fx_Env} {ret : Option FieldType} {P : fx_P} {stops : List (Nat × Nat)} {K : fx_K} {n : Nat} {L : List (Option Value)} {st : List Value} {I : fx_MI} {J : fx_MJ} {R : fx_MR} {X : Nat → fx_K} (hX : fx_isX nL M ev ret P p_Out_addBlock stops K X) (hs : fx_stop stops 71 = none) : X (n + 1) 71 L st I J R = fx_S nL M ev ret P (.getfield 19) 0 71 L st I J R (X n) := hX.1 _ _ _ _ _ _ _ _ _ rfl hs
theorem q_Out_addBlock_74 {nL : Nat} {M : fx_M} {ev : fx_Env} {ret : Option FieldType} {P : fx_P} {stops : List (Nat × Nat)} {K : fx_K} {n : Nat} {L : List (Option Value)} {st : List Value} {I : fx_MI} {J : fx_MJ} {R : fx_MR} {X : Nat → fx_K} (hX : fx_isX nL M ev ret P p_Out_addBlock stops K X) (hs : fx_stop stops 74 = none) : X (n + 1) 74 L st I J R = fx_S nL M ev ret P (.invokevirtual 111) 0 74 L st I J R (X n) := hX.1 _ _ _ _ _ _ _ _ _ rfl hs
theorem q_Out_addBlock_77 {nL : Nat} {M : fx_M} {ev : fx_Env} {ret : Option FieldType} {P : fx_P} {stops : List (Nat × Nat)} {K : fx_K} {n : Nat} {L : List (Option Value)} {st : List Value} {I : fx_MI} {J : fx_MJ} {R : fx_MR} {X : Nat → fx_K} (hX : fx_isX nL M ev ret P p_Out_addBlock stops K X) (hs : fx_stop stops 77 = none) : X (n + 1) 77 L st I J R = fx_S nL M ev ret P (.aload_n 0) 0 77 L st I J R (X n) := hX.1 _ _ _ _ _ _ _ _ _ rfl hs
theorem q_Out_addBlock_78 {nL : Nat} {M : fx_M} {ev : fx_Env} {ret : Option FieldType} {P : fx_P} {stops : List (Nat × Nat)} {K : fx_K} {n : Nat} {L : List (Option Value)} {st : List Value} {I : fx_MI} {J : fx_MJ} {R : fx_MR} {X : Nat → fx_K} (hX : fx_isX nL M ev ret P p_Out_addBlock stops K X) (hs : fx_stop stops 78 = none) : X (n + 1) 78 L st I J R = fx_S nL M ev ret P (.getfield 19) 0 78 L st I J R (X n) := hX.1 _ _ _ _ _ _ _ _ _ rfl hs
theorem q_Out_addBlock_81 {nL : Nat} {M : fx_M} {ev : fx_Env} {ret : Option FieldType} {P : fx_P} {stops : List (Nat × Nat)} {K : fx_K} {n : Nat} {L : List (Option Value)} {st : List Value} {I : fx_MI} {J : fx_MJ} {R : fx_MR} {X : Nat → fx_K} (hX : fx_isX nL M ev ret P p_Out_addBlock stops K X) (hs : fx_stop stops 81 = none) : X (n + 1) 81 L st I J R = fx_S nL M ev ret P (.getfield 46) 0 81 L st I J R (X n) := hX.1 _ _ _ _ _ _ _ _ _ rfl hs
theorem q_Out_addBlock_84 {nL : Nat} {M : fx_M} {ev : fx_Env} {ret : Option FieldType} {P : fx_P} {stops : List (Nat × Nat)} {K : fx_K} {n : Nat} {L : List (Option Value)} {st : List Value} {I : fx_MI} {J : fx_MJ} {R : fx_MR} {X : Nat → fx_K} (hX : fx_isX nL M ev ret P p_Out_addBlock stops K X) (hs : fx_stop stops 84 = none) : X (n + 1) 84 L st I J R = fx_S nL M ev ret P (.iload_n 1) 0 84 L st I J R (X n) := hX.1 _ _ _ _ _ _ _ _ _ rfl hs
theorem q_Out_addBlock_85 {nL : Nat} {M : fx_M} {ev : fx_Env} {ret : Option FieldType} {P : fx_P} {stops : List (Nat × Nat)} {K : fx_K} {n : Nat} {L : List (Option Value)} {st : List Value} {I : fx_MI} {J : fx_MJ} {R : fx_MR} {X : Nat → fx_K} (hX : fx_isX nL M ev ret P p_Out_addBlock stops K X) (hs : fx_stop stops 85 = none) : X (n + 1) 85 L st I J R = fx_S nL M ev ret P (.iload_n 2) 0 85 L st I J R (X n) := hX.1 _ _ _ _ _ _ _ _ _ rfl hs
theorem q_Out_addBlock_86 {nL : Nat} {M : fx_M} {ev : fx_Env} {ret : Option FieldType} {P : fx_P} {stops : List (Nat × Nat)} {K : fx_K} {n : Nat} {L : List (Option Value)} {st : List Value} {I : fx_MI} {J : fx_MJ} {R : fx_MR} {X : Nat → fx_K} (hX : fx_isX nL M ev ret P p_Out_addBlock stops K X) (hs : fx_stop stops 86 = none) : X (n + 1) 86 L st I J R = fx_S nL M ev ret P (.iload_n 3) 0 86 L st I J R (X n) := hX.1 _ _ _ _ _ _ _ _ _ rfl hs
theorem q_Out_addBlock_87 {nL : Nat} {M : fx_M} {ev : fx_Env} {ret : Option FieldType} {P : fx_P} {stops : List (Nat × Nat)} {K : fx_K} {n : Nat} {L : List (Option Value)} {st : List Value} {I : fx_MI} {J : fx_MJ} {R : fx_MR} {X : Nat → fx_K} (hX : fx_isX nL M ev ret P p_Out_addBlock stops K X) (hs : fx_stop stops 87 = none) : X (n + 1) 87 L st I J R = fx_S nL M ev ret P (.invokevirtual 115) 0 87 L st I J R (X n) := hX.1 _ _ _ _ _ _ _ _ _ rfl hs
theorem q_Out_addBlock_90 {nL : Nat} {M : fx_M} {ev : fx_Env} {ret : Option FieldType} {P : fx_P} {stops : List (Nat × Nat)} {K : fx_K} {n : Nat} {L : List (Option Value)} {st : List Value} {I : fx_MI} {J : fx_MJ} {R : fx_MR} {X : Nat → fx_K} (hX : fx_isX nL M ev ret P p_Out_addBlock stops K X) (hs : fx_stop stops 90 = none) : X (n + 1) 90 L st I J R = fx_S nL M ev ret P (.aload_n 0) 0 90 L st I J R (X n) := hX.1 _ _ _ _ _ _ _ _ _ rfl hs
theorem q_Out_addBlock_91 {nL : Nat} {M : fx_M} {ev : fx_Env} {ret : Option FieldType} {P : fx_P} {stops : List (Nat × Nat)} {K : fx_K} {n : Nat} {L : List (Option Value)} {st : List Value} {I : fx_MI} {J : fx_MJ} {R : fx_MR} {X : Nat → fx_K} (hX : fx_isX nL M ev ret P p_Out_addBlock stops K X) (hs : fx_stop stops 91 = none) : X (n + 1) 91 L st I J R = fx_S nL M ev ret P (.getfield 19) 0 91 L st I J R (X n) := hX.1 _ _ _ _ _ _ _ _ _ rfl hs
theorem q_Out_addBlock_94 {nL : Nat} {M : fx_M} {ev : fx_Env} {ret : Option FieldType} {P : fx_P} {stops : List (Nat × Nat)} {K : fx_K} {n : Nat} {L : List (Option Value)} {st : List Value} {I : fx_MI} {J : fx_MJ} {R : fx_MR} {X : Nat → fx_K} (hX : fx_isX nL M ev ret P p_Out_addBlock stops K X) (hs : fx_stop stops 94 = none) : X (n + 1) 94 L st I J R = fx_S nL M ev ret P (.getfield 46) 0 94 L st I J R (X n) := hX.1 _ _ _ _ _ _ _ _ _ rfl hs
theorem q_Out_addBlock_97 {nL : Nat} {M : fx_M} {ev : fx_Env} {ret : Option FieldType} {P : fx_P} {stops : List (Nat × Nat)} {K : fx_K} {n : Nat} {L : List (Option Value)} {st : List Value} {I : fx_MI} {J : fx_MJ} {R : fx_MR} {X : Nat → fx_K} (hX : fx_isX nL M ev ret P p_Out_addBlock stops K X) (hs : fx_stop stops 97 = none) : X (n + 1) 97 L st I J R = fx_S nL M ev ret P (.getfield 118) 0 97 L st I J R (X n) := hX.1 _ _ _ _ _ _ _ _ _ rfl hs
theorem q_Out_addBlock_100 {nL : Nat} {M : fx_M} {ev : fx_Env} {ret : Option FieldType} {P : fx_P} {stops : List (Nat × Nat)} {K : fx_K} {n : Nat} {L : List (Option Value)} {st : List Value} {I : fx_MI} {J : fx_MJ} {R : fx_MR} {X : Nat → fx_K} (hX : fx_isX nL M ev ret P p_Out_addBlock stops K X) (hs : fx_stop stops 100 = none) : X (n + 1) 100 L st I J R = fx_S nL M ev ret P (.iload_n 1) 0 100 L st I J R (X n) := hX.1 _ _ _ _ _ _ _ _ _ rfl hs
theorem q_Out_addBlock_101 {nL : Nat} {M : fx_M} {ev : fx_Env} {ret : Option FieldType} {P : fx_P} {stops : List (Nat × Nat)} {K : fx_K} {n : Nat} {L : List (Option Value)} {st : List Value} {I : fx_MI} {J : fx_MJ} {R : fx_MR} {X : Nat → fx_K} (hX : fx_isX nL M ev ret P p_Out_addBlock stops K X) (hs : fx_stop stops 101 = none) : X (n + 1) 101 L st I J R = fx_S nL M ev ret P (.iaload) 0 101 L st I J R (X n) := hX.1 _ _ _ _ _ _ _ _ _ rfl hs
theorem q_Out_addBlock_102 {nL : Nat} {M : fx_M} {ev : fx_Env} {ret : Option FieldType} {P : fx_P} {stops : List (Nat × Nat)} {K : fx_K} {n : Nat} {L : List (Option Value)} {st : List Value} {I : fx_MI} {J : fx_MJ} {R : fx_MR} {X : Nat → fx_K} (hX : fx_isX nL M ev ret P p_Out_addBlock stops K X) (hs : fx_stop stops 102 = none) : X (n + 1) 102 L st I J R = fx_S nL M ev ret P (.ireturn) 0 102 L st I J R (X n) := hX.1 _ _ _ _ _ _ _ _ _ rfl hs
def pre_Out_addBlock (n : Nat) : fx_Pre := fun st I J R => (∃ b, R = R0C b) ∧ (match st with
  | [.ref 0, .int v, .int w, .int y] => relE I J
  | _ => False)
theorem pi_Out_addBlock {n : Nat} {st : List Value} {I : fx_MI} {J : fx_MJ} {R : fx_MR} (h : pre_Out_addBlock n st I J R) : (∃ b, R = R0C b) ∧ ∃ v, ∃ w, ∃ y, st = [.ref 0, .int v, .int w, .int y] ∧ (relE I J) := by
  unfold pre_Out_addBlock at h
  obtain ⟨h0, h⟩ := h
  split at h
  · exact ⟨h0, _, _, _, rfl, h⟩
  · cases h
def post_Out_addBlock (n : Nat) : fx_Post := fun st I J R r I' J' R' => match st with
  | [_, .int v, .int w, .int y] => simP (post_M_addBlock [.ref 0, .int v, .int w, .int y]) I J r I' J' R'
  | _ => True
theorem pz_Out_addBlock {st : List Value} {I : fx_MI} {J : fx_MJ} {R : fx_MR} (n : Nat) (h : pre_Out_addBlock n st I J R) : ∃ q r, st = .ref q :: r ∧ (MC n).2.2.1 q = some (.inl 0) ∧ r.length = 3 := by
  obtain ⟨_, _, _, _, rfl, _⟩ := pi_Out_addBlock h
  exact ⟨_, _, rfl, rfl, rfl⟩
def v_Out_addBlock (n : Nat) : fx_Env := [(.getfield 12, fx_tget (MC n) 0 0), (.invokevirtual 95, fx_tcall 2 (pre_Grid_hasLine n) (post_Grid_hasLine n)), (.invokestatic 87, fx_tcall 3 (pre_Out_isWithin n) (post_Out_isWithin n)), (.getfield 99, fx_tget (MC n) 1 2), (.getfield 19, fx_tget (MC n) 0 1), (.getfield 46, fx_tget (MC n) 2 0), (.invokevirtual 103, fx_tcall 4 (pre_Clues_roomWith n) (post_Clues_roomWith n)), (.invokevirtual 107, fx_tcall 2 (pre_Grid_cellsOf n) (post_Grid_cellsOf n)), (.getfield 26, fx_tget (MC n) 0 2), (.invokevirtual 111, fx_tcall 2 (pre_History_record n) (post_History_record n)), (.invokevirtual 115, fx_tcall 4 (pre_Clues_append n) (post_Clues_append n)), (.getfield 118, fx_tget (MC n) 3 1)]
abbrev rm_Out_addBlock : Room := { frames := 4, cells := 0, slots := 0, locals := 123 }
abbrev ws_Out_addBlock : List Cond := Cond.code y_Out_addBlock b_Out_addBlock 4 (some .int) :: w_C
theorem e_Out_c103 {l : Launch} {c0 : Cond} {rm : Room} {n nL : Nat} {cc : ByteArray} (hR : rm_Clues_roomWith.frames + 1 ≤ rm.frames ∧ 8 + (6 + 11) + rm_Clues_roomWith.locals ≤ rm.locals) : fx_E1 l R_Out (c0 :: w_C) rm (MC n) nL cc (.invokevirtual 103) (fx_tcall 4 (pre_Clues_roomWith n) (post_Clues_roomWith n)) := fx_callV (ci := 3) (C := R_Clues) rfl (c_Clues_roomWith l n) (w_C_G (w_C_h5 24 rfl) (w_C_h0 42 rfl) (w_C_h0 43 rfl) (w_C_h0 39 rfl) (w_C_h0 35 rfl)) rfl ⟨rfl, rfl⟩ (by decide) hR (fun st I J R h => pz_Clues_roomWith n h) (MC_ok n)
theorem e_Out_c115 {l : Launch} {c0 : Cond} {rm : Room} {n nL : Nat} {cc : ByteArray} (hR : rm_Clues_append.frames + 1 ≤ rm.frames ∧ 8 + (5 + 11) + rm_Clues_append.locals ≤ rm.locals) : fx_E1 l R_Out (c0 :: w_C) rm (MC n) nL cc (.invokevirtual 115) (fx_tcall 4 (pre_Clues_append n) (post_Clues_append n)) := fx_callV (ci := 3) (C := R_Clues) rfl (c_Clues_append l n) (w_C_G (w_C_h5 29 rfl) (w_C_h5 30 rfl) (w_C_h5 31 rfl) (w_C_h0 39 rfl) (w_C_h0 40 rfl)) rfl ⟨rfl, rfl⟩ (by decide) hR (fun st I J R h => pz_Clues_append n h) (MC_ok n)
theorem vk_Out_addBlock {l : Launch} {n : Nat} : fx_EV l R_Out ws_Out_addBlock rm_Out_addBlock (MC n) 4 b_Out_addBlock (v_Out_addBlock n) := (fx_EV_cons e_Out_g12 (fx_EV_cons (e_Out_c95 (by decide)) (fx_EV_cons (e_Out_c87 (by decide)) (fx_EV_cons e_Out_g99 (fx_EV_cons e_Out_g19 (fx_EV_cons e_Out_g46 (fx_EV_cons (e_Out_c103 (by decide)) (fx_EV_cons (e_Out_c107 (by decide)) (fx_EV_cons e_Out_g26 (fx_EV_cons (e_Out_c111 (by decide)) (fx_EV_cons (e_Out_c115 (by decide)) (fx_EV_cons e_Out_g118 fx_EV_nil))))))))))))
theorem r_Out_addBlock (n : Nat) (st : List Value) (I : fx_MI) (J : fx_MJ) (R : fx_MR) (h : pre_Out_addBlock n st I J R) : fx_sz st ≤ 4 ∧ fx_R 4 (MC n) (v_Out_addBlock n) (some .int) (post_Out_addBlock n st I J R) p_Out_addBlock 0 (fx_en st) [] I J R := by
  obtain ⟨⟨b, rfl⟩, v, w, y, rfl, hp⟩ := pi_Out_addBlock h
  clear h
  refine ⟨Nat.le_of_ble_eq_true rfl, ?_⟩
  obtain ⟨Ir0, hr0⟩ := hp
  have hh := REL_his hr0
  obtain ⟨hw, hh2, hc, e0, e1, e2⟩ := dimC_of hr0.1.1.1
  have hno : in_M v (nI 0) (nI (cH I + cW I - 1)) = false ∨ in_M w (nI 1) (nI 8) = false ∨ in_M y (nI 1) (nI (cC I)) = false → post_Out_addBlock n [.ref 0, .int v, .int w, .int y] I J (R0C b) (some (.int (-nI 2))) I J (R0C b) := fun z => by
    refine ⟨⟨b, rfl⟩, fun Ir hr Jr r2 Ir2 Jr2 Rr2 hq => ?_⟩
    obtain ⟨⟨f1, f2, f3⟩, -⟩ := REL_ref hr
    rcases hq with ⟨h1, rfl, rfl, rfl, rfl⟩ | ⟨k, m, d, h2, rfl, h4, rfl, h6, rfl, -⟩
    · exact ⟨rfl, rfl, hr⟩
    · rw [f1, f2] at h2
      rw [f3] at h6
      rw [in_k (by omega) (by omega) (by omega), in_k (by omega) (by omega) (by omega), in_k (by omega) (by omega) (by omega), decide_eq_true (by omega), decide_eq_true (by omega), decide_eq_true (by omega), decide_eq_true (by omega), decide_eq_true (by omega), decide_eq_true (by omega)] at z
      exact absurd z (by decide)
  refine fx_run0 120 fun X hX => ?_
  simp only [q_Out_addBlock_0 hX rfl, q_Out_addBlock_1 hX rfl, q_Out_addBlock_4 hX rfl, q_Out_addBlock_5 hX rfl, q_Out_addBlock_8 hX rfl, q_Out_addBlock_11 hX rfl, q_Out_addBlock_12 hX rfl, q_Out_addBlock_13 hX rfl, q_Out_addBlock_15 hX rfl, q_Out_addBlock_18 hX rfl, q_Out_addBlock_21 hX rfl, q_Out_addBlock_22 hX rfl, q_Out_addBlock_23 hX rfl, q_Out_addBlock_24 hX rfl, q_Out_addBlock_27 hX rfl, q_Out_addBlock_30 hX rfl, q_Out_addBlock_33 hX rfl, q_Out_addBlock_36 hX rfl, q_Out_addBlock_38 hX rfl, q_Out_addBlock_39 hX rfl, q_Out_addBlock_40 hX rfl, q_Out_addBlock_43 hX rfl, q_Out_addBlock_46 hX rfl, q_Out_addBlock_47 hX rfl, q_Out_addBlock_48 hX rfl, q_Out_addBlock_49 hX rfl, q_Out_addBlock_52 hX rfl, q_Out_addBlock_53 hX rfl, q_Out_addBlock_56 hX rfl, q_Out_addBlock_57 hX rfl, q_Out_addBlock_60 hX rfl, q_Out_addBlock_63 hX rfl, q_Out_addBlock_65 hX rfl, q_Out_addBlock_66 hX rfl, q_Out_addBlock_67 hX rfl, q_Out_addBlock_70 hX rfl, q_Out_addBlock_71 hX rfl, q_Out_addBlock_74 hX rfl, q_Out_addBlock_77 hX rfl, q_Out_addBlock_78 hX rfl, q_Out_addBlock_81 hX rfl, q_Out_addBlock_84 hX rfl, q_Out_addBlock_85 hX rfl, q_Out_addBlock_86 hX rfl, q_Out_addBlock_87 hX rfl, q_Out_addBlock_90 hX rfl, q_Out_addBlock_91 hX rfl, q_Out_addBlock_94 hX rfl, q_Out_addBlock_97 hX rfl, q_Out_addBlock_100 hX rfl, q_Out_addBlock_101 hX rfl, q_Out_addBlock_102 hX rfl, fs_aload_n0, fs_aload_n1, fs_aload_n2, fs_aload_n3, fs_bipush, fs_getfield, fs_iaload, fs_iconst, fs_ifCond, fs_if_icmp, fs_iload_n0, fs_iload_n1, fs_iload_n2, fs_iload_n3, fs_invokestatic, fs_invokevirtual, fs_ireturn, v_Out_addBlock, ci_1, cb_8, cb_m2, cb_m3, pre_Grid_hasLine, post_Grid_hasLine, pre_Out_isWithin, post_Out_isWithin, pre_Clues_roomWith, post_Clues_roomWith, pre_Grid_cellsOf, post_Grid_cellsOf, pre_History_record, post_History_record, pre_Clues_append, post_Clues_append, kd_C_0_0, pl_C_0, R0C_0_0, pl_C_1, kd_C_1_2, kd_C_0_1, R0C_0_1, pl_C_2, kd_C_2_0, R0C_2_0, pl_C_3, kd_C_0_2, R0C_0_2, pl_C_12, kd_C_3_1, R0C_3_1, pl_C_4, pl_C_96, R0C_96_1, pl_C_97, fx_oi_s, fx_ol_s, fx_or_s, fx_do_s, fx_lg_0, fx_lg_s, fx_ls_0, fx_ls_s, fx_ls_n0, fx_ls_ns, fx_en, fx_sz, Value.category, fx_nl, fx_lk, fx_tget, fx_tput, fx_tcall, fx_tldc, fx_fv, va_rf, fx_cat, fx_in, fx_cnd, fx_len, fx_narI, fx_narZ0, fx_narZ1, fx_narZb, zb_e, zb_ne, Option.some.injEq, Value.int.injEq, Value.long.injEq, Value.ref.injEq, List.cons.injEq, Nat.reduceAdd, Nat.reduceLeDiff, Nat.le_refl, List.take, List.drop, List.reverse_cons, List.reverse_nil, List.nil_append, List.cons_append, List.append_nil, List.map_cons, List.map_nil, List.sum_cons, List.sum_nil, List.length_cons, List.length_nil, Option.toList, fx_all4, forall_const, true_and, and_true, not_true_eq_false, not_false_eq_true, false_implies, true_implies, ne_eq, reduceCtorEq, Nat.reduceEqDiff, ite_true, ite_false, reduceIte, Instr.getfield.injEq, Instr.putfield.injEq, Instr.invokevirtual.injEq, Instr.invokestatic.injEq, Instr.ldc2_w.injEq, fx_tcopy, Instr.ldc.injEq, Instr.ldc_w.injEq, exists_eq_left, exists_prop, R0C_ex]
  simp (disch := omega) only [lit, nI_add, nI_mul', nI_sub', nI_clamp, nI_lt', nI_le', nI_eq', nI_in', iinc1, zb_n0, nI_div', nI_rem2, true_and, and_true, Nat.reduceEqDiff, Nat.reduceLeDiff, Nat.one_ne_zero, Nat.zero_ne_one, not_false_eq_true, not_true_eq_false, false_implies, true_implies, forall_const, Nat.zero_add, Nat.add_zero, nv_nI, up_eq, up_ne, fill_ne, nI_clamp, nI_add, e0, e1, e2]
  refine ⟨fun z => hno (Or.inl z), fun h1 => ⟨fun z => hno (Or.inr (Or.inl z)), fun h2 => ⟨fun h3 => ?_, fun z => hno (Or.inr (Or.inr z))⟩⟩⟩
  obtain ⟨l, -, hl', rfl⟩ := in_t (by omega) (by omega) (bnf h1)
  obtain ⟨a, ha1, ha2, rfl⟩ := in_t (by omega) (by omega) (bnf h2)
  obtain ⟨d, hd1, hd2, rfl⟩ := in_t (by omega) (by omega) (bnf h3)
  have hl : l < cH I + cW I := by omega
  have hv : nv (nI l) = l := nv_nI (by omega)
  have hcl := cellsN_le (l := l) hw.2 hh2.2
  have hcel : (if nI l < nI (cH I) then nI (cW I) else nI (cH I)) = nI (cellsN (cW I) (cH I) l) := by
    unfold cellsN
    by_cases h6 : l < cH I
    · rw [if_pos h6, if_pos (by rw [nI_lt' (by omega) (by omega)]; exact h6)]
    · rw [if_neg h6, if_neg (by rw [nI_lt' (by omega) (by omega)]; exact h6)]
  obtain ⟨M, Rm, hM8, hM, hR, hall⟩ : ∃ M Rm, M ≤ 8 ∧ I 4 l = nI M ∧ I 5 l = nI Rm ∧ ∀ Ir, REL I J Ir → manyN (Ir 1) l = M ∧ roomN (Ir 1) l M = Rm ∧ Rm ≤ 8 := by
    obtain ⟨c1, c2, c3⟩ := clR_l (l := l) (by omega) (by omega) hl hr0.2.1.1
    have c4 := (hr0.2.1.1.2.2 l hl).2
    refine ⟨_, _, c1, c2, c3, fun Ir hr => ?_⟩
    obtain ⟨k1, k2, k3⟩ := clR_l (l := l) (by omega) (by omega) hl hr.2.1.1
    have k4 := (hr.2.1.1.2.2 l hl).2
    have q1 := congrArg nv (k2.symm.trans c2)
    have q2 := congrArg nv (k3.symm.trans c3)
    rw [nv_nI (by omega), nv_nI (by omega)] at q1 q2
    rw [q1] at q2 k4
    exact ⟨q1, q2, by omega⟩
  have hRm := (hall Ir0 hr0).2.2
  have hg1 : gapW I 3 l M (nI d) ≤ 1 := by
    unfold gapW
    split <;> omega
  have er : recI I 2 4 l = nI M := (recI_ne (by omega) hh).trans hM
  rw [hv, hcel, hM, hR, er, nv_nI (by omega)]
  refine ⟨⟨rfl, l, M, by omega, by omega, rfl, hM⟩, fun h4 => ?_, fun h4 => ?_⟩
  · simp (disch := omega) only [nI_add, nI_le'] at h4
    have h8 : M < 8 := by
      obtain ⟨c1, c2, c3⟩ := hall Ir0 hr0
      have := room_ge (hr0.2.1.1.1 l (by omega)).1 (m := M) (k := M) (by omega) (Nat.le_refl _)
      omega
    rw [if_neg (by omega)]
    have hval : apC (recI I 2) 3 l M (nI a) (nI d) 4 (nI l).toNatClampNeg = nI (M + 1) := by
      have := ap_1 (I := recI I 2) (q := 3) (i := l) (s := M) (a := nI a) (d := nI d) l
      rw [if_pos rfl] at this
      exact (congrArg (apC (recI I 2) 3 l M (nI a) (nI d) 4) hv).trans this
    rw [hval]
    refine ⟨⟨rfl, hh⟩, ⟨rfl, l, M, by omega, by omega, rfl, er⟩, by simp (disch := omega) only [nI_in'], ⟨b, rfl⟩, fun Ir hr Jr r2 Ir2 Jr2 Rr2 hq => ?_⟩
    obtain ⟨⟨f1, f2, f3⟩, -⟩ := REL_ref hr
    obtain ⟨c1, c2, c3⟩ := hall Ir hr
    have cg : gapW I 3 l M (nI d) = gapK (Ir 1) l M (nI d) := gap_WK (by omega) hr.2.1.1 c1
    rcases hq with ⟨k1, -⟩ | ⟨k, m, d', k2, k3, k4, k5, k6, k7, k8⟩
    · rw [inL_e hr, (REL_d hr).2.2, bnf h1, show in_M (nI a) 1 8 = true from bnf h2, show in_M (nI d) 1 (nI (cC I)) = true from bnf h3] at k1
      exact absurd k1 (by decide)
    · rw [f1, f2] at k2
      rw [f3] at k6
      have q1 := congrArg nv k3
      have q2 := congrArg nv k5
      have q3 := congrArg nv k7
      rw [nv_nI (by omega), nv_nI (by omega)] at q1 q2 q3
      subst q1 q2 q3
      rw [f1, f2, c1, c2, ← cg] at k8
      rcases k8 with ⟨k9, -⟩ | ⟨k9, rfl, hI2, rfl, rfl⟩
      · omega
      · refine ⟨rfl, rfl, REL_nowC hr (fun q j hq => ap_o (by omega)) (fun q j hq => ?_) ?_⟩
        · rw [hI2, up_ne (by omega), up_ne (by omega), up_ne (by omega), up_ne (by omega)]
        · have hrec := clR_rec hr
          refine clR_cong (by omega) (fun j hj => ?_) (clR_app (a := a) (d := d) (by omega) hw.2 hh2.2 hl hrec c1 ⟨ha1, ha2⟩ ⟨hd1, hd2⟩ (by rw [c2, ← cg]; omega)).2
          rw [hI2]
          unfold appF
          by_cases y1 : j = 16 + l
          · subst y1
            rw [up_eq, if_neg (by omega), if_pos rfl]
          · rw [up_ne (by omega), if_neg y1]
            by_cases y2 : j = 160 + (8 * l + M)
            · subst y2
              rw [up_eq, if_neg (by omega), if_neg (by omega), if_pos rfl]
            · rw [up_ne (by omega), if_neg y2]
              by_cases y3 : j = 32 + (8 * l + M)
              · subst y3
                rw [up_eq, if_neg (by omega), if_pos rfl]
              · rw [up_ne (by omega), if_neg y3]
                by_cases y4 : j = l
                · subst y4
                  rw [up_eq, if_pos rfl]
                · rw [up_ne (by omega), if_neg y4, keepsM_row]
  · simp (disch := omega) only [nI_add, nI_le'] at h4
    refine ⟨⟨b, rfl⟩, fun Ir hr Jr r2 Ir2 Jr2 Rr2 hq => ?_⟩
    obtain ⟨⟨f1, f2, f3⟩, -⟩ := REL_ref hr
    obtain ⟨c1, c2, c3⟩ := hall Ir hr
    have cg : gapW I 3 l M (nI d) = gapK (Ir 1) l M (nI d) := gap_WK (by omega) hr.2.1.1 c1
    rcases hq with ⟨k1, -⟩ | ⟨k, m, d', k2, k3, k4, k5, k6, k7, k8⟩
    · rw [inL_e hr, (REL_d hr).2.2, bnf h1, show in_M (nI a) 1 8 = true from bnf h2, show in_M (nI d) 1 (nI (cC I)) = true from bnf h3] at k1
      exact absurd k1 (by decide)
    · rw [f1, f2] at k2
      rw [f3] at k6
      have q1 := congrArg nv k3
      have q2 := congrArg nv k5
      have q3 := congrArg nv k7
      rw [nv_nI (by omega), nv_nI (by omega)] at q1 q2 q3
      subst q1 q2 q3
      rw [f1, f2, c1, c2, ← cg] at k8
      rcases k8 with ⟨k9, rfl, rfl, rfl, rfl⟩ | ⟨k9, -⟩
      · exact ⟨rfl, rfl, hr⟩
      · omega
theorem c_Out_addBlock (l : Launch) (n : Nat) : fx_Met l y_Out_addBlock ws_Out_addBlock rm_Out_addBlock (MC n) (pre_Out_addBlock n) (post_Out_addBlock n) := fx_met (MC_ok n) (MC_tys n) (by decide) rfl pk_Out_addBlock vk_Out_addBlock (fun st I J R h => r_Out_addBlock n st I J R h)
