/-! the class: takeClues (own work) -/
theorem pc_same {w h k : Nat} {J : fx_MJ} {f f' : Nat → Int32} (hw : 1 ≤ w ∧ w ≤ 8) (hh : h ≤ 8) (h1 : pcR w h J 10 f) (h2 : pcR w h J 10 f') (h4 : picN f k < 4) (hk : k < w * h) : picN f' k = picN f k := (pc_at hw hh h2 hk h4).mp ((pc_at hw hh h1 hk h4).mpr rfl)
theorem tkM_same {w h l : Nat} {J : fx_MJ} {f f' : Nat → Int32} (hw : 1 ≤ w ∧ w ≤ 8) (hh : 1 ≤ h ∧ h ≤ 8) (hl : l < h + w) (h1 : pcR w h J 10 f) (h2 : pcR w h J 10 f') (h4 : ∀ k, k < w * h → picN f k < 4) : tkM w h f' l = tkM w h f l := by
  unfold tkM
  refine tkS_c (fun i hi => ?_) (Nat.le_refl _)
  have hat := atN_lt hw.2 hh.2 hl hi
  exact pc_same hw hh.2 h1 h2 (h4 _ hat) hat
/-- a line without a clue -/
theorem clR_0 {w h c q l : Nat} {I : fx_MI} {f : Nat → Int32} (hl : l < 16) (h0 : h + w ≤ l) (h1 : clR w h c I q f) : f l = nI 0 ∧ f (16 + l) = nI 0 := by
  obtain ⟨g1, g2, -⟩ := h1.1 l hl
  have hb : bt (I q 0) l = false := bnt fun z => by
    have := h1.2.1 l z
    omega
  rw [cf_has hl, hb] at g2
  exact ⟨g2.symm, g1.2.2.1 g2.symm⟩
def inv_ts (I : fx_MI) (J : fx_MJ) (b : Bool) (w h c : Nat) (f0 : Nat → Int32) (k : Nat) (L : List (Option Value)) (st : List Value) (I' : fx_MI) (J' : fx_MJ) (R' : fx_MR) : Prop := (∃ F : Nat → Int32, clR w h c I' 3 F ∧ (∀ j, 288 ≤ j → F j = f0 j) ∧ ∀ l, l < k → clueIs F l (tkM w h f0 l).2.1 (tkM w h f0 l).2.2.1 (tkM w h f0 l).2.2.2) ∧ (∀ q j, (q < 3 ∨ 7 < q) → I' q j = recI I 2 q j) ∧ L = [some (.ref 0), some (.int (nI (tkT w h f0 k))), some (.int (nI k))] ∧ st = [] ∧ J' = recJ I J 2 ∧ R' = R0C b
def p_Out_takeClues : fx_Pr := fx_pr [(0, .aload_n 0, 0), (1, .getfield 26, 0), (4, .aload_n 0, 0), (5, .getfield 19, 0), (8, .invokevirtual 111, 0), (11, .iconst 0, 0), (12, .istore_n 1, 0), (13, .iconst 0, 0), (14, .istore_n 2, 0), (15, .iload_n 2, 0), (16, .aload_n 0, 0), (17, .getfield 12, 0), (20, .invokevirtual 91, 0), (23, .if_icmp .ge 44, 67), (26, .aload_n 0, 0), (27, .iload_n 2, 0), (28, .invokevirtual 206, 0), (31, .iload_n 1, 0), (32, .iload_n 2, 0), (33, .aload_n 0, 0), (34, .getfield 12, 0), (37, .getfield 178, 0), (40, .if_icmp .ge 18, 58), (43, .aload_n 0, 0), (44, .getfield 19, 0), (47, .getfield 46, 0), (50, .getfield 118, 0), (53, .iload_n 2, 0), (54, .iaload, 0), (55, .goto 4, 59), (58, .iconst 0, 0), (59, .iadd, 0), (60, .istore_n 1, 0), (61, .iinc 2 1, 0), (64, .goto (-49), 15), (67, .iload_n 1, 0), (68, .ireturn, 0)]
theorem pk_Out_takeClues : fx_prOK b_Out_takeClues p_Out_takeClues := fx_pr_ok (by decide +kernel)
theorem q_Out_takeClues_0 {nL : Nat} {M : fx_M} {ev : fx_Env} {ret : Option FieldType} {P : fx_P} {stops : List (Nat × Nat)} {K : fx_K} {n : Nat} {L : List (Option Value)} {st : List Value} {I : fx_MI} {J : fx_MJ} {R : fx_MR} {X : Nat → fx_K} (hX : fx_isX nL M ev ret P p_Out_takeClues stops K X) (hs : fx_stop stops 0 = none) : X (n + 1) 0 L st I J R = fx_S nL M ev ret P (.aload_n 0) 0 0 L st I J R (X n) := hX.1 _ _ _ _ _ _ _ _ _ rfl hs
theorem q_Out_takeClues_1 {nL : Nat} {M : fx_M} {ev : fx_Env} {ret : Option FieldType} {P : fx_P} {stops : List (Nat × Nat)} {K : fx_K} {n : Nat} {L : List (Option Value)} {st : List Value} {I : fx_MI} {J : fx_MJ} {R : fx_MR} {X : Nat → fx_K} (hX : fx_isX nL M ev ret P p_Out_takeClues stops K X) (hs : fx_stop stops 1 = none) : X (n + 1) 1 L st I J R = fx_S nL M ev ret P (.getfield 26) 0 1 L st I J R (X n) := hX.1 _ _ _ _ _ _ _ _ _ rfl hs
theorem q_Out_takeClues_4 {nL : Nat} {M : fx_M} {ev : fx_Env} {ret : Option FieldType} {P : fx_P} {stops : List (Nat × Nat)} {K : fx_K} {n : Nat} {L : List (Option Value)} {st : List Value} {I : fx_MI} {J : fx_MJ} {R : fx_MR} {X : Nat → fx_K} (hX : fx_isX nL M ev ret P p_Out_takeClues stops K X) (hs : fx_stop stops 4 = none) : X (n + 1) 4 L st I J R = fx_S nL M ev ret P (.aload_n 0) 0 4 L st I J R (X n) := hX.1 _ _ _ _ _ _ _ _ _ rfl hs
theorem q_Out_takeClues_5 {nL : Nat} {M : fx_M} {ev : fx_Env} {ret : Option FieldType} {P : fx_P} {stops : List (Nat × Nat)} {K : fx_K} {n : Nat} {L : List (Option Value)} {st : List Value} {I : fx_MI} {J : fx_MJ} {R : fx_MR} {X : Nat → fx_K} (hX : fx_isX nL M ev ret P p_Out_takeClues stops K X) (hs : fx_stop stops 5 = none) : X (n + 1) 5 L st I J R = fx_S nL M ev ret P (.getfield 19) 0 5 L st I J R (X n) := hX.1 _ _ _ _ _ _ _ _ _ rfl hs
theorem q_Out_takeClues_8 {nL : Nat} {M : fx_M} {ev : fx_Env} {ret : Option FieldType} {P : fx_P} {stops : List (Nat × Nat)} {K : fx_K} {n : Nat} {L : List (Option Value)} {st : List Value} {I : fx_MI} {J : fx_MJ} {R : fx_MR} {X : Nat → fx_K} (hX : fx_isX nL M ev ret P p_Out_takeClues stops K X) (hs : fx_stop stops 8 = none) : X (n + 1) 8 L st I J R = fx_S nL M ev ret P (.invokevirtual 111) 0 8 L st I J R (X n) := hX.1 _ _ _ _ _ _ _ _ _ rfl hs
theorem q_Out_takeClues_11 {nL : Nat} {M : fx_M} {ev : fx_Env} {ret : Option FieldType} {P : fx_P} {stops : List (Nat × Nat)} {K : fx_K} {n : Nat} {L : List (Option Value)} {st : List Value} {I : fx_MI} {J : fx_MJ} {R : fx_MR} {X : Nat → fx_K} (hX : fx_isX nL M ev ret P p_Out_takeClues stops K X) (hs : fx_stop stops 11 = none) : X (n + 1) 11 L st I J R = fx_S nL M ev ret P (.iconst 0) 0 11 L st I J R (X n) := hX.1 _ _ _ _ _ _ _ _ _ rfl hs
theorem q_Out_takeClues_12 {nL : Nat} {M : fx_M} {ev : fx_Env} {ret : Option FieldType} {P : fx_P} {stops : List (Nat × Nat)} {K : fx_K} {n : Nat} {L : List (Option Value)} {st : List Value} {I : fx_MI} {J : fx_MJ} {R : fx_MR} {X : Nat → fx_K} (hX : fx_isX nL M ev ret P p_Out_takeClues stops K X) (hs : fx_stop stops 12 = none) : X (n + 1) 12 L st I J R = fx_S nL M ev ret P (.istore_n 1) 0 12 L st I J R (X n) := hX.1 _ _ _ _ _ _ _ _ _ rfl hs
theorem q_Out_takeClues_13 {nL : Nat} {M : fx_M} {ev : fx_Env} {ret : Option FieldType} {P : fx_P} {stops : List (Nat × Nat)} {K : fx_K} {n : Nat} {L : List (Option Value)} {st : List Value} {I : fx_MI} {J : fx_MJ} {R : fx_MR} {X : Nat → fx_K} (hX : fx_isX nL M ev ret P p_Out_takeClues stops K X) (hs : fx_stop stops 13 = none) : X (n + 1) 13 L st I J R = fx_S nL M ev ret P (.iconst 0) 0 13 L st I J R (X n) := hX.1 _ _ _ _ _ _ _ _ _ rfl hs
theorem q_Out_takeClues_14 {nL : Nat} {M : fx_M} {ev : fx_Env} {ret : Option FieldType} {P : fx_P} {stops : List (Nat × Nat)} {K : fx_K} {n : Nat} {L : List (Option Value)} {st : List Value} {I : fx_MI} {J : fx_MJ} {R : fx_MR} {X : Nat → fx_K} (hX : fx_isX nL M ev ret P p_Out_takeClues stops K X) (hs : fx_stop stops 14 = none) : X (n + 1) 14 L st I J R = fx_S nL M ev ret P (.istore_n 2) 0 14 L st I J R (X n) := hX.1 _ _ _ _ _ _ _ _ _ rfl hs
theorem q_Out_takeClues_15 {nL : Nat} {M : fx_M} {ev : fx_Env} {ret : Option FieldType} {P : fx_P} {stops : List (Nat × Nat)} {K : fx_K} {n : Nat} {L : List (Option Value)} {st : List Value} {I : fx_MI} {J : fx_MJ} {R : fx_MR} {X : Nat → fx_K} (hX : fx_isX nL M ev ret P p_Out_takeClues stops K X) (hs : fx_stop stops 15 = none) : X (n + 1) 15 L st I J R = fx_S nL M ev ret P (.iload_n 2) 0 15 L st I J R (X n) := hX.1 _ _ _ _ _ _ _ _ _ rfl hs
theorem h_Out_takeClues_15 {nL : Nat} {M : fx_M} {ev : fx_Env} {ret : Option FieldType} {P : fx_P} {L : List (Option Value)} {st : List Value} {I : fx_MI} {J : fx_MJ} {R : fx_MR} {X : fx_K} : fx_go nL M ev ret P p_Out_takeClues X 15 L st I J R = fx_S nL M ev ret P (.iload_n 2) 0 15 L st I J R X := fx_go_at rfl
theorem q_Out_takeClues_16 {nL : Nat} {M : fx_M} {ev : fx_Env} {ret : Option FieldType} {P : fx_P} {stops : List (Nat × Nat)} {K : fx_K} {n : Nat} {L : List (Option Value)} {st : List Value} {I : fx_MI} {J : fx_MJ} {R : fx_MR} {X : Nat → fx_K} (hX : fx_isX nL M ev ret P p_Out_takeClues stops K X) (hs : fx_stop stops 16 = none) : X (n + 1) 16 L st I J R = fx_S nL M ev ret P (.aload_n 0) 0 16 L st I J R (X n) := hX.1 _ _ _ _ _ _ _ _ _ rfl hs
theorem q_Out_takeClues_17 {nL : Nat} {M : fx_M} {ev : fx_Env} {ret : Option FieldType} {P : fx_P} {stops : List (Nat × Nat)} {K : fx_K} {n : Nat} {L : List (Option Value)} {st : List Value} {I : fx_MI} {J : fx_MJ} {R : fx_MR} {X : Nat → fx_K} (hX : fx_isX nL M ev ret P p_Out_takeClues stops K X) (hs : fx_stop stops 17 = none) : X (n + 1) 17 L st I J R = fx_S nL M ev ret P (.getfield 12) 0 17 L st I J R (X n) := hX.1 _ _ _ _ _ _ _ _ _ rfl hs
theorem q_Out_takeClues_20 {nL : Nat} {M : fx_M} {ev : fx_Env} {ret : Option FieldType} {P : fx_P} {stops : List (Nat × Nat)} {K : fx_K} {n : Nat} {L : List (Option Value)} {st : List Value} {I : fx_MI} {J : fx_MJ} {R : fx_MR} {X : Nat → fx_K} (hX : fx_isX nL M ev ret P p_Out_takeClues stops K X) (hs : fx_stop stops 20 = none) : X (n + 1) 20 L st I J R = fx_S nL M ev ret P (.invokevirtual 91) 0 20 L st I J R (X n) := hX.1 _ _ _ _ _ _ _ _ _ rfl hs
theorem q_Out_takeClues_23 {nL : Nat} {M : fx_M} {ev : fx_Env} {ret : Option FieldType} {P : fx_P} {stops : List (Nat × Nat)} {K : fx_K} {n : Nat} {L : List (Option Value)} {st : List Value} {I : fx_MI} {J : fx_MJ} {R : fx_MR} {x y : Int32} {X : Nat → fx_K} (hX : fx_isX nL M ev ret P p_Out_takeClues stops K X) (hs : fx_stop stops 23 = none) : X (n + 1) 23 L (.int y :: .int x :: st) I J R = ((y ≤ x → X n 67 L st I J R) ∧ (¬ y ≤ x → X n 26 L st I J R)) := fx_q_icmp hX rfl hs rfl
theorem q_Out_takeClues_26 {nL : Nat} {M : fx_M} {ev : fx_Env} {ret : Option FieldType} {P : fx_P} {stops : List (Nat × Nat)} {K : fx_K} {n : Nat} {L : List (Option Value)} {st : List Value} {I : fx_MI} {J : fx_MJ} {R : fx_MR} {X : Nat → fx_K} (hX : fx_isX nL M ev ret P p_Out_takeClues stops K X) (hs : fx_stop stops 26 = none) : X (n + 1) 26 L st I J R = fx_S nL M ev ret P (.aload_n 0) 0 26 L st I J R (X n) := hX.1 _ _ _ _ _ _ _ _ _ rfl hs
theorem q_Out_takeClues_27 {nL : Nat} {M : fx_M} {ev : fx_Env} {ret : Option FieldType} {P : fx_P} {stops : List (Nat × Nat)} {K : fx_K} {n : Nat} {L : List (Option Value)} {st : List Value} {I : fx_MI} {J : fx_MJ} {R : fx_MR} {X : Nat → fx_K} (hX : fx_isX nL M ev ret P p_Out_takeClues stops K X) (hs : fx_stop stops 27 = none) : X (n + 1) 27 L st I J R = fx_S nL M ev ret P (.iload_n 2) 0 27 L st I J R (X n) := hX.1 _ _ _ _ _ _ _ _ _ rfl hs
theorem q_Out_takeClues_28 {nL : Nat} {M : fx_M} {ev : fx_Env} {ret : Option FieldType} {P : fx_P} {stops : List (Nat × Nat)} {K : fx_K} {n : Nat} {L : List (Option Value)} {st : List Value} {I : fx_MI} {J : fx_MJ} {R : fx_MR} {X : Nat → fx_K} (hX : fx_isX nL M ev ret P p_Out_takeClues stops K X) (hs : fx_stop stops 28 = none) : X (n + 1) 28 L st I J R = fx_S nL M ev ret P (.invokevirtual 206) 0 28 L st I J R (X n) := hX.1 _ _ _ _ _ _ _ _ _ rfl hs
theorem q_Out_takeClues_31 {nL : Nat} {M : fx_M} {ev : fx_Env} {ret : Option FieldType} {P : fx_P} {stops : List (Nat × Nat)} {K : fx_K} {n : Nat} {L : List (Option Value)} {st : List Value} {I : fx_MI} {J : fx_MJ} {R : fx_MR} {X : Nat → fx_K} (hX : fx_isX nL M ev ret P p_Out_takeClues stops K X) (hs : fx_stop stops 31 = none) : X (n + 1) 31 L st I J R = fx_S nL M ev ret P (.iload_n 1) 0 31 L st I J R (X n) := hX.1 _ _ _ _ _ _ _ _ _ rfl hs
theorem q_Out_takeClues_32 {nL : Nat} {M : fx_M} {ev : fx_Env} {ret : Option FieldType} {P : fx_P} {stops : List (Nat × Nat)} {K : fx_K} {n : Nat} {L : List (Option Value)} {st : List Value} {I : fx_MI} {J : fx_MJ} {R : fx_MR} {X : Nat → fx_K} (hX : fx_isX nL M ev ret P p_Out_takeClues stops K X) (hs : fx_stop stops 32 = none) : X (n + 1) 32 L st I J R = fx_S nL M ev ret P (.iload_n 2) 0 32 L st I J R (X n) := hX.1 _ _ _ _ _ _ _ _ _ rfl hs
theorem q_Out_takeClues_33 {nL : Nat} {M : fx_M} {ev : fx_Env} {ret : Option FieldType} {P : fx_P} {stops : List (Nat × Nat)} {K : fx_K} {n : Nat} {L : List (Option Value)} {st : List Value} {I : fx_MI} {J : fx_MJ} {R : fx_MR} {X : Nat → fx_K} (hX : fx_isX nL M ev ret P p_Out_takeClues stops K X) (hs : fx_stop stops 33 = none) : X (n + 1) 33 L st I J R = fx_S nL M ev ret P (.aload_n 0) 0 33 L st I J R (X n) := hX.1 _ _ _ _ _ _ _ _ _ rfl hs
theorem q_Out_takeClues_34 {nL : Nat} {M : fx_M} {ev : fx_Env} {ret : Option FieldType} {P : fx_P} {stops : List (Nat × Nat)} {K : fx_K} {n : Nat} {L : List (Option Value)} {st : List Value} {I : fx_MI} {J : fx_MJ} {R : fx_MR} {X : Nat → fx_K} (hX : fx_isX nL M ev ret P p_Out_takeClues stops K X) (hs : fx_stop stops 34 = none) : X (n + 1) 34 L st I J R = fx_S nL M ev ret P (.getfield 12) 0 34 L st I J R (X n) := hX.1 _ _ _ _ _ _ _ _ _ rfl hs
theorem q_Out_takeClues_37 {nL : Nat} {M : fx_M} {ev : fx_Env} {ret : Option FieldType} {P : fx_P} {stops : List (Nat × Nat)} {K : fx_K} {n : Nat} {L : List (Option Value)} {st : List Value} {I : fx_MI} {J : fx_MJ} {R : fx_MR} {X : Nat → fx_K} (hX : fx_isX nL M ev ret P p_Out_takeClues stops K X) (hs : fx_stop stops 37 = none) : X (n + 1) 37 L st I J R = fx_S nL M ev ret P (.getfield 178) 0 37 L st I J R (X n) := hX.1 _ _ _ _ _ _ _ _ _ rfl hs
theorem q_Out_takeClues_40 {nL : Nat} {M : fx_M} {ev : fx_Env} {ret : Option FieldType} {P : fx_P} {stops : List (Nat × Nat)} {K : fx_K} {n : Nat} {L : List (Option Value)} {st : List Value} {I : fx_MI} {J : fx_MJ} {R : fx_MR} {x y : Int32} {X : Nat → fx_K} (hX : fx_isX nL M ev ret P p_Out_takeClues stops K X) (hs : fx_stop stops 40 = none) : X (n + 1) 40 L (.int y :: .int x :: st) I J R = ((y ≤ x → X n 58 L st I J R) ∧ (¬ y ≤ x → X n 43 L st I J R)) := fx_q_icmp hX rfl hs rfl
theorem q_Out_takeClues_43 {nL : Nat} {M : fx_M} {ev : fx_Env} {ret : Option FieldType} {P : fx_P} {stops : List (Nat × Nat)} {K : fx_K} {n : Nat} {L : List (Option Value)} {st : List Value} {I : fx_MI} {J : fx_MJ} {R : fx_MR} {X : Nat → fx_K} (hX : fx_isX nL M ev ret P p_Out_takeClues stops K X) (hs : fx_stop stops 43 = none) : X (n + 1) 43 L st I J R = fx_S nL M ev ret P (.aload_n 0) 0 43 L st I J R (X n) := hX.1 _ _ _ _ _ _ _ _ _ rfl hs
theorem q_Out_takeClues_44 {nL : Nat} {M : fx_M} {ev : fx_Env} {ret : Option FieldType} {P : fx_P} {stops : List (Nat × Nat)} {K : fx_K} {n : Nat} {L : List (Option Value)} {st : List Value} {I : fx_MI} {J : fx_MJ} {R : fx_MR} {X : Nat → fx_K} (hX : fx_isX nL M ev ret P p_Out_takeClues stops K X) (hs : fx_stop stops 44 = none) : X (n + 1) 44 L st I J R = fx_S nL M ev ret P (.getfield 19) 0 44 L st I J R (X n) := hX.1 _ _ _ _ _ _ _ _ _ rfl hs
theorem q_Out_takeClues_47 {nL : Nat} {M : fx_M} {ev : fx_Env} {ret : Option FieldType} {P : fx_P} {stops : List (Nat × Nat)} {K : fx_K} {n : Nat} {L : List (Option Value)} {st : List Value} {I : fx_MI} {J : fx_MJ} {R : fx_MR} {X : Nat → fx_K} (hX : fx_isX nL M ev ret P p_Out_takeClues stops K X) (hs : fx_stop stops 47 = none) : X (n + 1) 47 L st I J R = fx_S nL M ev ret P (.getfield 46) 0 47 L st I J R (X n) := hX.1 _ _ _ _ _ _ _ _ _ rfl hs
theorem q_Out_takeClues_50 {nL : Nat} {M : fx_M} {ev : fx_Env} {ret : Option FieldType} {P : fx_P} {stops : List (Nat × Nat)} {K : fx_K} {n : Nat} {L : List (Option Value)} {st : List Value} {I : fx_MI} {J : fx_MJ} {R : fx_MR} {X : Nat → fx_K} (hX : fx_isX nL M ev ret P p_Out_takeClues stops K X) (hs : fx_stop stops 50 = none) : X (n + 1) 50 L st I J R = fx_S nL M ev ret P (.getfield 118) 0 50 L st I J R (X n) := hX.1 _ _ _ _ _ _ _ _ _ rfl hs
theorem q_Out_takeClues_53 {nL : Nat} {M : fx_M} {ev : fx_Env} {ret : Option FieldType} {P : fx_P} {stops : List (Nat × Nat)} {K : fx_K} {n : Nat} {L : List (Option Value)} {st : List Value} {I : fx_MI} {J : fx_MJ} {R : fx_MR} {X : Nat → fx_K} (hX : fx_isX nL M ev ret P p_Out_takeClues stops K X) (hs : fx_stop stops 53 = none) : X (n + 1) 53 L st I J R = fx_S nL M ev ret P (.iload_n 2) 0 53 L st I J R (X n) := hX.1 _ _ _ _ _ _ _ _ _ rfl hs
theorem q_Out_takeClues_54 {nL : Nat} {M : fx_M} {ev : fx_Env} {ret : Option FieldType} {P : fx_P} {stops : List (Nat × Nat)} {K : fx_K} {n : Nat} {L : List (Option Value)} {st : List Value} {I : fx_MI} {J : fx_MJ} {R : fx_MR} {X : Nat → fx_K} (hX : fx_isX nL M ev ret P p_Out_takeClues stops K X) (hs : fx_stop stops 54 = none) : X (n + 1) 54 L st I J R = fx_S nL M ev ret P (.iaload) 0 54 L st I J R (X n) := hX.1 _ _ _ _ _ _ _ _ _ rfl hs
theorem q_Out_takeClues_55 {nL : Nat} {M : fx_M} {ev : fx_Env} {ret : Option FieldType} {P : fx_P} {stops : List (Nat × Nat)} {K : fx_K} {n : Nat} {L : List (Option Value)} {st : List Value} {I : fx_MI} {J : fx_MJ} {R : fx_MR} {X : Nat → fx_K} (hX : fx_isX nL M ev ret P p_Out_takeClues stops K X) (hs : fx_stop stops 55 = none) : X (n + 1) 55 L st I J R = X n 59 L st I J R := fx_q_goto hX rfl hs rfl
theorem q_Out_takeClues_58 {nL : Nat} {M : fx_M} {ev : fx_Env} {ret : Option FieldType} {P : fx_P} {stops : List (Nat × Nat)} {K : fx_K} {n : Nat} {L : List (Option Value)} {st : List Value} {I : fx_MI} {J : fx_MJ} {R : fx_MR} {X : Nat → fx_K} (hX : fx_isX nL M ev ret P p_Out_takeClues stops K X) (hs : fx_stop stops 58 = none) : X (n + 1) 58 L st I J R = fx_S nL M ev ret P (.iconst 0) 0 58 L st I J R (X n) := hX.1 _ _ _ _ _ _ _ _ _ rfl hs
theorem q_Out_takeClues_59 {nL : Nat} {M : fx_M} {ev : fx_Env} {ret : Option FieldType} {P : fx_P} {stops : List (Nat × Nat)} {K : fx_K} {n : Nat} {L : List (Option Value)} {st : List Value} {I : fx_MI} {J : fx_MJ} {R : fx_MR} {X : Nat → fx_K} (hX : fx_isX nL M ev ret P p_Out_takeClues stops K X) (hs : fx_stop stops 59 = none) : X (n + 1) 59 L st I J R = fx_S nL M ev ret P (.iadd) 0 59 L st I J R (X n) := hX.1 _ _ _ _ _ _ _ _ _ rfl hs
theorem q_Out_takeClues_60 {nL : Nat} {M : fx_M} {ev : fx_Env} {ret : Option FieldType} {P : fx_P} {stops : List (Nat × Nat)} {K : fx_K} {n : Nat} {L : List (Option Value)} {st : List Value} {I : fx_MI} {J : fx_MJ} {R : fx_MR} {X : Nat → fx_K} (hX : fx_isX nL M ev ret P p_Out_takeClues stops K X) (hs : fx_stop stops 60 = none) : X (n + 1) 60 L st I J R = fx_S nL M ev ret P (.istore_n 1) 0 60 L st I J R (X n) := hX.1 _ _ _ _ _ _ _ _ _ rfl hs
theorem q_Out_takeClues_61 {nL : Nat} {M : fx_M} {ev : fx_Env} {ret : Option FieldType} {P : fx_P} {stops : List (Nat × Nat)} {K : fx_K} {n : Nat} {L : List (Option Value)} {st : List Value} {I : fx_MI} {J : fx_MJ} {R : fx_MR} {X : Nat → fx_K} (hX : fx_isX nL M ev ret P p_Out_takeClues stops K X) (hs : fx_stop stops 61 = none) : X (n + 1) 61 L st I J R = fx_S nL M ev ret P (.iinc 2 1) 0 61 L st I J R (X n) := hX.1 _ _ _ _ _ _ _ _ _ rfl hs
theorem q_Out_takeClues_64 {nL : Nat} {M : fx_M} {ev : fx_Env} {ret : Option FieldType} {P : fx_P} {stops : List (Nat × Nat)} {K : fx_K} {n : Nat} {L : List (Option Value)} {st : List Value} {I : fx_MI} {J : fx_MJ} {R : fx_MR} {X : Nat → fx_K} (hX : fx_isX nL M ev ret P p_Out_takeClues stops K X) (hs : fx_stop stops 64 = none) : X (n + 1) 64 L st I J R = X n 15 L st I J R := fx_q_goto hX rfl hs rfl
theorem q_Out_takeClues_67 {nL : Nat} {M : fx_M} {ev : fx_Env} {ret : Option FieldType} {P : fx_P} {stops : List (Nat × Nat)} {K : fx_K} {n : Nat} {L : List (Option Value)} {st : List Value} {I : fx_MI} {J : fx_MJ} {R : fx_MR} {X : Nat → fx_K} (hX : fx_isX nL M ev ret P p_Out_takeClues stops K X) (hs : fx_stop stops 67 = none) : X (n + 1) 67 L st I J R = fx_S nL M ev ret P (.iload_n 1) 0 67 L st I J R (X n) := hX.1 _ _ _ _ _ _ _ _ _ rfl hs
theorem q_Out_takeClues_68 {nL : Nat} {M : fx_M} {ev : fx_Env} {ret : Option FieldType} {P : fx_P} {stops : List (Nat × Nat)} {K : fx_K} {n : Nat} {L : List (Option Value)} {st : List Value} {I : fx_MI} {J : fx_MJ} {R : fx_MR} {X : Nat → fx_K} (hX : fx_isX nL M ev ret P p_Out_takeClues stops K X) (hs : fx_stop stops 68 = none) : X (n + 1) 68 L st I J R = fx_S nL M ev ret P (.ireturn) 0 68 L st I J R (X n) := hX.1 _ _ _ _ _ _ _ _ _ rfl hs
def pre_Out_takeClues (n : Nat) : fx_Pre := fun st I J R => (∃ b, R = R0C b) ∧ (match st with
  | [.ref 0] => relE I J
  | _ => False)
theorem pi_Out_takeClues {n : Nat} {st : List Value} {I : fx_MI} {J : fx_MJ} {R : fx_MR} (h : pre_Out_takeClues n st I J R) : (∃ b, R = R0C b) ∧ st = [.ref 0] ∧ (relE I J) := by
  unfold pre_Out_takeClues at h
  obtain ⟨h0, h⟩ := h
  split at h
  · exact ⟨h0, rfl, h⟩
  · cases h
def post_Out_takeClues (n : Nat) : fx_Post := fun st I J R r I' J' R' => simP (post_M_takeClues [.ref 0]) I J r I' J' R'
theorem pz_Out_takeClues {st : List Value} {I : fx_MI} {J : fx_MJ} {R : fx_MR} (n : Nat) (h : pre_Out_takeClues n st I J R) : ∃ q r, st = .ref q :: r ∧ (MC n).2.2.1 q = some (.inl 0) ∧ r.length = 0 := by
  obtain ⟨_, rfl, _⟩ := pi_Out_takeClues h
  exact ⟨_, _, rfl, rfl, rfl⟩
def v_Out_takeClues (n : Nat) : fx_Env := [(.getfield 26, fx_tget (MC n) 0 2), (.getfield 19, fx_tget (MC n) 0 1), (.invokevirtual 111, fx_tcall 2 (pre_History_record n) (post_History_record n)), (.getfield 12, fx_tget (MC n) 0 0), (.invokevirtual 91, fx_tcall 1 (pre_Grid_lines n) (post_Grid_lines n)), (.invokevirtual 206, fx_tcall 2 (pre_Out_takeClue n) (post_Out_takeClue n)), (.getfield 178, fx_tget (MC n) 1 1), (.getfield 46, fx_tget (MC n) 2 0), (.getfield 118, fx_tget (MC n) 3 1)]
abbrev rm_Out_takeClues : Room := { frames := 4, cells := 0, slots := 0, locals := 123 }
abbrev ws_Out_takeClues : List Cond := Cond.code y_Out_takeClues b_Out_takeClues 3 (some .int) :: w_C
theorem e_Out_c206 {l : Launch} {c0 : Cond} {rm : Room} {n nL : Nat} {cc : ByteArray} (hR : rm_Out_takeClue.frames + 1 ≤ rm.frames ∧ 8 + (6 + 11) + rm_Out_takeClue.locals ≤ rm.locals) : fx_E1 l R_Out (c0 :: w_C) rm (MC n) nL cc (.invokevirtual 206) (fx_tcall 2 (pre_Out_takeClue n) (post_Out_takeClue n)) := fx_callV (ci := 0) (C := R_Out) rfl (c_Out_takeClue l n) (w_C_G (w_C_h11 9 rfl) (w_C_h11 10 rfl) (w_C_h11 11 rfl) (w_C_h1 40 rfl) (w_C_h11 8 rfl)) rfl ⟨rfl, rfl⟩ (by decide) hR (fun st I J R h => pz_Out_takeClue n h) (MC_ok n)
theorem vk_Out_takeClues {l : Launch} {n : Nat} : fx_EV l R_Out ws_Out_takeClues rm_Out_takeClues (MC n) 3 b_Out_takeClues (v_Out_takeClues n) := (fx_EV_cons e_Out_g26 (fx_EV_cons e_Out_g19 (fx_EV_cons (e_Out_c111 (by decide)) (fx_EV_cons e_Out_g12 (fx_EV_cons (e_Out_c91 (by decide)) (fx_EV_cons (e_Out_c206 (by decide)) (fx_EV_cons e_Out_g178 (fx_EV_cons e_Out_g46 (fx_EV_cons e_Out_g118 fx_EV_nil)))))))))
theorem r_Out_takeClues (n : Nat) (st : List Value) (I : fx_MI) (J : fx_MJ) (R : fx_MR) (h : pre_Out_takeClues n st I J R) : fx_sz st ≤ 3 ∧ fx_R 3 (MC n) (v_Out_takeClues n) (some .int) (post_Out_takeClues n st I J R) p_Out_takeClues 0 (fx_en st) [] I J R := by
  obtain ⟨⟨b, rfl⟩, rfl, hp⟩ := pi_Out_takeClues h
  clear h
  refine ⟨Nat.le_of_ble_eq_true rfl, ?_⟩
  obtain ⟨Ir0, hr0⟩ := hp
  have hh := REL_his hr0
  obtain ⟨hw, hh2, hc, e0, e1, e2⟩ := dimC_of hr0.1.1.1
  have hwh := wh_le hw.2 hh2.2
  have eI : ∀ q j, (q < 12 ∨ 94 ≤ q) → recI I 2 q j = I q j := fun q j hq => recI_ne hq hh
  have eJ : ∀ q d, (q < 12 ∨ 94 ≤ q) → recJ I J 2 q d = J q d := fun q d hq => recJ_ne hq hh
  have hs0 := hr0.2.1
  have hp4 : ∀ f, sR (cW I) (cH I) (cC I) I J 2 f → ∀ k, k < cW I * cH I → picN f k < 4 := fun f hf k hk => by
    have := (picv (by omega) hf.2.2.2 (show k < 64 by omega)).2
    omega
  have hm8 : ∀ l, (tkM (cW I) (cH I) (Ir0 1) l).2.1 ≤ 8 := fun l => by
    have h1 := (tkS_le (lineC (cW I) (cH I) (Ir0 1) l) (cellsN (cW I) (cH I) l) (cellsN (cW I) (cH I) l)).2
    have h2 := cellsN_le (l := l) hw.2 hh2.2
    unfold tkM
    omega
  have hT : ∀ k, k ≤ 16 → tkT (cW I) (cH I) (Ir0 1) k ≤ 128 := fun k hk => by
    have := sm_le (f := fun l => if l < cH I then (tkM (cW I) (cH I) (Ir0 1) l).2.1 else 0) (c := 8) (n := k) (fun l _ => by
      have := hm8 l
      split <;> omega)
    unfold tkT
    omega
  refine fx_run (stops := [(15, 3)]) (K := fx_at 15 (fun L st I' J' R' => inv_ts I J b (cW I) (cH I) (cC I) (Ir0 1) 0 L st I' J' R')) ?_ 60 fun X hX => ?_
  · rintro pc L st I' J' R' ⟨rfl, hi⟩
    refine fx_forK (stops := [(15, 3)]) (K0 := fun _ _ _ _ _ _ => False) (fun _ _ _ _ _ _ h => h.elim) 15 90 (cH I + cW I) (inv_ts I J b (cW I) (cH I) (cC I) (Ir0 1)) ?_ _ _ _ _ _ hi
    clear hi
    rintro k X hk hX L st I' J' R' ⟨⟨F, k1, k2, k3⟩, kI, hL, rfl, rfl, rfl⟩
    rw [hL]
    have d0 : I' 1 0 = nI (cW I) := (kI 1 0 (by omega)).trans ((eI 1 0 (by omega)).trans e0)
    have d1 : I' 1 1 = nI (cH I) := (kI 1 1 (by omega)).trans ((eI 1 1 (by omega)).trans e1)
    have d2 : I' 1 2 = nI (cC I) := (kI 1 2 (by omega)).trans ((eI 1 2 (by omega)).trans e2)
    have eW : cW I' = cW I := by unfold cW; rw [d0, nv_nI (by omega)]; rfl
    have eH : cH I' = cH I := by unfold cH; rw [d1, nv_nI (by omega)]; rfl
    have eC : cC I' = cC I := by unfold cC; rw [d2, nv_nI (by omega)]; rfl
    have hd' : dimC I' := ⟨cW I, cH I, cC I, hw, hh2, hc, d0, d1, d2⟩
    have hpcF : ∀ j, picN F j = picN (Ir0 1) j := fun j => by
      unfold picN
      rw [k2 _ (by omega)]
    have hsF : sR (cW I) (cH I) (cC I) I' (recJ I J 2) 2 F := ⟨k1, mkR_fr (fun d => eJ _ _ (by omega)) ⟨hs0.2.1.1, hs0.2.1.2.1, fun j hj => by rw [k2 _ (by omega)]; exact hs0.2.1.2.2 j hj⟩, pcR_fr (fun d => eJ _ _ (by omega)) (fun d i hd hi => by
      rw [hs0.2.2.1 d i hd hi]
      simp only [hpcF]), fun j hj => by rw [k2 _ (by omega), k2 _ (by omega)]; exact hs0.2.2.2 j hj⟩
    have hTk := hT k (by omega)
    have hsT : tkT (cW I) (cH I) (Ir0 1) (k + 1) = tkT (cW I) (cH I) (Ir0 1) k + (if k < cH I then (tkM (cW I) (cH I) (Ir0 1) k).2.1 else 0) := rfl
    simp only [q_Out_takeClues_0 hX rfl, q_Out_takeClues_1 hX rfl, q_Out_takeClues_4 hX rfl, q_Out_takeClues_5 hX rfl, q_Out_takeClues_8 hX rfl, q_Out_takeClues_11 hX rfl, q_Out_takeClues_12 hX rfl, q_Out_takeClues_13 hX rfl, q_Out_takeClues_14 hX rfl, hX.2 _ 15 3 _ _ _ _ _ rfl, q_Out_takeClues_16 hX rfl, q_Out_takeClues_17 hX rfl, q_Out_takeClues_20 hX rfl, q_Out_takeClues_23 hX rfl, q_Out_takeClues_26 hX rfl, q_Out_takeClues_27 hX rfl, q_Out_takeClues_28 hX rfl, q_Out_takeClues_31 hX rfl, q_Out_takeClues_32 hX rfl, q_Out_takeClues_33 hX rfl, q_Out_takeClues_34 hX rfl, q_Out_takeClues_37 hX rfl, q_Out_takeClues_40 hX rfl, q_Out_takeClues_43 hX rfl, q_Out_takeClues_44 hX rfl, q_Out_takeClues_47 hX rfl, q_Out_takeClues_50 hX rfl, q_Out_takeClues_53 hX rfl, q_Out_takeClues_54 hX rfl, q_Out_takeClues_55 hX rfl, q_Out_takeClues_58 hX rfl, q_Out_takeClues_59 hX rfl, q_Out_takeClues_60 hX rfl, q_Out_takeClues_61 hX rfl, q_Out_takeClues_64 hX rfl, q_Out_takeClues_67 hX rfl, q_Out_takeClues_68 hX rfl, h_Out_takeClues_15, fs_aload_n0, fs_aload_n1, fs_aload_n2, fs_aload_n3, fs_getfield, fs_goto, fs_iadd, fs_iaload, fs_iconst, fs_if_icmp, fs_iinc, fs_iload_n0, fs_iload_n1, fs_iload_n2, fs_iload_n3, fs_invokevirtual, fs_ireturn, fs_istore_n0, fs_istore_n1, fs_istore_n2, fs_istore_n3, v_Out_takeClues, ci_0, lt_1_3, lt_2_3, pre_History_record, post_History_record, pre_Grid_lines, post_Grid_lines, pre_Out_takeClue, post_Out_takeClue, kd_C_0_2, pl_C_0, R0C_0_2, pl_C_12, kd_C_0_1, R0C_0_1, pl_C_2, kd_C_0_0, R0C_0_0, pl_C_1, kd_C_1_1, kd_C_2_0, R0C_2_0, pl_C_3, kd_C_3_1, R0C_3_1, pl_C_4, pl_C_96, R0C_96_1, pl_C_97, fx_oi_s, fx_ol_s, fx_or_s, fx_do_s, fx_lg_0, fx_lg_s, fx_ls_0, fx_ls_s, fx_ls_n0, fx_ls_ns, fx_en, fx_sz, Value.category, fx_nl, fx_lk, fx_tget, fx_tput, fx_tcall, fx_tldc, fx_fv, va_rf, fx_cat, fx_in, fx_cnd, fx_len, fx_narI, fx_narZ0, fx_narZ1, fx_narZb, zb_e, zb_ne, Option.some.injEq, Value.int.injEq, Value.long.injEq, Value.ref.injEq, List.cons.injEq, Nat.reduceAdd, Nat.reduceLeDiff, Nat.le_refl, List.take, List.drop, List.reverse_cons, List.reverse_nil, List.nil_append, List.cons_append, List.append_nil, List.map_cons, List.map_nil, List.sum_cons, List.sum_nil, List.length_cons, List.length_nil, Option.toList, fx_all4, forall_const, true_and, and_true, not_true_eq_false, not_false_eq_true, false_implies, true_implies, ne_eq, reduceCtorEq, Nat.reduceEqDiff, ite_true, ite_false, reduceIte, Instr.getfield.injEq, Instr.putfield.injEq, Instr.invokevirtual.injEq, Instr.invokestatic.injEq, Instr.ldc2_w.injEq, fx_tcopy, Instr.ldc.injEq, Instr.ldc_w.injEq, exists_eq_left, exists_prop, R0C_ex]
    simp (disch := omega) only [lit, nI_add, nI_mul', nI_sub', nI_clamp, nI_lt', nI_le', nI_eq', nI_in', iinc1, zb_n0, nI_div', nI_rem2, true_and, and_true, Nat.reduceEqDiff, Nat.reduceLeDiff, Nat.one_ne_zero, Nat.zero_ne_one, not_false_eq_true, not_true_eq_false, false_implies, true_implies, forall_const, Nat.zero_add, Nat.add_zero, nv_nI, up_eq, up_ne, fill_ne, nI_clamp, nI_add, d0, d1]
    refine ⟨fun h1 => ?_, fun h1 => ⟨⟨hd', ⟨F, by rw [eW, eH, eC]; exact hsF⟩, k, by rw [eW, eH]; omega, rfl⟩, fun r I2 J2 R2 hq => ?_⟩⟩
    · have hk2 : k = cH I + cW I := by omega
      subst hk2
      refine ⟨⟨b, rfl⟩, fun Ir hr Jr r2 Ir2 Jr2 Rr2 hq => ?_⟩
      obtain ⟨⟨f1, f2, f3⟩, -⟩ := REL_ref hr
      obtain ⟨rfl, rfl, rfl, hfr, hcl⟩ := hq
      rw [f1, f2] at hcl hfr
      rw [f1, f2]
      have hM : ∀ l, l < cH I + cW I → tkM (cW I) (cH I) (Ir 1) l = tkM (cW I) (cH I) (Ir0 1) l := fun l hl => tkM_same hw hh2 hl hs0.2.2.1 hr.2.1.2.2.1 (hp4 _ hs0)
      refine ⟨rfl, ?_, REL_nowC hr (fun q j hq => kI q j hq) (fun q j hq => ?_) ?_⟩
      · have : tkT (cW I) (cH I) (Ir 1) (cH I + cW I) = tkT (cW I) (cH I) (Ir0 1) (cH I + cW I) := by
          unfold tkT
          exact sm_cong fun l hl => by rw [hM l hl]
        rw [this]
      · refine hfr q j ?_
        rcases hq with h5 | h5
        · exact Or.inl h5
        · exact Or.inr fun l hl => by omega
      · refine clR_same (by omega) (fun l hl => ?_) k1
        by_cases h5 : l < cH I + cW I
        · obtain ⟨c1, c2, c3⟩ := k3 l h5
          have := hcl l h5
          rw [hM l h5] at this
          obtain ⟨c4, c5, c6⟩ := this
          have hl8 := hm8 l
          have hmF : manyN F l = (tkM (cW I) (cH I) (Ir0 1) l).2.1 := by
            unfold manyN
            rw [c2, nv_nI (by omega)]
          refine ⟨by rw [c1, c4], by rw [c2, c5], fun b' hb' => ?_⟩
          rw [hmF] at hb'
          rw [(c3 b' hb').1, (c3 b' hb').2, (c6 b' hb').1, (c6 b' hb').2]
          exact ⟨rfl, rfl⟩
        · obtain ⟨c1, c2⟩ := clR_0 hl (by omega) k1
          obtain ⟨c3, c4⟩ := clR_0 hl (by omega) hr.2.1.1
          have hmF : manyN F l = 0 := by
            unfold manyN
            rw [c2, nv_nI (by omega)]
          refine ⟨?_, ?_, fun b' hb' => by omega⟩
          · rw [hfr 1 l (Or.inr fun l' hl' => by omega), keepsM_row, c1, c3]
          · rw [hfr 1 (16 + l) (Or.inr fun l' hl' => by omega), keepsM_row, c2, c4]
    · obtain ⟨rfl, rfl, rfl, hq2⟩ := hq
      have hI2 := hq2 F (by rw [eW, eH, eC]; exact hsF)
      rw [eW, eH, lineC_cong (f := Ir0 1) (f' := F) (fun j => k2 _ (by omega))] at hI2
      have hgc : ∀ i, i < cellsN (cW I) (cH I) k → lineC (cW I) (cH I) (Ir0 1) k i ≤ cC I := fun i hi => by
        have hat := atN_lt hw.2 hh2.2 (show k < cH I + cW I by omega) hi
        exact (picv (by omega) hs0.2.2.2 (show atN (cW I) (cH I) k i < 64 by omega)).2
      have hcn := cellsN_le (l := k) hw.2 hh2.2
      obtain ⟨a1, a2, -⟩ := tk_all (by omega) hw.2 hh2.2 (show k < cH I + cW I by omega) k1 rfl hgc (Nat.le_refl _)
      rw [← hI2] at a1
      have o2 : ∀ q j, (q < 3 ∨ 7 < q) → I2 q j = I' q j := fun q j hq => by
        rw [hI2]
        exact tkC_o (by omega)
      have g1 : I2 1 1 = nI (cH I) := (o2 1 1 (by omega)).trans d1
      have hsz : I2 4 k = nI (tkM (cW I) (cH I) (Ir0 1) k).2.1 := by
        have := (a1.1 k (by omega)).2.2.1
        rw [cf_sz (by omega)] at this
        rw [this]
        exact a2.2.1
      have hl8 := hm8 k
      have hinv : ∀ x, x = tkT (cW I) (cH I) (Ir0 1) (k + 1) → inv_ts I J b (cW I) (cH I) (cC I) (Ir0 1) (k + 1) [some (.ref 0), some (.int (nI x)), some (.int (nI (k + 1)))] [] I2 (recJ I J 2) (R0C b) := fun x hx => by
        refine ⟨⟨_, a1, fun j hj => (tkR_o (by omega) (by omega) (by omega) (by omega) hcn (Nat.le_refl _)).trans (k2 j hj), fun l hl => ?_⟩, fun q j hq => (o2 q j hq).trans (kI q j hq), by rw [hx], rfl, rfl, rfl⟩
        by_cases h5 : l = k
        · subst h5
          exact a2
        · obtain ⟨c1, c2, c3⟩ := k3 l (by omega)
          have hl9 := hm8 l
          refine ⟨?_, ?_, fun b' hb' => ⟨?_, ?_⟩⟩
          · rw [tkR_o (by omega) (by omega) (by omega) (by omega) hcn (Nat.le_refl _)]
            exact c1
          · rw [tkR_o (by omega) (by omega) (by omega) (by omega) hcn (Nat.le_refl _)]
            exact c2
          · rw [tkR_o (by omega) (by omega) (by omega) (by omega) hcn (Nat.le_refl _)]
            exact (c3 b' hb').1
          · rw [tkR_o (by omega) (by omega) (by omega) (by omega) hcn (Nat.le_refl _)]
            exact (c3 b' hb').2
      simp only [q_Out_takeClues_0 hX rfl, q_Out_takeClues_1 hX rfl, q_Out_takeClues_4 hX rfl, q_Out_takeClues_5 hX rfl, q_Out_takeClues_8 hX rfl, q_Out_takeClues_11 hX rfl, q_Out_takeClues_12 hX rfl, q_Out_takeClues_13 hX rfl, q_Out_takeClues_14 hX rfl, hX.2 _ 15 3 _ _ _ _ _ rfl, q_Out_takeClues_16 hX rfl, q_Out_takeClues_17 hX rfl, q_Out_takeClues_20 hX rfl, q_Out_takeClues_23 hX rfl, q_Out_takeClues_26 hX rfl, q_Out_takeClues_27 hX rfl, q_Out_takeClues_28 hX rfl, q_Out_takeClues_31 hX rfl, q_Out_takeClues_32 hX rfl, q_Out_takeClues_33 hX rfl, q_Out_takeClues_34 hX rfl, q_Out_takeClues_37 hX rfl, q_Out_takeClues_40 hX rfl, q_Out_takeClues_43 hX rfl, q_Out_takeClues_44 hX rfl, q_Out_takeClues_47 hX rfl, q_Out_takeClues_50 hX rfl, q_Out_takeClues_53 hX rfl, q_Out_takeClues_54 hX rfl, q_Out_takeClues_55 hX rfl, q_Out_takeClues_58 hX rfl, q_Out_takeClues_59 hX rfl, q_Out_takeClues_60 hX rfl, q_Out_takeClues_61 hX rfl, q_Out_takeClues_64 hX rfl, q_Out_takeClues_67 hX rfl, q_Out_takeClues_68 hX rfl, h_Out_takeClues_15, fs_aload_n0, fs_aload_n1, fs_aload_n2, fs_aload_n3, fs_getfield, fs_goto, fs_iadd, fs_iaload, fs_iconst, fs_if_icmp, fs_iinc, fs_iload_n0, fs_iload_n1, fs_iload_n2, fs_iload_n3, fs_invokevirtual, fs_ireturn, fs_istore_n0, fs_istore_n1, fs_istore_n2, fs_istore_n3, v_Out_takeClues, ci_0, lt_1_3, lt_2_3, pre_History_record, post_History_record, pre_Grid_lines, post_Grid_lines, pre_Out_takeClue, post_Out_takeClue, kd_C_0_2, pl_C_0, R0C_0_2, pl_C_12, kd_C_0_1, R0C_0_1, pl_C_2, kd_C_0_0, R0C_0_0, pl_C_1, kd_C_1_1, kd_C_2_0, R0C_2_0, pl_C_3, kd_C_3_1, R0C_3_1, pl_C_4, pl_C_96, R0C_96_1, pl_C_97, fx_oi_s, fx_ol_s, fx_or_s, fx_do_s, fx_lg_0, fx_lg_s, fx_ls_0, fx_ls_s, fx_ls_n0, fx_ls_ns, fx_en, fx_sz, Value.category, fx_nl, fx_lk, fx_tget, fx_tput, fx_tcall, fx_tldc, fx_fv, va_rf, fx_cat, fx_in, fx_cnd, fx_len, fx_narI, fx_narZ0, fx_narZ1, fx_narZb, zb_e, zb_ne, Option.some.injEq, Value.int.injEq, Value.long.injEq, Value.ref.injEq, List.cons.injEq, Nat.reduceAdd, Nat.reduceLeDiff, Nat.le_refl, List.take, List.drop, List.reverse_cons, List.reverse_nil, List.nil_append, List.cons_append, List.append_nil, List.map_cons, List.map_nil, List.sum_cons, List.sum_nil, List.length_cons, List.length_nil, Option.toList, fx_all4, forall_const, true_and, and_true, not_true_eq_false, not_false_eq_true, false_implies, true_implies, ne_eq, reduceCtorEq, Nat.reduceEqDiff, ite_true, ite_false, reduceIte, Instr.getfield.injEq, Instr.putfield.injEq, Instr.invokevirtual.injEq, Instr.invokestatic.injEq, Instr.ldc2_w.injEq, fx_tcopy, Instr.ldc.injEq, Instr.ldc_w.injEq, exists_eq_left, exists_prop, R0C_ex]
      simp (disch := omega) only [lit, nI_add, nI_mul', nI_sub', nI_clamp, nI_lt', nI_le', nI_eq', nI_in', iinc1, zb_n0, nI_div', nI_rem2, true_and, and_true, Nat.reduceEqDiff, Nat.reduceLeDiff, Nat.one_ne_zero, Nat.zero_ne_one, not_false_eq_true, not_true_eq_false, false_implies, true_implies, forall_const, Nat.zero_add, Nat.add_zero, nv_nI, up_eq, up_ne, fill_ne, nI_clamp, nI_add, g1, hsz, nI_in']
      refine ⟨fun h2 => Or.inl (fx_kf_i (by omega) (hinv _ ?_)), fun h2 => Or.inl (fx_kf_i (by omega) (hinv _ ?_))⟩
      · rw [hsT, if_neg (by omega), Nat.add_zero]
      · rw [hsT, if_pos (by omega)]
  · simp only [q_Out_takeClues_0 hX rfl, q_Out_takeClues_1 hX rfl, q_Out_takeClues_4 hX rfl, q_Out_takeClues_5 hX rfl, q_Out_takeClues_8 hX rfl, q_Out_takeClues_11 hX rfl, q_Out_takeClues_12 hX rfl, q_Out_takeClues_13 hX rfl, q_Out_takeClues_14 hX rfl, hX.2 _ 15 3 _ _ _ _ _ rfl, q_Out_takeClues_16 hX rfl, q_Out_takeClues_17 hX rfl, q_Out_takeClues_20 hX rfl, q_Out_takeClues_23 hX rfl, q_Out_takeClues_26 hX rfl, q_Out_takeClues_27 hX rfl, q_Out_takeClues_28 hX rfl, q_Out_takeClues_31 hX rfl, q_Out_takeClues_32 hX rfl, q_Out_takeClues_33 hX rfl, q_Out_takeClues_34 hX rfl, q_Out_takeClues_37 hX rfl, q_Out_takeClues_40 hX rfl, q_Out_takeClues_43 hX rfl, q_Out_takeClues_44 hX rfl, q_Out_takeClues_47 hX rfl, q_Out_takeClues_50 hX rfl, q_Out_takeClues_53 hX rfl, q_Out_takeClues_54 hX rfl, q_Out_takeClues_55 hX rfl, q_Out_takeClues_58 hX rfl, q_Out_takeClues_59 hX rfl, q_Out_takeClues_60 hX rfl, q_Out_takeClues_61 hX rfl, q_Out_takeClues_64 hX rfl, q_Out_takeClues_67 hX rfl, q_Out_takeClues_68 hX rfl, h_Out_takeClues_15, fs_aload_n0, fs_aload_n1, fs_aload_n2, fs_aload_n3, fs_getfield, fs_goto, fs_iadd, fs_iaload, fs_iconst, fs_if_icmp, fs_iinc, fs_iload_n0, fs_iload_n1, fs_iload_n2, fs_iload_n3, fs_invokevirtual, fs_ireturn, fs_istore_n0, fs_istore_n1, fs_istore_n2, fs_istore_n3, v_Out_takeClues, ci_0, lt_1_3, lt_2_3, pre_History_record, post_History_record, pre_Grid_lines, post_Grid_lines, pre_Out_takeClue, post_Out_takeClue, kd_C_0_2, pl_C_0, R0C_0_2, pl_C_12, kd_C_0_1, R0C_0_1, pl_C_2, kd_C_0_0, R0C_0_0, pl_C_1, kd_C_1_1, kd_C_2_0, R0C_2_0, pl_C_3, kd_C_3_1, R0C_3_1, pl_C_4, pl_C_96, R0C_96_1, pl_C_97, fx_oi_s, fx_ol_s, fx_or_s, fx_do_s, fx_lg_0, fx_lg_s, fx_ls_0, fx_ls_s, fx_ls_n0, fx_ls_ns, fx_en, fx_sz, Value.category, fx_nl, fx_lk, fx_tget, fx_tput, fx_tcall, fx_tldc, fx_fv, va_rf, fx_cat, fx_in, fx_cnd, fx_len, fx_narI, fx_narZ0, fx_narZ1, fx_narZb, zb_e, zb_ne, Option.some.injEq, Value.int.injEq, Value.long.injEq, Value.ref.injEq, List.cons.injEq, Nat.reduceAdd, Nat.reduceLeDiff, Nat.le_refl, List.take, List.drop, List.reverse_cons, List.reverse_nil, List.nil_append, List.cons_append, List.append_nil, List.map_cons, List.map_nil, List.sum_cons, List.sum_nil, List.length_cons, List.length_nil, Option.toList, fx_all4, forall_const, true_and, and_true, not_true_eq_false, not_false_eq_true, false_implies, true_implies, ne_eq, reduceCtorEq, Nat.reduceEqDiff, ite_true, ite_false, reduceIte, Instr.getfield.injEq, Instr.putfield.injEq, Instr.invokevirtual.injEq, Instr.invokestatic.injEq, Instr.ldc2_w.injEq, fx_tcopy, Instr.ldc.injEq, Instr.ldc_w.injEq, exists_eq_left, exists_prop, R0C_ex]
    refine ⟨⟨rfl, hh⟩, fx_at_i ⟨⟨Ir0 1, clR_rec hr0, fun j _ => rfl, fun l hl => absurd hl (Nat.not_lt_zero _)⟩, fun q j _ => rfl, rfl, rfl, rfl, rfl⟩⟩
theorem c_Out_takeClues (l : Launch) (n : Nat) : fx_Met l y_Out_takeClues ws_Out_takeClues rm_Out_takeClues (MC n) (pre_Out_takeClues n) (post_Out_takeClues n) := fx_met (MC_ok n) (MC_tys n) (by decide) rfl pk_Out_takeClues vk_Out_takeClues (fun st I J R h => r_Out_takeClues n st I J R h)

