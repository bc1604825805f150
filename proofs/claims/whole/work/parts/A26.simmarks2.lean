/-! the class: takeHint, clearMarks (own work) -/
theorem and_16 : ∀ a, a < 16 → ∀ d, d < 16 → nI a &&& nI d = nI (a &&& d) := by decide +kernel
def p_Out_takeHint : fx_Pr := fx_pr [(0, .aload_n 0, 0), (1, .getfield 79, 0), (4, .getfield 290, 0), (7, .ifCond .ne 6, 13), (10, .bipush (-3), 0), (12, .ireturn, 0), (13, .lconst 1, 0), (14, .aload_n 0, 0), (15, .getfield 79, 0), (18, .getfield 293, 0), (21, .lshl, 0), (22, .lstore_n 1, 0), (23, .aload_n 0, 0), (24, .getfield 19, 0), (27, .getfield 132, 0), (30, .lload_n 1, 0), (31, .invokevirtual 235, 0), (34, .aload_n 0, 0), (35, .getfield 79, 0), (38, .getfield 301, 0), (41, .iand, 0), (42, .istore_n 3, 0), (43, .iload_n 3, 0), (44, .ifCond .ne 6, 50), (47, .bipush (-3), 0), (49, .ireturn, 0), (50, .aload_n 0, 0), (51, .getfield 26, 0), (54, .aload_n 0, 0), (55, .getfield 19, 0), (58, .invokevirtual 111, 0), (61, .aload_n 0, 0), (62, .getfield 19, 0), (65, .getfield 132, 0), (68, .lload_n 1, 0), (69, .iload_n 3, 0), (70, .invokevirtual 202, 0), (73, .iload_n 3, 0), (74, .ireturn, 0)]
theorem pk_Out_takeHint : fx_prOK b_Out_takeHint p_Out_takeHint := fx_pr_ok (by decide +kernel)
theorem q_Out_takeHint_0 {nL : Nat} {M : fx_M} {ev : fx_Env} {ret : Option FieldType} {P : fx_P} {stops : List (Nat × Nat)} {K : fx_K} {n : Nat} {L : List (Option Value)} {st : List Value} {I : fx_MI} {J : fx_MJ} {R : fx_MR} {X : Nat → fx_K} (hX : fx_isX nL M ev ret P p_Out_takeHint stops K X) (hs : fx_stop stops 0 = none) : X (n + 1) 0 L st I J R = fx_S nL M ev ret P (.aload_n 0) 0 0 L st I J R (X n) := hX.1 _ _ _ _ _ _ _ _ _ rfl hs
theorem q_Out_takeHint_1 {nL : Nat} {M : fx_M} {ev : fx_Env} {ret : Option FieldType} {P : fx_P} {stops : List (Nat × Nat)} {K : fx_K} {n : Nat} {L : List (Option Value)} {st : List Value} {I : fx_MI} {J : fx_MJ} {R : fx_MR} {X : Nat → fx_K} (hX : fx_isX nL M ev ret P p_Out_takeHint stops K X) (hs : fx_stop stops 1 = none) : X (n + 1) 1 L st I J R = fx_S nL M ev ret P (.getfield 79) 0 1 L st I J R (X n) := hX.1 _ _ _ _ _ _ _ _ _ rfl hs
theorem q_Out_takeHint_4 {nL : Nat} {M : fx_M} {ev : fx_Env} {ret : Option FieldType} {P : fx_P} {stops : List (Nat × Nat)} {K : fx_K} {n : Nat} {L : List (Option Value)} {st : List Value} {I : fx_MI} {J : fx_MJ} {R : fx_MR} {X : Nat → fx_K} (hX : fx_isX nL M ev ret P p_Out_takeHint stops K X) (hs : fx_stop stops 4 = none) : X (n + 1) 4 L st I J R = fx_S nL M ev ret P (.getfield 290) 0 4 L st I J R (X n) := hX.1 _ _ _ _ _ _ _ _ _ rfl hs
theorem q_Out_takeHint_7 {nL : Nat} {M : fx_M} {ev : fx_Env} {ret : Option FieldType} {P : fx_P} {stops : List (Nat × Nat)} {K : fx_K} {n : Nat} {L : List (Option Value)} {st : List Value} {I : fx_MI} {J : fx_MJ} {R : fx_MR} {x : Int32} {X : Nat → fx_K} (hX : fx_isX nL M ev ret P p_Out_takeHint stops K X) (hs : fx_stop stops 7 = none) : X (n + 1) 7 L (.int x :: st) I J R = ((¬ x = 0 → X n 13 L st I J R) ∧ (x = 0 → X n 10 L st I J R)) := fx_q_ifne hX rfl hs rfl
theorem q_Out_takeHint_10 {nL : Nat} {M : fx_M} {ev : fx_Env} {ret : Option FieldType} {P : fx_P} {stops : List (Nat × Nat)} {K : fx_K} {n : Nat} {L : List (Option Value)} {st : List Value} {I : fx_MI} {J : fx_MJ} {R : fx_MR} {X : Nat → fx_K} (hX : fx_isX nL M ev ret P p_Out_takeHint stops K X) (hs : fx_stop stops 10 = none) : X (n + 1) 10 L st I J R = fx_S nL M ev ret P (.bipush (-3)) 0 10 L st I J R (X n) := hX.1 _ _ _ _ _ _ _ _ _ rfl hs
theorem q_Out_takeHint_12 {nL : Nat} {M : fx_M} {ev : fx_Env} {ret : Option FieldType} {P : fx_P} {stops : List (Nat × Nat)} {K : fx_K} {n : Nat} {L : List (Option Value)} {st : List Value} {I : fx_MI} {J : fx_MJ} {R : fx_MR} {X : Nat → fx_K} (hX : fx_isX nL M ev ret P p_Out_takeHint stops K X) (hs : fx_stop stops 12 = none) : X (n + 1) 12 L st I J R = fx_S nL M ev ret P (.ireturn) 0 12 L st I J R (X n) := hX.1 _ _ _ _ _ _ _ _ _ rfl hs
theorem q_Out_takeHint_13 {nL : Nat} {M : fx_M} {ev : fx_Env} {ret : Option FieldType} {P : fx_P} {stops : List (Nat × Nat)} {K : fx_K} {n : Nat} {L : List (Option Value)} {st : List Value} {I : fx_MI} {J : fx_MJ} {R : fx_MR} {X : Nat → fx_K} (hX : fx_isX nL M ev ret P p_Out_takeHint stops K X) (hs : fx_stop stops 13 = none) : X (n + 1) 13 L st I J R = fx_S nL M ev ret P (.lconst 1) 0 13 L st I J R (X n) := hX.1 _ _ _ _ _ _ _ _ _ rfl hs
theorem q_Out_takeHint_14 {nL : Nat} {M : fx_M} {ev : fx_Env} {ret : Option FieldType} {P : fx_P} {stops : List (Nat × Nat)} {K : fx_K} {n : Nat} {L : List (Option Value)} {st : List Value} {I : fx_MI} {J : fx_MJ} {R : fx_MR} {X : Nat → fx_K} (hX : fx_isX nL M ev ret P p_Out_takeHint stops K X) (hs : fx_stop stops 14 = none) : X (n + 1) 14 L st I J R = fx_S nL M ev ret P (.aload_n 0) 0 14 L st I J R (X n) := hX.1 _ _ _ _ _ _ _ _ _ rfl hs
theorem q_Out_takeHint_15 {nL : Nat} {M : fx_M} {ev : fx_Env} {ret : Option FieldType} {P : fx_P} {stops : List (Nat × Nat)} {K : fx_K} {n : Nat} {L : List (Option Value)} {st : List Value} {I : fx_MI} {J : fx_MJ} {R : fx_MR} {X : Nat → fx_K} (hX : fx_isX nL M ev ret P p_Out_takeHint stops K X) (hs : fx_stop stops 15 = none) : X (n + 1) 15 L st I J R = fx_S nL M ev ret P (.getfield 79) 0 15 L st I J R (X n) := hX.1 _ _ _ _ _ _ _ _ _ rfl hs
theorem q_Out_takeHint_18 {nL : Nat} {M : fx_M} {ev : fx_Env} {ret : Option FieldType} {P : fx_P} {stops : List (Nat × Nat)} {K : fx_K} {n : Nat} {L : List (Option Value)} {st : List Value} {I : fx_MI} {J : fx_MJ} {R : fx_MR} {X : Nat → fx_K} (hX : fx_isX nL M ev ret P p_Out_takeHint stops K X) (hs : fx_stop stops 18 = none) : X (n + 1) 18 L st I J R = fx_S nL M ev ret P (.getfield 293) 0 18 L st I J R (X n) := hX.1 _ _ _ _ _ _ _ _ _ rfl hs
theorem q_Out_takeHint_21 {nL : Nat} {M : fx_M} {ev : fx_Env} {ret : Option FieldType} {P : fx_P} {stops : List (Nat × Nat)} {K : fx_K} {n : Nat} {L : List (Option Value)} {st : List Value} {I : fx_MI} {J : fx_MJ} {R : fx_MR} {X : Nat → fx_K} (hX : fx_isX nL M ev ret P p_Out_takeHint stops K X) (hs : fx_stop stops 21 = none) : X (n + 1) 21 L st I J R = fx_S nL M ev ret P (.lshl) 0 21 L st I J R (X n) := hX.1 _ _ _ _ _ _ _ _ _ rfl hs
theorem q_Out_takeHint_22 {nL : Nat} {M : fx_M} {ev : fx_Env} {ret : Option FieldType} {P : fx_P} {stops : List (Nat × Nat)} {K : fx_K} {n : Nat} {L : List (Option Value)} {st : List Value} {I : fx_MI} {J : fx_MJ} {R : fx_MR} {X : Nat → fx_K} (hX : fx_isX nL M ev ret P p_Out_takeHint stops K X) (hs : fx_stop stops 22 = none) : X (n + 1) 22 L st I J R = fx_S nL M ev ret P (.lstore_n 1) 0 22 L st I J R (X n) := hX.1 _ _ _ _ _ _ _ _ _ rfl hs
theorem q_Out_takeHint_23 {nL : Nat} {M : fx_M} {ev : fx_Env} {ret : Option FieldType} {P : fx_P} {stops : List (Nat × Nat)} {K : fx_K} {n : Nat} {L : List (Option Value)} {st : List Value} {I : fx_MI} {J : fx_MJ} {R : fx_MR} {X : Nat → fx_K} (hX : fx_isX nL M ev ret P p_Out_takeHint stops K X) (hs : fx_stop stops 23 = none) : X (n + 1) 23 L st I J R = fx_S nL M ev ret P (.aload_n 0) 0 23 L st I J R (X n) := hX.1 _ _ _ _ _ _ _ _ _ rfl hs
theorem q_Out_takeHint_24 {nL : Nat} {M : fx_M} {ev : fx_Env} {ret : Option FieldType} {P : fx_P} {stops : List (Nat × Nat)} {K : fx_K} {n : Nat} {L : List (Option Value)} {st : List Value} {I : fx_MI} {J : fx_MJ} {R : fx_MR} {X : Nat → fx_K} (hX : fx_isX nL M ev ret P p_Out_takeHint stops K X) (hs : fx_stop stops 24 = none) : X (n + 1) 24 L st I J R = fx_S nL M ev ret P (.getfield 19) 0 24 L st I J R (X n) := hX.1 _ _ _ _ _ _ _ _ _ rfl hs
theorem q_Out_takeHint_27 {nL : Nat} {M : fx_M} {ev : fx_Env} {ret : Option FieldType} {P : fx_P} {stops : List (Nat × Nat)} {K : fx_K} {n : Nat} {L : List (Option Value)} {st : List Value} {I : fx_MI} {J : fx_MJ} {R : fx_MR} {X : Nat → fx_K} (hX : fx_isX nL M ev ret P p_Out_takeHint stops K X) (hs : fx_stop stops 27 = none) : X (n + 1) 27 L st I J R = fx_S nL M ev ret P (.getfield 132) 0 27 L st I J R (X n) := hX.1 _ _ _ _ _ _ _ _ _ rfl hs
theorem q_Out_takeHint_30 {nL : Nat} {M : fx_M} {ev : fx_Env} {ret : Option FieldType} {P : fx_P} {stops : List (Nat × Nat)} {K : fx_K} {n : Nat} {L : List (Option Value)} {st : List Value} {I : fx_MI} {J : fx_MJ} {R : fx_MR} {X : Nat → fx_K} (hX : fx_isX nL M ev ret P p_Out_takeHint stops K X) (hs : fx_stop stops 30 = none) : X (n + 1) 30 L st I J R = fx_S nL M ev ret P (.lload_n 1) 0 30 L st I J R (X n) := hX.1 _ _ _ _ _ _ _ _ _ rfl hs
theorem q_Out_takeHint_31 {nL : Nat} {M : fx_M} {ev : fx_Env} {ret : Option FieldType} {P : fx_P} {stops : List (Nat × Nat)} {K : fx_K} {n : Nat} {L : List (Option Value)} {st : List Value} {I : fx_MI} {J : fx_MJ} {R : fx_MR} {X : Nat → fx_K} (hX : fx_isX nL M ev ret P p_Out_takeHint stops K X) (hs : fx_stop stops 31 = none) : X (n + 1) 31 L st I J R = fx_S nL M ev ret P (.invokevirtual 235) 0 31 L st I J R (X n) := hX.1 _ _ _ _ _ _ _ _ _ rfl hs
theorem q_Out_takeHint_34 {nL : Nat} {M : fx_M} {ev : fx_Env} {ret : Option FieldType} {P : fx_P} {stops : List (Nat × Nat)} {K : fx_K} {n : Nat} {L : List (Option Value)} {st : List Value} {I : fx_MI} {J : fx_MJ} {R : fx_MR} {X : Nat → fx_K} (hX : fx_isX nL M ev ret P p_Out_takeHint stops K X) (hs : fx_stop stops 34 = none) : X (n + 1) 34 L st I J R = fx_S nL M ev ret P (.aload_n 0) 0 34 L st I J R (X n) := hX.1 _ _ _ _ _ _ _ _ _ rfl hs
theorem q_Out_takeHint_35 {nL : Nat} {M : fx_M} {ev : fx_Env} {ret : Option FieldType} {P : fx_P} {stops : List (Nat × Nat)} {K : fx_K} {n : Nat} {L : List (Option Value)} {st : List Value} {I : fx_MI} {J : fx_MJ} {R : fx_MR} {X : Nat → fx_K} (hX : fx_isX nL M ev ret P p_Out_takeHint stops K X) (hs : fx_stop stops 35 = none) : X (n + 1) 35 L st I J R = fx_S nL M ev ret P (.getfield 79) 0 35 L st I J R (X n) := hX.1 _ _ _ _ _ _ _ _ _ rfl hs
theorem q_Out_takeHint_38 {nL : Nat} {M : fx_M} {ev : fx_Env} {ret : Option FieldType} {P : fx_P} {stops : List (Nat × Nat)} {K : fx_K} {n : Nat} {L : List (Option Value)} {st : List Value} {I : fx_MI} {J : fx_MJ} {R : fx_MR} {X : Nat → fx_K} (hX : fx_isX nL M ev ret P p_Out_takeHint stops K X) (hs : fx_stop stops 38 = none) : X (n + 1) 38 L st I J R = fx_S nL M ev ret P (.getfield 301) 0 38 L st I J R (X n) := hX.1 _ _ _ _ _ _ _ _ _ rfl hs
theorem q_Out_takeHint_41 {nL : Nat} {M : fx_M} {ev : fx_Env} {ret : Option FieldType} {P : fx_P} {stops : List (Nat × Nat)} {K : fx_K} {n : Nat} {L : List (Option Value)} {st : List Value} {I : fx_MI} {J : fx_MJ} {R : fx_MR} {X : Nat → fx_K} (hX : fx_isX nL M ev ret P p_Out_takeHint stops K X) (hs : fx_stop stops 41 = none) : X (n + 1) 41 L st I J R = fx_S nL M ev ret P (.iand) 0 41 L st I J R (X n) := hX.1 _ _ _ _ _ _ _ _ _ rfl hs
theorem q_Out_takeHint_42 {nL : Nat} {M : fx_M} {ev : fx_Env} {ret : Option FieldType} {P : fx_P} {stops : List (Nat × Nat)} {K : fx_K} {n : Nat} {L : List (Option Value)} {st : List Value} {I : fx_MI} {J : fx_MJ} {R : fx_MR} {X : Nat → fx_K} (hX : fx_isX nL M ev ret P p_Out_takeHint stops K X) (hs : fx_stop stops 42 = none) : X (n + 1) 42 L st I J R = fx_S nL M ev ret P (.istore_n 3) 0 42 L st I J R (X n) := hX.1 _ _ _ _ _ _ _ _ _ rfl hs
theorem q_Out_takeHint_43 {nL : Nat} {M : fx_M} {ev : fx_Env} {ret : Option FieldType} {P : fx_P} {stops : List (Nat × Nat)} {K : fx_K} {n : Nat} {L : List (Option Value)} {st : List Value} {I : fx_MI} {J : fx_MJ} {R : fx_MR} {X : Nat → fx_K} (hX : fx_isX nL M ev ret P p_Out_takeHint stops K X) (hs : fx_stop stops 43 = none) : X (n + 1) 43 L st I J R = fx_S nL M ev ret P (.iload_n 3) 0 43 L st I J R (X n) := hX.1 _ _ _ _ _ _ _ _ _ rfl hs
theorem q_Out_takeHint_44 {nL : Nat} {M : fx_M} {ev : fx_Env} {ret : Option FieldType} {P : fx_P} {stops : List (Nat × Nat)} {K : fx_K} {n : Nat} {L : List (Option Value)} {st : List Value} {I : fx_MI} {J : fx_MJ} {R : fx_MR} {x : Int32} {X : Nat → fx_K} (hX : fx_isX nL M ev ret P p_Out_takeHint stops K X) (hs : fx_stop stops 44 = none) : X (n + 1) 44 L (.int x :: st) I J R = ((¬ x = 0 → X n 50 L st I J R) ∧ (x = 0 → X n 47 L st I J R)) := fx_q_ifne hX rfl hs rfl
theorem q_Out_takeHint_47 {nL : Nat} {M : fx_M} {ev : fx_Env} {ret : Option FieldType} {P : fx_P} {stops : List (Nat × Nat)} {K : fx_K} {n : Nat} {L : List (Option Value)} {st : List Value} {I : fx_MI} {J : fx_MJ} {R : fx_MR} {X : Nat → fx_K} (hX : fx_isX nL M ev ret P p_Out_takeHint stops K X) (hs : fx_stop stops 47 = none) : X (n + 1) 47 L st I J R = fx_S nL M ev ret P (.bipush (-3)) 0 47 L st I J R (X n) := hX.1 _ _ _ _ _ _ _ _ _ rfl hs
theorem q_Out_takeHint_49 {nL : Nat} {M : fx_M} {ev : fx_Env} {ret : Option FieldType} {P : fx_P} {stops : List (Nat × Nat)} {K : fx_K} {n : Nat} {L : List (Option Value)} {st : List Value} {I : fx_MI} {J : fx_MJ} {R : fx_MR} {X : Nat → fx_K} (hX : fx_isX nL M ev ret P p_Out_takeHint stops K X) (hs : fx_stop stops 49 = none) : X (n + 1) 49 L st I J R = fx_S nL M ev ret P (.ireturn) 0 49 L st I J R (X n) := hX.1 _ _ _ _ _ _ _ _ _ rfl hs
theorem q_Out_takeHint_50 {nL : Nat} {M : fx_M} {ev : fx_Env} {ret : Option FieldType} {P : fx_P} {stops : List (Nat × Nat)} {K : fx_K} {n : Nat} {L : List (Option Value)} {st : List Value} {I : fx_MI} {J : fx_MJ} {R : fx_MR} {X : Nat → fx_K} (hX : fx_isX nL M ev ret P p_Out_takeHint stops K X) (hs : fx_stop stops 50 = none) : X (n + 1) 50 L st I J R = fx_S nL M ev ret P (.aload_n 0) 0 50 L st I J R (X n) := hX.1 _ _ _ _ _ _ _ _ _ rfl hs
theorem q_Out_takeHint_51 {nL : Nat} {M : fx_M} {ev : fx_Env} {ret : Option FieldType} {P : fx_P} {stops : List (Nat × Nat)} {K : fx_K} {n : Nat} {L : List (Option Value)} {st : List Value} {I : fx_MI} {J : fx_MJ} {R : fx_MR} {X : Nat → fx_K} (hX : fx_isX nL M ev ret P p_Out_takeHint stops K X) (hs : fx_stop stops 51 = none) : X (n + 1) 51 L st I J R = fx_S nL M ev ret P (.getfield 26) 0 51 L st I J R (X n) := hX.1 _ _ _ _ _ _ _ _ _ rfl hs
theorem q_Out_takeHint_54 {nL : Nat} {M : fx_M} {ev : fx_Env} {ret : Option FieldType} {P : fx_P} {stops : List (Nat × Nat)} {K : fx_K} {n : Nat} {L : List (Option Value)} {st : List Value} {I : fx_MI} {J : fx_MJ} {R : fx_MR} {X : Nat → fx_K} (hX : fx_isX nL M ev ret P p_Out_takeHint stops K X) (hs : fx_stop stops 54 = none) : X (n + 1) 54 L st I J R = fx_S nL M ev ret P (.aload_n 0) 0 54 L st I J R (X n) := hX.1 _ _ _ _ _ _ _ _ _ rfl hs
theorem q_Out_takeHint_55 {nL : Nat} {M : fx_M} {ev : fx_Env} {ret : Option FieldType} {P : fx_P} {stops : List (Nat × Nat)} {K : fx_K} {n : Nat} {L : List (Option Value)} {st : List Value} {I : fx_MI} {J : fx_MJ} {R : fx_MR} {X : Nat → fx_K} (hX : fx_isX nL M ev ret P p_Out_takeHint stops K X) (hs : fx_stop stops 55 = none) : X (n + 1) 55 L st I J R = fx_S nL M ev ret P (.getfield 19) 0 55 L st I J R (X n) := hX.1 _ _ _ _ _ _ _ _ _ rfl hs
theorem q_Out_takeHint_58 {nL : Nat} {M : fx_M} {ev : fx_Env} {ret : Option FieldType} {P : fx_P} {stops : List (Nat × Nat)} {K : fx_K} {n : Nat} {L : List (Option Value)} {st : List Value} {I : fx_MI} {J : fx_MJ} {R : fx_MR} {X : Nat → fx_K} (hX : fx_isX nL M ev ret P p_Out_takeHint stops K X) (hs : fx_stop stops 58 = none) : X (n + 1) 58 L st I J R = fx_S nL M ev ret P (.invokevirtual 111) 0 58 L st I J R (X n) := hX.1 _ _ _ _ _ _ _ _ _ rfl hs
theorem q_Out_takeHint_61 {nL : Nat} {M : fx_M} {ev : fx_Env} {ret : Option FieldType} {P : fx_P} {stops : List (Nat × Nat)} {K : fx_K} {n : Nat} {L : List (Option Value)} {st : List Value} {I : fx_MI} {J : fx_MJ} {R : fx_MR} {X : Nat → fx_K} (hX : fx_isX nL M ev ret P p_Out_takeHint stops K X) (hs : fx_stop stops 61 = none) : X (n + 1) 61 L st I J R = fx_S nL M ev ret P (.aload_n 0) 0 61 L st I J R (X n) := hX.1 _ _ _ _ _ _ _ _ _ rfl hs
theorem q_Out_takeHint_62 {nL : Nat} {M : fx_M} {ev : fx_Env} {ret : Option FieldType} {P : fx_P} {stops : List (Nat × Nat)} {K : fx_K} {n : Nat} {L : List (Option Value)} {st : List Value} {I : fx_MI} {J : fx_MJ} {R : fx_MR} {X : Nat → fx_K} (hX : fx_isX nL M ev ret P p_Out_takeHint stops K X) (hs : fx_stop stops 62 = none) : X (n + 1) 62 L st I J R = fx_S nL M ev ret P (.getfield 19) 0 62 L st I J R (X n) := hX.1 _ _ _ _ _ _ _ _ _ rfl hs
theorem q_Out_takeHint_65 {nL : Nat} {M : fx_M} {ev : fx_Env} {ret : Option FieldType} {P : fx_P} {stops : List (Nat × Nat)} {K : fx_K} {n : Nat} {L : List (Option Value)} {st : List Value} {I : fx_MI} {J : fx_MJ} {R : fx_MR} {X : Nat → fx_K} (hX : fx_isX nL M ev ret P p_Out_takeHint stops K X) (hs : fx_stop stops 65 = none) : X (n + 1) 65 L st I J R = fx_S nL M ev ret P (.getfield 132) 0 65 L st I J R (X n) := hX.1 _ _ _ _ _ _ _ _ _ rfl hs
theorem q_Out_takeHint_68 {nL : Nat} {M : fx_M} {ev : fx_Env} {ret : Option FieldType} {P : fx_P} {stops : List (Nat × Nat)} {K : fx_K} {n : Nat} {L : List (Option Value)} {st : List Value} {I : fx_MI} {J : fx_MJ} {R : fx_MR} {X : Nat → fx_K} (hX : fx_isX nL M ev ret P p_Out_takeHint stops K X) (hs : fx_stop stops 68 = none) : X (n + 1) 68 L st I J R = fx_S nL M ev ret P (.lload_n 1) 0 68 L st I J R (X n) := hX.1 _ _ _ _ _ _ _ _ _ rfl hs
theorem q_Out_takeHint_69 {nL : Nat} {M : fx_M} {ev : fx_Env} {ret : Option FieldType} {P : fx_P} {stops : List (Nat × Nat)} {K : fx_K} {n : Nat} {L : List (Option Value)} {st : List Value} {I : fx_MI} {J : fx_MJ} {R : fx_MR} {X : Nat → fx_K} (hX : fx_isX nL M ev ret P p_Out_takeHint stops K X) (hs : fx_stop stops 69 = none) : X (n + 1) 69 L st I J R = fx_S nL M ev ret P (.iload_n 3) 0 69 L st I J R (X n) := hX.1 _ _ _ _ _ _ _ _ _ rfl hs
theorem q_Out_takeHint_70 {nL : Nat} {M : fx_M} {ev : fx_Env} {ret : Option FieldType} {P : fx_P} {stops : List (Nat × Nat)} {K : fx_K} {n : Nat} {L : List (Option Value)} {st : List Value} {I : fx_MI} {J : fx_MJ} {R : fx_MR} {X : Nat → fx_K} (hX : fx_isX nL M ev ret P p_Out_takeHint stops K X) (hs : fx_stop stops 70 = none) : X (n + 1) 70 L st I J R = fx_S nL M ev ret P (.invokevirtual 202) 0 70 L st I J R (X n) := hX.1 _ _ _ _ _ _ _ _ _ rfl hs
theorem q_Out_takeHint_73 {nL : Nat} {M : fx_M} {ev : fx_Env} {ret : Option FieldType} {P : fx_P} {stops : List (Nat × Nat)} {K : fx_K} {n : Nat} {L : List (Option Value)} {st : List Value} {I : fx_MI} {J : fx_MJ} {R : fx_MR} {X : Nat → fx_K} (hX : fx_isX nL M ev ret P p_Out_takeHint stops K X) (hs : fx_stop stops 73 = none) : X (n + 1) 73 L st I J R = fx_S nL M ev ret P (.iload_n 3) 0 73 L st I J R (X n) := hX.1 _ _ _ _ _ _ _ _ _ rfl hs
theorem q_Out_takeHint_74 {nL : Nat} {M : fx_M} {ev : fx_Env} {ret : Option FieldType} {P : fx_P} {stops : List (Nat × Nat)} {K : fx_K} {n : Nat} {L : List (Option Value)} {st : List Value} {I : fx_MI} {J : fx_MJ} {R : fx_MR} {X : Nat → fx_K} (hX : fx_isX nL M ev ret P p_Out_takeHint stops K X) (hs : fx_stop stops 74 = none) : X (n + 1) 74 L st I J R = fx_S nL M ev ret P (.ireturn) 0 74 L st I J R (X n) := hX.1 _ _ _ _ _ _ _ _ _ rfl hs
def pre_Out_takeHint (n : Nat) : fx_Pre := fun st I J R => (∃ b, R = R0C b) ∧ (match st with
  | [.ref 0] => relE I J
  | _ => False)
theorem pi_Out_takeHint {n : Nat} {st : List Value} {I : fx_MI} {J : fx_MJ} {R : fx_MR} (h : pre_Out_takeHint n st I J R) : (∃ b, R = R0C b) ∧ st = [.ref 0] ∧ (relE I J) := by
  unfold pre_Out_takeHint at h
  obtain ⟨h0, h⟩ := h
  split at h
  · exact ⟨h0, rfl, h⟩
  · cases h
def post_Out_takeHint (n : Nat) : fx_Post := fun st I J R r I' J' R' => simP (post_M_takeHint [.ref 0]) I J r I' J' R'
theorem pz_Out_takeHint {st : List Value} {I : fx_MI} {J : fx_MJ} {R : fx_MR} (n : Nat) (h : pre_Out_takeHint n st I J R) : ∃ q r, st = .ref q :: r ∧ (MC n).2.2.1 q = some (.inl 0) ∧ r.length = 0 := by
  obtain ⟨_, rfl, _⟩ := pi_Out_takeHint h
  exact ⟨_, _, rfl, rfl, rfl⟩
def v_Out_takeHint (n : Nat) : fx_Env := [(.getfield 79, fx_tget (MC n) 0 8), (.getfield 290, fx_tget (MC n) 11 5), (.getfield 293, fx_tget (MC n) 11 6), (.getfield 19, fx_tget (MC n) 0 1), (.getfield 132, fx_tget (MC n) 2 1), (.invokevirtual 235, fx_tcall 2 (pre_Layer_colorsAt n) (post_Layer_colorsAt n)), (.getfield 301, fx_tget (MC n) 11 7), (.getfield 26, fx_tget (MC n) 0 2), (.invokevirtual 111, fx_tcall 2 (pre_History_record n) (post_History_record n)), (.invokevirtual 202, fx_tcall 3 (pre_Layer_put n) (post_Layer_put n))]
abbrev rm_Out_takeHint : Room := { frames := 4, cells := 0, slots := 0, locals := 123 }
abbrev ws_Out_takeHint : List Cond := Cond.code y_Out_takeHint b_Out_takeHint 4 (some .int) :: w_C
theorem vk_Out_takeHint {l : Launch} {n : Nat} : fx_EV l R_Out ws_Out_takeHint rm_Out_takeHint (MC n) 4 b_Out_takeHint (v_Out_takeHint n) := (fx_EV_cons e_Out_g79 (fx_EV_cons e_Out_g290 (fx_EV_cons e_Out_g293 (fx_EV_cons e_Out_g19 (fx_EV_cons e_Out_g132 (fx_EV_cons (e_Out_c235 (by decide)) (fx_EV_cons e_Out_g301 (fx_EV_cons e_Out_g26 (fx_EV_cons (e_Out_c111 (by decide)) (fx_EV_cons (e_Out_c202 (by decide)) fx_EV_nil))))))))))
theorem r_Out_takeHint (n : Nat) (st : List Value) (I : fx_MI) (J : fx_MJ) (R : fx_MR) (h : pre_Out_takeHint n st I J R) : fx_sz st ≤ 4 ∧ fx_R 4 (MC n) (v_Out_takeHint n) (some .int) (post_Out_takeHint n st I J R) p_Out_takeHint 0 (fx_en st) [] I J R := by
  obtain ⟨⟨b, rfl⟩, rfl, hp⟩ := pi_Out_takeHint h
  clear h
  refine ⟨Nat.le_of_ble_eq_true rfl, ?_⟩
  obtain ⟨Ir0, hr0⟩ := hp
  have hh := REL_his hr0
  obtain ⟨hw, hh2, hc, e0, e1, e2⟩ := dimC_of hr0.1.1.1
  have hwh := wh_le hw.2 hh2.2
  have hle4 : 2 ^ (cC I + 1) ≤ 2 ^ 4 := Nat.pow_le_pow_right (by omega) (by omega)
  have hlev : ∀ Ir, REL I J Ir → Ir 0 6 = I 138 5 := fun Ir hr => hr.2.2.2.2.1.symm
  by_cases h0 : I 138 5 = nI 0
  · refine fx_run0 120 fun X hX => ?_
    simp only [q_Out_takeHint_0 hX rfl, q_Out_takeHint_1 hX rfl, q_Out_takeHint_4 hX rfl, q_Out_takeHint_7 hX rfl, q_Out_takeHint_10 hX rfl, q_Out_takeHint_12 hX rfl, q_Out_takeHint_13 hX rfl, q_Out_takeHint_14 hX rfl, q_Out_takeHint_15 hX rfl, q_Out_takeHint_18 hX rfl, q_Out_takeHint_21 hX rfl, q_Out_takeHint_22 hX rfl, q_Out_takeHint_23 hX rfl, q_Out_takeHint_24 hX rfl, q_Out_takeHint_27 hX rfl, q_Out_takeHint_30 hX rfl, q_Out_takeHint_31 hX rfl, q_Out_takeHint_34 hX rfl, q_Out_takeHint_35 hX rfl, q_Out_takeHint_38 hX rfl, q_Out_takeHint_41 hX rfl, q_Out_takeHint_42 hX rfl, q_Out_takeHint_43 hX rfl, q_Out_takeHint_44 hX rfl, q_Out_takeHint_47 hX rfl, q_Out_takeHint_49 hX rfl, q_Out_takeHint_50 hX rfl, q_Out_takeHint_51 hX rfl, q_Out_takeHint_54 hX rfl, q_Out_takeHint_55 hX rfl, q_Out_takeHint_58 hX rfl, q_Out_takeHint_61 hX rfl, q_Out_takeHint_62 hX rfl, q_Out_takeHint_65 hX rfl, q_Out_takeHint_68 hX rfl, q_Out_takeHint_69 hX rfl, q_Out_takeHint_70 hX rfl, q_Out_takeHint_73 hX rfl, q_Out_takeHint_74 hX rfl, fs_aload_n0, fs_aload_n1, fs_aload_n2, fs_aload_n3, fs_bipush, fs_getfield, fs_iand, fs_ifCond, fs_iload_n0, fs_iload_n1, fs_iload_n2, fs_iload_n3, fs_invokevirtual, fs_ireturn, fs_istore_n0, fs_istore_n1, fs_istore_n2, fs_istore_n3, fs_lconst, fs_lload_n0, fs_lload_n1, fs_lload_n2, fs_lload_n3, fs_lshl, fs_lstore_n0, fs_lstore_n1, fs_lstore_n2, fs_lstore_n3, v_Out_takeHint, cb_m3, cl_1, lt_2_4, lt_3_4, pre_Layer_colorsAt, post_Layer_colorsAt, pre_History_record, post_History_record, pre_Layer_put, post_Layer_put, kd_C_0_8, pl_C_0, R0C_0_8, pl_C_138, kd_C_11_5, kd_C_11_6, kd_C_0_1, R0C_0_1, pl_C_2, kd_C_2_1, R0C_2_1, pl_C_8, kd_C_11_7, kd_C_0_2, R0C_0_2, pl_C_12, fx_oi_s, fx_ol_s, fx_or_s, fx_do_s, fx_lg_0, fx_lg_s, fx_ls_0, fx_ls_s, fx_ls_n0, fx_ls_ns, fx_en, fx_sz, Value.category, fx_nl, fx_lk, fx_tget, fx_tput, fx_tcall, fx_tldc, fx_fv, va_rf, fx_cat, fx_in, fx_cnd, fx_len, fx_narI, fx_narZ0, fx_narZ1, fx_narZb, zb_e, zb_ne, Option.some.injEq, Value.int.injEq, Value.long.injEq, Value.ref.injEq, List.cons.injEq, Nat.reduceAdd, Nat.reduceLeDiff, Nat.le_refl, List.take, List.drop, List.reverse_cons, List.reverse_nil, List.nil_append, List.cons_append, List.append_nil, List.map_cons, List.map_nil, List.sum_cons, List.sum_nil, List.length_cons, List.length_nil, Option.toList, fx_all4, forall_const, true_and, and_true, not_true_eq_false, not_false_eq_true, false_implies, true_implies, ne_eq, reduceCtorEq, Nat.reduceEqDiff, ite_true, ite_false, reduceIte, Instr.getfield.injEq, Instr.putfield.injEq, Instr.invokevirtual.injEq, Instr.invokestatic.injEq, Instr.ldc2_w.injEq, fx_tcopy, Instr.ldc.injEq, Instr.ldc_w.injEq, exists_eq_left, exists_prop, R0C_ex, h0]
    simp (disch := omega) only [lit, nI_add, nI_mul', nI_sub', nI_clamp, nI_lt', nI_le', nI_eq', nI_in', iinc1, zb_n0, nI_div', nI_rem2, true_and, and_true, Nat.reduceEqDiff, Nat.reduceLeDiff, Nat.one_ne_zero, Nat.zero_ne_one, not_false_eq_true, not_true_eq_false, false_implies, true_implies, forall_const, Nat.zero_add, Nat.add_zero, nv_nI, up_eq, up_ne, fill_ne, nI_clamp, nI_add]
    refine ⟨⟨b, rfl⟩, fun Ir hr Jr r2 Ir2 Jr2 Rr2 hq => ?_⟩
    obtain ⟨rfl, rfl, ⟨k1, rfl, rfl⟩ | ⟨k1, -⟩⟩ := hq
    · exact ⟨rfl, rfl, hr⟩
    · exact absurd ((hlev Ir hr).trans h0) k1
  · obtain ⟨k, hk, hidx, mk, hmk, hmark, hall⟩ : ∃ k, k < cW I * cH I ∧ I 138 6 = nI (idxK (cW I) k) ∧ ∃ mk, mk < 16 ∧ I 138 7 = nI mk ∧ ∀ Ir, REL I J Ir → Ir 0 7 = nI k ∧ Ir 0 8 = nI mk := by
      have hx := fun Ir (hr : REL I J Ir) => hr.2.2.2.2.2.2.2 (by rw [hlev Ir hr]; exact h0)
      obtain ⟨⟨k, k1, k2, k3⟩, ⟨k4, mk, k5, k6⟩, -⟩ := hx Ir0 hr0
      refine ⟨k, k1, k3, mk, k5, by rw [k4, k6], fun Ir hr => ?_⟩
      obtain ⟨⟨j, j1, j2, j3⟩, ⟨j4, -⟩, -⟩ := hx Ir hr
      have q := congrArg nv (j3.symm.trans k3)
      obtain ⟨hm1, hd1⟩ := k_dm k1
      obtain ⟨hm2, hd2⟩ := k_dm j1
      rw [nv_nI (by unfold idxK; omega), nv_nI (by unfold idxK; omega)] at q
      rw [idx_inj hw q] at j2
      exact ⟨j2, by rw [← j4, k4, k6]⟩
    obtain ⟨hkm, hkd⟩ := k_dm hk
    have hi64 : idxK (cW I) k < 64 := by unfold idxK; omega
    have hcol : mskF 4 (colF J 9 ((1 : Int64) <<< ((nI (idxK (cW I) k)).toInt64 &&& 63))) = cu (cW I) J 8 k := by
      unfold cu
      exact mskF_c fun c _ => colF_1 hi64
    have hu16 := cu_16 (w := cW I) (J := J) (o := 8) (k := k)
    refine fx_run0 120 fun X hX => ?_
    simp only [q_Out_takeHint_0 hX rfl, q_Out_takeHint_1 hX rfl, q_Out_takeHint_4 hX rfl, q_Out_takeHint_7 hX rfl, q_Out_takeHint_10 hX rfl, q_Out_takeHint_12 hX rfl, q_Out_takeHint_13 hX rfl, q_Out_takeHint_14 hX rfl, q_Out_takeHint_15 hX rfl, q_Out_takeHint_18 hX rfl, q_Out_takeHint_21 hX rfl, q_Out_takeHint_22 hX rfl, q_Out_takeHint_23 hX rfl, q_Out_takeHint_24 hX rfl, q_Out_takeHint_27 hX rfl, q_Out_takeHint_30 hX rfl, q_Out_takeHint_31 hX rfl, q_Out_takeHint_34 hX rfl, q_Out_takeHint_35 hX rfl, q_Out_takeHint_38 hX rfl, q_Out_takeHint_41 hX rfl, q_Out_takeHint_42 hX rfl, q_Out_takeHint_43 hX rfl, q_Out_takeHint_44 hX rfl, q_Out_takeHint_47 hX rfl, q_Out_takeHint_49 hX rfl, q_Out_takeHint_50 hX rfl, q_Out_takeHint_51 hX rfl, q_Out_takeHint_54 hX rfl, q_Out_takeHint_55 hX rfl, q_Out_takeHint_58 hX rfl, q_Out_takeHint_61 hX rfl, q_Out_takeHint_62 hX rfl, q_Out_takeHint_65 hX rfl, q_Out_takeHint_68 hX rfl, q_Out_takeHint_69 hX rfl, q_Out_takeHint_70 hX rfl, q_Out_takeHint_73 hX rfl, q_Out_takeHint_74 hX rfl, fs_aload_n0, fs_aload_n1, fs_aload_n2, fs_aload_n3, fs_bipush, fs_getfield, fs_iand, fs_ifCond, fs_iload_n0, fs_iload_n1, fs_iload_n2, fs_iload_n3, fs_invokevirtual, fs_ireturn, fs_istore_n0, fs_istore_n1, fs_istore_n2, fs_istore_n3, fs_lconst, fs_lload_n0, fs_lload_n1, fs_lload_n2, fs_lload_n3, fs_lshl, fs_lstore_n0, fs_lstore_n1, fs_lstore_n2, fs_lstore_n3, v_Out_takeHint, cb_m3, cl_1, lt_2_4, lt_3_4, pre_Layer_colorsAt, post_Layer_colorsAt, pre_History_record, post_History_record, pre_Layer_put, post_Layer_put, kd_C_0_8, pl_C_0, R0C_0_8, pl_C_138, kd_C_11_5, kd_C_11_6, kd_C_0_1, R0C_0_1, pl_C_2, kd_C_2_1, R0C_2_1, pl_C_8, kd_C_11_7, kd_C_0_2, R0C_0_2, pl_C_12, fx_oi_s, fx_ol_s, fx_or_s, fx_do_s, fx_lg_0, fx_lg_s, fx_ls_0, fx_ls_s, fx_ls_n0, fx_ls_ns, fx_en, fx_sz, Value.category, fx_nl, fx_lk, fx_tget, fx_tput, fx_tcall, fx_tldc, fx_fv, va_rf, fx_cat, fx_in, fx_cnd, fx_len, fx_narI, fx_narZ0, fx_narZ1, fx_narZb, zb_e, zb_ne, Option.some.injEq, Value.int.injEq, Value.long.injEq, Value.ref.injEq, List.cons.injEq, Nat.reduceAdd, Nat.reduceLeDiff, Nat.le_refl, List.take, List.drop, List.reverse_cons, List.reverse_nil, List.nil_append, List.cons_append, List.append_nil, List.map_cons, List.map_nil, List.sum_cons, List.sum_nil, List.length_cons, List.length_nil, Option.toList, fx_all4, forall_const, true_and, and_true, not_true_eq_false, not_false_eq_true, false_implies, true_implies, ne_eq, reduceCtorEq, Nat.reduceEqDiff, ite_true, ite_false, reduceIte, Instr.getfield.injEq, Instr.putfield.injEq, Instr.invokevirtual.injEq, Instr.invokestatic.injEq, Instr.ldc2_w.injEq, fx_tcopy, Instr.ldc.injEq, Instr.ldc_w.injEq, exists_eq_left, exists_prop, R0C_ex, hidx]
    simp (disch := omega) only [lit, nI_add, nI_mul', nI_sub', nI_clamp, nI_lt', nI_le', nI_eq', nI_in', iinc1, zb_n0, nI_div', nI_rem2, true_and, and_true, Nat.reduceEqDiff, Nat.reduceLeDiff, Nat.one_ne_zero, Nat.zero_ne_one, not_false_eq_true, not_true_eq_false, false_implies, true_implies, forall_const, Nat.zero_add, Nat.add_zero, nv_nI, up_eq, up_ne, fill_ne, nI_clamp, nI_add]
    refine ⟨fun _ => ?_, fun z => absurd z h0⟩
    generalize hgen : (nI (idxK (cW I) k)).toInt64 &&& 63 = sh at hcol ⊢
    rw [show (Int64.ofNat ((1 : Fin 2) : Nat)) = 1 from rfl, hcol, hmark, and_16 _ hu16 _ hmk]
    have hand : cu (cW I) J 8 k &&& mk ≤ cu (cW I) J 8 k := Nat.and_le_left
    have hk64 : k < 64 := by omega
    refine ⟨rfl, fun h2 => ⟨⟨rfl, hh⟩, rfl, ⟨b, rfl⟩, fun Ir hr Jr r2 Ir2 Jr2 Rr2 hq => ?_⟩, fun h2 => ⟨⟨b, rfl⟩, fun Ir hr Jr r2 Ir2 Jr2 Rr2 hq => ?_⟩⟩
    · obtain ⟨g7, g8⟩ := hall Ir hr
      have hf : Ir 1 (288 + k) = nI (cu (cW I) J 8 k) := hr.2.1.2.1.2.2 k hk
      have hlt := (rg_eq (hr.2.1.2.2.2 k hk64).1.1 (by omega)).2
      rw [hf, nv_nI (by omega)] at hlt
      obtain ⟨rfl, rfl, ⟨k1, -⟩ | ⟨k1, k2, rfl, rfl⟩⟩ := hq
      · rw [g7, nv_nI (by omega), hf, g8, and_16 _ hu16 _ hmk, hlev Ir hr] at k1
        rcases k1 with k1 | k1
        · exact absurd k1 h0
        · exact absurd k1 h2
      · rw [g7, nv_nI (by omega), hf, g8, and_16 _ hu16 _ hmk]
        have hne : cu (cW I) J 8 k &&& mk ≠ 0 := fun z => h2 (by rw [z])
        have := REL_cell (x := k % cW I) (y := k / cW I) (m := cu (cW I) J 8 k &&& mk) (a := (1 : Int64) <<< sh) hr hkm hkd (by omega) (by omega) (fun i hi => by rw [← hgen]; exact lb_one hi64 hi)
        rw [Nat.div_add_mod] at this
        exact ⟨rfl, rfl, this⟩
    · obtain ⟨g7, g8⟩ := hall Ir hr
      have hf : Ir 1 (288 + k) = nI (cu (cW I) J 8 k) := hr.2.1.2.1.2.2 k hk
      obtain ⟨rfl, rfl, ⟨k1, rfl, rfl⟩ | ⟨k1, k2, rfl, rfl⟩⟩ := hq
      · exact ⟨rfl, rfl, hr⟩
      · rw [g7, nv_nI (by omega), hf, g8, and_16 _ hu16 _ hmk] at k2
        exact absurd h2 k2
theorem c_Out_takeHint (l : Launch) (n : Nat) : fx_Met l y_Out_takeHint ws_Out_takeHint rm_Out_takeHint (MC n) (pre_Out_takeHint n) (post_Out_takeHint n) := fx_met (MC_ok n) (MC_tys n) (by decide) rfl pk_Out_takeHint vk_Out_takeHint (fun st I J R h => r_Out_takeHint n st I J R h)

theorem xor_f : ∀ {a d : Bool}, (a ^^ d) = false → a = d := by decide
theorem dif_b {f g : Nat → Int64} {i : Nat} : lb (difL f g 4) i = ((lb (f 0) i ^^ lb (g 0) i) || (lb (f 1) i ^^ lb (g 1) i) || (lb (f 2) i ^^ lb (g 2) i) || (lb (f 3) i ^^ lb (g 3) i)) := by
  have e : difL f g 4 = (((0 ||| (f 0 ^^^ g 0)) ||| (f 1 ^^^ g 1)) ||| (f 2 ^^^ g 2)) ||| (f 3 ^^^ g 3) := rfl
  rw [e]
  simp only [l_or, l_xor, l_0, Bool.false_or]
/-- two layers differ at a cell -/
theorem dif_k {w k o q : Nat} {J J' : fx_MJ} : lb (difL (J (o + 1)) (J' (q + 1)) 4) (idxK w k) = decide (cu w J o k ≠ cu w J' q k) := by
  rw [dif_b]
  by_cases he : cu w J o k = cu w J' q k
  · rw [decide_eq_false (fun z => z he)]
    have hb : ∀ c, c < 4 → lb (J (o + 1) c) (idxK w k) = lb (J' (q + 1) c) (idxK w k) := fun c hc => by
      have h1 := cu_bit (w := w) (J := J) (o := o) (k := k) hc
      have h2 := cu_bit (w := w) (J := J') (o := q) (k := k) hc
      rw [he] at h1
      have h3 := h1.symm.trans h2
      rw [show 8 * (k / w) + k % w = idxK w k from rfl] at h3
      cases hx : lb (J (o + 1) c) (idxK w k)
      · rw [hx] at h3
        exact (bnt (fun z => absurd (h3.mpr z) (by decide))).symm
      · exact (h3.mp hx).symm
    rw [hb 0 (by omega), hb 1 (by omega), hb 2 (by omega), hb 3 (by omega)]
    simp
  · rw [decide_eq_true he]
    refine bnf fun z => ?_
    simp only [Bool.or_eq_false_iff] at z
    refine he (mskF_c fun d hd => ?_)
    obtain ⟨⟨⟨z0, z1⟩, z2⟩, z3⟩ := z
    rcases (show d = 0 ∨ d = 1 ∨ d = 2 ∨ d = 3 by omega) with rfl | rfl | rfl | rfl
    · exact xor_f z0
    · exact xor_f z1
    · exact xor_f z2
    · exact xor_f z3
/-- how many cells differ -/
theorem dif_pop {w h o q : Nat} {J J' : fx_MJ} {g : Nat → Nat} (hw : 1 ≤ w ∧ w ≤ 8) (hh : h ≤ 8) (h1 : lyO w h J o) (h2 : lyO w h J' q) (hg : ∀ k, k < w * h → g k = if cu w J o k = cu w J' q k then 0 else 1) : pop 64 (lb (difL (J (o + 1)) (J' (q + 1)) 4)) = sm g (w * h) := by
  have hwh := wh_le hw.2 hh
  have hsupp : ∀ i, i < 64 → lb (difL (J (o + 1)) (J' (q + 1)) 4) i = true → i % 8 < w ∧ i / 8 < h := fun i hi hb => by
    rw [dif_b] at hb
    have hx : ∀ c, c < 4 → (lb (J (o + 1) c) i ^^ lb (J' (q + 1) c) i) = true → i % 8 < w ∧ i / 8 < h := fun c hc z => by
      cases hl : lb (J (o + 1) c) i
      · rw [hl, Bool.false_xor] at z
        exact h2 c hc i hi z
      · exact h1 c hc i hi hl
    simp only [Bool.or_eq_true] at hb
    rcases hb with ((hb | hb) | hb) | hb
    · exact hx 0 (by omega) hb
    · exact hx 1 (by omega) hb
    · exact hx 2 (by omega) hb
    · exact hx 3 (by omega) hb
  have e1 : pop 64 (lb (difL (J (o + 1)) (J' (q + 1)) 4)) = pop 64 (fun i => lb (difL (J (o + 1)) (J' (q + 1)) 4) i && decide (i < 64)) := pop_c fun i hi => by rw [decide_eq_true hi, Bool.and_true]
  rw [e1, pop_idx hw hh (fun i hb => by
    rw [Bool.and_eq_true, decide_eq_true_eq] at hb
    exact hsupp i hb.2 hb.1)]
  refine sm_cong fun k hk => ?_
  have hdm := idx_dm (k := k) hw
  have hkd := k_dm hk
  have hi64 : idxK w k < 64 := by omega
  rw [decide_eq_true hi64, Bool.and_true, dif_k, hg k hk]
  by_cases h5 : cu w J o k = cu w J' q k
  · rw [if_pos h5, decide_eq_false (fun z => z h5)]
    rfl
  · rw [if_neg h5, decide_eq_true h5]
    rfl
def p_Out_clearMarks : fx_Pr := fx_pr [(0, .aload_n 0, 0), (1, .getfield 26, 0), (4, .aload_n 0, 0), (5, .getfield 19, 0), (8, .invokevirtual 111, 0), (11, .aload_n 0, 0), (12, .getfield 61, 0), (15, .getfield 238, 0), (18, .aload_n 0, 0), (19, .getfield 19, 0), (22, .getfield 132, 0), (25, .invokevirtual 239, 0), (28, .aload_n 0, 0), (29, .getfield 19, 0), (32, .getfield 132, 0), (35, .aload_n 0, 0), (36, .getfield 12, 0), (39, .getfield 242, 0), (42, .aload_n 0, 0), (43, .getfield 12, 0), (46, .invokevirtual 232, 0), (49, .invokevirtual 202, 0), (52, .aload_n 0, 0), (53, .getfield 19, 0), (56, .getfield 132, 0), (59, .aload_n 0, 0), (60, .getfield 61, 0), (63, .getfield 238, 0), (66, .invokevirtual 246, 0), (69, .invokestatic 197, 0), (72, .ireturn, 0)]
theorem pk_Out_clearMarks : fx_prOK b_Out_clearMarks p_Out_clearMarks := fx_pr_ok (by decide +kernel)
theorem q_Out_clearMarks_0 {nL : Nat} {M : fx_M} {ev : fx_Env} {ret : Option FieldType} {P : fx_P} {stops : List (Nat × Nat)} {K : fx_K} {n : Nat} {L : List (Option Value)} {st : List Value} {I : fx_MI} {J : fx_MJ} {R : fx_MR} {X : Nat → fx_K} (hX : fx_isX nL M ev ret P p_Out_clearMarks stops K X) (hs : fx_stop stops 0 = none) : X (n + 1) 0 L st I J R = fx_S nL M ev ret P (.aload_n 0) 0 0 L st I J R (X n) := hX.1 _ _ _ _ _ _ _ _ _ rfl hs
theorem q_Out_clearMarks_1 {nL : Nat} {M : fx_M} {ev : fx_Env} {ret : Option FieldType} {P : fx_P} {stops : List (Nat × Nat)} {K : fx_K} {n : Nat} {L : List (Option Value)} {st : List Value} {I : fx_MI} {J : fx_MJ} {R : fx_MR} {X : Nat → fx_K} (hX : fx_isX nL M ev ret P p_Out_clearMarks stops K X) (hs : fx_stop stops 1 = none) : X (n + 1) 1 L st I J R = fx_S nL M ev ret P (.getfield 26) 0 1 L st I J R (X n) := hX.1 _ _ _ _ _ _ _ _ _ rfl hs
theorem q_Out_clearMarks_4 {nL : Nat} {M : fx_M} {ev : fx_Env} {ret : Option FieldType} {P : fx_P} {stops : List (Nat × Nat)} {K : fx_K} {n : Nat} {L : List (Option Value)} {st : List Value} {I : fx_MI} {J : fx_MJ} {R : fx_MR} {X : Nat → fx_K} (hX : fx_isX nL M ev ret P p_Out_clearMarks stops K X) (hs : fx_stop stops 4 = none) : X (n + 1) 4 L st I J R = fx_S nL M ev ret P (.aload_n 0) 0 4 L st I J R (X n) := hX.1 _ _ _ _ _ _ _ _ _ rfl hs
theorem q_Out_clearMarks_5 {nL : Nat} {M : fx_M} {ev : fx_Env} {ret : Option FieldType} {P : fx_P} {stops : List (Nat × Nat)} {K : fx_K} {n : Nat} {L : List (Option Value)} {st : List Value} {I : fx_MI} {J : fx_MJ} {R : fx_MR} {X : Nat → fx_K} (hX : fx_isX nL M ev ret P p_Out_clearMarks stops K X) (hs : fx_stop stops 5 = none) : X (n + 1) 5 L st I J R = fx_S nL M ev ret P (.getfield 19) 0 5 L st I J R (X n) := hX.1 _ _ _ _ _ _ _ _ _ rfl hs
theorem q_Out_clearMarks_8 {nL : Nat} {M : fx_M} {ev : fx_Env} {ret : Option FieldType} {P : fx_P} {stops : List (Nat × Nat)} {K : fx_K} {n : Nat} {L : List (Option Value)} {st : List Value} {I : fx_MI} {J : fx_MJ} {R : fx_MR} {X : Nat → fx_K} (hX : fx_isX nL M ev ret P p_Out_clearMarks stops K X) (hs : fx_stop stops 8 = none) : X (n + 1) 8 L st I J R = fx_S nL M ev ret P (.invokevirtual 111) 0 8 L st I J R (X n) := hX.1 _ _ _ _ _ _ _ _ _ rfl hs
theorem q_Out_clearMarks_11 {nL : Nat} {M : fx_M} {ev : fx_Env} {ret : Option FieldType} {P : fx_P} {stops : List (Nat × Nat)} {K : fx_K} {n : Nat} {L : List (Option Value)} {st : List Value} {I : fx_MI} {J : fx_MJ} {R : fx_MR} {X : Nat → fx_K} (hX : fx_isX nL M ev ret P p_Out_clearMarks stops K X) (hs : fx_stop stops 11 = none) : X (n + 1) 11 L st I J R = fx_S nL M ev ret P (.aload_n 0) 0 11 L st I J R (X n) := hX.1 _ _ _ _ _ _ _ _ _ rfl hs
theorem q_Out_clearMarks_12 {nL : Nat} {M : fx_M} {ev : fx_Env} {ret : Option FieldType} {P : fx_P} {stops : List (Nat × Nat)} {K : fx_K} {n : Nat} {L : List (Option Value)} {st : List Value} {I : fx_MI} {J : fx_MJ} {R : fx_MR} {X : Nat → fx_K} (hX : fx_isX nL M ev ret P p_Out_clearMarks stops K X) (hs : fx_stop stops 12 = none) : X (n + 1) 12 L st I J R = fx_S nL M ev ret P (.getfield 61) 0 12 L st I J R (X n) := hX.1 _ _ _ _ _ _ _ _ _ rfl hs
theorem q_Out_clearMarks_15 {nL : Nat} {M : fx_M} {ev : fx_Env} {ret : Option FieldType} {P : fx_P} {stops : List (Nat × Nat)} {K : fx_K} {n : Nat} {L : List (Option Value)} {st : List Value} {I : fx_MI} {J : fx_MJ} {R : fx_MR} {X : Nat → fx_K} (hX : fx_isX nL M ev ret P p_Out_clearMarks stops K X) (hs : fx_stop stops 15 = none) : X (n + 1) 15 L st I J R = fx_S nL M ev ret P (.getfield 238) 0 15 L st I J R (X n) := hX.1 _ _ _ _ _ _ _ _ _ rfl hs
theorem q_Out_clearMarks_18 {nL : Nat} {M : fx_M} {ev : fx_Env} {ret : Option FieldType} {P : fx_P} {stops : List (Nat × Nat)} {K : fx_K} {n : Nat} {L : List (Option Value)} {st : List Value} {I : fx_MI} {J : fx_MJ} {R : fx_MR} {X : Nat → fx_K} (hX : fx_isX nL M ev ret P p_Out_clearMarks stops K X) (hs : fx_stop stops 18 = none) : X (n + 1) 18 L st I J R = fx_S nL M ev ret P (.aload_n 0) 0 18 L st I J R (X n) := hX.1 _ _ _ _ _ _ _ _ _ rfl hs
theorem q_Out_clearMarks_19 {nL : Nat} {M : fx_M} {ev : fx_Env} {ret : Option FieldType} {P : fx_P} {stops : List (Nat × Nat)} {K : fx_K} {n : Nat} {L : List (Option Value)} {st : List Value} {I : fx_MI} {J : fx_MJ} {R : fx_MR} {X : Nat → fx_K} (hX : fx_isX nL M ev ret P p_Out_clearMarks stops K X) (hs : fx_stop stops 19 = none) : X (n + 1) 19 L st I J R = fx_S nL M ev ret P (.getfield 19) 0 19 L st I J R (X n) := hX.1 _ _ _ _ _ _ _ _ _ rfl hs
theorem q_Out_clearMarks_22 {nL : Nat} {M : fx_M} {ev : fx_Env} {ret : Option FieldType} {P : fx_P} {stops : List (Nat × Nat)} {K : fx_K} {n : Nat} {L : List (Option Value)} {st : List Value} {I : fx_MI} {J : fx_MJ} {R : fx_MR} {X : Nat → fx_K} (hX : fx_isX nL M ev ret P p_Out_clearMarks stops K X) (hs : fx_stop stops 22 = none) : X (n + 1) 22 L st I J R = fx_S nL M ev ret P (.getfield 132) 0 22 L st I J R (X n) := hX.1 _ _ _ _ _ _ _ _ _ rfl hs
theorem q_Out_clearMarks_25 {nL : Nat} {M : fx_M} {ev : fx_Env} {ret : Option FieldType} {P : fx_P} {stops : List (Nat × Nat)} {K : fx_K} {n : Nat} {L : List (Option Value)} {st : List Value} {I : fx_MI} {J : fx_MJ} {R : fx_MR} {X : Nat → fx_K} (hX : fx_isX nL M ev ret P p_Out_clearMarks stops K X) (hs : fx_stop stops 25 = none) : X (n + 1) 25 L st I J R = fx_S nL M ev ret P (.invokevirtual 239) 0 25 L st I J R (X n) := hX.1 _ _ _ _ _ _ _ _ _ rfl hs
theorem q_Out_clearMarks_28 {nL : Nat} {M : fx_M} {ev : fx_Env} {ret : Option FieldType} {P : fx_P} {stops : List (Nat × Nat)} {K : fx_K} {n : Nat} {L : List (Option Value)} {st : List Value} {I : fx_MI} {J : fx_MJ} {R : fx_MR} {X : Nat → fx_K} (hX : fx_isX nL M ev ret P p_Out_clearMarks stops K X) (hs : fx_stop stops 28 = none) : X (n + 1) 28 L st I J R = fx_S nL M ev ret P (.aload_n 0) 0 28 L st I J R (X n) := hX.1 _ _ _ _ _ _ _ _ _ rfl hs
theorem q_Out_clearMarks_29 {nL : Nat} {M : fx_M} {ev : fx_Env} {ret : Option FieldType} {P : fx_P} {stops : List (Nat × Nat)} {K : fx_K} {n : Nat} {L : List (Option Value)} {st : List Value} {I : fx_MI} {J : fx_MJ} {R : fx_MR} {X : Nat → fx_K} (hX : fx_isX nL M ev ret P p_Out_clearMarks stops K X) (hs : fx_stop stops 29 = none) : X (n + 1) 29 L st I J R = fx_S nL M ev ret P (.getfield 19) 0 29 L st I J R (X n) := hX.1 _ _ _ _ _ _ _ _ _ rfl hs
theorem q_Out_clearMarks_32 {nL : Nat} {M : fx_M} {ev : fx_Env} {ret : Option FieldType} {P : fx_P} {stops : List (Nat × Nat)} {K : fx_K} {n : Nat} {L : List (Option Value)} {st : List Value} {I : fx_MI} {J : fx_MJ} {R : fx_MR} {X : Nat → fx_K} (hX : fx_isX nL M ev ret P p_Out_clearMarks stops K X) (hs : fx_stop stops 32 = none) : X (n + 1) 32 L st I J R = fx_S nL M ev ret P (.getfield 132) 0 32 L st I J R (X n) := hX.1 _ _ _ _ _ _ _ _ _ rfl hs
theorem q_Out_clearMarks_35 {nL : Nat} {M : fx_M} {ev : fx_Env} {ret : Option FieldType} {P : fx_P} {stops : List (Nat × Nat)} {K : fx_K} {n : Nat} {L : List (Option Value)} {st : List Value} {I : fx_MI} {J : fx_MJ} {R : fx_MR} {X : Nat → fx_K} (hX : fx_isX nL M ev ret P p_Out_clearMarks stops K X) (hs : fx_stop stops 35 = none) : X (n + 1) 35 L st I J R = fx_S nL M ev ret P (.aload_n 0) 0 35 L st I J R (X n) := hX.1 _ _ _ _ _ _ _ _ _ rfl hs
theorem q_Out_clearMarks_36 {nL : Nat} {M : fx_M} {ev : fx_Env} {ret : Option FieldType} {P : fx_P} {stops : List (Nat × Nat)} {K : fx_K} {n : Nat} {L : List (Option Value)} {st : List Value} {I : fx_MI} {J : fx_MJ} {R : fx_MR} {X : Nat → fx_K} (hX : fx_isX nL M ev ret P p_Out_clearMarks stops K X) (hs : fx_stop stops 36 = none) : X (n + 1) 36 L st I J R = fx_S nL M ev ret P (.getfield 12) 0 36 L st I J R (X n) := hX.1 _ _ _ _ _ _ _ _ _ rfl hs
theorem q_Out_clearMarks_39 {nL : Nat} {M : fx_M} {ev : fx_Env} {ret : Option FieldType} {P : fx_P} {stops : List (Nat × Nat)} {K : fx_K} {n : Nat} {L : List (Option Value)} {st : List Value} {I : fx_MI} {J : fx_MJ} {R : fx_MR} {X : Nat → fx_K} (hX : fx_isX nL M ev ret P p_Out_clearMarks stops K X) (hs : fx_stop stops 39 = none) : X (n + 1) 39 L st I J R = fx_S nL M ev ret P (.getfield 242) 0 39 L st I J R (X n) := hX.1 _ _ _ _ _ _ _ _ _ rfl hs
theorem q_Out_clearMarks_42 {nL : Nat} {M : fx_M} {ev : fx_Env} {ret : Option FieldType} {P : fx_P} {stops : List (Nat × Nat)} {K : fx_K} {n : Nat} {L : List (Option Value)} {st : List Value} {I : fx_MI} {J : fx_MJ} {R : fx_MR} {X : Nat → fx_K} (hX : fx_isX nL M ev ret P p_Out_clearMarks stops K X) (hs : fx_stop stops 42 = none) : X (n + 1) 42 L st I J R = fx_S nL M ev ret P (.aload_n 0) 0 42 L st I J R (X n) := hX.1 _ _ _ _ _ _ _ _ _ rfl hs
theorem q_Out_clearMarks_43 {nL : Nat} {M : fx_M} {ev : fx_Env} {ret : Option FieldType} {P : fx_P} {stops : List (Nat × Nat)} {K : fx_K} {n : Nat} {L : List (Option Value)} {st : List Value} {I : fx_MI} {J : fx_MJ} {R : fx_MR} {X : Nat → fx_K} (hX : fx_isX nL M ev ret P p_Out_clearMarks stops K X) (hs : fx_stop stops 43 = none) : X (n + 1) 43 L st I J R = fx_S nL M ev ret P (.getfield 12) 0 43 L st I J R (X n) := hX.1 _ _ _ _ _ _ _ _ _ rfl hs
theorem q_Out_clearMarks_46 {nL : Nat} {M : fx_M} {ev : fx_Env} {ret : Option FieldType} {P : fx_P} {stops : List (Nat × Nat)} {K : fx_K} {n : Nat} {L : List (Option Value)} {st : List Value} {I : fx_MI} {J : fx_MJ} {R : fx_MR} {X : Nat → fx_K} (hX : fx_isX nL M ev ret P p_Out_clearMarks stops K X) (hs : fx_stop stops 46 = none) : X (n + 1) 46 L st I J R = fx_S nL M ev ret P (.invokevirtual 232) 0 46 L st I J R (X n) := hX.1 _ _ _ _ _ _ _ _ _ rfl hs
theorem q_Out_clearMarks_49 {nL : Nat} {M : fx_M} {ev : fx_Env} {ret : Option FieldType} {P : fx_P} {stops : List (Nat × Nat)} {K : fx_K} {n : Nat} {L : List (Option Value)} {st : List Value} {I : fx_MI} {J : fx_MJ} {R : fx_MR} {X : Nat → fx_K} (hX : fx_isX nL M ev ret P p_Out_clearMarks stops K X) (hs : fx_stop stops 49 = none) : X (n + 1) 49 L st I J R = fx_S nL M ev ret P (.invokevirtual 202) 0 49 L st I J R (X n) := hX.1 _ _ _ _ _ _ _ _ _ rfl hs
theorem q_Out_clearMarks_52 {nL : Nat} {M : fx_M} {ev : fx_Env} {ret : Option FieldType} {P : fx_P} {stops : List (Nat × Nat)} {K : fx_K} {n : Nat} {L : List (Option Value)} {st : List Value} {I : fx_MI} {J : fx_MJ} {R : fx_MR} {X : Nat → fx_K} (hX : fx_isX nL M ev ret P p_Out_clearMarks stops K X) (hs : fx_stop stops 52 = none) : X (n + 1) 52 L st I J R = fx_S nL M ev ret P (.aload_n 0) 0 52 L st I J R (X n) := hX.1 _ _ _ _ _ _ _ _ _ rfl hs
theorem q_Out_clearMarks_53 {nL : Nat} {M : fx_M} {ev : fx_Env} {ret : Option FieldType} {P : fx_P} {stops : List (Nat × Nat)} {K : fx_K} {n : Nat} {L : List (Option Value)} {st : List Value} {I : fx_MI} {J : fx_MJ} {R : fx_MR} {X : Nat → fx_K} (hX : fx_isX nL M ev ret P p_Out_clearMarks stops K X) (hs : fx_stop stops 53 = none) : X (n + 1) 53 L st I J R = fx_S nL M ev ret P (.getfield 19) 0 53 L st I J R (X n) := hX.1 _ _ _ _ _ _ _ _ _ rfl hs
theorem q_Out_clearMarks_56 {nL : Nat} {M : fx_M} {ev : fx_Env} {ret : Option FieldType} {P : fx_P} {stops : List (Nat × Nat)} {K : fx_K} {n : Nat} {L : List (Option Value)} {st : List Value} {I : fx_MI} {J : fx_MJ} {R : fx_MR} {X : Nat → fx_K} (hX : fx_isX nL M ev ret P p_Out_clearMarks stops K X) (hs : fx_stop stops 56 = none) : X (n + 1) 56 L st I J R = fx_S nL M ev ret P (.getfield 132) 0 56 L st I J R (X n) := hX.1 _ _ _ _ _ _ _ _ _ rfl hs
theorem q_Out_clearMarks_59 {nL : Nat} {M : fx_M} {ev : fx_Env} {ret : Option FieldType} {P : fx_P} {stops : List (Nat × Nat)} {K : fx_K} {n : Nat} {L : List (Option Value)} {st : List Value} {I : fx_MI} {J : fx_MJ} {R : fx_MR} {X : Nat → fx_K} (hX : fx_isX nL M ev ret P p_Out_clearMarks stops K X) (hs : fx_stop stops 59 = none) : X (n + 1) 59 L st I J R = fx_S nL M ev ret P (.aload_n 0) 0 59 L st I J R (X n) := hX.1 _ _ _ _ _ _ _ _ _ rfl hs
theorem q_Out_clearMarks_60 {nL : Nat} {M : fx_M} {ev : fx_Env} {ret : Option FieldType} {P : fx_P} {stops : List (Nat × Nat)} {K : fx_K} {n : Nat} {L : List (Option Value)} {st : List Value} {I : fx_MI} {J : fx_MJ} {R : fx_MR} {X : Nat → fx_K} (hX : fx_isX nL M ev ret P p_Out_clearMarks stops K X) (hs : fx_stop stops 60 = none) : X (n + 1) 60 L st I J R = fx_S nL M ev ret P (.getfield 61) 0 60 L st I J R (X n) := hX.1 _ _ _ _ _ _ _ _ _ rfl hs
theorem q_Out_clearMarks_63 {nL : Nat} {M : fx_M} {ev : fx_Env} {ret : Option FieldType} {P : fx_P} {stops : List (Nat × Nat)} {K : fx_K} {n : Nat} {L : List (Option Value)} {st : List Value} {I : fx_MI} {J : fx_MJ} {R : fx_MR} {X : Nat → fx_K} (hX : fx_isX nL M ev ret P p_Out_clearMarks stops K X) (hs : fx_stop stops 63 = none) : X (n + 1) 63 L st I J R = fx_S nL M ev ret P (.getfield 238) 0 63 L st I J R (X n) := hX.1 _ _ _ _ _ _ _ _ _ rfl hs
theorem q_Out_clearMarks_66 {nL : Nat} {M : fx_M} {ev : fx_Env} {ret : Option FieldType} {P : fx_P} {stops : List (Nat × Nat)} {K : fx_K} {n : Nat} {L : List (Option Value)} {st : List Value} {I : fx_MI} {J : fx_MJ} {R : fx_MR} {X : Nat → fx_K} (hX : fx_isX nL M ev ret P p_Out_clearMarks stops K X) (hs : fx_stop stops 66 = none) : X (n + 1) 66 L st I J R = fx_S nL M ev ret P (.invokevirtual 246) 0 66 L st I J R (X n) := hX.1 _ _ _ _ _ _ _ _ _ rfl hs
theorem q_Out_clearMarks_69 {nL : Nat} {M : fx_M} {ev : fx_Env} {ret : Option FieldType} {P : fx_P} {stops : List (Nat × Nat)} {K : fx_K} {n : Nat} {L : List (Option Value)} {st : List Value} {I : fx_MI} {J : fx_MJ} {R : fx_MR} {X : Nat → fx_K} (hX : fx_isX nL M ev ret P p_Out_clearMarks stops K X) (hs : fx_stop stops 69 = none) : X (n + 1) 69 L st I J R = fx_S nL M ev ret P (.invokestatic 197) 0 69 L st I J R (X n) := hX.1 _ _ _ _ _ _ _ _ _ rfl hs
theorem q_Out_clearMarks_72 {nL : Nat} {M : fx_M} {ev : fx_Env} {ret : Option FieldType} {P : fx_P} {stops : List (Nat × Nat)} {K : fx_K} {n : Nat} {L : List (Option Value)} {st : List Value} {I : fx_MI} {J : fx_MJ} {R : fx_MR} {X : Nat → fx_K} (hX : fx_isX nL M ev ret P p_Out_clearMarks stops K X) (hs : fx_stop stops 72 = none) : X (n + 1) 72 L st I J R = fx_S nL M ev ret P (.ireturn) 0 72 L st I J R (X n) := hX.1 _ _ _ _ _ _ _ _ _ rfl hs
def pre_Out_clearMarks (n : Nat) : fx_Pre := fun st I J R => (∃ b, R = R0C b) ∧ (match st with
  | [.ref 0] => relE I J
  | _ => False)
theorem pi_Out_clearMarks {n : Nat} {st : List Value} {I : fx_MI} {J : fx_MJ} {R : fx_MR} (h : pre_Out_clearMarks n st I J R) : (∃ b, R = R0C b) ∧ st = [.ref 0] ∧ (relE I J) := by
  unfold pre_Out_clearMarks at h
  obtain ⟨h0, h⟩ := h
  split at h
  · exact ⟨h0, rfl, h⟩
  · cases h
def post_Out_clearMarks (n : Nat) : fx_Post := fun st I J R r I' J' R' => simP (post_M_clearMarks [.ref 0]) I J r I' J' R'
theorem pz_Out_clearMarks {st : List Value} {I : fx_MI} {J : fx_MJ} {R : fx_MR} (n : Nat) (h : pre_Out_clearMarks n st I J R) : ∃ q r, st = .ref q :: r ∧ (MC n).2.2.1 q = some (.inl 0) ∧ r.length = 0 := by
  obtain ⟨_, rfl, _⟩ := pi_Out_clearMarks h
  exact ⟨_, _, rfl, rfl, rfl⟩
def v_Out_clearMarks (n : Nat) : fx_Env := [(.getfield 26, fx_tget (MC n) 0 2), (.getfield 19, fx_tget (MC n) 0 1), (.invokevirtual 111, fx_tcall 2 (pre_History_record n) (post_History_record n)), (.getfield 61, fx_tget (MC n) 0 6), (.getfield 238, fx_tget (MC n) 8 3), (.getfield 132, fx_tget (MC n) 2 1), (.invokevirtual 239, fx_tcall 2 (pre_Layer_copyFrom n) (post_Layer_copyFrom n)), (.getfield 12, fx_tget (MC n) 0 0), (.getfield 242, fx_tget (MC n) 1 3), (.invokevirtual 232, fx_tcall 1 (pre_Grid_fullMark n) (post_Grid_fullMark n)), (.invokevirtual 202, fx_tcall 3 (pre_Layer_put n) (post_Layer_put n)), (.invokevirtual 246, fx_tcall 2 (pre_Layer_difference n) (post_Layer_difference n)), (.invokestatic 197, fx_tcall 1 (pre_J13_bitCount_95d88 n) (post_J13_bitCount_95d88 n))]
abbrev rm_Out_clearMarks : Room := { frames := 4, cells := 0, slots := 0, locals := 123 }
abbrev ws_Out_clearMarks : List Cond := Cond.code y_Out_clearMarks b_Out_clearMarks 1 (some .int) :: w_C
theorem e_Out_c246 {l : Launch} {c0 : Cond} {rm : Room} {n nL : Nat} {cc : ByteArray} (hR : rm_Layer_difference.frames + 1 ≤ rm.frames ∧ 8 + (5 + 11) + rm_Layer_difference.locals ≤ rm.locals) : fx_E1 l R_Out (c0 :: w_C) rm (MC n) nL cc (.invokevirtual 246) (fx_tcall 2 (pre_Layer_difference n) (post_Layer_difference n)) := fx_callV (ci := 4) (C := R_Layer) rfl (c_Layer_difference l n) (w_C_G (w_C_h11 31 rfl) (w_C_h11 32 rfl) (w_C_h11 33 rfl) (w_C_h3 17 rfl) (w_C_h7 8 rfl)) rfl ⟨rfl, rfl⟩ (by decide) hR (fun st I J R h => pz_Layer_difference n h) (MC_ok n)
theorem vk_Out_clearMarks {l : Launch} {n : Nat} : fx_EV l R_Out ws_Out_clearMarks rm_Out_clearMarks (MC n) 1 b_Out_clearMarks (v_Out_clearMarks n) := (fx_EV_cons e_Out_g26 (fx_EV_cons e_Out_g19 (fx_EV_cons (e_Out_c111 (by decide)) (fx_EV_cons e_Out_g61 (fx_EV_cons e_Out_g238 (fx_EV_cons e_Out_g132 (fx_EV_cons (e_Out_c239 (by decide)) (fx_EV_cons e_Out_g12 (fx_EV_cons e_Out_g242 (fx_EV_cons (e_Out_c232 (by decide)) (fx_EV_cons (e_Out_c202 (by decide)) (fx_EV_cons (e_Out_c246 (by decide)) (fx_EV_cons (e_Out_c197 (by decide)) fx_EV_nil)))))))))))))
theorem r_Out_clearMarks (n : Nat) (st : List Value) (I : fx_MI) (J : fx_MJ) (R : fx_MR) (h : pre_Out_clearMarks n st I J R) : fx_sz st ≤ 1 ∧ fx_R 1 (MC n) (v_Out_clearMarks n) (some .int) (post_Out_clearMarks n st I J R) p_Out_clearMarks 0 (fx_en st) [] I J R := by
  obtain ⟨⟨b, rfl⟩, rfl, hp⟩ := pi_Out_clearMarks h
  clear h
  refine ⟨Nat.le_of_ble_eq_true rfl, ?_⟩
  obtain ⟨Ir0, hr0⟩ := hp
  have hh := REL_his hr0
  obtain ⟨hw, hh2, hc, e0, e1, e2⟩ := dimC_of hr0.1.1.1
  have hwh := wh_le hw.2 hh2.2
  have hle4 : 2 ^ (cC I + 1) ≤ 2 ^ 4 := Nat.pow_le_pow_right (by omega) (by omega)
  have hge1 : 1 ≤ 2 ^ (cC I + 1) := Nat.one_le_two_pow
  have efull := full1 (cC I) (by omega)
  refine fx_run0 120 fun X hX => ?_
  simp only [q_Out_clearMarks_0 hX rfl, q_Out_clearMarks_1 hX rfl, q_Out_clearMarks_4 hX rfl, q_Out_clearMarks_5 hX rfl, q_Out_clearMarks_8 hX rfl, q_Out_clearMarks_11 hX rfl, q_Out_clearMarks_12 hX rfl, q_Out_clearMarks_15 hX rfl, q_Out_clearMarks_18 hX rfl, q_Out_clearMarks_19 hX rfl, q_Out_clearMarks_22 hX rfl, q_Out_clearMarks_25 hX rfl, q_Out_clearMarks_28 hX rfl, q_Out_clearMarks_29 hX rfl, q_Out_clearMarks_32 hX rfl, q_Out_clearMarks_35 hX rfl, q_Out_clearMarks_36 hX rfl, q_Out_clearMarks_39 hX rfl, q_Out_clearMarks_42 hX rfl, q_Out_clearMarks_43 hX rfl, q_Out_clearMarks_46 hX rfl, q_Out_clearMarks_49 hX rfl, q_Out_clearMarks_52 hX rfl, q_Out_clearMarks_53 hX rfl, q_Out_clearMarks_56 hX rfl, q_Out_clearMarks_59 hX rfl, q_Out_clearMarks_60 hX rfl, q_Out_clearMarks_63 hX rfl, q_Out_clearMarks_66 hX rfl, q_Out_clearMarks_69 hX rfl, q_Out_clearMarks_72 hX rfl, fs_aload_n0, fs_aload_n1, fs_aload_n2, fs_aload_n3, fs_getfield, fs_invokestatic, fs_invokevirtual, fs_ireturn, v_Out_clearMarks, pre_History_record, post_History_record, pre_Layer_copyFrom, post_Layer_copyFrom, pre_Grid_fullMark, post_Grid_fullMark, pre_Layer_put, post_Layer_put, pre_Layer_difference, post_Layer_difference, pre_J13_bitCount_95d88, post_J13_bitCount_95d88, kd_C_0_2, pl_C_0, R0C_0_2, pl_C_12, kd_C_0_1, R0C_0_1, pl_C_2, kd_C_0_6, R0C_0_6, pl_C_112, kd_C_8_3, R0C_112_3, pl_C_113, kd_C_2_1, R0C_2_1, pl_C_8, kd_C_0_0, R0C_0_0, pl_C_1, kd_C_1_3, fx_oi_s, fx_ol_s, fx_or_s, fx_do_s, fx_lg_0, fx_lg_s, fx_ls_0, fx_ls_s, fx_ls_n0, fx_ls_ns, fx_en, fx_sz, Value.category, fx_nl, fx_lk, fx_tget, fx_tput, fx_tcall, fx_tldc, fx_fv, va_rf, fx_cat, fx_in, fx_cnd, fx_len, fx_narI, fx_narZ0, fx_narZ1, fx_narZb, zb_e, zb_ne, Option.some.injEq, Value.int.injEq, Value.long.injEq, Value.ref.injEq, List.cons.injEq, Nat.reduceAdd, Nat.reduceLeDiff, Nat.le_refl, List.take, List.drop, List.reverse_cons, List.reverse_nil, List.nil_append, List.cons_append, List.append_nil, List.map_cons, List.map_nil, List.sum_cons, List.sum_nil, List.length_cons, List.length_nil, Option.toList, fx_all4, forall_const, true_and, and_true, not_true_eq_false, not_false_eq_true, false_implies, true_implies, ne_eq, reduceCtorEq, Nat.reduceEqDiff, ite_true, ite_false, reduceIte, Instr.getfield.injEq, Instr.putfield.injEq, Instr.invokevirtual.injEq, Instr.invokestatic.injEq, Instr.ldc2_w.injEq, fx_tcopy, Instr.ldc.injEq, Instr.ldc_w.injEq, exists_eq_left, exists_prop, R0C_ex]
  have r2 : recI I 2 1 2 = nI (cC I) := (recI_ne (by omega) hh).trans e2
  simp (disch := omega) only [lit, nI_add, nI_mul', nI_sub', nI_clamp, nI_lt', nI_le', nI_eq', nI_in', iinc1, zb_n0, nI_div', nI_rem2, true_and, and_true, Nat.reduceEqDiff, Nat.reduceLeDiff, Nat.one_ne_zero, Nat.zero_ne_one, not_false_eq_true, not_true_eq_false, false_implies, true_implies, forall_const, Nat.zero_add, Nat.add_zero, nv_nI, up_eq, up_ne, fill_ne, nI_clamp, nI_add, r2, efull]
  have eJ : ∀ q d, (q < 12 ∨ 94 ≤ q) → recJ I J 2 q d = J q d := fun q d hq => recJ_ne hq hh
  generalize hJ1 : fillL (recJ I J 2) 114 0 4 (fun c => recJ I J 2 9 c) = J1
  have j1 : J1 1 3 = J 1 3 := by rw [← hJ1, fillL_row (by omega), eJ 1 3 (by omega)]
  have j9 : ∀ d, J1 9 d = J 9 d := fun d => by rw [← hJ1, fillL_row (by omega), eJ 9 d (by omega)]
  have j114 : ∀ d, d < 4 → J1 114 d = J 9 d := fun d hd => by rw [← hJ1, fillL_in (Nat.zero_le _) (by omega), Nat.sub_zero, eJ 9 d (by omega)]
  rw [j1]
  generalize hJ2 : putF J1 9 (J 1 3) (nI (2 ^ (cC I + 1) - 1)) = J2
  have hall := hr0.1.2.1
  have hA : ∀ k, k < cW I * cH I → lb (J 1 3) (8 * (k / cW I) + k % cW I) = true := fun k hk => by
    obtain ⟨hkm, hkd⟩ := k_dm hk
    exact (hall _ (by omega)).mpr (by omega)
  have hf16 : 2 ^ (cC I + 1) - 1 < 16 := by omega
  have c8 : ∀ k, k < cW I * cH I → cu (cW I) J2 8 k = 2 ^ (cC I + 1) - 1 := fun k hk => by
    rw [← hJ2, cu_putm (h := cH I) hf16 hw.2 hh2.2 hk, if_pos (hA k hk)]
  have c113 : ∀ k, cu (cW I) J2 113 k = cu (cW I) J 8 k := fun k => by
    unfold cu
    exact mskF_c fun d hd => by rw [← hJ2, putF_ne (by omega), j114 d hd]
  have ly8 : ∀ Ir, REL I J Ir → lyO (cW I) (cH I) J2 8 := fun Ir hr => by
    rw [← hJ2]
    exact ly_putm (fun d hd i hi hb => hr.2.1.2.1.1 d hd i hi (by rw [← j9 d]; exact hb)) (fun i hi hb => (hall i hi).mp hb)
  have ly113 : ∀ Ir, REL I J Ir → lyO (cW I) (cH I) J2 113 := fun Ir hr d hd i hi hb => hr.2.1.2.1.1 d hd i hi (by
    rw [← hJ2, putF_ne (by omega), j114 d hd] at hb
    exact hb)
  refine ⟨⟨rfl, hh⟩, ⟨rfl, rfl⟩, rfl, ⟨rfl, rfl⟩, ⟨b, rfl⟩, fun Ir hr Jr r2 Ir2 Jr2 Rr2 hq => ?_⟩
  obtain ⟨rfl, rfl, rfl, hI2⟩ := hq
  obtain ⟨⟨f1, f2, f3⟩, -⟩ := REL_ref hr
  rw [f1, f2, f3]
  have hmk := hr.2.1.2.1
  refine ⟨rfl, ?_, ?_⟩
  · have := dif_pop (g := fun k => cm1 (cC I) (Ir 1 (288 + k))) hw hh2.2 (ly8 Ir hr) (ly113 Ir hr) (fun k hk => by
      have hf : Ir 1 (288 + k) = nI (cu (cW I) J 8 k) := hmk.2.2 k hk
      rw [c8 k hk, c113 k, hf]
      unfold cm1
      have hx := cu_16 (w := cW I) (J := J) (o := 8) (k := k)
      by_cases h5 : cu (cW I) J 8 k = 2 ^ (cC I + 1) - 1
      · rw [if_pos (show 2 ^ (cC I + 1) - 1 = cu (cW I) J 8 k from h5.symm), if_pos (by rw [h5])]
      · rw [if_neg (show ¬ 2 ^ (cC I + 1) - 1 = cu (cW I) J 8 k from fun z => h5 z.symm), if_neg (fun z => h5 (by
          have := congrArg nv z
          rw [nv_nI (by omega), nv_nI (by omega)] at this
          exact this))])
    rw [show pop 64 (lb (difL (J2 9) (J2 114) 4)) = _ from this]
    rfl
  · rw [f3] at hI2
    have hin : ∀ k, k < 64 → Ir2 1 (288 + k) = nI (2 ^ (cC I + 1) - 1) := fun k hk => by
      rw [hI2]
      unfold markd
      exact if_pos ⟨rfl, by omega, by omega⟩
    refine REL_nowM hr (fun q j h9 hq => ?_) (ly113 Ir hr) (fun q j hq h3 => ?_) ⟨ly8 Ir hr, ?_, fun k hk => ?_⟩ (fun k hk => ?_)
    · rw [← hJ2, putF_ne h9, ← hJ1, fillL_row (by omega)]
    · rw [hI2]
      unfold markd fill
      rw [if_neg (by omega)]
    · rw [← hJ2]
      exact ck_putm (by omega) (by omega) (fun d h2 h3 i hi => by rw [j9 d]; exact hmk.2.1 d h2 h3 i hi)
    · rw [hin k (by omega), c8 k hk]
    · have hge : 2 ^ 1 ≤ 2 ^ (cC I + 1) := Nat.pow_le_pow_right (by omega) (by omega)
      rw [hin k hk, nv_nI (by omega)]
      exact ⟨⟨2 ^ (cC I + 1) - 1, by omega, rfl⟩, by omega⟩
theorem c_Out_clearMarks (l : Launch) (n : Nat) : fx_Met l y_Out_clearMarks ws_Out_clearMarks rm_Out_clearMarks (MC n) (pre_Out_clearMarks n) (post_Out_clearMarks n) := fx_met (MC_ok n) (MC_tys n) (by decide) rfl pk_Out_clearMarks vk_Out_clearMarks (fun st I J R h => r_Out_clearMarks n st I J R h)

