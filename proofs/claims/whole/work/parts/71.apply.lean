/-! the class: what has been narrowed away is taken from the marks (own work) -/
def goI (I : fx_MI) (c : Nat) : Int32 := I 102 c &&& (I 109 c ^^^ -1)
/-- cells of line l, as bits of a long -/
def lnL (h l : Nat) (g : Int32) : Int64 := LB (fun j => if l < h then j / 8 == l && bt g (j % 8) else j % 8 == l - h && bt g (j / 8))
def apJ (I : fx_MI) (J : fx_MJ) (o h l : Nat) : fx_MJ := fillL J (o + 1) 0 4 (fun c => J (o + 1) c &&& (lnL h l (goI I c) ^^^ -1))
theorem lnL_0 {h l : Nat} {g : Int32} (hg : g = 0) (x : Int64) : x &&& (lnL h l g ^^^ -1) = x := by
  subst hg
  refine l_ext fun i hi => ?_
  have e0 : ∀ j, bt 0 j = false := b_00
  rw [l_and, l_xor, l_m1 i hi]
  unfold lnL
  rw [LB_b _ hi]
  simp only [e0, Bool.and_false, ite_self]
  cases lb x i <;> rfl
theorem fillL_same {J : fx_MJ} {q n : Nat} {v : Nat → Int64} (h : v n = J q n) : fillL J q 0 (n + 1) v = fillL J q 0 n v := by
  funext q' j
  unfold fillL
  by_cases h1 : q' = q ∧ 0 ≤ j ∧ j < 0 + n
  · rw [if_pos h1, if_pos ⟨h1.1, h1.2.1, by omega⟩]
  · rw [if_neg h1]
    by_cases h2 : q' = q ∧ 0 ≤ j ∧ j < 0 + (n + 1)
    · rw [if_pos h2, show j - 0 = n by omega, h, h2.1, show j = n by omega]
    · rw [if_neg h2]
def p_Fillings_applyTo : fx_Pr := fx_pr [(0, .iconst 0, 0), (1, .istore_n 2, 0), (2, .iload_n 2, 0), (3, .iconst 4, 0), (4, .if_icmp .ge 54, 58), (7, .aload_n 0, 0), (8, .getfield 9, 0), (11, .iload_n 2, 0), (12, .iaload, 0), (13, .aload_n 0, 0), (14, .getfield 33, 0), (17, .iload_n 2, 0), (18, .iaload, 0), (19, .iconst (-1), 0), (20, .ixor, 0), (21, .iand, 0), (22, .istore_n 3, 0), (23, .iload_n 3, 0), (24, .ifCond .eq 28, 52), (27, .aload_n 1, 0), (28, .getfield 117, 0), (31, .iload_n 2, 0), (32, .dup2, 0), (33, .laload, 0), (34, .aload_n 0, 0), (35, .getfield 42, 0), (38, .iload_n 3, 0), (39, .aload_n 0, 0), (40, .getfield 122, 0), (43, .invokevirtual 125, 0), (46, .ldc2_w 131, 0), (49, .lxor, 0), (50, .land, 0), (51, .lastore, 0), (52, .iinc 2 1, 0), (55, .goto (-53), 2), (58, .return_, 0)]
theorem pk_Fillings_applyTo : fx_prOK b_Fillings_applyTo p_Fillings_applyTo := fx_pr_ok (by decide +kernel)
theorem q_Fillings_applyTo_0 {nL : Nat} {M : fx_M} {ev : fx_Env} {ret : Option FieldType} {P : fx_P} {stops : List (Nat × Nat)} {K : fx_K} {n : Nat} {L : List (Option Value)} {st : List Value} {I : fx_MI} {J : fx_MJ} {R : fx_MR} {X : Nat → fx_K} (hX : fx_isX nL M ev ret P p_Fillings_applyTo stops K X) (hs : fx_stop stops 0 = none) : X (n + 1) 0 L st I J R = fx_S nL M ev ret P (.iconst 0) 0 0 L st I J R (X n) := hX.1 _ _ _ _ _ _ _ _ _ rfl hs
theorem q_Fillings_applyTo_1 {nL : Nat} {M : fx_M} {ev : fx_Env} {ret : Option FieldType} {P : fx_P} {stops : List (Nat × Nat)} {K : fx_K} {n : Nat} {L : List (Option Value)} {st : List Value} {I : fx_MI} {J : fx_MJ} {R : fx_MR} {X : Nat → fx_K} (hX : fx_isX nL M ev ret P p_Fillings_applyTo stops K X) (hs : fx_stop stops 1 = none) : X (n + 1) 1 L st I J R = fx_S nL M ev ret P (.istore_n 2) 0 1 L st I J R (X n) := hX.1 _ _ _ _ _ _ _ _ _ rfl hs
theorem q_Fillings_applyTo_2 {nL : Nat} {M : fx_M} {ev : fx_Env} {ret : Option FieldType} {P : fx_P} {stops : List (Nat × Nat)} {K : fx_K} {n : Nat} {L : List (Option Value)} {st : List Value} {I : fx_MI} {J : fx_MJ} {R : fx_MR} {X : Nat → fx_K} (hX : fx_isX nL M ev ret P p_Fillings_applyTo stops K X) (hs : fx_stop stops 2 = none) : X (n + 1) 2 L st I J R = fx_S nL M ev ret P (.iload_n 2) 0 2 L st I J R (X n) := hX.1 _ _ _ _ _ _ _ _ _ rfl hs
theorem h_Fillings_applyTo_2 {nL : Nat} {M : fx_M} {ev : fx_Env} {ret : Option FieldType} {P : fx_P} {L : List (Option Value)} {st : List Value} {I : fx_MI} {J : fx_MJ} {R : fx_MR} {X : fx_K} : fx_go nL M ev ret P p_Fillings_applyTo X 2 L st I J R = fx_S nL M ev ret P (.iload_n 2) 0 2 L st I J R X := fx_go_at rfl
theorem q_Fillings_applyTo_3 {nL : Nat} {M : fx_M} {ev : fx_Env} {ret : Option FieldType} {P : fx_P} {stops : List (Nat × Nat)} {K : fx_K} {n : Nat} {L : List (Option Value)} {st : List Value} {I : fx_MI} {J : fx_MJ} {R : fx_MR} {X : Nat → fx_K} (hX : fx_isX nL M ev ret P p_Fillings_applyTo stops K X) (hs : fx_stop stops 3 = none) : X (n + 1) 3 L st I J R = fx_S nL M ev ret P (.iconst 4) 0 3 L st I J R (X n) := hX.1 _ _ _ _ _ _ _ _ _ rfl hs
theorem q_Fillings_applyTo_4 {nL : Nat} {M : fx_M} {ev : fx_Env} {ret : Option FieldType} {P : fx_P} {stops : List (Nat × Nat)} {K : fx_K} {n : Nat} {L : List (Option Value)} {st : List Value} {I : fx_MI} {J : fx_MJ} {R : fx_MR} {x y : Int32} {X : Nat → fx_K} (hX : fx_isX nL M ev ret P p_Fillings_applyTo stops K X) (hs : fx_stop stops 4 = none) : X (n + 1) 4 L (.int y :: .int x :: st) I J R = ((y ≤ x → X n 58 L st I J R) ∧ (¬ y ≤ x → X n 7 L st I J R)) := fx_q_icmp hX rfl hs rfl
theorem q_Fillings_applyTo_7 {nL : Nat} {M : fx_M} {ev : fx_Env} {ret : Option FieldType} {P : fx_P} {stops : List (Nat × Nat)} {K : fx_K} {n : Nat} {L : List (Option Value)} {st : List Value} {I : fx_MI} {J : fx_MJ} {R : fx_MR} {X : Nat → fx_K} (hX : fx_isX nL M ev ret P p_Fillings_applyTo stops K X) (hs : fx_stop stops 7 = none) : X (n + 1) 7 L st I J R = fx_S nL M ev ret P (.aload_n 0) 0 7 L st I J R (X n) := hX.1 _ _ _ _ _ _ _ _ _ rfl hs
theorem q_Fillings_applyTo_8 {nL : Nat} {M : fx_M} {ev : fx_Env} {ret : Option FieldType} {P : fx_P} {stops : List (Nat × Nat)} {K : fx_K} {n : Nat} {L : List (Option Value)} {st : List Value} {I : fx_MI} {J : fx_MJ} {R : fx_MR} {X : Nat → fx_K} (hX : fx_isX nL M ev ret P p_Fillings_applyTo stops K X) (hs : fx_stop stops 8 = none) : X (n + 1) 8 L st I J R = fx_S nL M ev ret P (.getfield 9) 0 8 L st I J R (X n) := hX.1 _ _ _ _ _ _ _ _ _ rfl hs
theorem q_Fillings_applyTo_11 {nL : Nat} {M : fx_M} {ev : fx_Env} {ret : Option FieldType} {P : fx_P} {stops : List (Nat × Nat)} {K : fx_K} {n : Nat} {L : List (Option Value)} {st : List Value} {I : fx_MI} {J : fx_MJ} {R : fx_MR} {X : Nat → fx_K} (hX : fx_isX nL M ev ret P p_Fillings_applyTo stops K X) (hs : fx_stop stops 11 = none) : X (n + 1) 11 L st I J R = fx_S nL M ev ret P (.iload_n 2) 0 11 L st I J R (X n) := hX.1 _ _ _ _ _ _ _ _ _ rfl hs
theorem q_Fillings_applyTo_12 {nL : Nat} {M : fx_M} {ev : fx_Env} {ret : Option FieldType} {P : fx_P} {stops : List (Nat × Nat)} {K : fx_K} {n : Nat} {L : List (Option Value)} {st : List Value} {I : fx_MI} {J : fx_MJ} {R : fx_MR} {X : Nat → fx_K} (hX : fx_isX nL M ev ret P p_Fillings_applyTo stops K X) (hs : fx_stop stops 12 = none) : X (n + 1) 12 L st I J R = fx_S nL M ev ret P (.iaload) 0 12 L st I J R (X n) := hX.1 _ _ _ _ _ _ _ _ _ rfl hs
theorem q_Fillings_applyTo_13 {nL : Nat} {M : fx_M} {ev : fx_Env} {ret : Option FieldType} {P : fx_P} {stops : List (Nat × Nat)} {K : fx_K} {n : Nat} {L : List (Option Value)} {st : List Value} {I : fx_MI} {J : fx_MJ} {R : fx_MR} {X : Nat → fx_K} (hX : fx_isX nL M ev ret P p_Fillings_applyTo stops K X) (hs : fx_stop stops 13 = none) : X (n + 1) 13 L st I J R = fx_S nL M ev ret P (.aload_n 0) 0 13 L st I J R (X n) := hX.1 _ _ _ _ _ _ _ _ _ rfl hs
theorem q_Fillings_applyTo_14 {nL : Nat} {M : fx_M} {ev : fx_Env} {ret : Option FieldType} {P : fx_P} {stops : List (Nat × Nat)} {K : fx_K} {n : Nat} {L : List (Option Value)} {st : List Value} {I : fx_MI} {J : fx_MJ} {R : fx_MR} {X : Nat → fx_K} (hX : fx_isX nL M ev ret P p_Fillings_applyTo stops K X) (hs : fx_stop stops 14 = none) : X (n + 1) 14 L st I J R = fx_S nL M ev ret P (.getfield 33) 0 14 L st I J R (X n) := hX.1 _ _ _ _ _ _ _ _ _ rfl hs
theorem q_Fillings_applyTo_17 {nL : Nat} {M : fx_M} {ev : fx_Env} {ret : Option FieldType} {P : fx_P} {stops : List (Nat × Nat)} {K : fx_K} {n : Nat} {L : List (Option Value)} {st : List Value} {I : fx_MI} {J : fx_MJ} {R : fx_MR} {X : Nat → fx_K} (hX : fx_isX nL M ev ret P p_Fillings_applyTo stops K X) (hs : fx_stop stops 17 = none) : X (n + 1) 17 L st I J R = fx_S nL M ev ret P (.iload_n 2) 0 17 L st I J R (X n) := hX.1 _ _ _ _ _ _ _ _ _ rfl hs
theorem q_Fillings_applyTo_18 {nL : Nat} {M : fx_M} {ev : fx_Env} {ret : Option FieldType} {P : fx_P} {stops : List (Nat × Nat)} {K : fx_K} {n : Nat} {L : List (Option Value)} {st : List Value} {I : fx_MI} {J : fx_MJ} {R : fx_MR} {X : Nat → fx_K} (hX : fx_isX nL M ev ret P p_Fillings_applyTo stops K X) (hs : fx_stop stops 18 = none) : X (n + 1) 18 L st I J R = fx_S nL M ev ret P (.iaload) 0 18 L st I J R (X n) := hX.1 _ _ _ _ _ _ _ _ _ rfl hs
theorem q_Fillings_applyTo_19 {nL : Nat} {M : fx_M} {ev : fx_Env} {ret : Option FieldType} {P : fx_P} {stops : List (Nat × Nat)} {K : fx_K} {n : Nat} {L : List (Option Value)} {st : List Value} {I : fx_MI} {J : fx_MJ} {R : fx_MR} {X : Nat → fx_K} (hX : fx_isX nL M ev ret P p_Fillings_applyTo stops K X) (hs : fx_stop stops 19 = none) : X (n + 1) 19 L st I J R = fx_S nL M ev ret P (.iconst (-1)) 0 19 L st I J R (X n) := hX.1 _ _ _ _ _ _ _ _ _ rfl hs
theorem q_Fillings_applyTo_20 {nL : Nat} {M : fx_M} {ev : fx_Env} {ret : Option FieldType} {P : fx_P} {stops : List (Nat × Nat)} {K : fx_K} {n : Nat} {L : List (Option Value)} {st : List Value} {I : fx_MI} {J : fx_MJ} {R : fx_MR} {X : Nat → fx_K} (hX : fx_isX nL M ev ret P p_Fillings_applyTo stops K X) (hs : fx_stop stops 20 = none) : X (n + 1) 20 L st I J R = fx_S nL M ev ret P (.ixor) 0 20 L st I J R (X n) := hX.1 _ _ _ _ _ _ _ _ _ rfl hs
theorem q_Fillings_applyTo_21 {nL : Nat} {M : fx_M} {ev : fx_Env} {ret : Option FieldType} {P : fx_P} {stops : List (Nat × Nat)} {K : fx_K} {n : Nat} {L : List (Option Value)} {st : List Value} {I : fx_MI} {J : fx_MJ} {R : fx_MR} {X : Nat → fx_K} (hX : fx_isX nL M ev ret P p_Fillings_applyTo stops K X) (hs : fx_stop stops 21 = none) : X (n + 1) 21 L st I J R = fx_S nL M ev ret P (.iand) 0 21 L st I J R (X n) := hX.1 _ _ _ _ _ _ _ _ _ rfl hs
theorem q_Fillings_applyTo_22 {nL : Nat} {M : fx_M} {ev : fx_Env} {ret : Option FieldType} {P : fx_P} {stops : List (Nat × Nat)} {K : fx_K} {n : Nat} {L : List (Option Value)} {st : List Value} {I : fx_MI} {J : fx_MJ} {R : fx_MR} {X : Nat → fx_K} (hX : fx_isX nL M ev ret P p_Fillings_applyTo stops K X) (hs : fx_stop stops 22 = none) : X (n + 1) 22 L st I J R = fx_S nL M ev ret P (.istore_n 3) 0 22 L st I J R (X n) := hX.1 _ _ _ _ _ _ _ _ _ rfl hs
theorem q_Fillings_applyTo_23 {nL : Nat} {M : fx_M} {ev : fx_Env} {ret : Option FieldType} {P : fx_P} {stops : List (Nat × Nat)} {K : fx_K} {n : Nat} {L : List (Option Value)} {st : List Value} {I : fx_MI} {J : fx_MJ} {R : fx_MR} {X : Nat → fx_K} (hX : fx_isX nL M ev ret P p_Fillings_applyTo stops K X) (hs : fx_stop stops 23 = none) : X (n + 1) 23 L st I J R = fx_S nL M ev ret P (.iload_n 3) 0 23 L st I J R (X n) := hX.1 _ _ _ _ _ _ _ _ _ rfl hs
theorem q_Fillings_applyTo_24 {nL : Nat} {M : fx_M} {ev : fx_Env} {ret : Option FieldType} {P : fx_P} {stops : List (Nat × Nat)} {K : fx_K} {n : Nat} {L : List (Option Value)} {st : List Value} {I : fx_MI} {J : fx_MJ} {R : fx_MR} {x : Int32} {X : Nat → fx_K} (hX : fx_isX nL M ev ret P p_Fillings_applyTo stops K X) (hs : fx_stop stops 24 = none) : X (n + 1) 24 L (.int x :: st) I J R = ((x = 0 → X n 52 L st I J R) ∧ (¬ x = 0 → X n 27 L st I J R)) := fx_q_if hX rfl hs rfl
theorem q_Fillings_applyTo_27 {nL : Nat} {M : fx_M} {ev : fx_Env} {ret : Option FieldType} {P : fx_P} {stops : List (Nat × Nat)} {K : fx_K} {n : Nat} {L : List (Option Value)} {st : List Value} {I : fx_MI} {J : fx_MJ} {R : fx_MR} {X : Nat → fx_K} (hX : fx_isX nL M ev ret P p_Fillings_applyTo stops K X) (hs : fx_stop stops 27 = none) : X (n + 1) 27 L st I J R = fx_S nL M ev ret P (.aload_n 1) 0 27 L st I J R (X n) := hX.1 _ _ _ _ _ _ _ _ _ rfl hs
theorem q_Fillings_applyTo_28 {nL : Nat} {M : fx_M} {ev : fx_Env} {ret : Option FieldType} {P : fx_P} {stops : List (Nat × Nat)} {K : fx_K} {n : Nat} {L : List (Option Value)} {st : List Value} {I : fx_MI} {J : fx_MJ} {R : fx_MR} {X : Nat → fx_K} (hX : fx_isX nL M ev ret P p_Fillings_applyTo stops K X) (hs : fx_stop stops 28 = none) : X (n + 1) 28 L st I J R = fx_S nL M ev ret P (.getfield 117) 0 28 L st I J R (X n) := hX.1 _ _ _ _ _ _ _ _ _ rfl hs
theorem q_Fillings_applyTo_31 {nL : Nat} {M : fx_M} {ev : fx_Env} {ret : Option FieldType} {P : fx_P} {stops : List (Nat × Nat)} {K : fx_K} {n : Nat} {L : List (Option Value)} {st : List Value} {I : fx_MI} {J : fx_MJ} {R : fx_MR} {X : Nat → fx_K} (hX : fx_isX nL M ev ret P p_Fillings_applyTo stops K X) (hs : fx_stop stops 31 = none) : X (n + 1) 31 L st I J R = fx_S nL M ev ret P (.iload_n 2) 0 31 L st I J R (X n) := hX.1 _ _ _ _ _ _ _ _ _ rfl hs
theorem q_Fillings_applyTo_32 {nL : Nat} {M : fx_M} {ev : fx_Env} {ret : Option FieldType} {P : fx_P} {stops : List (Nat × Nat)} {K : fx_K} {n : Nat} {L : List (Option Value)} {st : List Value} {I : fx_MI} {J : fx_MJ} {R : fx_MR} {X : Nat → fx_K} (hX : fx_isX nL M ev ret P p_Fillings_applyTo stops K X) (hs : fx_stop stops 32 = none) : X (n + 1) 32 L st I J R = fx_S nL M ev ret P (.dup2) 0 32 L st I J R (X n) := hX.1 _ _ _ _ _ _ _ _ _ rfl hs
theorem q_Fillings_applyTo_33 {nL : Nat} {M : fx_M} {ev : fx_Env} {ret : Option FieldType} {P : fx_P} {stops : List (Nat × Nat)} {K : fx_K} {n : Nat} {L : List (Option Value)} {st : List Value} {I : fx_MI} {J : fx_MJ} {R : fx_MR} {X : Nat → fx_K} (hX : fx_isX nL M ev ret P p_Fillings_applyTo stops K X) (hs : fx_stop stops 33 = none) : X (n + 1) 33 L st I J R = fx_S nL M ev ret P (.laload) 0 33 L st I J R (X n) := hX.1 _ _ _ _ _ _ _ _ _ rfl hs
theorem q_Fillings_applyTo_34 {nL : Nat} {M : fx_M} {ev : fx_Env} {ret : Option FieldType} {P : fx_P} {stops : List (Nat × Nat)} {K : fx_K} {n : Nat} {L : List (Option Value)} {st : List Value} {I : fx_MI} {J : fx_MJ} {R : fx_MR} {X : Nat → fx_K} (hX : fx_isX nL M ev ret P p_Fillings_applyTo stops K X) (hs : fx_stop stops 34 = none) : X (n + 1) 34 L st I J R = fx_S nL M ev ret P (.aload_n 0) 0 34 L st I J R (X n) := hX.1 _ _ _ _ _ _ _ _ _ rfl hs
theorem q_Fillings_applyTo_35 {nL : Nat} {M : fx_M} {ev : fx_Env} {ret : Option FieldType} {P : fx_P} {stops : List (Nat × Nat)} {K : fx_K} {n : Nat} {L : List (Option Value)} {st : List Value} {I : fx_MI} {J : fx_MJ} {R : fx_MR} {X : Nat → fx_K} (hX : fx_isX nL M ev ret P p_Fillings_applyTo stops K X) (hs : fx_stop stops 35 = none) : X (n + 1) 35 L st I J R = fx_S nL M ev ret P (.getfield 42) 0 35 L st I J R (X n) := hX.1 _ _ _ _ _ _ _ _ _ rfl hs
theorem q_Fillings_applyTo_38 {nL : Nat} {M : fx_M} {ev : fx_Env} {ret : Option FieldType} {P : fx_P} {stops : List (Nat × Nat)} {K : fx_K} {n : Nat} {L : List (Option Value)} {st : List Value} {I : fx_MI} {J : fx_MJ} {R : fx_MR} {X : Nat → fx_K} (hX : fx_isX nL M ev ret P p_Fillings_applyTo stops K X) (hs : fx_stop stops 38 = none) : X (n + 1) 38 L st I J R = fx_S nL M ev ret P (.iload_n 3) 0 38 L st I J R (X n) := hX.1 _ _ _ _ _ _ _ _ _ rfl hs
theorem q_Fillings_applyTo_39 {nL : Nat} {M : fx_M} {ev : fx_Env} {ret : Option FieldType} {P : fx_P} {stops : List (Nat × Nat)} {K : fx_K} {n : Nat} {L : List (Option Value)} {st : List Value} {I : fx_MI} {J : fx_MJ} {R : fx_MR} {X : Nat → fx_K} (hX : fx_isX nL M ev ret P p_Fillings_applyTo stops K X) (hs : fx_stop stops 39 = none) : X (n + 1) 39 L st I J R = fx_S nL M ev ret P (.aload_n 0) 0 39 L st I J R (X n) := hX.1 _ _ _ _ _ _ _ _ _ rfl hs
theorem q_Fillings_applyTo_40 {nL : Nat} {M : fx_M} {ev : fx_Env} {ret : Option FieldType} {P : fx_P} {stops : List (Nat × Nat)} {K : fx_K} {n : Nat} {L : List (Option Value)} {st : List Value} {I : fx_MI} {J : fx_MJ} {R : fx_MR} {X : Nat → fx_K} (hX : fx_isX nL M ev ret P p_Fillings_applyTo stops K X) (hs : fx_stop stops 40 = none) : X (n + 1) 40 L st I J R = fx_S nL M ev ret P (.getfield 122) 0 40 L st I J R (X n) := hX.1 _ _ _ _ _ _ _ _ _ rfl hs
theorem q_Fillings_applyTo_43 {nL : Nat} {M : fx_M} {ev : fx_Env} {ret : Option FieldType} {P : fx_P} {stops : List (Nat × Nat)} {K : fx_K} {n : Nat} {L : List (Option Value)} {st : List Value} {I : fx_MI} {J : fx_MJ} {R : fx_MR} {X : Nat → fx_K} (hX : fx_isX nL M ev ret P p_Fillings_applyTo stops K X) (hs : fx_stop stops 43 = none) : X (n + 1) 43 L st I J R = fx_S nL M ev ret P (.invokevirtual 125) 0 43 L st I J R (X n) := hX.1 _ _ _ _ _ _ _ _ _ rfl hs
theorem q_Fillings_applyTo_46 {nL : Nat} {M : fx_M} {ev : fx_Env} {ret : Option FieldType} {P : fx_P} {stops : List (Nat × Nat)} {K : fx_K} {n : Nat} {L : List (Option Value)} {st : List Value} {I : fx_MI} {J : fx_MJ} {R : fx_MR} {X : Nat → fx_K} (hX : fx_isX nL M ev ret P p_Fillings_applyTo stops K X) (hs : fx_stop stops 46 = none) : X (n + 1) 46 L st I J R = fx_S nL M ev ret P (.ldc2_w 131) 0 46 L st I J R (X n) := hX.1 _ _ _ _ _ _ _ _ _ rfl hs
theorem q_Fillings_applyTo_49 {nL : Nat} {M : fx_M} {ev : fx_Env} {ret : Option FieldType} {P : fx_P} {stops : List (Nat × Nat)} {K : fx_K} {n : Nat} {L : List (Option Value)} {st : List Value} {I : fx_MI} {J : fx_MJ} {R : fx_MR} {X : Nat → fx_K} (hX : fx_isX nL M ev ret P p_Fillings_applyTo stops K X) (hs : fx_stop stops 49 = none) : X (n + 1) 49 L st I J R = fx_S nL M ev ret P (.lxor) 0 49 L st I J R (X n) := hX.1 _ _ _ _ _ _ _ _ _ rfl hs
theorem q_Fillings_applyTo_50 {nL : Nat} {M : fx_M} {ev : fx_Env} {ret : Option FieldType} {P : fx_P} {stops : List (Nat × Nat)} {K : fx_K} {n : Nat} {L : List (Option Value)} {st : List Value} {I : fx_MI} {J : fx_MJ} {R : fx_MR} {X : Nat → fx_K} (hX : fx_isX nL M ev ret P p_Fillings_applyTo stops K X) (hs : fx_stop stops 50 = none) : X (n + 1) 50 L st I J R = fx_S nL M ev ret P (.land) 0 50 L st I J R (X n) := hX.1 _ _ _ _ _ _ _ _ _ rfl hs
theorem q_Fillings_applyTo_51 {nL : Nat} {M : fx_M} {ev : fx_Env} {ret : Option FieldType} {P : fx_P} {stops : List (Nat × Nat)} {K : fx_K} {n : Nat} {L : List (Option Value)} {st : List Value} {I : fx_MI} {J : fx_MJ} {R : fx_MR} {X : Nat → fx_K} (hX : fx_isX nL M ev ret P p_Fillings_applyTo stops K X) (hs : fx_stop stops 51 = none) : X (n + 1) 51 L st I J R = fx_S nL M ev ret P (.lastore) 0 51 L st I J R (X n) := hX.1 _ _ _ _ _ _ _ _ _ rfl hs
theorem q_Fillings_applyTo_52 {nL : Nat} {M : fx_M} {ev : fx_Env} {ret : Option FieldType} {P : fx_P} {stops : List (Nat × Nat)} {K : fx_K} {n : Nat} {L : List (Option Value)} {st : List Value} {I : fx_MI} {J : fx_MJ} {R : fx_MR} {X : Nat → fx_K} (hX : fx_isX nL M ev ret P p_Fillings_applyTo stops K X) (hs : fx_stop stops 52 = none) : X (n + 1) 52 L st I J R = fx_S nL M ev ret P (.iinc 2 1) 0 52 L st I J R (X n) := hX.1 _ _ _ _ _ _ _ _ _ rfl hs
theorem q_Fillings_applyTo_55 {nL : Nat} {M : fx_M} {ev : fx_Env} {ret : Option FieldType} {P : fx_P} {stops : List (Nat × Nat)} {K : fx_K} {n : Nat} {L : List (Option Value)} {st : List Value} {I : fx_MI} {J : fx_MJ} {R : fx_MR} {X : Nat → fx_K} (hX : fx_isX nL M ev ret P p_Fillings_applyTo stops K X) (hs : fx_stop stops 55 = none) : X (n + 1) 55 L st I J R = X n 2 L st I J R := fx_q_goto hX rfl hs rfl
theorem q_Fillings_applyTo_58 {nL : Nat} {M : fx_M} {ev : fx_Env} {ret : Option FieldType} {P : fx_P} {stops : List (Nat × Nat)} {K : fx_K} {n : Nat} {L : List (Option Value)} {st : List Value} {I : fx_MI} {J : fx_MJ} {R : fx_MR} {X : Nat → fx_K} (hX : fx_isX nL M ev ret P p_Fillings_applyTo stops K X) (hs : fx_stop stops 58 = none) : X (n + 1) 58 L st I J R = fx_S nL M ev ret P (.return_) 0 58 L st I J R (X n) := hX.1 _ _ _ _ _ _ _ _ _ rfl hs
def pre_Fillings_applyTo (n : Nat) : fx_Pre := fun st I J R => (∃ b, R = R0C b) ∧ (match st with
  | [.ref 101, .ref o] => isK 4 o ∧ ∃ h l, h ≤ 8 ∧ I 1 1 = nI h ∧ I 101 2 = nI l ∧ l < h + 8 ∧ ∀ c, c < 4 → ∃ m, m < 256 ∧ goI I c = nI m
  | _ => False)
theorem pi_Fillings_applyTo {n : Nat} {st : List Value} {I : fx_MI} {J : fx_MJ} {R : fx_MR} (h : pre_Fillings_applyTo n st I J R) : (∃ b, R = R0C b) ∧ ∃ o, st = [.ref 101, .ref o] ∧ (isK 4 o ∧ ∃ h l, h ≤ 8 ∧ I 1 1 = nI h ∧ I 101 2 = nI l ∧ l < h + 8 ∧ ∀ c, c < 4 → ∃ m, m < 256 ∧ goI I c = nI m) := by
  unfold pre_Fillings_applyTo at h
  obtain ⟨h0, h⟩ := h
  split at h
  · exact ⟨h0, _, rfl, h⟩
  · cases h
def post_Fillings_applyTo (n : Nat) : fx_Post := fun st I J R r I' J' R' => match st with
  | [_, .ref o] => r = none ∧ I' = I ∧ J' = apJ I J o (nv (I 1 1)) (nv (I 101 2)) ∧ R' = R
  | _ => True
theorem pz_Fillings_applyTo {st : List Value} {I : fx_MI} {J : fx_MJ} {R : fx_MR} (n : Nat) (h : pre_Fillings_applyTo n st I J R) : ∃ q r, st = .ref q :: r ∧ (MC n).2.2.1 q = some (.inl 7) ∧ r.length = 1 := by
  obtain ⟨_, _, rfl, _⟩ := pi_Fillings_applyTo h
  exact ⟨_, _, rfl, rfl, rfl⟩
def v_Fillings_applyTo (n : Nat) : fx_Env := [(.getfield 9, fx_tget (MC n) 7 5), (.getfield 33, fx_tget (MC n) 7 12), (.getfield 117, fx_tget (MC n) 4 0), (.getfield 42, fx_tget (MC n) 7 0), (.getfield 122, fx_tget (MC n) 7 2), (.invokevirtual 125, fx_tcall 3 (pre_Grid_cellsAt n) (post_Grid_cellsAt n)), (.ldc2_w 131, fx_tldc (.long (-1)))]
abbrev rm_Fillings_applyTo : Room := { frames := 1, cells := 0, slots := 0, locals := 24 }
abbrev ws_Fillings_applyTo : List Cond := Cond.code y_Fillings_applyTo b_Fillings_applyTo 4 none :: w_C
theorem e_Fillings_c125 {l : Launch} {c0 : Cond} {rm : Room} {n nL : Nat} {cc : ByteArray} (hR : rm_Grid_cellsAt.frames + 1 ≤ rm.frames ∧ 8 + (5 + 11) + rm_Grid_cellsAt.locals ≤ rm.locals) : fx_E1 l R_Fillings (c0 :: w_C) rm (MC n) nL cc (.invokevirtual 125) (fx_tcall 3 (pre_Grid_cellsAt n) (post_Grid_cellsAt n)) := fx_callV (ci := 1) (C := R_Grid) rfl (c_Grid_cellsAt l n) (w_C_G (w_C_h3 31 rfl) (w_C_h3 32 rfl) (w_C_h3 33 rfl) (w_C_h0 37 rfl) (w_C_h3 27 rfl)) rfl ⟨rfl, rfl⟩ (by decide) hR (fun st I J R h => pz_Grid_cellsAt n h) (MC_ok n)
theorem vk_Fillings_applyTo {l : Launch} {n : Nat} : fx_EV l R_Fillings ws_Fillings_applyTo rm_Fillings_applyTo (MC n) 4 b_Fillings_applyTo (v_Fillings_applyTo n) := (fx_EV_cons e_Fillings_g9 (fx_EV_cons e_Fillings_g33 (fx_EV_cons e_Fillings_g117 (fx_EV_cons e_Fillings_g42 (fx_EV_cons e_Fillings_g122 (fx_EV_cons (e_Fillings_c125 (by decide)) (fx_EV_cons e_Fillings_l131 fx_EV_nil)))))))
theorem r_Fillings_applyTo (n : Nat) (st : List Value) (I : fx_MI) (J : fx_MJ) (R : fx_MR) (h : pre_Fillings_applyTo n st I J R) : fx_sz st ≤ 4 ∧ fx_R 4 (MC n) (v_Fillings_applyTo n) none (post_Fillings_applyTo n st I J R) p_Fillings_applyTo 0 (fx_en st) [] I J R := by
  obtain ⟨⟨b, rfl⟩, o, rfl, hp⟩ := pi_Fillings_applyTo h
  clear h
  refine ⟨Nat.le_of_ble_eq_true rfl, ?_⟩
  obtain ⟨hko, h, l, hh, e1, e2, hl, hgo⟩ := hp
  have hpost : post_Fillings_applyTo n [.ref 101, .ref o] I J (R0C b) none I (apJ I J o h l) (R0C b) := by
    refine ⟨rfl, rfl, ?_, rfl⟩
    rw [e1, e2, nv_nI (by omega), nv_nI (by omega)]
  have f1 := isK_pl hko n
  have f2 := (lay_at hko).1 b
  have f3 := (lay_at hko).2 n
  refine fx_for 2 3 60 120 4 (fun k L st I' J' R' => L = [some (.ref 101), some (.ref o), some (.int (nI k))] ∧ st = [] ∧ I' = I ∧ J' = fillL J (o + 1) 0 k (fun c => J (o + 1) c &&& (lnL h l (goI I c) ^^^ -1)) ∧ R' = R0C b) ?_ ?_
  · intro X hX
    simp only [q_Fillings_applyTo_0 hX rfl, q_Fillings_applyTo_1 hX rfl, hX.2 _ 2 3 _ _ _ _ _ rfl, q_Fillings_applyTo_3 hX rfl, q_Fillings_applyTo_4 hX rfl, q_Fillings_applyTo_7 hX rfl, q_Fillings_applyTo_8 hX rfl, q_Fillings_applyTo_11 hX rfl, q_Fillings_applyTo_12 hX rfl, q_Fillings_applyTo_13 hX rfl, q_Fillings_applyTo_14 hX rfl, q_Fillings_applyTo_17 hX rfl, q_Fillings_applyTo_18 hX rfl, q_Fillings_applyTo_19 hX rfl, q_Fillings_applyTo_20 hX rfl, q_Fillings_applyTo_21 hX rfl, q_Fillings_applyTo_22 hX rfl, q_Fillings_applyTo_23 hX rfl, q_Fillings_applyTo_24 hX rfl, q_Fillings_applyTo_27 hX rfl, q_Fillings_applyTo_28 hX rfl, q_Fillings_applyTo_31 hX rfl, q_Fillings_applyTo_32 hX rfl, q_Fillings_applyTo_33 hX rfl, q_Fillings_applyTo_34 hX rfl, q_Fillings_applyTo_35 hX rfl, q_Fillings_applyTo_38 hX rfl, q_Fillings_applyTo_39 hX rfl, q_Fillings_applyTo_40 hX rfl, q_Fillings_applyTo_43 hX rfl, q_Fillings_applyTo_46 hX rfl, q_Fillings_applyTo_49 hX rfl, q_Fillings_applyTo_50 hX rfl, q_Fillings_applyTo_51 hX rfl, q_Fillings_applyTo_52 hX rfl, q_Fillings_applyTo_55 hX rfl, q_Fillings_applyTo_58 hX rfl, h_Fillings_applyTo_2, fs_aload_n0, fs_aload_n1, fs_aload_n2, fs_aload_n3, fs_dup2, fs_dup2_i, fs_dup2_r, fs_getfield, fs_goto, fs_iaload, fs_iand, fs_iconst, fs_ifCond, fs_if_icmp, fs_iinc, fs_iload_n0, fs_iload_n1, fs_iload_n2, fs_iload_n3, fs_invokevirtual, fs_istore_n0, fs_istore_n1, fs_istore_n2, fs_istore_n3, fs_ixor, fs_laload, fs_land, fs_lastore, fs_ldc2_w, fs_lxor, fs_return_, v_Fillings_applyTo, ci_0, lt_2_4, ci_4, ci_m1, lt_3_4, pre_Grid_cellsAt, post_Grid_cellsAt, kd_C_7_5, pl_C_101, R0C_101_5, pl_C_102, kd_C_7_12, R0C_101_12, pl_C_109, kd_C_4_0, pl_C_8, R0C_8_0, pl_C_9, pl_C_10, R0C_10_0, pl_C_11, pl_C_113, R0C_113_0, pl_C_114, pl_C_115, R0C_115_0, pl_C_116, pl_C_118, R0C_118_0, pl_C_119, kd_C_7_0, R0C_101_0, pl_C_1, kd_C_7_2, fx_oi_s, fx_ol_s, fx_or_s, fx_do_s, fx_lg_0, fx_lg_s, fx_ls_0, fx_ls_s, fx_ls_n0, fx_ls_ns, fx_en, fx_sz, Value.category, fx_nl, fx_lk, fx_tget, fx_tput, fx_tcall, fx_tldc, fx_fv, va_rf, fx_cat, fx_in, fx_cnd, fx_len, fx_narI, fx_narZ0, fx_narZ1, fx_narZb, zb_e, zb_ne, Option.some.injEq, Value.int.injEq, Value.long.injEq, Value.ref.injEq, List.cons.injEq, Nat.reduceAdd, Nat.reduceLeDiff, Nat.le_refl, List.take, List.drop, List.reverse_cons, List.reverse_nil, List.nil_append, List.cons_append, List.append_nil, List.map_cons, List.map_nil, List.sum_cons, List.sum_nil, List.length_cons, List.length_nil, Option.toList, fx_all4, forall_const, true_and, and_true, not_true_eq_false, not_false_eq_true, false_implies, true_implies, ne_eq, reduceCtorEq, Nat.reduceEqDiff, ite_true, ite_false, reduceIte, Instr.getfield.injEq, Instr.putfield.injEq, Instr.invokevirtual.injEq, Instr.invokestatic.injEq, Instr.ldc2_w.injEq, fx_tcopy, Instr.ldc.injEq, Instr.ldc_w.injEq, exists_eq_left, exists_prop, R0C_ex, fillL_0]
    first | rfl | exact ⟨rfl, rfl⟩
  · rintro k X hk hX L st I' J' R' ⟨rfl, rfl, rfl, rfl, rfl⟩
    simp only [q_Fillings_applyTo_0 hX rfl, q_Fillings_applyTo_1 hX rfl, hX.2 _ 2 3 _ _ _ _ _ rfl, q_Fillings_applyTo_3 hX rfl, q_Fillings_applyTo_4 hX rfl, q_Fillings_applyTo_7 hX rfl, q_Fillings_applyTo_8 hX rfl, q_Fillings_applyTo_11 hX rfl, q_Fillings_applyTo_12 hX rfl, q_Fillings_applyTo_13 hX rfl, q_Fillings_applyTo_14 hX rfl, q_Fillings_applyTo_17 hX rfl, q_Fillings_applyTo_18 hX rfl, q_Fillings_applyTo_19 hX rfl, q_Fillings_applyTo_20 hX rfl, q_Fillings_applyTo_21 hX rfl, q_Fillings_applyTo_22 hX rfl, q_Fillings_applyTo_23 hX rfl, q_Fillings_applyTo_24 hX rfl, q_Fillings_applyTo_27 hX rfl, q_Fillings_applyTo_28 hX rfl, q_Fillings_applyTo_31 hX rfl, q_Fillings_applyTo_32 hX rfl, q_Fillings_applyTo_33 hX rfl, q_Fillings_applyTo_34 hX rfl, q_Fillings_applyTo_35 hX rfl, q_Fillings_applyTo_38 hX rfl, q_Fillings_applyTo_39 hX rfl, q_Fillings_applyTo_40 hX rfl, q_Fillings_applyTo_43 hX rfl, q_Fillings_applyTo_46 hX rfl, q_Fillings_applyTo_49 hX rfl, q_Fillings_applyTo_50 hX rfl, q_Fillings_applyTo_51 hX rfl, q_Fillings_applyTo_52 hX rfl, q_Fillings_applyTo_55 hX rfl, q_Fillings_applyTo_58 hX rfl, h_Fillings_applyTo_2, fs_aload_n0, fs_aload_n1, fs_aload_n2, fs_aload_n3, fs_dup2, fs_dup2_i, fs_dup2_r, fs_getfield, fs_goto, fs_iaload, fs_iand, fs_iconst, fs_ifCond, fs_if_icmp, fs_iinc, fs_iload_n0, fs_iload_n1, fs_iload_n2, fs_iload_n3, fs_invokevirtual, fs_istore_n0, fs_istore_n1, fs_istore_n2, fs_istore_n3, fs_ixor, fs_laload, fs_land, fs_lastore, fs_ldc2_w, fs_lxor, fs_return_, v_Fillings_applyTo, ci_0, lt_2_4, ci_4, ci_m1, lt_3_4, pre_Grid_cellsAt, post_Grid_cellsAt, kd_C_7_5, pl_C_101, R0C_101_5, pl_C_102, kd_C_7_12, R0C_101_12, pl_C_109, kd_C_4_0, pl_C_8, R0C_8_0, pl_C_9, pl_C_10, R0C_10_0, pl_C_11, pl_C_113, R0C_113_0, pl_C_114, pl_C_115, R0C_115_0, pl_C_116, pl_C_118, R0C_118_0, pl_C_119, kd_C_7_0, R0C_101_0, pl_C_1, kd_C_7_2, fx_oi_s, fx_ol_s, fx_or_s, fx_do_s, fx_lg_0, fx_lg_s, fx_ls_0, fx_ls_s, fx_ls_n0, fx_ls_ns, fx_en, fx_sz, Value.category, fx_nl, fx_lk, fx_tget, fx_tput, fx_tcall, fx_tldc, fx_fv, va_rf, fx_cat, fx_in, fx_cnd, fx_len, fx_narI, fx_narZ0, fx_narZ1, fx_narZb, zb_e, zb_ne, Option.some.injEq, Value.int.injEq, Value.long.injEq, Value.ref.injEq, List.cons.injEq, Nat.reduceAdd, Nat.reduceLeDiff, Nat.le_refl, List.take, List.drop, List.reverse_cons, List.reverse_nil, List.nil_append, List.cons_append, List.append_nil, List.map_cons, List.map_nil, List.sum_cons, List.sum_nil, List.length_cons, List.length_nil, Option.toList, fx_all4, forall_const, true_and, and_true, not_true_eq_false, not_false_eq_true, false_implies, true_implies, ne_eq, reduceCtorEq, Nat.reduceEqDiff, ite_true, ite_false, reduceIte, Instr.getfield.injEq, Instr.putfield.injEq, Instr.invokevirtual.injEq, Instr.invokestatic.injEq, Instr.ldc2_w.injEq, fx_tcopy, Instr.ldc.injEq, Instr.ldc_w.injEq, exists_eq_left, exists_prop, R0C_ex, f1, f2, f3]
    simp (disch := omega) only [lit, nI_add, nI_mul', nI_sub', nI_clamp, nI_lt', nI_le', nI_eq', nI_in', iinc1, zb_n0, nI_div', nI_rem2, true_and, and_true, Nat.reduceEqDiff, Nat.reduceLeDiff, Nat.one_ne_zero, Nat.zero_ne_one, not_false_eq_true, not_true_eq_false, false_implies, true_implies, forall_const, Nat.zero_add, Nat.add_zero, nv_nI, up_eq, up_ne, fill_ne, nI_clamp, nI_add, e1, e2]
    refine ⟨fun h1 => ?_, fun h1 => ?_⟩
    · rw [show k = 4 by omega]
      exact hpost
    · obtain ⟨m, hm, hgm⟩ := hgo k (by omega)
      have hg : I' 102 k &&& (I' 109 k ^^^ -1) = nI m := hgm
      simp (disch := omega) only [lit, nI_add, nI_mul', nI_sub', nI_clamp, nI_lt', nI_le', nI_eq', nI_in', iinc1, zb_n0, nI_div', nI_rem2, true_and, and_true, Nat.reduceEqDiff, Nat.reduceLeDiff, Nat.one_ne_zero, Nat.zero_ne_one, not_false_eq_true, not_true_eq_false, false_implies, true_implies, forall_const, Nat.zero_add, Nat.add_zero, nv_nI, up_eq, up_ne, fill_ne, nI_clamp, nI_add, nI_in', fillL_out]
      refine ⟨fun h2 => fx_kf_i (by omega) ⟨rfl, rfl, rfl, (fillL_same (lnL_0 h2 _)).symm, rfl⟩, fun h2 => ⟨⟨h, l, m, hh, rfl, rfl, hl, hg, hm⟩, fx_kf_i (by omega) ⟨rfl, rfl, rfl, fillL_s0 rfl, rfl⟩⟩⟩
theorem c_Fillings_applyTo (l : Launch) (n : Nat) : fx_Met l y_Fillings_applyTo ws_Fillings_applyTo rm_Fillings_applyTo (MC n) (pre_Fillings_applyTo n) (post_Fillings_applyTo n) := fx_met (MC_ok n) (MC_tys n) (by decide) rfl pk_Fillings_applyTo vk_Fillings_applyTo (fun st I J R h => r_Fillings_applyTo n st I J R h)

theorem chI_b {a e : Nat → Int32} {i : Nat} : ∀ {k : Nat}, bt (chI a e k) i = true ↔ ∃ c, c < k ∧ bt (a c) i ≠ bt (e c) i
  | 0 => by
    show bt (nI 0) i = true ↔ _
    rw [b_00]
    exact ⟨fun h => absurd h Bool.false_ne_true, fun ⟨c, h1, _⟩ => absurd h1 (Nat.not_lt_zero c)⟩
  | k + 1 => by
    show bt (chI a e k ||| (a k ^^^ e k)) i = true ↔ _
    rw [b_or, b_xor, Bool.or_eq_true, chI_b (k := k)]
    constructor
    · rintro (⟨c, h1, h2⟩ | h)
      · exact ⟨c, by omega, h2⟩
      · refine ⟨k, by omega, fun z => ?_⟩
        rw [z] at h
        simp at h
    · rintro ⟨c, h1, h2⟩
      by_cases h3 : c = k
      · subst h3
        right
        revert h2
        cases bt (a c) i <;> cases bt (e c) i <;> simp
      · exact Or.inl ⟨c, by omega, h2⟩
section AP
variable {w h : Nat} {f : Nat → Int32} {l : Nat} {I : fx_MI} {J : fx_MJ} {o : Nat}
/-- a line's new colors stand in row 109, out of those of row 102 -/
def nwR (w h : Nat) (f : Nat → Int32) (J : fx_MJ) (o l : Nat) (I : fx_MI) : Prop := lkR w h f (cu w J o) l I ∧ ∀ c, c < 4 → ∀ i, i < 32 → bt (I 109 c) i = true → bt (I 102 c) i = true
theorem nwR_can (hl : l < h + w) (hn : cellsN w h l ≤ 8) (hx : nwR w h f J o l I) {c : Nat} (hc : c < 4) (i : Nat) : bt (I 102 c) i = true ↔ i < cellsN w h l ∧ lb (J (o + 1) c) (plc h l i) = true := Iff.trans (lkR_cn hn hx.1 c hc i) (cu_cn hl hc)
theorem nwR_go (hn : cellsN w h l ≤ 8) (hx : nwR w h f J o l I) : ∀ c, c < 4 → ∃ m, m < 256 ∧ goI I c = nI m := fun c hc => by
  refine ⟨mskF 8 (fun i => bt (goI I c) i), mskF_lt 8 _, b_ext fun i hi => ?_⟩
  rw [b_nI hi, mskF_bit]
  by_cases h1 : i < 8
  · simp [h1]
  · have e : bt (I 102 c) i = false := bnt fun z => by
      have := ((lkR_cn hn hx.1 c hc i).mp z).1
      omega
    unfold goI
    rw [b_and, e]
    simp [h1]
theorem apJ_lb {c j : Nat} (hc : c < 4) (hj : j < 64) : lb (apJ I J o h l (o + 1) c) j = (lb (J (o + 1) c) j && !(if l < h then j / 8 == l && bt (goI I c) (j % 8) else j % 8 == l - h && bt (goI I c) (j / 8))) := by
  unfold apJ
  rw [fillL_in (by omega) (by omega), Nat.sub_zero, l_and, l_xor, l_m1 j hj]
  unfold lnL
  rw [LB_b _ hj, Bool.xor_true]
theorem apJ_o {q c : Nat} (hq : q ≠ o + 1) : apJ I J o h l q c = J q c := fillL_ne hq
theorem plc_on {i : Nat} (hl : l < h + w) (hw : w ≤ 8) (hi : i < cellsN w h l) (g : Int32) : (if l < h then plc h l i / 8 == l && bt g (plc h l i % 8) else plc h l i % 8 == l - h && bt g (plc h l i / 8)) = bt g i := by
  unfold cellsN at hi
  unfold plc
  by_cases h1 : l < h
  · rw [if_pos h1] at hi
    rw [if_pos h1, if_pos h1, show (8 * l + i) / 8 = l by omega, show (8 * l + i) % 8 = i by omega]
    simp
  · rw [if_neg h1] at hi
    rw [if_neg h1, if_neg h1, show (8 * i + (l - h)) / 8 = i by omega, show (8 * i + (l - h)) % 8 = l - h by omega]
    simp
theorem apJ_up (hw : w ≤ 8) (hh : h ≤ 8) (hl : l < h + w) (hx : nwR w h f J o l I) : upLn w h l (cu w J o) (xOf I) (cu w (apJ I J o h l) o) := by
  have hn := cellsN_le (l := l) hw hh
  refine ⟨fun i hi => ?_, fun k hk hout => ?_⟩
  · have hp := plc_lt hw hh hl hi
    unfold cu xOf
    refine mskF_c fun c hc => ?_
    rw [atN_dm hl hi, apJ_lb hc hp, plc_on hl hw hi]
    have h1 := nwR_can hl hn hx hc i
    have h2 := hx.2 c hc i (by omega)
    unfold goI
    rw [b_and, b_not _ (by omega)]
    cases h3 : lb (J (o + 1) c) (plc h l i)
    · rw [h3] at h1
      have e1 : bt (I 102 c) i = false := bnt fun z => by
        have := (h1.mp z).2
        cases this
      have e2 : bt (I 109 c) i = false := bnt fun z => by
        rw [e1] at h2
        exact absurd (h2 z) Bool.false_ne_true
      rw [e2]
      rfl
    · rw [h1.mpr ⟨hi, h3⟩]
      cases bt (I 109 c) i <;> rfl
  · have hw0 : 0 < w := by
      rcases Nat.eq_zero_or_pos w with z | z
      · subst z
        rw [Nat.zero_mul] at hk
        omega
      · exact z
    have hm : k % w < w := Nat.mod_lt _ hw0
    have hd : k / w < h := Nat.div_lt_of_lt_mul hk
    unfold cu
    refine mskF_c fun c hc => ?_
    rw [apJ_lb hc (by omega), show (8 * (k / w) + k % w) / 8 = k / w by omega, show (8 * (k / w) + k % w) % 8 = k % w by omega]
    have e : k = w * (k / w) + k % w := (Nat.div_add_mod k w).symm
    by_cases h1 : l < h
    · rw [if_pos h1, show (k / w == l) = false from beq_false_of_ne (fun z => hout (k % w) (by unfold cellsN; rw [if_pos h1]; exact hm) (by unfold atN; rw [if_pos h1, ← z]; exact e))]
      simp
    · rw [if_neg h1, show (k % w == l - h) = false from beq_false_of_ne (fun z => hout (k / w) (by unfold cellsN; rw [if_neg h1]; exact hd) (by unfold atN; rw [if_neg h1]; omega))]
      simp
theorem apJ_ly (hz : lyO w h J o) : lyO w h (apJ I J o h l) o := fun c hc i hi hb => by
  rw [apJ_lb hc hi, Bool.and_eq_true] at hb
  exact hz c hc i hi hb.1
/-- the changed cells -/
theorem ch_iff (hl : l < h + w) (hn : cellsN w h l ≤ 8) (hx : nwR w h f J o l I) {i : Nat} (hi : i < cellsN w h l) : bt (chI (I 102) (I 109) 4) i = true ↔ xOf I i ≠ cu w J o (atN w h l i) := by
  have hbit : ∀ c, c < 4 → (bt (I 102 c) i = true ↔ cu w J o (atN w h l i) / 2 ^ c % 2 = 1) := fun c hc => by
    rw [lkR_cn hn hx.1 c hc i]
    exact ⟨fun z => z.2, fun z => ⟨hi, z⟩⟩
  rw [chI_b]
  constructor
  · rintro ⟨c, h1, h2⟩ z
    refine h2 ?_
    have h3 := hbit c h1
    have h4 := xOf_bit (I := I) (i := i) h1
    rw [z] at h4
    cases g1 : bt (I 102 c) i
    · refine (bnt fun g2 => ?_).symm
      rw [h3.mpr (h4.mpr g2)] at g1
      cases g1
    · exact (h4.mp (h3.mp g1)).symm
  · intro h1
    refine Classical.byContradiction fun hno => h1 ?_
    have hall : ∀ c, c < 4 → bt (I 102 c) i = bt (I 109 c) i := fun c hc => Classical.byContradiction fun z => hno ⟨c, hc, z⟩
    refine sub_anti (mskF_lt 4 _) cu_16 (fun c hc z => ?_) (fun c hc z => ?_)
    · rw [xOf_bit hc, ← hall c hc] at z
      exact (hbit c hc).mp z
    · show xOf I i / 2 ^ c % 2 = 1
      rw [xOf_bit hc, ← hall c hc]
      exact (hbit c hc).mpr z
theorem ch_out (hn : cellsN w h l ≤ 8) (hx : nwR w h f J o l I) {i : Nat} (hi : cellsN w h l ≤ i) : bt (chI (I 102) (I 109) 4) i = false := bnt fun z => by
  obtain ⟨c, h1, h2⟩ := chI_b.mp z
  have e1 : bt (I 102 c) i = false := bnt fun z => by
    have := ((lkR_cn hn hx.1 c h1 i).mp z).1
    omega
  have e2 : bt (I 109 c) i = false := bnt fun z => by
    by_cases h3 : i < 32
    · have := hx.2 c h1 i h3 z
      rw [e1] at this
      cases this
    · rw [b_big (by omega)] at z
      cases z
  exact h2 (e1.trans e2.symm)
end AP
