/-! the class: mistakes, count (own work) -/
def misL (J : fx_MJ) : Nat → Int64
  | 0 => 0
  | c + 1 => misL J c ||| (J 11 c &&& (J 9 c ^^^ -1))
def p_Out_mistakes : fx_Pr := fx_pr [(0, .lconst 0, 0), (1, .lstore_n 1, 0), (2, .iconst 0, 0), (3, .istore_n 3, 0), (4, .iload_n 3, 0), (5, .iconst 4, 0), (6, .if_icmp .ge 41, 47), (9, .lload_n 1, 0), (10, .aload_n 0, 0), (11, .getfield 19, 0), (14, .getfield 188, 0), (17, .getfield 191, 0), (20, .iload_n 3, 0), (21, .laload, 0), (22, .aload_n 0, 0), (23, .getfield 19, 0), (26, .getfield 132, 0), (29, .getfield 191, 0), (32, .iload_n 3, 0), (33, .laload, 0), (34, .ldc2_w 195, 0), (37, .lxor, 0), (38, .land, 0), (39, .lor, 0), (40, .lstore_n 1, 0), (41, .iinc 3 1, 0), (44, .goto (-40), 4), (47, .lload_n 1, 0), (48, .invokestatic 197, 0), (51, .ireturn, 0)]
theorem pk_Out_mistakes : fx_prOK b_Out_mistakes p_Out_mistakes := fx_pr_ok (by decide +kernel)
theorem q_Out_mistakes_0 {nL : Nat} {M : fx_M} {ev : fx_Env} {ret : Option FieldType} {P : fx_P} {stops : List (Nat × Nat)} {K : fx_K} {n : Nat} {L : List (Option Value)} {st : List Value} {I : fx_MI} {J : fx_MJ} {R : fx_MR} {X : Nat → fx_K} (hX : fx_isX nL M ev ret P p_Out_mistakes stops K X) (hs : fx_stop stops 0 = none) : X (n + 1) 0 L st I J R = fx_S nL M ev ret P (.lconst 0) 0 0 L st I J R (X n) := hX.1 _ _ _ _ _ _ _ _ _ rfl hs
theorem q_Out_mistakes_1 {nL : Nat} {M : fx_M} {ev : fx_Env} {ret : Option FieldType} {P : fx_P} {stops : List (Nat × Nat)} {K : fx_K} {n : Nat} {L : List (Option Value)} {st : List Value} {I : fx_MI} {J : fx_MJ} {R : fx_MR} {X : Nat → fx_K} (hX : fx_isX nL M ev ret P p_Out_mistakes stops K X) (hs : fx_stop stops 1 = none) : X (n + 1) 1 L st I J R = fx_S nL M ev ret P (.lstore_n 1) 0 1 L st I J R (X n) := hX.1 _ _ _ _ _ _ _ _ _ rfl hs
theorem q_Out_mistakes_2 {nL : Nat} {M : fx_M} {ev : fx_Env} {ret : Option FieldType} {P : fx_P} {stops : List (Nat × Nat)} {K : fx_K} {n : Nat} {L : List (Option Value)} {st : List Value} {I : fx_MI} {J : fx_MJ} {R : fx_MR} {X : Nat → fx_K} (hX : fx_isX nL M ev ret P p_Out_mistakes stops K X) (hs : fx_stop stops 2 = none) : X (n + 1) 2 L st I J R = fx_S nL M ev ret P (.iconst 0) 0 2 L st I J R (X n) := hX.1 _ _ _ _ _ _ _ _ _ rfl hs
theorem q_Out_mistakes_3 {nL : Nat} {M : fx_M} {ev : fx_Env} {ret : Option FieldType} {P : fx_P} {stops : List (Nat × Nat)} {K : fx_K} {n : Nat} {L : List (Option Value)} {st : List Value} {I : fx_MI} {J : fx_MJ} {R : fx_MR} {X : Nat → fx_K} (hX : fx_isX nL M ev ret P p_Out_mistakes stops K X) (hs : fx_stop stops 3 = none) : X (n + 1) 3 L st I J R = fx_S nL M ev ret P (.istore_n 3) 0 3 L st I J R (X n) := hX.1 _ _ _ _ _ _ _ _ _ rfl hs
theorem q_Out_mistakes_4 {nL : Nat} {M : fx_M} {ev : fx_Env} {ret : Option FieldType} {P : fx_P} {stops : List (Nat × Nat)} {K : fx_K} {n : Nat} {L : List (Option Value)} {st : List Value} {I : fx_MI} {J : fx_MJ} {R : fx_MR} {X : Nat → fx_K} (hX : fx_isX nL M ev ret P p_Out_mistakes stops K X) (hs : fx_stop stops 4 = none) : X (n + 1) 4 L st I J R = fx_S nL M ev ret P (.iload_n 3) 0 4 L st I J R (X n) := hX.1 _ _ _ _ _ _ _ _ _ rfl hs
theorem h_Out_mistakes_4 {nL : Nat} {M : fx_M} {ev : fx_Env} {ret : Option FieldType} {P : fx_P} {L : List (Option Value)} {st : List Value} {I : fx_MI} {J : fx_MJ} {R : fx_MR} {X : fx_K} : fx_go nL M ev ret P p_Out_mistakes X 4 L st I J R = fx_S nL M ev ret P (.iload_n 3) 0 4 L st I J R X := fx_go_at rfl
theorem q_Out_mistakes_5 {nL : Nat} {M : fx_M} {ev : fx_Env} {ret : Option FieldType} {P : fx_P} {stops : List (Nat × Nat)} {K : fx_K} {n : Nat} {L : List (Option Value)} {st : List Value} {I : fx_MI} {J : fx_MJ} {R : fx_MR} {X : Nat → fx_K} (hX : fx_isX nL M ev ret P p_Out_mistakes stops K X) (hs : fx_stop stops 5 = none) : X (n + 1) 5 L st I J R = fx_S nL M ev ret P (.iconst 4) 0 5 L st I J R (X n) := hX.1 _ _ _ _ _ _ _ _ _ rfl hs
theorem q_Out_mistakes_6 {nL : Nat} {M : fx_M} {ev : fx_Env} {ret : Option FieldType} {P : fx_P} {stops : List (Nat × Nat)} {K : fx_K} {n : Nat} {L : List (Option Value)} {st : List Value} {I : fx_MI} {J : fx_MJ} {R : fx_MR} {x y : Int32} {X : Nat → fx_K} (hX : fx_isX nL M ev ret P p_Out_mistakes stops K X) (hs : fx_stop stops 6 = none) : X (n + 1) 6 L (.int y :: .int x :: st) I J R = ((y ≤ x → X n 47 L st I J R) ∧ (¬ y ≤ x → X n 9 L st I J R)) := fx_q_icmp hX rfl hs rfl
theorem q_Out_mistakes_9 {nL : Nat} {M : fx_M} {ev : fx_Env} {ret : Option FieldType} {P : fx_P} {stops : List (Nat × Nat)} {K : fx_K} {n : Nat} {L : List (Option Value)} {st : List Value} {I : fx_MI} {J : fx_MJ} {R : fx_MR} {X : Nat → fx_K} (hX : fx_isX nL M ev ret P p_Out_mistakes stops K X) (hs : fx_stop stops 9 = none) : X (n + 1) 9 L st I J R = fx_S nL M ev ret P (.lload_n 1) 0 9 L st I J R (X n) := hX.1 _ _ _ _ _ _ _ _ _ rfl hs
theorem q_Out_mistakes_10 {nL : Nat} {M : fx_M} {ev : fx_Env} {ret : Option FieldType} {P : fx_P} {stops : List (Nat × Nat)} {K : fx_K} {n : Nat} {L : List (Option Value)} {st : List Value} {I : fx_MI} {J : fx_MJ} {R : fx_MR} {X : Nat → fx_K} (hX : fx_isX nL M ev ret P p_Out_mistakes stops K X) (hs : fx_stop stops 10 = none) : X (n + 1) 10 L st I J R = fx_S nL M ev ret P (.aload_n 0) 0 10 L st I J R (X n) := hX.1 _ _ _ _ _ _ _ _ _ rfl hs
theorem q_Out_mistakes_11 {nL : Nat} {M : fx_M} {ev : fx_Env} {ret : Option FieldType} {P : fx_P} {stops : List (Nat × Nat)} {K : fx_K} {n : Nat} {L : List (Option Value)} {st : List Value} {I : fx_MI} {J : fx_MJ} {R : fx_MR} {X : Nat → fx_K} (hX : fx_isX nL M ev ret P p_Out_mistakes stops K X) (hs : fx_stop stops 11 = none) : X (n + 1) 11 L st I J R = fx_S nL M ev ret P (.getfield 19) 0 11 L st I J R (X n) := hX.1 _ _ _ _ _ _ _ _ _ rfl hs
theorem q_Out_mistakes_14 {nL : Nat} {M : fx_M} {ev : fx_Env} {ret : Option FieldType} {P : fx_P} {stops : List (Nat × Nat)} {K : fx_K} {n : Nat} {L : List (Option Value)} {st : List Value} {I : fx_MI} {J : fx_MJ} {R : fx_MR} {X : Nat → fx_K} (hX : fx_isX nL M ev ret P p_Out_mistakes stops K X) (hs : fx_stop stops 14 = none) : X (n + 1) 14 L st I J R = fx_S nL M ev ret P (.getfield 188) 0 14 L st I J R (X n) := hX.1 _ _ _ _ _ _ _ _ _ rfl hs
theorem q_Out_mistakes_17 {nL : Nat} {M : fx_M} {ev : fx_Env} {ret : Option FieldType} {P : fx_P} {stops : List (Nat × Nat)} {K : fx_K} {n : Nat} {L : List (Option Value)} {st : List Value} {I : fx_MI} {J : fx_MJ} {R : fx_MR} {X : Nat → fx_K} (hX : fx_isX nL M ev ret P p_Out_mistakes stops K X) (hs : fx_stop stops 17 = none) : X (n + 1) 17 L st I J R = fx_S nL M ev ret P (.getfield 191) 0 17 L st I J R (X n) := hX.1 _ _ _ _ _ _ _ _ _ rfl hs
theorem q_Out_mistakes_20 {nL : Nat} {M : fx_M} {ev : fx_Env} {ret : Option FieldType} {P : fx_P} {stops : List (Nat × Nat)} {K : fx_K} {n : Nat} {L : List (Option Value)} {st : List Value} {I : fx_MI} {J : fx_MJ} {R : fx_MR} {X : Nat → fx_K} (hX : fx_isX nL M ev ret P p_Out_mistakes stops K X) (hs : fx_stop stops 20 = none) : X (n + 1) 20 L st I J R = fx_S nL M ev ret P (.iload_n 3) 0 20 L st I J R (X n) := hX.1 _ _ _ _ _ _ _ _ _ rfl hs
theorem q_Out_mistakes_21 {nL : Nat} {M : fx_M} {ev : fx_Env} {ret : Option FieldType} {P : fx_P} {stops : List (Nat × Nat)} {K : fx_K} {n : Nat} {L : List (Option Value)} {st : List Value} {I : fx_MI} {J : fx_MJ} {R : fx_MR} {X : Nat → fx_K} (hX : fx_isX nL M ev ret P p_Out_mistakes stops K X) (hs : fx_stop stops 21 = none) : X (n + 1) 21 L st I J R = fx_S nL M ev ret P (.laload) 0 21 L st I J R (X n) := hX.1 _ _ _ _ _ _ _ _ _ rfl hs
theorem q_Out_mistakes_22 {nL : Nat} {M : fx_M} {ev : fx_Env} {ret : Option FieldType} {P : fx_P} {stops : List (Nat × Nat)} {K : fx_K} {n : Nat} {L : List (Option Value)} {st : List Value} {I : fx_MI} {J : fx_MJ} {R : fx_MR} {X : Nat → fx_K} (hX : fx_isX nL M ev ret P p_Out_mistakes stops K X) (hs : fx_stop stops 22 = none) : X (n + 1) 22 L st I J R = fx_S nL M ev ret P (.aload_n 0) 0 22 L st I J R (X n) := hX.1 _ _ _ _ _ _ _ _ _ rfl hs
theorem q_Out_mistakes_23 {nL : Nat} {M : fx_M} {ev : fx_Env} {ret : Option FieldType} {P : fx_P} {stops : List (Nat × Nat)} {K : fx_K} {n : Nat} {L : List (Option Value)} {st : List Value} {I : fx_MI} {J : fx_MJ} {R : fx_MR} {X : Nat → fx_K} (hX : fx_isX nL M ev ret P p_Out_mistakes stops K X) (hs : fx_stop stops 23 = none) : X (n + 1) 23 L st I J R = fx_S nL M ev ret P (.getfield 19) 0 23 L st I J R (X n) := hX.1 _ _ _ _ _ _ _ _ _ rfl hs
theorem q_Out_mistakes_26 {nL : Nat} {M : fx_M} {ev : fx_Env} {ret : Option FieldType} {P : fx_P} {stops : List (Nat × Nat)} {K : fx_K} {n : Nat} {L : List (Option Value)} {st : List Value} {I : fx_MI} {J : fx_MJ} {R : fx_MR} {X : Nat → fx_K} (hX : fx_isX nL M ev ret P p_Out_mistakes stops K X) (hs : fx_stop stops 26 = none) : X (n + 1) 26 L st I J R = fx_S nL M ev ret P (.getfield 132) 0 26 L st I J R (X n) := hX.1 _ _ _ _ _ _ _ _ _ rfl hs
theorem q_Out_mistakes_29 {nL : Nat} {M : fx_M} {ev : fx_Env} {ret : Option FieldType} {P : fx_P} {stops : List (Nat × Nat)} {K : fx_K} {n : Nat} {L : List (Option Value)} {st : List Value} {I : fx_MI} {J : fx_MJ} {R : fx_MR} {X : Nat → fx_K} (hX : fx_isX nL M ev ret P p_Out_mistakes stops K X) (hs : fx_stop stops 29 = none) : X (n + 1) 29 L st I J R = fx_S nL M ev ret P (.getfield 191) 0 29 L st I J R (X n) := hX.1 _ _ _ _ _ _ _ _ _ rfl hs
theorem q_Out_mistakes_32 {nL : Nat} {M : fx_M} {ev : fx_Env} {ret : Option FieldType} {P : fx_P} {stops : List (Nat × Nat)} {K : fx_K} {n : Nat} {L : List (Option Value)} {st : List Value} {I : fx_MI} {J : fx_MJ} {R : fx_MR} {X : Nat → fx_K} (hX : fx_isX nL M ev ret P p_Out_mistakes stops K X) (hs : fx_stop stops 32 = none) : X (n + 1) 32 L st I J R = fx_S nL M ev ret P (.iload_n 3) 0 32 L st I J R (X n) := hX.1 _ _ _ _ _ _ _ _ _ rfl hs
theorem q_Out_mistakes_33 {nL : Nat} {M : fx_M} {ev : fx_Env} {ret : Option FieldType} {P : fx_P} {stops : List (Nat × Nat)} {K : fx_K} {n : Nat} {L : List (Option Value)} {st : List Value} {I : fx_MI} {J : fx_MJ} {R : fx_MR} {X : Nat → fx_K} (hX : fx_isX nL M ev ret P p_Out_mistakes stops K X) (hs : fx_stop stops 33 = none) : X (n + 1) 33 L st I J R = fx_S nL M ev ret P (.laload) 0 33 L st I J R (X n) := hX.1 _ _ _ _ _ _ _ _ _ rfl hs
theorem q_Out_mistakes_34 {nL : Nat} {M : fx_M} {ev : fx_Env} {ret : Option FieldType} {P : fx_P} {stops : List (Nat × Nat)} {K : fx_K} {n : Nat} {L : List (Option Value)} {st : List Value} {I : fx_MI} {J : fx_MJ} {R : fx_MR} {X : Nat → fx_K} (hX : fx_isX nL M ev ret P p_Out_mistakes stops K X) (hs : fx_stop stops 34 = none) : X (n + 1) 34 L st I J R = fx_S nL M ev ret P (.ldc2_w 195) 0 34 L st I J R (X n) := hX.1 _ _ _ _ _ _ _ _ _ rfl hs
theorem q_Out_mistakes_37 {nL : Nat} {M : fx_M} {ev : fx_Env} {ret : Option FieldType} {P : fx_P} {stops : List (Nat × Nat)} {K : fx_K} {n : Nat} {L : List (Option Value)} {st : List Value} {I : fx_MI} {J : fx_MJ} {R : fx_MR} {X : Nat → fx_K} (hX : fx_isX nL M ev ret P p_Out_mistakes stops K X) (hs : fx_stop stops 37 = none) : X (n + 1) 37 L st I J R = fx_S nL M ev ret P (.lxor) 0 37 L st I J R (X n) := hX.1 _ _ _ _ _ _ _ _ _ rfl hs
theorem q_Out_mistakes_38 {nL : Nat} {M : fx_M} {ev : fx_Env} {ret : Option FieldType} {P : fx_P} {stops : List (Nat × Nat)} {K : fx_K} {n : Nat} {L : List (Option Value)} {st : List Value} {I : fx_MI} {J : fx_MJ} {R : fx_MR} {X : Nat → fx_K} (hX : fx_isX nL M ev ret P p_Out_mistakes stops K X) (hs : fx_stop stops 38 = none) : X (n + 1) 38 L st I J R = fx_S nL M ev ret P (.land) 0 38 L st I J R (X n) := hX.1 _ _ _ _ _ _ _ _ _ rfl hs
theorem q_Out_mistakes_39 {nL : Nat} {M : fx_M} {ev : fx_Env} {ret : Option FieldType} {P : fx_P} {stops : List (Nat × Nat)} {K : fx_K} {n : Nat} {L : List (Option Value)} {st : List Value} {I : fx_MI} {J : fx_MJ} {R : fx_MR} {X : Nat → fx_K} (hX : fx_isX nL M ev ret P p_Out_mistakes stops K X) (hs : fx_stop stops 39 = none) : X (n + 1) 39 L st I J R = fx_S nL M ev ret P (.lor) 0 39 L st I J R (X n) := hX.1 _ _ _ _ _ _ _ _ _ rfl hs
theorem q_Out_mistakes_40 {nL : Nat} {M : fx_M} {ev : fx_Env} {ret : Option FieldType} {P : fx_P} {stops : List (Nat × Nat)} {K : fx_K} {n : Nat} {L : List (Option Value)} {st : List Value} {I : fx_MI} {J : fx_MJ} {R : fx_MR} {X : Nat → fx_K} (hX : fx_isX nL M ev ret P p_Out_mistakes stops K X) (hs : fx_stop stops 40 = none) : X (n + 1) 40 L st I J R = fx_S nL M ev ret P (.lstore_n 1) 0 40 L st I J R (X n) := hX.1 _ _ _ _ _ _ _ _ _ rfl hs
theorem q_Out_mistakes_41 {nL : Nat} {M : fx_M} {ev : fx_Env} {ret : Option FieldType} {P : fx_P} {stops : List (Nat × Nat)} {K : fx_K} {n : Nat} {L : List (Option Value)} {st : List Value} {I : fx_MI} {J : fx_MJ} {R : fx_MR} {X : Nat → fx_K} (hX : fx_isX nL M ev ret P p_Out_mistakes stops K X) (hs : fx_stop stops 41 = none) : X (n + 1) 41 L st I J R = fx_S nL M ev ret P (.iinc 3 1) 0 41 L st I J R (X n) := hX.1 _ _ _ _ _ _ _ _ _ rfl hs
theorem q_Out_mistakes_44 {nL : Nat} {M : fx_M} {ev : fx_Env} {ret : Option FieldType} {P : fx_P} {stops : List (Nat × Nat)} {K : fx_K} {n : Nat} {L : List (Option Value)} {st : List Value} {I : fx_MI} {J : fx_MJ} {R : fx_MR} {X : Nat → fx_K} (hX : fx_isX nL M ev ret P p_Out_mistakes stops K X) (hs : fx_stop stops 44 = none) : X (n + 1) 44 L st I J R = X n 4 L st I J R := fx_q_goto hX rfl hs rfl
theorem q_Out_mistakes_47 {nL : Nat} {M : fx_M} {ev : fx_Env} {ret : Option FieldType} {P : fx_P} {stops : List (Nat × Nat)} {K : fx_K} {n : Nat} {L : List (Option Value)} {st : List Value} {I : fx_MI} {J : fx_MJ} {R : fx_MR} {X : Nat → fx_K} (hX : fx_isX nL M ev ret P p_Out_mistakes stops K X) (hs : fx_stop stops 47 = none) : X (n + 1) 47 L st I J R = fx_S nL M ev ret P (.lload_n 1) 0 47 L st I J R (X n) := hX.1 _ _ _ _ _ _ _ _ _ rfl hs
theorem q_Out_mistakes_48 {nL : Nat} {M : fx_M} {ev : fx_Env} {ret : Option FieldType} {P : fx_P} {stops : List (Nat × Nat)} {K : fx_K} {n : Nat} {L : List (Option Value)} {st : List Value} {I : fx_MI} {J : fx_MJ} {R : fx_MR} {X : Nat → fx_K} (hX : fx_isX nL M ev ret P p_Out_mistakes stops K X) (hs : fx_stop stops 48 = none) : X (n + 1) 48 L st I J R = fx_S nL M ev ret P (.invokestatic 197) 0 48 L st I J R (X n) := hX.1 _ _ _ _ _ _ _ _ _ rfl hs
theorem q_Out_mistakes_51 {nL : Nat} {M : fx_M} {ev : fx_Env} {ret : Option FieldType} {P : fx_P} {stops : List (Nat × Nat)} {K : fx_K} {n : Nat} {L : List (Option Value)} {st : List Value} {I : fx_MI} {J : fx_MJ} {R : fx_MR} {X : Nat → fx_K} (hX : fx_isX nL M ev ret P p_Out_mistakes stops K X) (hs : fx_stop stops 51 = none) : X (n + 1) 51 L st I J R = fx_S nL M ev ret P (.ireturn) 0 51 L st I J R (X n) := hX.1 _ _ _ _ _ _ _ _ _ rfl hs
def pre_Out_mistakes (n : Nat) : fx_Pre := fun st I J R => (∃ b, R = R0C b) ∧ (match st with
  | [.ref 0] => True
  | _ => False)
theorem pi_Out_mistakes {n : Nat} {st : List Value} {I : fx_MI} {J : fx_MJ} {R : fx_MR} (h : pre_Out_mistakes n st I J R) : (∃ b, R = R0C b) ∧ st = [.ref 0] ∧ (True) := by
  unfold pre_Out_mistakes at h
  obtain ⟨h0, h⟩ := h
  split at h
  · exact ⟨h0, rfl, h⟩
  · cases h
def post_Out_mistakes (n : Nat) : fx_Post := fun st I J R r I' J' R' => I' = I ∧ J' = J ∧ R' = R ∧ r = some (.int (nI (pop 64 (lb (misL J 4)))))
theorem pz_Out_mistakes {st : List Value} {I : fx_MI} {J : fx_MJ} {R : fx_MR} (n : Nat) (h : pre_Out_mistakes n st I J R) : ∃ q r, st = .ref q :: r ∧ (MC n).2.2.1 q = some (.inl 0) ∧ r.length = 0 := by
  obtain ⟨_, rfl, _⟩ := pi_Out_mistakes h
  exact ⟨_, _, rfl, rfl, rfl⟩
def v_Out_mistakes (n : Nat) : fx_Env := [(.getfield 19, fx_tget (MC n) 0 1), (.getfield 188, fx_tget (MC n) 2 2), (.getfield 191, fx_tget (MC n) 4 0), (.getfield 132, fx_tget (MC n) 2 1), (.ldc2_w 195, fx_tldc (.long (-1))), (.invokestatic 197, fx_tcall 1 (pre_J13_bitCount_95d88 n) (post_J13_bitCount_95d88 n))]
abbrev rm_Out_mistakes : Room := { frames := 1, cells := 0, slots := 0, locals := 21 }
abbrev ws_Out_mistakes : List Cond := Cond.code y_Out_mistakes b_Out_mistakes 4 (some .int) :: w_C
theorem vk_Out_mistakes {l : Launch} {n : Nat} : fx_EV l R_Out ws_Out_mistakes rm_Out_mistakes (MC n) 4 b_Out_mistakes (v_Out_mistakes n) := (fx_EV_cons e_Out_g19 (fx_EV_cons e_Out_g188 (fx_EV_cons e_Out_g191 (fx_EV_cons e_Out_g132 (fx_EV_cons e_Out_l195 (fx_EV_cons (e_Out_c197 (by decide)) fx_EV_nil))))))
theorem r_Out_mistakes (n : Nat) (st : List Value) (I : fx_MI) (J : fx_MJ) (R : fx_MR) (h : pre_Out_mistakes n st I J R) : fx_sz st ≤ 4 ∧ fx_R 4 (MC n) (v_Out_mistakes n) (some .int) (post_Out_mistakes n st I J R) p_Out_mistakes 0 (fx_en st) [] I J R := by
  obtain ⟨⟨b, rfl⟩, rfl, -⟩ := pi_Out_mistakes h
  clear h
  refine ⟨Nat.le_of_ble_eq_true rfl, ?_⟩
  have hpost : ∀ x, x = misL J 4 → post_Out_mistakes n [.ref 0] I J (R0C b) (some (.int (nI (pop 64 (lb x))))) I J (R0C b) := fun x h2 => ⟨rfl, rfl, rfl, by rw [h2]⟩
  refine fx_for 4 4 60 90 4 (fun c L st I' J' R' => L = [some (.ref 0), some (.long (misL J c)), none, some (.int (nI c))] ∧ st = [] ∧ I' = I ∧ J' = J ∧ R' = R0C b) ?_ ?_
  · intro X hX
    simp only [q_Out_mistakes_0 hX rfl, q_Out_mistakes_1 hX rfl, q_Out_mistakes_2 hX rfl, q_Out_mistakes_3 hX rfl, hX.2 _ 4 4 _ _ _ _ _ rfl, q_Out_mistakes_5 hX rfl, q_Out_mistakes_6 hX rfl, q_Out_mistakes_9 hX rfl, q_Out_mistakes_10 hX rfl, q_Out_mistakes_11 hX rfl, q_Out_mistakes_14 hX rfl, q_Out_mistakes_17 hX rfl, q_Out_mistakes_20 hX rfl, q_Out_mistakes_21 hX rfl, q_Out_mistakes_22 hX rfl, q_Out_mistakes_23 hX rfl, q_Out_mistakes_26 hX rfl, q_Out_mistakes_29 hX rfl, q_Out_mistakes_32 hX rfl, q_Out_mistakes_33 hX rfl, q_Out_mistakes_34 hX rfl, q_Out_mistakes_37 hX rfl, q_Out_mistakes_38 hX rfl, q_Out_mistakes_39 hX rfl, q_Out_mistakes_40 hX rfl, q_Out_mistakes_41 hX rfl, q_Out_mistakes_44 hX rfl, q_Out_mistakes_47 hX rfl, q_Out_mistakes_48 hX rfl, q_Out_mistakes_51 hX rfl, h_Out_mistakes_4, fs_aload_n0, fs_aload_n1, fs_aload_n2, fs_aload_n3, fs_getfield, fs_goto, fs_iconst, fs_if_icmp, fs_iinc, fs_iload_n0, fs_iload_n1, fs_iload_n2, fs_iload_n3, fs_invokestatic, fs_ireturn, fs_istore_n0, fs_istore_n1, fs_istore_n2, fs_istore_n3, fs_laload, fs_land, fs_lconst, fs_ldc2_w, fs_lload_n0, fs_lload_n1, fs_lload_n2, fs_lload_n3, fs_lor, fs_lstore_n0, fs_lstore_n1, fs_lstore_n2, fs_lstore_n3, fs_lxor, v_Out_mistakes, cl_0, lt_2_4, ci_0, lt_3_4, ci_4, pre_J13_bitCount_95d88, post_J13_bitCount_95d88, kd_C_0_1, pl_C_0, R0C_0_1, pl_C_2, kd_C_2_2, R0C_2_2, pl_C_10, kd_C_4_0, pl_C_8, R0C_8_0, pl_C_9, R0C_10_0, pl_C_11, pl_C_113, R0C_113_0, pl_C_114, pl_C_115, R0C_115_0, pl_C_116, pl_C_118, R0C_118_0, pl_C_119, kd_C_2_1, R0C_2_1, fx_oi_s, fx_ol_s, fx_or_s, fx_do_s, fx_lg_0, fx_lg_s, fx_ls_0, fx_ls_s, fx_ls_n0, fx_ls_ns, fx_en, fx_sz, Value.category, fx_nl, fx_lk, fx_tget, fx_tput, fx_tcall, fx_tldc, fx_fv, va_rf, fx_cat, fx_in, fx_cnd, fx_len, fx_narI, fx_narZ0, fx_narZ1, fx_narZb, zb_e, zb_ne, Option.some.injEq, Value.int.injEq, Value.long.injEq, Value.ref.injEq, List.cons.injEq, Nat.reduceAdd, Nat.reduceLeDiff, Nat.le_refl, List.take, List.drop, List.reverse_cons, List.reverse_nil, List.nil_append, List.cons_append, List.append_nil, List.map_cons, List.map_nil, List.sum_cons, List.sum_nil, List.length_cons, List.length_nil, Option.toList, fx_all4, forall_const, true_and, and_true, not_true_eq_false, not_false_eq_true, false_implies, true_implies, ne_eq, reduceCtorEq, Nat.reduceEqDiff, ite_true, ite_false, reduceIte, Instr.getfield.injEq, Instr.putfield.injEq, Instr.invokevirtual.injEq, Instr.invokestatic.injEq, Instr.ldc2_w.injEq, fx_tcopy, Instr.ldc.injEq, Instr.ldc_w.injEq, exists_eq_left, exists_prop, R0C_ex]
    exact ⟨rfl, rfl⟩
  · rintro c X hc hX L st I' J' R' ⟨rfl, rfl, hI, hJ, rfl⟩
    rw [hI, hJ]
    simp only [q_Out_mistakes_0 hX rfl, q_Out_mistakes_1 hX rfl, q_Out_mistakes_2 hX rfl, q_Out_mistakes_3 hX rfl, hX.2 _ 4 4 _ _ _ _ _ rfl, q_Out_mistakes_5 hX rfl, q_Out_mistakes_6 hX rfl, q_Out_mistakes_9 hX rfl, q_Out_mistakes_10 hX rfl, q_Out_mistakes_11 hX rfl, q_Out_mistakes_14 hX rfl, q_Out_mistakes_17 hX rfl, q_Out_mistakes_20 hX rfl, q_Out_mistakes_21 hX rfl, q_Out_mistakes_22 hX rfl, q_Out_mistakes_23 hX rfl, q_Out_mistakes_26 hX rfl, q_Out_mistakes_29 hX rfl, q_Out_mistakes_32 hX rfl, q_Out_mistakes_33 hX rfl, q_Out_mistakes_34 hX rfl, q_Out_mistakes_37 hX rfl, q_Out_mistakes_38 hX rfl, q_Out_mistakes_39 hX rfl, q_Out_mistakes_40 hX rfl, q_Out_mistakes_41 hX rfl, q_Out_mistakes_44 hX rfl, q_Out_mistakes_47 hX rfl, q_Out_mistakes_48 hX rfl, q_Out_mistakes_51 hX rfl, h_Out_mistakes_4, fs_aload_n0, fs_aload_n1, fs_aload_n2, fs_aload_n3, fs_getfield, fs_goto, fs_iconst, fs_if_icmp, fs_iinc, fs_iload_n0, fs_iload_n1, fs_iload_n2, fs_iload_n3, fs_invokestatic, fs_ireturn, fs_istore_n0, fs_istore_n1, fs_istore_n2, fs_istore_n3, fs_laload, fs_land, fs_lconst, fs_ldc2_w, fs_lload_n0, fs_lload_n1, fs_lload_n2, fs_lload_n3, fs_lor, fs_lstore_n0, fs_lstore_n1, fs_lstore_n2, fs_lstore_n3, fs_lxor, v_Out_mistakes, cl_0, lt_2_4, ci_0, lt_3_4, ci_4, pre_J13_bitCount_95d88, post_J13_bitCount_95d88, kd_C_0_1, pl_C_0, R0C_0_1, pl_C_2, kd_C_2_2, R0C_2_2, pl_C_10, kd_C_4_0, pl_C_8, R0C_8_0, pl_C_9, R0C_10_0, pl_C_11, pl_C_113, R0C_113_0, pl_C_114, pl_C_115, R0C_115_0, pl_C_116, pl_C_118, R0C_118_0, pl_C_119, kd_C_2_1, R0C_2_1, fx_oi_s, fx_ol_s, fx_or_s, fx_do_s, fx_lg_0, fx_lg_s, fx_ls_0, fx_ls_s, fx_ls_n0, fx_ls_ns, fx_en, fx_sz, Value.category, fx_nl, fx_lk, fx_tget, fx_tput, fx_tcall, fx_tldc, fx_fv, va_rf, fx_cat, fx_in, fx_cnd, fx_len, fx_narI, fx_narZ0, fx_narZ1, fx_narZb, zb_e, zb_ne, Option.some.injEq, Value.int.injEq, Value.long.injEq, Value.ref.injEq, List.cons.injEq, Nat.reduceAdd, Nat.reduceLeDiff, Nat.le_refl, List.take, List.drop, List.reverse_cons, List.reverse_nil, List.nil_append, List.cons_append, List.append_nil, List.map_cons, List.map_nil, List.sum_cons, List.sum_nil, List.length_cons, List.length_nil, Option.toList, fx_all4, forall_const, true_and, and_true, not_true_eq_false, not_false_eq_true, false_implies, true_implies, ne_eq, reduceCtorEq, Nat.reduceEqDiff, ite_true, ite_false, reduceIte, Instr.getfield.injEq, Instr.putfield.injEq, Instr.invokevirtual.injEq, Instr.invokestatic.injEq, Instr.ldc2_w.injEq, fx_tcopy, Instr.ldc.injEq, Instr.ldc_w.injEq, exists_eq_left, exists_prop, R0C_ex]
    simp (disch := omega) only [lit, nI_add, nI_mul', nI_sub', nI_clamp, nI_lt', nI_le', nI_eq', nI_in', iinc1, zb_n0, nI_div', nI_rem2, true_and, and_true, Nat.reduceEqDiff, Nat.reduceLeDiff, Nat.one_ne_zero, Nat.zero_ne_one, not_false_eq_true, not_true_eq_false, false_implies, true_implies, forall_const, Nat.zero_add, Nat.add_zero, nv_nI, up_eq, up_ne, fill_ne, nI_clamp, nI_add, nI_in']
    refine ⟨fun h => hpost _ (by rw [show 4 = c by omega]), fun h => ⟨by simp (disch := omega) only [nI_in'], by simp (disch := omega) only [nI_in'], fx_kf_i (by omega) ⟨rfl, rfl, rfl, rfl, rfl⟩⟩⟩
theorem c_Out_mistakes (l : Launch) (n : Nat) : fx_Met l y_Out_mistakes ws_Out_mistakes rm_Out_mistakes (MC n) (pre_Out_mistakes n) (post_Out_mistakes n) := fx_met (MC_ok n) (MC_tys n) (by decide) rfl pk_Out_mistakes vk_Out_mistakes (fun st I J R h => r_Out_mistakes n st I J R h)

theorem sm_pop {P : Nat → Bool} {f : Nat → Nat} {n : Nat} (h : ∀ k, k < n → f k = if P k = true then 1 else 0) : sm f n = pop n P := by
  induction n with
  | zero => rfl
  | succ n ih =>
    show sm f n + f n = pop n P + _
    rw [ih (fun k hk => h k (by omega)), h n (by omega)]
section OM_
variable {I : fx_MI} {J : fx_MJ} {f : Nat → Int32}
theorem mis_b {i : Nat} (hi : i < 64) : lb (misL J 4) i = ((lb (J 11 0) i && !lb (J 9 0) i) || (lb (J 11 1) i && !lb (J 9 1) i) || (lb (J 11 2) i && !lb (J 9 2) i) || (lb (J 11 3) i && !lb (J 9 3) i)) := by
  have e : misL J 4 = (((0 ||| (J 11 0 &&& (J 9 0 ^^^ -1))) ||| (J 11 1 &&& (J 9 1 ^^^ -1))) ||| (J 11 2 &&& (J 9 2 ^^^ -1))) ||| (J 11 3 &&& (J 9 3 ^^^ -1)) := rfl
  rw [e]
  simp only [l_or, l_and, l_xor, l_m1 i hi, l_0, Bool.false_or, Bool.xor_true]
theorem mis1_u : ∀ m, m < 16 → ∀ c, c < 4 → mis1 (nI m) (nI c) = if m / 2 ^ c % 2 = 1 then 0 else 1 := by decide +kernel
theorem misN_C (hd : dimC I) (hs : sR (cW I) (cH I) (cC I) I J 2 f) : pop 64 (lb (misL J 4)) = misN f (cW I * cH I) := by
  obtain ⟨hw, hh, hc, -⟩ := dimC_of hd
  have hwh := wh_le hw.2 hh.2
  have hpc := hs.2.2.1
  have hsupp : ∀ i, i < 64 → lb (misL J 4) i = true → i % 8 < cW I ∧ i / 8 < cH I := fun i hi hb => by
    rw [mis_b hi] at hb
    simp only [Bool.or_eq_true, Bool.and_eq_true] at hb
    rcases hb with ((⟨h1, -⟩ | ⟨h1, -⟩) | ⟨h1, -⟩) | ⟨h1, -⟩
    · exact pc_one hw hpc (by omega) hi h1
    · exact pc_one hw hpc (by omega) hi h1
    · exact pc_one hw hpc (by omega) hi h1
    · exact pc_one hw hpc (by omega) hi h1
  have e1 : pop 64 (lb (misL J 4)) = pop 64 (fun i => lb (misL J 4) i && decide (i < 64)) := pop_c fun i hi => by rw [decide_eq_true hi, Bool.and_true]
  rw [e1, pop_idx hw hh.2 (fun i hb => by
    rw [Bool.and_eq_true, decide_eq_true_eq] at hb
    exact hsupp i hb.2 hb.1)]
  unfold misN
  refine sm_cong fun k hk => ?_
  have hdm := idx_dm (k := k) hw
  have hkd := k_dm hk
  have hi64 : idxK (cW I) k < 64 := by omega
  have hv := picv (by omega) hs.2.2.2 (show k < 64 by omega)
  have hm := hs.2.1.2.2 k hk
  have hp4 : picN f k < 4 := by omega
  rw [hm, hv.1, mis1_u _ cu_16 _ hp4, decide_eq_true hi64, Bool.and_true, mis_b hi64]
  have hb : ∀ c, c < 4 → lb (J 11 c) (idxK (cW I) k) = decide (picN f k = c) := fun c hc4 => by
    have := pc_at hw hh.2 hpc hk hc4
    cases hx : lb (J 11 c) (idxK (cW I) k)
    · rw [decide_eq_false]
      intro z
      exact absurd ((this.mpr z).symm.trans hx) (by decide)
    · rw [decide_eq_true (this.mp hx)]
  have hu : ∀ c, c < 4 → lb (J 9 c) (idxK (cW I) k) = decide (cu (cW I) J 8 k / 2 ^ c % 2 = 1) := fun c hc4 => by
    have := cu_bit (w := cW I) (J := J) (o := 8) (k := k) hc4
    cases hx : lb (J 9 c) (idxK (cW I) k)
    · rw [decide_eq_false]
      intro z
      exact absurd ((this.mp z).symm.trans hx) (by decide)
    · rw [decide_eq_true (this.mpr hx)]
  rw [hb 0 (by omega), hb 1 (by omega), hb 2 (by omega), hb 3 (by omega), hu 0 (by omega), hu 1 (by omega), hu 2 (by omega), hu 3 (by omega)]
  rcases (show picN f k = 0 ∨ picN f k = 1 ∨ picN f k = 2 ∨ picN f k = 3 by omega) with z | z | z | z
  all_goals
    rw [z]
    simp
    split
    · rename_i h9
      rw [if_neg (by omega)]
    · rename_i h9
      rw [if_pos (by omega)]
/-- known cells -/
theorem kc_C (hd : dimC I) (ha : allC I J) (hs : sR (cW I) (cH I) (cC I) I J 2 f) : pop 64 (lb (J 1 3 &&& (dbt (J 9) ^^^ -1))) = kcN f (cW I * cH I) := by
  obtain ⟨hw, hh, hc, -⟩ := dimC_of hd
  have hwh := wh_le hw.2 hh.2
  have e1 : pop 64 (lb (J 1 3 &&& (dbt (J 9) ^^^ -1))) = pop 64 (fun i => lb (J 1 3) i && !lb (dbt (J 9)) i && decide (i < 64)) := pop_c fun i hi => by
    rw [l_and, l_xor, l_m1 i hi, decide_eq_true hi, Bool.and_true, Bool.xor_true]
  rw [e1, pop_idx hw hh.2 (fun i hb => by
    rw [Bool.and_eq_true, Bool.and_eq_true, decide_eq_true_eq] at hb
    exact (ha i hb.2).mp hb.1.1)]
  unfold kcN
  refine sm_cong fun k hk => ?_
  have hdm := idx_dm (k := k) hw
  have hkd := k_dm hk
  have hi64 : idxK (cW I) k < 64 := by omega
  rw [one_u hd hs hk]
  have h1 : lb (J 1 3) (idxK (cW I) k) = true := (ha _ hi64).mpr (by omega)
  have h2 := dbt_iff (J := J) (o := 8) (y := k / cW I) hkd.1
  rw [Nat.div_add_mod, show 8 * (k / cW I) + k % cW I = idxK (cW I) k from rfl] at h2
  rw [h1, decide_eq_true hi64, Bool.and_true, Bool.true_and]
  by_cases h5 : 1 < bc (cu (cW I) J 8 k)
  · rw [if_pos h5, h2.mpr h5]
    rfl
  · rw [if_neg h5, bnt (fun z => h5 (h2.mp z))]
    rfl
/-- filled cells -/
theorem pt_C (hd : dimC I) (ha : allC I J) (hs : sR (cW I) (cH I) (cC I) I J 2 f) : pop 64 (lb (J 1 3 &&& (J 11 0 ^^^ -1))) = ptN f (cW I * cH I) := by
  obtain ⟨hw, hh, hc, -⟩ := dimC_of hd
  have hwh := wh_le hw.2 hh.2
  have e1 : pop 64 (lb (J 1 3 &&& (J 11 0 ^^^ -1))) = pop 64 (fun i => lb (J 1 3) i && !lb (J 11 0) i && decide (i < 64)) := pop_c fun i hi => by
    rw [l_and, l_xor, l_m1 i hi, decide_eq_true hi, Bool.and_true, Bool.xor_true]
  rw [e1, pop_idx hw hh.2 (fun i hb => by
    rw [Bool.and_eq_true, Bool.and_eq_true, decide_eq_true_eq] at hb
    exact (ha i hb.2).mp hb.1.1)]
  unfold ptN
  refine sm_cong fun k hk => ?_
  have hdm := idx_dm (k := k) hw
  have hkd := k_dm hk
  have hi64 : idxK (cW I) k < 64 := by omega
  have h1 : lb (J 1 3) (idxK (cW I) k) = true := (ha _ hi64).mpr (by omega)
  have hv := picv (by omega) hs.2.2.2 (show k < 64 by omega)
  have h2 := pc_at hw hh.2 hs.2.2.1 hk (show 0 < 4 by omega)
  rw [h1, decide_eq_true hi64, Bool.and_true, Bool.true_and, hv.1]
  unfold pos1
  by_cases h5 : picN f k = 0
  · have h6 : nI (picN f k) ≤ nI 0 := by
      rw [nI_le' (by omega) (by omega)]
      omega
    rw [h2.mpr h5]
    exact (if_pos h6).symm
  · have h6 : ¬ nI (picN f k) ≤ nI 0 := by
      rw [nI_le' (by omega) (by omega)]
      omega
    rw [bnt (fun z => h5 (h2.mp z))]
    exact (if_neg h6).symm
theorem cl_C (hd : dimC I) (hs : sR (cW I) (cH I) (cC I) I J 2 f) : pop 32 (bt (I 3 0)) = sm (fun l => lwN (cW I) (cH I) f 0 l) (cH I + cW I) := by
  obtain ⟨hw, hh, hc, -⟩ := dimC_of hd
  have e1 : pop 32 (bt (I 3 0)) = pop 32 (fun i => bt (I 3 0) i && decide (i < cH I + cW I)) := pop_c fun i hi => by
    cases hx : bt (I 3 0) i
    · rfl
    · rw [decide_eq_true (hs.1.2.1 i hx)]
      rfl
  rw [e1, pop_cut (by omega)]
  refine (sm_pop fun l hl => ?_).symm
  have hb := has_b (show l < 16 by omega) hs
  unfold lwN
  have e2 : (f l = nI 1 ∧ (0 = 0 ∨ fitP (cW I) (cH I) f l)) ↔ bt (I 3 0) l = true := by
    rw [hb.1, hb.2]
    simp
  have e3 := b01C_c e2
  cases hx : bt (I 3 0) l
  · rw [hx] at e3
    refine e3.trans ?_
    exact if_neg (by decide)
  · rw [hx] at e3
    refine e3.trans ?_
    exact if_pos rfl
theorem bl_C (hd : dimC I) (hs : sR (cW I) (cH I) (cC I) I J 2 f) : smN 16 (fun i => nv (I 4 i)) = blN f (cH I + cW I) := by
  obtain ⟨hw, hh, hc, -⟩ := dimC_of hd
  have e : ∀ l, l < 16 → nv (I 4 l) = manyN f l := fun l hl => by
    obtain ⟨g1, g2, g3, g4⟩ := hs.1.1 l hl
    rw [cf_sz hl] at g3
    rw [g3]
    rfl
  have hz : ∀ l, l < 16 → cH I + cW I ≤ l → manyN f l = 0 := fun l hl h2 => by
    obtain ⟨g1, g2, g3, g4⟩ := hs.1.1 l hl
    have hb := has_b hl hs
    have h0 : f l = nI 0 := Classical.byContradiction fun z => by
      have := hs.1.2.1 l (hb.1.mpr z)
      omega
    unfold manyN
    rw [g1.2.2.1 h0]
    rfl
  have e2 : ∀ n, n ≤ 16 → smN n (fun i => nv (I 4 i)) = sm (fun l => manyN f l) n := by
    intro n
    induction n with
    | zero => exact fun _ => rfl
    | succ n ih =>
      intro hn
      show smN n _ + nv (I 4 n) = sm _ n + manyN f n
      rw [ih (by omega), e n (by omega)]
  have e3 : ∀ d, cH I + cW I + d ≤ 16 → sm (fun l => manyN f l) (cH I + cW I + d) = sm (fun l => manyN f l) (cH I + cW I) := by
    intro d
    induction d with
    | zero => exact fun _ => rfl
    | succ d ih =>
      intro hd16
      show sm _ (cH I + cW I + d) + manyN f (cH I + cW I + d) = _
      rw [ih (by omega), hz _ (by omega) (by omega)]
      rfl
  rw [e2 16 (Nat.le_refl _)]
  have := e3 (16 - (cH I + cW I)) (by omega)
  rw [show cH I + cW I + (16 - (cH I + cW I)) = 16 by omega] at this
  exact this
end OM_
