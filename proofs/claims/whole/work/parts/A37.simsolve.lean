/-! the class: solve (own work) -/
def p_Out_solve : fx_Pr := fx_pr [(0, .aload_n 0, 0), (1, .getfield 61, 0), (4, .getfield 238, 0), (7, .aload_n 0, 0), (8, .getfield 19, 0), (11, .getfield 132, 0), (14, .invokevirtual 239, 0), (17, .aload_n 0, 0), (18, .getfield 70, 0), (21, .iconst 1, 0), (22, .invokevirtual 267, 0), (25, .ifCond .ne 5, 30), (28, .iconst (-1), 0), (29, .ireturn, 0), (30, .aload_n 0, 0), (31, .getfield 26, 0), (34, .aload_n 0, 0), (35, .getfield 19, 0), (38, .invokevirtual 111, 0), (41, .aload_n 0, 0), (42, .getfield 19, 0), (45, .getfield 188, 0), (48, .aload_n 0, 0), (49, .getfield 70, 0), (52, .getfield 270, 0), (55, .invokevirtual 239, 0), (58, .aload_n 0, 0), (59, .invokevirtual 273, 0), (62, .ireturn, 0)]
theorem pk_Out_solve : fx_prOK b_Out_solve p_Out_solve := fx_pr_ok (by decide +kernel)
theorem q_Out_solve_0 {nL : Nat} {M : fx_M} {ev : fx_Env} {ret : Option FieldType} {P : fx_P} {stops : List (Nat × Nat)} {K : fx_K} {n : Nat} {L : List (Option Value)} {st : List Value} {I : fx_MI} {J : fx_MJ} {R : fx_MR} {X : Nat → fx_K} (hX : fx_isX nL M ev ret P p_Out_solve stops K X) (hs : fx_stop stops 0 = none) : X (n + 1) 0 L st I J R = fx_S nL M ev ret P (.aload_n 0) 0 0 L st I J R (X n) := hX.1 _ _ _ _ _ _ _ _ _ rfl hs
theorem q_Out_solve_1 {nL : Nat} {M : fx_M} {ev : fx_Env} {ret : Option FieldType} {P : fx_P} {stops : List (Nat × Nat)} {K : fx_K} {n : Nat} {L : List (Option Value)} {st : List Value} {I : fx_MI} {J : fx_MJ} {R : fx_MR} {X : Nat → fx_K} (hX : fx_isX nL M ev ret P p_Out_solve stops K X) (hs : fx_stop stops 1 = none) : X (n + 1) 1 L st I J R = fx_S nL M ev ret P (.getfield 61) 0 1 L st I J R (X n) := hX.1 _ _ _ _ _ _ _ _ _ rfl hs
theorem q_Out_solve_4 {nL : Nat} {M : fx_M} {ev : fx_Env} {ret : Option FieldType} {P : fx_P} {stops : List (Nat × Nat)} {K : fx_K} {n : Nat} {L : List (Option Value)} {st : List Value} {I : fx_MI} {J : fx_MJ} {R : fx_MR} {X : Nat → fx_K} (hX : fx_isX nL M ev ret P p_Out_solve stops K X) (hs : fx_stop stops 4 = none) : X (n + 1) 4 L st I J R = fx_S nL M ev ret P (.getfield 238) 0 4 L st I J R (X n) := hX.1 _ _ _ _ _ _ _ _ _ rfl hs
theorem q_Out_solve_7 {nL : Nat} {M : fx_M} {ev : fx_Env} {ret : Option FieldType} {P : fx_P} {stops : List (Nat × Nat)} {K : fx_K} {n : Nat} {L : List (Option Value)} {st : List Value} {I : fx_MI} {J : fx_MJ} {R : fx_MR} {X : Nat → fx_K} (hX : fx_isX nL M ev ret P p_Out_solve stops K X) (hs : fx_stop stops 7 = none) : X (n + 1) 7 L st I J R = fx_S nL M ev ret P (.aload_n 0) 0 7 L st I J R (X n) := hX.1 _ _ _ _ _ _ _ _ _ rfl hs
theorem q_Out_solve_8 {nL : Nat} {M : fx_M} {ev : fx_Env} {ret : Option FieldType} {P : fx_P} {stops : List (Nat × Nat)} {K : fx_K} {n : Nat} {L : List (Option Value)} {st : List Value} {I : fx_MI} {J : fx_MJ} {R : fx_MR} {X : Nat → fx_K} (hX : fx_isX nL M ev ret P p_Out_solve stops K X) (hs : fx_stop stops 8 = none) : X (n + 1) 8 L st I J R = fx_S nL M ev ret P (.getfield 19) 0 8 L st I J R (X n) := hX.1 _ _ _ _ _ _ _ _ _ rfl hs
theorem q_Out_solve_11 {nL : Nat} {M : fx_M} {ev : fx_Env} {ret : Option FieldType} {P : fx_P} {stops : List (Nat × Nat)} {K : fx_K} {n : Nat} {L : List (Option Value)} {st : List Value} {I : fx_MI} {J : fx_MJ} {R : fx_MR} {X : Nat → fx_K} (hX : fx_isX nL M ev ret P p_Out_solve stops K X) (hs : fx_stop stops 11 = none) : X (n + 1) 11 L st I J R = fx_S nL M ev ret P (.getfield 132) 0 11 L st I J R (X n) := hX.1 _ _ _ _ _ _ _ _ _ rfl hs
theorem q_Out_solve_14 {nL : Nat} {M : fx_M} {ev : fx_Env} {ret : Option FieldType} {P : fx_P} {stops : List (Nat × Nat)} {K : fx_K} {n : Nat} {L : List (Option Value)} {st : List Value} {I : fx_MI} {J : fx_MJ} {R : fx_MR} {X : Nat → fx_K} (hX : fx_isX nL M ev ret P p_Out_solve stops K X) (hs : fx_stop stops 14 = none) : X (n + 1) 14 L st I J R = fx_S nL M ev ret P (.invokevirtual 239) 0 14 L st I J R (X n) := hX.1 _ _ _ _ _ _ _ _ _ rfl hs
theorem q_Out_solve_17 {nL : Nat} {M : fx_M} {ev : fx_Env} {ret : Option FieldType} {P : fx_P} {stops : List (Nat × Nat)} {K : fx_K} {n : Nat} {L : List (Option Value)} {st : List Value} {I : fx_MI} {J : fx_MJ} {R : fx_MR} {X : Nat → fx_K} (hX : fx_isX nL M ev ret P p_Out_solve stops K X) (hs : fx_stop stops 17 = none) : X (n + 1) 17 L st I J R = fx_S nL M ev ret P (.aload_n 0) 0 17 L st I J R (X n) := hX.1 _ _ _ _ _ _ _ _ _ rfl hs
theorem q_Out_solve_18 {nL : Nat} {M : fx_M} {ev : fx_Env} {ret : Option FieldType} {P : fx_P} {stops : List (Nat × Nat)} {K : fx_K} {n : Nat} {L : List (Option Value)} {st : List Value} {I : fx_MI} {J : fx_MJ} {R : fx_MR} {X : Nat → fx_K} (hX : fx_isX nL M ev ret P p_Out_solve stops K X) (hs : fx_stop stops 18 = none) : X (n + 1) 18 L st I J R = fx_S nL M ev ret P (.getfield 70) 0 18 L st I J R (X n) := hX.1 _ _ _ _ _ _ _ _ _ rfl hs
theorem q_Out_solve_21 {nL : Nat} {M : fx_M} {ev : fx_Env} {ret : Option FieldType} {P : fx_P} {stops : List (Nat × Nat)} {K : fx_K} {n : Nat} {L : List (Option Value)} {st : List Value} {I : fx_MI} {J : fx_MJ} {R : fx_MR} {X : Nat → fx_K} (hX : fx_isX nL M ev ret P p_Out_solve stops K X) (hs : fx_stop stops 21 = none) : X (n + 1) 21 L st I J R = fx_S nL M ev ret P (.iconst 1) 0 21 L st I J R (X n) := hX.1 _ _ _ _ _ _ _ _ _ rfl hs
theorem q_Out_solve_22 {nL : Nat} {M : fx_M} {ev : fx_Env} {ret : Option FieldType} {P : fx_P} {stops : List (Nat × Nat)} {K : fx_K} {n : Nat} {L : List (Option Value)} {st : List Value} {I : fx_MI} {J : fx_MJ} {R : fx_MR} {X : Nat → fx_K} (hX : fx_isX nL M ev ret P p_Out_solve stops K X) (hs : fx_stop stops 22 = none) : X (n + 1) 22 L st I J R = fx_S nL M ev ret P (.invokevirtual 267) 0 22 L st I J R (X n) := hX.1 _ _ _ _ _ _ _ _ _ rfl hs
theorem q_Out_solve_25 {nL : Nat} {M : fx_M} {ev : fx_Env} {ret : Option FieldType} {P : fx_P} {stops : List (Nat × Nat)} {K : fx_K} {n : Nat} {L : List (Option Value)} {st : List Value} {I : fx_MI} {J : fx_MJ} {R : fx_MR} {x : Int32} {X : Nat → fx_K} (hX : fx_isX nL M ev ret P p_Out_solve stops K X) (hs : fx_stop stops 25 = none) : X (n + 1) 25 L (.int x :: st) I J R = ((¬ x = 0 → X n 30 L st I J R) ∧ (x = 0 → X n 28 L st I J R)) := fx_q_ifne hX rfl hs rfl
theorem q_Out_solve_28 {nL : Nat} {M : fx_M} {ev : fx_Env} {ret : Option FieldType} {P : fx_P} {stops : List (Nat × Nat)} {K : fx_K} {n : Nat} {L : List (Option Value)} {st : List Value} {I : fx_MI} {J : fx_MJ} {R : fx_MR} {X : Nat → fx_K} (hX : fx_isX nL M ev ret P p_Out_solve stops K X) (hs : fx_stop stops 28 = none) : X (n + 1) 28 L st I J R = fx_S nL M ev ret P (.iconst (-1)) 0 28 L st I J R (X n) := hX.1 _ _ _ _ _ _ _ _ _ rfl hs
theorem q_Out_solve_29 {nL : Nat} {M : fx_M} {ev : fx_Env} {ret : Option FieldType} {P : fx_P} {stops : List (Nat × Nat)} {K : fx_K} {n : Nat} {L : List (Option Value)} {st : List Value} {I : fx_MI} {J : fx_MJ} {R : fx_MR} {X : Nat → fx_K} (hX : fx_isX nL M ev ret P p_Out_solve stops K X) (hs : fx_stop stops 29 = none) : X (n + 1) 29 L st I J R = fx_S nL M ev ret P (.ireturn) 0 29 L st I J R (X n) := hX.1 _ _ _ _ _ _ _ _ _ rfl hs
theorem q_Out_solve_30 {nL : Nat} {M : fx_M} {ev : fx_Env} {ret : Option FieldType} {P : fx_P} {stops : List (Nat × Nat)} {K : fx_K} {n : Nat} {L : List (Option Value)} {st : List Value} {I : fx_MI} {J : fx_MJ} {R : fx_MR} {X : Nat → fx_K} (hX : fx_isX nL M ev ret P p_Out_solve stops K X) (hs : fx_stop stops 30 = none) : X (n + 1) 30 L st I J R = fx_S nL M ev ret P (.aload_n 0) 0 30 L st I J R (X n) := hX.1 _ _ _ _ _ _ _ _ _ rfl hs
theorem q_Out_solve_31 {nL : Nat} {M : fx_M} {ev : fx_Env} {ret : Option FieldType} {P : fx_P} {stops : List (Nat × Nat)} {K : fx_K} {n : Nat} {L : List (Option Value)} {st : List Value} {I : fx_MI} {J : fx_MJ} {R : fx_MR} {X : Nat → fx_K} (hX : fx_isX nL M ev ret P p_Out_solve stops K X) (hs : fx_stop stops 31 = none) : X (n + 1) 31 L st I J R = fx_S nL M ev ret P (.getfield 26) 0 31 L st I J R (X n) := hX.1 _ _ _ _ _ _ _ _ _ rfl hs
theorem q_Out_solve_34 {nL : Nat} {M : fx_M} {ev : fx_Env} {ret : Option FieldType} {P : fx_P} {stops : List (Nat × Nat)} {K : fx_K} {n : Nat} {L : List (Option Value)} {st : List Value} {I : fx_MI} {J : fx_MJ} {R : fx_MR} {X : Nat → fx_K} (hX : fx_isX nL M ev ret P p_Out_solve stops K X) (hs : fx_stop stops 34 = none) : X (n + 1) 34 L st I J R = fx_S nL M ev ret P (.aload_n 0) 0 34 L st I J R (X n) := hX.1 _ _ _ _ _ _ _ _ _ rfl hs
theorem q_Out_solve_35 {nL : Nat} {M : fx_M} {ev : fx_Env} {ret : Option FieldType} {P : fx_P} {stops : List (Nat × Nat)} {K : fx_K} {n : Nat} {L : List (Option Value)} {st : List Value} {I : fx_MI} {J : fx_MJ} {R : fx_MR} {X : Nat → fx_K} (hX : fx_isX nL M ev ret P p_Out_solve stops K X) (hs : fx_stop stops 35 = none) : X (n + 1) 35 L st I J R = fx_S nL M ev ret P (.getfield 19) 0 35 L st I J R (X n) := hX.1 _ _ _ _ _ _ _ _ _ rfl hs
theorem q_Out_solve_38 {nL : Nat} {M : fx_M} {ev : fx_Env} {ret : Option FieldType} {P : fx_P} {stops : List (Nat × Nat)} {K : fx_K} {n : Nat} {L : List (Option Value)} {st : List Value} {I : fx_MI} {J : fx_MJ} {R : fx_MR} {X : Nat → fx_K} (hX : fx_isX nL M ev ret P p_Out_solve stops K X) (hs : fx_stop stops 38 = none) : X (n + 1) 38 L st I J R = fx_S nL M ev ret P (.invokevirtual 111) 0 38 L st I J R (X n) := hX.1 _ _ _ _ _ _ _ _ _ rfl hs
theorem q_Out_solve_41 {nL : Nat} {M : fx_M} {ev : fx_Env} {ret : Option FieldType} {P : fx_P} {stops : List (Nat × Nat)} {K : fx_K} {n : Nat} {L : List (Option Value)} {st : List Value} {I : fx_MI} {J : fx_MJ} {R : fx_MR} {X : Nat → fx_K} (hX : fx_isX nL M ev ret P p_Out_solve stops K X) (hs : fx_stop stops 41 = none) : X (n + 1) 41 L st I J R = fx_S nL M ev ret P (.aload_n 0) 0 41 L st I J R (X n) := hX.1 _ _ _ _ _ _ _ _ _ rfl hs
theorem q_Out_solve_42 {nL : Nat} {M : fx_M} {ev : fx_Env} {ret : Option FieldType} {P : fx_P} {stops : List (Nat × Nat)} {K : fx_K} {n : Nat} {L : List (Option Value)} {st : List Value} {I : fx_MI} {J : fx_MJ} {R : fx_MR} {X : Nat → fx_K} (hX : fx_isX nL M ev ret P p_Out_solve stops K X) (hs : fx_stop stops 42 = none) : X (n + 1) 42 L st I J R = fx_S nL M ev ret P (.getfield 19) 0 42 L st I J R (X n) := hX.1 _ _ _ _ _ _ _ _ _ rfl hs
theorem q_Out_solve_45 {nL : Nat} {M : fx_M} {ev : fx_Env} {ret : Option FieldType} {P : fx_P} {stops : List (Nat × Nat)} {K : fx_K} {n : Nat} {L : List (Option Value)} {st : List Value} {I : fx_MI} {J : fx_MJ} {R : fx_MR} {X : Nat → fx_K} (hX : fx_isX nL M ev ret P p_Out_solve stops K X) (hs : fx_stop stops 45 = none) : X (n + 1) 45 L st I J R = fx_S nL M ev ret P (.getfield 188) 0 45 L st I J R (X n) := hX.1 _ _ _ _ _ _ _ _ _ rfl hs
theorem q_Out_solve_48 {nL : Nat} {M : fx_M} {ev : fx_Env} {ret : Option FieldType} {P : fx_P} {stops : List (Nat × Nat)} {K : fx_K} {n : Nat} {L : List (Option Value)} {st : List Value} {I : fx_MI} {J : fx_MJ} {R : fx_MR} {X : Nat → fx_K} (hX : fx_isX nL M ev ret P p_Out_solve stops K X) (hs : fx_stop stops 48 = none) : X (n + 1) 48 L st I J R = fx_S nL M ev ret P (.aload_n 0) 0 48 L st I J R (X n) := hX.1 _ _ _ _ _ _ _ _ _ rfl hs
theorem q_Out_solve_49 {nL : Nat} {M : fx_M} {ev : fx_Env} {ret : Option FieldType} {P : fx_P} {stops : List (Nat × Nat)} {K : fx_K} {n : Nat} {L : List (Option Value)} {st : List Value} {I : fx_MI} {J : fx_MJ} {R : fx_MR} {X : Nat → fx_K} (hX : fx_isX nL M ev ret P p_Out_solve stops K X) (hs : fx_stop stops 49 = none) : X (n + 1) 49 L st I J R = fx_S nL M ev ret P (.getfield 70) 0 49 L st I J R (X n) := hX.1 _ _ _ _ _ _ _ _ _ rfl hs
theorem q_Out_solve_52 {nL : Nat} {M : fx_M} {ev : fx_Env} {ret : Option FieldType} {P : fx_P} {stops : List (Nat × Nat)} {K : fx_K} {n : Nat} {L : List (Option Value)} {st : List Value} {I : fx_MI} {J : fx_MJ} {R : fx_MR} {X : Nat → fx_K} (hX : fx_isX nL M ev ret P p_Out_solve stops K X) (hs : fx_stop stops 52 = none) : X (n + 1) 52 L st I J R = fx_S nL M ev ret P (.getfield 270) 0 52 L st I J R (X n) := hX.1 _ _ _ _ _ _ _ _ _ rfl hs
theorem q_Out_solve_55 {nL : Nat} {M : fx_M} {ev : fx_Env} {ret : Option FieldType} {P : fx_P} {stops : List (Nat × Nat)} {K : fx_K} {n : Nat} {L : List (Option Value)} {st : List Value} {I : fx_MI} {J : fx_MJ} {R : fx_MR} {X : Nat → fx_K} (hX : fx_isX nL M ev ret P p_Out_solve stops K X) (hs : fx_stop stops 55 = none) : X (n + 1) 55 L st I J R = fx_S nL M ev ret P (.invokevirtual 239) 0 55 L st I J R (X n) := hX.1 _ _ _ _ _ _ _ _ _ rfl hs
theorem q_Out_solve_58 {nL : Nat} {M : fx_M} {ev : fx_Env} {ret : Option FieldType} {P : fx_P} {stops : List (Nat × Nat)} {K : fx_K} {n : Nat} {L : List (Option Value)} {st : List Value} {I : fx_MI} {J : fx_MJ} {R : fx_MR} {X : Nat → fx_K} (hX : fx_isX nL M ev ret P p_Out_solve stops K X) (hs : fx_stop stops 58 = none) : X (n + 1) 58 L st I J R = fx_S nL M ev ret P (.aload_n 0) 0 58 L st I J R (X n) := hX.1 _ _ _ _ _ _ _ _ _ rfl hs
theorem q_Out_solve_59 {nL : Nat} {M : fx_M} {ev : fx_Env} {ret : Option FieldType} {P : fx_P} {stops : List (Nat × Nat)} {K : fx_K} {n : Nat} {L : List (Option Value)} {st : List Value} {I : fx_MI} {J : fx_MJ} {R : fx_MR} {X : Nat → fx_K} (hX : fx_isX nL M ev ret P p_Out_solve stops K X) (hs : fx_stop stops 59 = none) : X (n + 1) 59 L st I J R = fx_S nL M ev ret P (.invokevirtual 273) 0 59 L st I J R (X n) := hX.1 _ _ _ _ _ _ _ _ _ rfl hs
theorem q_Out_solve_62 {nL : Nat} {M : fx_M} {ev : fx_Env} {ret : Option FieldType} {P : fx_P} {stops : List (Nat × Nat)} {K : fx_K} {n : Nat} {L : List (Option Value)} {st : List Value} {I : fx_MI} {J : fx_MJ} {R : fx_MR} {X : Nat → fx_K} (hX : fx_isX nL M ev ret P p_Out_solve stops K X) (hs : fx_stop stops 62 = none) : X (n + 1) 62 L st I J R = fx_S nL M ev ret P (.ireturn) 0 62 L st I J R (X n) := hX.1 _ _ _ _ _ _ _ _ _ rfl hs
def pre_Out_solve (n : Nat) : fx_Pre := fun st I J R => (∃ b, R = R0C b) ∧ (match st with
  | [.ref 0] => relE I J ∧ n ≤ 2343752
  | _ => False)
theorem pi_Out_solve {n : Nat} {st : List Value} {I : fx_MI} {J : fx_MJ} {R : fx_MR} (h : pre_Out_solve n st I J R) : (∃ b, R = R0C b) ∧ st = [.ref 0] ∧ (relE I J ∧ n ≤ 2343752) := by
  unfold pre_Out_solve at h
  obtain ⟨h0, h⟩ := h
  split at h
  · exact ⟨h0, rfl, h⟩
  · cases h
def post_Out_solve (n : Nat) : List Value → fx_MI → fx_MJ → fx_MR → Nat → Option Value → fx_MI → fx_MJ → fx_MR → Prop := fun st I J R n' r I' J' R' => n' ≤ 2343752 ∧ simP (post_M_solve [.ref 0]) I J r I' J' R'
theorem pz_Out_solve {st : List Value} {I : fx_MI} {J : fx_MJ} {R : fx_MR} (n : Nat) (h : pre_Out_solve n st I J R) : ∃ q r, st = .ref q :: r ∧ (MC n).2.2.1 q = some (.inl 0) ∧ r.length = 0 := by
  obtain ⟨_, rfl, _⟩ := pi_Out_solve h
  exact ⟨_, _, rfl, rfl, rfl⟩
def v_Out_solve (n : Nat) : fx_Env := [(.getfield 61, fx_tget (MC n) 0 6), (.getfield 238, fx_tget (MC n) 8 3), (.getfield 19, fx_tget (MC n) 0 1), (.getfield 132, fx_tget (MC n) 2 1), (.invokevirtual 239, fx_tcall 2 (pre_Layer_copyFrom n) (post_Layer_copyFrom n)), (.getfield 70, fx_tget (MC n) 0 7), (.getfield 26, fx_tget (MC n) 0 2), (.invokevirtual 111, fx_tcall 2 (pre_History_record n) (post_History_record n)), (.getfield 188, fx_tget (MC n) 2 2), (.getfield 270, fx_tget (MC n) 9 4), (.invokevirtual 273, fx_tcall 1 (pre_Out_filledCells n) (post_Out_filledCells n))]
abbrev rm_Out_solve : Room := { frames := 6, cells := 1, slots := 2343752, locals := 136 }
abbrev ws_Out_solve : List Cond := Cond.code y_Out_solve b_Out_solve 1 (some .int) :: w_C
theorem vk_Out_solve {l : Launch} {n : Nat} : fx_EV l R_Out ws_Out_solve rm_Out_solve (MC n) 1 b_Out_solve (v_Out_solve n) := (fx_EV_cons e_Out_g61 (fx_EV_cons e_Out_g238 (fx_EV_cons e_Out_g19 (fx_EV_cons e_Out_g132 (fx_EV_cons (e_Out_c239 (by decide)) (fx_EV_cons e_Out_g70 (fx_EV_cons e_Out_g26 (fx_EV_cons (e_Out_c111 (by decide)) (fx_EV_cons e_Out_g188 (fx_EV_cons e_Out_g270 (fx_EV_cons (e_Out_c273 (by decide)) fx_EV_nil)))))))))))
theorem g_Out_solve (l : Launch) : fx_MetG l y_Out_solve ws_Out_solve rm_Out_solve pre_Out_solve post_Out_solve := by
  refine fx_metG (by decide) rfl fun n st I J R h => ?_
  obtain ⟨⟨b, rfl⟩, rfl, hp⟩ := pi_Out_solve h
  clear h
  refine ⟨Nat.le_of_ble_eq_true rfl, fun p e s m args below meth c D cA al hC hK => ?_⟩
  obtain ⟨⟨Ir0, hr0⟩, hn⟩ := hp
  obtain ⟨hw, hh2, hc, e0, e1, e2⟩ := dimC_of hr0.1.1.1
  have hwh := wh_le hw.2 hh2.2
  obtain ⟨hz, hrm, hne, hck, -, -⟩ := sR_pre hr0.1.1.1 hr0.2.1
  refine fx_runV (fx_clG (P := post_Out_solve n [.ref 0] I J (R0C b) n) (Post := post_Out_solve n [.ref 0] I J (R0C b)) hC hK vk_Out_solve pk_Out_solve (fun q hq => Or.inr hq) ⟨Nat.zero_le _, Nat.zero_le _⟩ (Or.inl ⟨rfl, rfl, rfl⟩) (fun _ _ => rfl) (fun _ _ _ _ h => h)) (stops := [(22, 1)]) (K := fx_at 22 (fun L st I' J' R' => L = [some (.ref 0)] ∧ R' = R0C b ∧ st = [.int (nI 1), .ref 117] ∧ I' = I ∧ J' = fillL J 114 0 4 (fun c => J 9 c))) ?_ 120 fun X hX => ?_
  · rintro pc L st I' J' R' ⟨rfl, rfl, rfl, rfl, rfl, rfl⟩
    have j9 : ∀ d, d < 4 → fillL J 114 0 4 (fun c => J 9 c) 114 d = J 9 d := fun d hd => by rw [fillL_in (Nat.zero_le _) (by omega), Nat.sub_zero]
    have jo : ∀ q d, q ≠ 114 → fillL J 114 0 4 (fun c => J 9 c) q d = J q d := fun q d hq => by rw [fillL_row hq]
    generalize hJ1 : fillL J 114 0 4 (fun c => J 9 c) = J1 at j9 jo
    have hcu1 : cu (cW I') J1 113 = cu (cW I') J 8 := funext fun k => by
      unfold cu
      exact mskF_c fun d hd => by rw [j9 d hd]
    have hly1 : lyO (cW I') (cH I') J1 113 := fun d hd i hi hb => hz.2.2.2 d hd i hi (by rw [← j9 d hd]; exact hb)
    refine fx_callVG (C := R_Search) (ci := 9) (q := 117) (k := 1) (idx := 267) (as := [.int (nI 1)]) (rest := []) hC hK (fun q hq => Or.inr hq) rfl (g_Search_run l) (w_C_G (w_C_h11 43 rfl) (w_C_h11 44 rfl) (w_C_h11 45 rfl) (w_C_h8 48 rfl) (w_C_h9 33 rfl)) rfl ⟨rfl, rfl⟩ (by decide) ⟨by decide, by decide⟩ ⟨by decide, by decide⟩ (by decide +kernel) ⟨⟨b, rfl⟩, ⟨⟨hz.1, hz.2.1, hz.2.2.1, hly1⟩, hrm, by rw [hcu1]; exact hne⟩, 1, rfl, by omega, by omega, hn⟩ rfl rfl (by decide) (fun al' hal => ⟨?_, rfl⟩) fun r I2 J2 R2 n' al' kc' ks' hq hal hg => ?_
    · show [(0, Value.ref (al' 0))] = [(0, Value.ref (al 0))]
      rw [hal 0 (by decide)]
    · obtain ⟨rfl, hn', hf2, hJ2, hly2, cnt, rfl, hcap, hpic⟩ := hq
      rw [nv_nI (by omega), hcu1] at hcap
      rw [hcu1] at hpic
      refine fx_tailG (n := n') (al := al') (P := post_Out_solve n [.ref 0] I' J (R0C b) n') hC hK vk_Out_solve pk_Out_solve (fun q hq => Or.inr hq) (gw_le hg) hg hal (fun _ _ _ _ h => h) ?_
      refine fx_run0 60 fun X hX => ?_
      have hc1 : cnt ≤ 1 := hcap.1
      simp only [q_Out_solve_0 hX rfl, q_Out_solve_1 hX rfl, q_Out_solve_4 hX rfl, q_Out_solve_7 hX rfl, q_Out_solve_8 hX rfl, q_Out_solve_11 hX rfl, q_Out_solve_14 hX rfl, q_Out_solve_17 hX rfl, q_Out_solve_18 hX rfl, q_Out_solve_21 hX rfl, q_Out_solve_22 hX rfl, q_Out_solve_25 hX rfl, q_Out_solve_28 hX rfl, q_Out_solve_29 hX rfl, q_Out_solve_30 hX rfl, q_Out_solve_31 hX rfl, q_Out_solve_34 hX rfl, q_Out_solve_35 hX rfl, q_Out_solve_38 hX rfl, q_Out_solve_41 hX rfl, q_Out_solve_42 hX rfl, q_Out_solve_45 hX rfl, q_Out_solve_48 hX rfl, q_Out_solve_49 hX rfl, q_Out_solve_52 hX rfl, q_Out_solve_55 hX rfl, q_Out_solve_58 hX rfl, q_Out_solve_59 hX rfl, q_Out_solve_62 hX rfl, fs_aload_n0, fs_aload_n1, fs_aload_n2, fs_aload_n3, fs_getfield, fs_iconst, fs_ifCond, fs_invokevirtual, fs_ireturn, v_Out_solve, ci_1, ci_m1, pre_Layer_copyFrom, post_Layer_copyFrom, pre_History_record, post_History_record, pre_Out_filledCells, post_Out_filledCells, kd_C_0_6, pl_C_0, R0C_0_6, pl_C_112, kd_C_8_3, R0C_112_3, pl_C_113, kd_C_0_1, R0C_0_1, pl_C_2, kd_C_2_1, R0C_2_1, pl_C_8, kd_C_0_7, R0C_0_7, pl_C_117, kd_C_0_2, R0C_0_2, pl_C_12, kd_C_2_2, R0C_2_2, pl_C_10, kd_C_9_4, R0C_117_4, pl_C_118, fx_oi_s, fx_ol_s, fx_or_s, fx_do_s, fx_lg_0, fx_lg_s, fx_ls_0, fx_ls_s, fx_ls_n0, fx_ls_ns, fx_en, fx_sz, Value.category, fx_nl, fx_lk, fx_tget, fx_tput, fx_tcall, fx_tldc, fx_fv, va_rf, fx_cat, fx_in, fx_cnd, fx_len, fx_narI, fx_narZ0, fx_narZ1, fx_narZb, zb_e, zb_ne, Option.some.injEq, Value.int.injEq, Value.long.injEq, Value.ref.injEq, List.cons.injEq, Nat.reduceAdd, Nat.reduceLeDiff, Nat.le_refl, List.take, List.drop, List.reverse_cons, List.reverse_nil, List.nil_append, List.cons_append, List.append_nil, List.map_cons, List.map_nil, List.sum_cons, List.sum_nil, List.length_cons, List.length_nil, Option.toList, fx_all4, forall_const, true_and, and_true, not_true_eq_false, not_false_eq_true, false_implies, true_implies, ne_eq, reduceCtorEq, Nat.reduceEqDiff, ite_true, ite_false, reduceIte, Instr.getfield.injEq, Instr.putfield.injEq, Instr.invokevirtual.injEq, Instr.invokestatic.injEq, Instr.ldc2_w.injEq, fx_tcopy, Instr.ldc.injEq, Instr.ldc_w.injEq, exists_eq_left, exists_prop, R0C_ex]
      simp (disch := omega) only [lit, nI_add, nI_mul', nI_sub', nI_clamp, nI_lt', nI_le', nI_eq', nI_in', iinc1, zb_n0, nI_div', nI_rem2, true_and, and_true, Nat.reduceEqDiff, Nat.reduceLeDiff, Nat.one_ne_zero, Nat.zero_ne_one, not_false_eq_true, not_true_eq_false, false_implies, true_implies, forall_const, Nat.zero_add, Nat.add_zero, nv_nI, up_eq, up_ne, fill_ne, nI_clamp, nI_add]
      have hrel2 : ∀ Ir Ir2, REL I' J Ir → eqS Ir Ir2 → REL I2 J2 Ir2 := fun Ir Ir2 hr he => REL_q hr (frQ_c hf2) (fun q d hq => (hJ2 q d (by omega) (by omega) (by omega)).trans (jo q d (by omega))) hly2 he
      have hh2' := REL_his (hrel2 Ir0 Ir0 hr0 eqS_rfl)
      obtain ⟨w1, w2, w3, -, -⟩ := cfr_d (frQ_c hf2)
      have hsol : ∀ Ir, REL I' J Ir → ∀ p, sol (cW I') (cH I') (cf I' 3) (cu (cW I') J 8) p ↔ solI Ir p := fun Ir hr p => by
        obtain ⟨⟨f1, f2, f3⟩, -⟩ := REL_ref hr
        obtain ⟨-, -, -, -, hmu, hcq⟩ := sR_pre hr.1.1.1 hr.2.1
        unfold solI
        rw [f1, f2]
        exact (cq_sol hcq (by omega)).trans (sol_ucong fun k hk => (hmu k hk).symm)
      refine ⟨fun h0 => ⟨⟨rfl, hh2'⟩, ⟨rfl, rfl⟩, ?_⟩, fun h0 => ⟨hn', ⟨b, rfl⟩, fun Ir hr Jr r2 Ir2 Jr2 Rr2 hq => ?_⟩⟩
      · rintro r I3 J3 R3 ⟨hJ3, rfl, rfl, rfl⟩
        simp only [q_Out_solve_0 hX rfl, q_Out_solve_1 hX rfl, q_Out_solve_4 hX rfl, q_Out_solve_7 hX rfl, q_Out_solve_8 hX rfl, q_Out_solve_11 hX rfl, q_Out_solve_14 hX rfl, q_Out_solve_17 hX rfl, q_Out_solve_18 hX rfl, q_Out_solve_21 hX rfl, q_Out_solve_22 hX rfl, q_Out_solve_25 hX rfl, q_Out_solve_28 hX rfl, q_Out_solve_29 hX rfl, q_Out_solve_30 hX rfl, q_Out_solve_31 hX rfl, q_Out_solve_34 hX rfl, q_Out_solve_35 hX rfl, q_Out_solve_38 hX rfl, q_Out_solve_41 hX rfl, q_Out_solve_42 hX rfl, q_Out_solve_45 hX rfl, q_Out_solve_48 hX rfl, q_Out_solve_49 hX rfl, q_Out_solve_52 hX rfl, q_Out_solve_55 hX rfl, q_Out_solve_58 hX rfl, q_Out_solve_59 hX rfl, q_Out_solve_62 hX rfl, fs_aload_n0, fs_aload_n1, fs_aload_n2, fs_aload_n3, fs_getfield, fs_iconst, fs_ifCond, fs_invokevirtual, fs_ireturn, v_Out_solve, ci_1, ci_m1, pre_Layer_copyFrom, post_Layer_copyFrom, pre_History_record, post_History_record, pre_Out_filledCells, post_Out_filledCells, kd_C_0_6, pl_C_0, R0C_0_6, pl_C_112, kd_C_8_3, R0C_112_3, pl_C_113, kd_C_0_1, R0C_0_1, pl_C_2, kd_C_2_1, R0C_2_1, pl_C_8, kd_C_0_7, R0C_0_7, pl_C_117, kd_C_0_2, R0C_0_2, pl_C_12, kd_C_2_2, R0C_2_2, pl_C_10, kd_C_9_4, R0C_117_4, pl_C_118, fx_oi_s, fx_ol_s, fx_or_s, fx_do_s, fx_lg_0, fx_lg_s, fx_ls_0, fx_ls_s, fx_ls_n0, fx_ls_ns, fx_en, fx_sz, Value.category, fx_nl, fx_lk, fx_tget, fx_tput, fx_tcall, fx_tldc, fx_fv, va_rf, fx_cat, fx_in, fx_cnd, fx_len, fx_narI, fx_narZ0, fx_narZ1, fx_narZb, zb_e, zb_ne, Option.some.injEq, Value.int.injEq, Value.long.injEq, Value.ref.injEq, List.cons.injEq, Nat.reduceAdd, Nat.reduceLeDiff, Nat.le_refl, List.take, List.drop, List.reverse_cons, List.reverse_nil, List.nil_append, List.cons_append, List.append_nil, List.map_cons, List.map_nil, List.sum_cons, List.sum_nil, List.length_cons, List.length_nil, Option.toList, fx_all4, forall_const, true_and, and_true, not_true_eq_false, not_false_eq_true, false_implies, true_implies, ne_eq, reduceCtorEq, Nat.reduceEqDiff, ite_true, ite_false, reduceIte, Instr.getfield.injEq, Instr.putfield.injEq, Instr.invokevirtual.injEq, Instr.invokestatic.injEq, Instr.ldc2_w.injEq, fx_tcopy, Instr.ldc.injEq, Instr.ldc_w.injEq, exists_eq_left, exists_prop, R0C_ex]
        rw [← hJ3]
        refine ⟨hn', ⟨b, rfl⟩, fun Ir hr Jr r2 Ir2 Jr2 Rr2 hq => ?_⟩
        obtain ⟨⟨f1, f2, f3⟩, -⟩ := REL_ref hr
        obtain ⟨p', hp1, hp2⟩ := hpic (by omega)
        have hp3 := lexF_cong (hsol Ir hr) hp1
        obtain ⟨rfl, -, ⟨k1, -⟩ | ⟨p, k1, k2, rfl, k4⟩⟩ := hq
        · exact absurd hp3.1 (k1 p')
        · rw [f1, f2] at k1 k2 k4
          have hone := lexF_one hp3 k1
          have hr2 := hrel2 Ir Ir hr eqS_rfl
          have eJ : ∀ q d, (q < 12 ∨ 94 ≤ q) → recJ I2 J2 2 q d = J2 q d := fun q d hq => recJ_ne hq hh2'
          have j11 : ∀ d, d < 4 → J3 11 d = J2 119 d := fun d hd => by
            rw [hJ3, fillL_in (Nat.zero_le _) (by omega), Nat.sub_zero]
            exact eJ 119 d (by omega)
          have hin : ∀ k, k < cW I' * cH I' → Ir2 1 (352 + k) = nI (p k) := fun k hk => by
            rw [k4.1]
            unfold picd
            rw [fill_in (by omega) (by omega), Nat.add_sub_cancel_left]
          have hout : ∀ q j, (q ≠ 1 ∨ j < 352 ∨ 352 + cW I' * cH I' ≤ j) → picd (keepsM Ir) (cW I' * cH I') p q j = keepsM Ir q j := fun q j hq => by
            unfold picd
            exact if_neg (by omega)
          have hpk : ∀ k, k < cW I' * cH I' → picN (Ir2 1) k = p k := fun k hk => by
            have := k2 k hk
            unfold picN
            rw [hin k hk, nv_nI (by omega)]
          have hle : ∀ k, k < cW I' * cH I' → p k ≤ cC I' := fun k hk => by
            have h5 := hp1.1.1 k hk
            have h9 := k2 k hk
            rw [hone k hk] at h5
            have h6 := (hr.2.1.2.1.2.1 (p k))
            refine Classical.byContradiction fun z => ?_
            obtain ⟨hkm, hkd⟩ := k_dm hk
            have h7 := h6 (by omega) h9 (8 * (k / cW I') + k % cW I') (by omega)
            have h8 := (cu_bit (w := cW I') (J := J) (o := 8) (k := k) h9).mp h5
            exact absurd (h7.symm.trans h8) (by decide)
          have hrel3 : REL (recI I2 2) J3 Ir2 := by
            refine REL_nowP hr2 (fun q j h11 _ => by rw [hJ3, fillL_row h11]) ?_ (fun j hj => by rw [k4.1, hout 1 j (by omega), keepsM_row]) (fun j => (k4.2.1 j).trans (hout 2 j (by omega))) (fun j => (k4.2.2.1 j).trans (hout 10 j (by omega))) (fun j g1 g2 g3 => (k4.2.2.2 j g1 g2 g3).trans (hout 0 j (by omega))) ?_ (fun k hk => ?_)
            · rw [w1, w2]
              exact fun d hd i hi hb => hly2 d hd i hi (by
                rw [hJ3, fillL_row (by omega), eJ 114 d (by omega)] at hb
                exact hb)
            · rw [w1, w2]
              intro d i hd hi
              rw [j11 d hd, hp2 d i hd hi]
              constructor
              · rintro ⟨k, z1, z2, z3⟩
                exact ⟨k, z1, z2, by rw [hpk k z1, ← hone k z1]; exact z3⟩
              · rintro ⟨k, z1, z2, z3⟩
                exact ⟨k, z1, z2, by rw [hone k z1, ← hpk k z1]; exact z3⟩
            · rw [w3]
              by_cases h5 : k < cW I' * cH I'
              · rw [hin k h5]
                exact ⟨p k, by have := hle k h5; omega, rfl⟩
              · rw [k4.1, hout 1 _ (by omega), keepsM_row]
                exact (hr.2.1.2.2.2 k hk).2
          refine ⟨rfl, ?_, hrel3⟩
          have hpt := pt_C hrel3.1.1.1 hrel3.1.2.1 hrel3.2.1
          have eW : cW (recI I2 2) = cW I' := by rw [← w1]; unfold cW; rw [recI_ne (by omega) hh2']
          have eH : cH (recI I2 2) = cH I' := by rw [← w2]; unfold cH; rw [recI_ne (by omega) hh2']
          rw [eW, eH] at hpt
          rw [f1, f2, hpt]
          have : ptN (Ir2 1) (cW I' * cH I') = posN1 p (cW I' * cH I') := sm_cong fun k hk => by
            have h9 := k2 k hk
            show pos1 (Ir2 1 (352 + k)) = _
            rw [hin k hk]
            unfold pos1
            by_cases h5 : 0 < p k
            · rw [if_pos h5, if_neg (by rw [nI_le' (by omega) (by omega)]; omega)]
            · rw [if_neg h5, if_pos (by rw [nI_le' (by omega) (by omega)]; omega)]
          rw [this]
      · obtain ⟨rfl, -, ⟨k1, rfl, k3⟩ | ⟨p, k1, -⟩⟩ := hq
        · exact ⟨rfl, rfl, hrel2 Ir Ir2 hr k3⟩
        · obtain ⟨a1, e9, a2, a3, a4⟩ := hcap
          obtain ⟨k, hk, -⟩ := a4 (by omega) p ((hsol Ir hr p).mpr k1.1)
          omega
  · simp only [q_Out_solve_0 hX rfl, q_Out_solve_1 hX rfl, q_Out_solve_4 hX rfl, q_Out_solve_7 hX rfl, q_Out_solve_8 hX rfl, q_Out_solve_11 hX rfl, q_Out_solve_14 hX rfl, q_Out_solve_17 hX rfl, q_Out_solve_18 hX rfl, q_Out_solve_21 hX rfl, hX.2 _ 22 1 _ _ _ _ _ rfl, q_Out_solve_25 hX rfl, q_Out_solve_28 hX rfl, q_Out_solve_29 hX rfl, q_Out_solve_30 hX rfl, q_Out_solve_31 hX rfl, q_Out_solve_34 hX rfl, q_Out_solve_35 hX rfl, q_Out_solve_38 hX rfl, q_Out_solve_41 hX rfl, q_Out_solve_42 hX rfl, q_Out_solve_45 hX rfl, q_Out_solve_48 hX rfl, q_Out_solve_49 hX rfl, q_Out_solve_52 hX rfl, q_Out_solve_55 hX rfl, q_Out_solve_58 hX rfl, q_Out_solve_59 hX rfl, q_Out_solve_62 hX rfl, fs_aload_n0, fs_aload_n1, fs_aload_n2, fs_aload_n3, fs_getfield, fs_iconst, fs_ifCond, fs_invokevirtual, fs_ireturn, v_Out_solve, ci_1, ci_m1, pre_Layer_copyFrom, post_Layer_copyFrom, pre_History_record, post_History_record, pre_Out_filledCells, post_Out_filledCells, kd_C_0_6, pl_C_0, R0C_0_6, pl_C_112, kd_C_8_3, R0C_112_3, pl_C_113, kd_C_0_1, R0C_0_1, pl_C_2, kd_C_2_1, R0C_2_1, pl_C_8, kd_C_0_7, R0C_0_7, pl_C_117, kd_C_0_2, R0C_0_2, pl_C_12, kd_C_2_2, R0C_2_2, pl_C_10, kd_C_9_4, R0C_117_4, pl_C_118, fx_oi_s, fx_ol_s, fx_or_s, fx_do_s, fx_lg_0, fx_lg_s, fx_ls_0, fx_ls_s, fx_ls_n0, fx_ls_ns, fx_en, fx_sz, Value.category, fx_nl, fx_lk, fx_tget, fx_tput, fx_tcall, fx_tldc, fx_fv, va_rf, fx_cat, fx_in, fx_cnd, fx_len, fx_narI, fx_narZ0, fx_narZ1, fx_narZb, zb_e, zb_ne, Option.some.injEq, Value.int.injEq, Value.long.injEq, Value.ref.injEq, List.cons.injEq, Nat.reduceAdd, Nat.reduceLeDiff, Nat.le_refl, List.take, List.drop, List.reverse_cons, List.reverse_nil, List.nil_append, List.cons_append, List.append_nil, List.map_cons, List.map_nil, List.sum_cons, List.sum_nil, List.length_cons, List.length_nil, Option.toList, fx_all4, forall_const, true_and, and_true, not_true_eq_false, not_false_eq_true, false_implies, true_implies, ne_eq, reduceCtorEq, Nat.reduceEqDiff, ite_true, ite_false, reduceIte, Instr.getfield.injEq, Instr.putfield.injEq, Instr.invokevirtual.injEq, Instr.invokestatic.injEq, Instr.ldc2_w.injEq, fx_tcopy, Instr.ldc.injEq, Instr.ldc_w.injEq, exists_eq_left, exists_prop, R0C_ex]
    exact ⟨⟨rfl, rfl⟩, rfl, rfl, rfl, rfl, rfl, rfl⟩

