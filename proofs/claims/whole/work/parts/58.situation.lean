/-! the class: situations; the grid's numbers (own work) -/
def cpSJ (J : fx_MJ) (q o : Nat) : fx_MJ := fillL (fillL J (q + 7) 0 4 (fun c => J (o + 7) c)) (q + 9) 0 4 (fun c => fillL J (q + 7) 0 4 (fun c => J (o + 7) c) (o + 9) c)
def p_Situation_copyFrom : fx_Pr := fx_pr [(0, .aload_n 0, 0), (1, .getfield 10, 0), (4, .aload_n 1, 0), (5, .getfield 10, 0), (8, .invokevirtual 26, 0), (11, .aload_n 0, 0), (12, .getfield 19, 0), (15, .aload_n 1, 0), (16, .getfield 19, 0), (19, .invokevirtual 30, 0), (22, .aload_n 0, 0), (23, .getfield 23, 0), (26, .aload_n 1, 0), (27, .getfield 23, 0), (30, .invokevirtual 30, 0), (33, .return_, 0)]
theorem pk_Situation_copyFrom : fx_prOK b_Situation_copyFrom p_Situation_copyFrom := fx_pr_ok (by decide +kernel)
theorem q_Situation_copyFrom_0 {nL : Nat} {M : fx_M} {ev : fx_Env} {ret : Option FieldType} {P : fx_P} {stops : List (Nat × Nat)} {K : fx_K} {n : Nat} {L : List (Option Value)} {st : List Value} {I : fx_MI} {J : fx_MJ} {R : fx_MR} {X : Nat → fx_K} (hX : fx_isX nL M ev ret P p_Situation_copyFrom stops K X) (hs : fx_stop stops 0 = none) : X (n + 1) 0 L st I J R = fx_S nL M ev ret P (.aload_n 0) 0 0 L st I J R (X n) := hX.1 _ _ _ _ _ _ _ _ _ rfl hs
theorem q_Situation_copyFrom_1 {nL : Nat} {M : fx_M} {ev : fx_Env} {ret : Option FieldType} {P : fx_P} {stops : List (Nat × Nat)} {K : fx_K} {n : Nat} {L : List (Option Value)} {st : List Value} {I : fx_MI} {J : fx_MJ} {R : fx_MR} {X : Nat → fx_K} (hX : fx_isX nL M ev ret P p_Situation_copyFrom stops K X) (hs : fx_stop stops 1 = none) : X (n + 1) 1 L st I J R = fx_S nL M ev ret P (.getfield 10) 0 1 L st I J R (X n) := hX.1 _ _ _ _ _ _ _ _ _ rfl hs
theorem q_Situation_copyFrom_4 {nL : Nat} {M : fx_M} {ev : fx_Env} {ret : Option FieldType} {P : fx_P} {stops : List (Nat × Nat)} {K : fx_K} {n : Nat} {L : List (Option Value)} {st : List Value} {I : fx_MI} {J : fx_MJ} {R : fx_MR} {X : Nat → fx_K} (hX : fx_isX nL M ev ret P p_Situation_copyFrom stops K X) (hs : fx_stop stops 4 = none) : X (n + 1) 4 L st I J R = fx_S nL M ev ret P (.aload_n 1) 0 4 L st I J R (X n) := hX.1 _ _ _ _ _ _ _ _ _ rfl hs
theorem q_Situation_copyFrom_5 {nL : Nat} {M : fx_M} {ev : fx_Env} {ret : Option FieldType} {P : fx_P} {stops : List (Nat × Nat)} {K : fx_K} {n : Nat} {L : List (Option Value)} {st : List Value} {I : fx_MI} {J : fx_MJ} {R : fx_MR} {X : Nat → fx_K} (hX : fx_isX nL M ev ret P p_Situation_copyFrom stops K X) (hs : fx_stop stops 5 = none) : X (n + 1) 5 L st I J R = fx_S nL M ev ret P (.getfield 10) 0 5 L st I J R (X n) := hX.1 _ _ _ _ _ _ _ _ _ rfl hs
theorem q_Situation_copyFrom_8 {nL : Nat} {M : fx_M} {ev : fx_Env} {ret : Option FieldType} {P : fx_P} {stops : List (Nat × Nat)} {K : fx_K} {n : Nat} {L : List (Option Value)} {st : List Value} {I : fx_MI} {J : fx_MJ} {R : fx_MR} {X : Nat → fx_K} (hX : fx_isX nL M ev ret P p_Situation_copyFrom stops K X) (hs : fx_stop stops 8 = none) : X (n + 1) 8 L st I J R = fx_S nL M ev ret P (.invokevirtual 26) 0 8 L st I J R (X n) := hX.1 _ _ _ _ _ _ _ _ _ rfl hs
theorem q_Situation_copyFrom_11 {nL : Nat} {M : fx_M} {ev : fx_Env} {ret : Option FieldType} {P : fx_P} {stops : List (Nat × Nat)} {K : fx_K} {n : Nat} {L : List (Option Value)} {st : List Value} {I : fx_MI} {J : fx_MJ} {R : fx_MR} {X : Nat → fx_K} (hX : fx_isX nL M ev ret P p_Situation_copyFrom stops K X) (hs : fx_stop stops 11 = none) : X (n + 1) 11 L st I J R = fx_S nL M ev ret P (.aload_n 0) 0 11 L st I J R (X n) := hX.1 _ _ _ _ _ _ _ _ _ rfl hs
theorem q_Situation_copyFrom_12 {nL : Nat} {M : fx_M} {ev : fx_Env} {ret : Option FieldType} {P : fx_P} {stops : List (Nat × Nat)} {K : fx_K} {n : Nat} {L : List (Option Value)} {st : List Value} {I : fx_MI} {J : fx_MJ} {R : fx_MR} {X : Nat → fx_K} (hX : fx_isX nL M ev ret P p_Situation_copyFrom stops K X) (hs : fx_stop stops 12 = none) : X (n + 1) 12 L st I J R = fx_S nL M ev ret P (.getfield 19) 0 12 L st I J R (X n) := hX.1 _ _ _ _ _ _ _ _ _ rfl hs
theorem q_Situation_copyFrom_15 {nL : Nat} {M : fx_M} {ev : fx_Env} {ret : Option FieldType} {P : fx_P} {stops : List (Nat × Nat)} {K : fx_K} {n : Nat} {L : List (Option Value)} {st : List Value} {I : fx_MI} {J : fx_MJ} {R : fx_MR} {X : Nat → fx_K} (hX : fx_isX nL M ev ret P p_Situation_copyFrom stops K X) (hs : fx_stop stops 15 = none) : X (n + 1) 15 L st I J R = fx_S nL M ev ret P (.aload_n 1) 0 15 L st I J R (X n) := hX.1 _ _ _ _ _ _ _ _ _ rfl hs
theorem q_Situation_copyFrom_16 {nL : Nat} {M : fx_M} {ev : fx_Env} {ret : Option FieldType} {P : fx_P} {stops : List (Nat × Nat)} {K : fx_K} {n : Nat} {L : List (Option Value)} {st : List Value} {I : fx_MI} {J : fx_MJ} {R : fx_MR} {X : Nat → fx_K} (hX : fx_isX nL M ev ret P p_Situation_copyFrom stops K X) (hs : fx_stop stops 16 = none) : X (n + 1) 16 L st I J R = fx_S nL M ev ret P (.getfield 19) 0 16 L st I J R (X n) := hX.1 _ _ _ _ _ _ _ _ _ rfl hs
theorem q_Situation_copyFrom_19 {nL : Nat} {M : fx_M} {ev : fx_Env} {ret : Option FieldType} {P : fx_P} {stops : List (Nat × Nat)} {K : fx_K} {n : Nat} {L : List (Option Value)} {st : List Value} {I : fx_MI} {J : fx_MJ} {R : fx_MR} {X : Nat → fx_K} (hX : fx_isX nL M ev ret P p_Situation_copyFrom stops K X) (hs : fx_stop stops 19 = none) : X (n + 1) 19 L st I J R = fx_S nL M ev ret P (.invokevirtual 30) 0 19 L st I J R (X n) := hX.1 _ _ _ _ _ _ _ _ _ rfl hs
theorem q_Situation_copyFrom_22 {nL : Nat} {M : fx_M} {ev : fx_Env} {ret : Option FieldType} {P : fx_P} {stops : List (Nat × Nat)} {K : fx_K} {n : Nat} {L : List (Option Value)} {st : List Value} {I : fx_MI} {J : fx_MJ} {R : fx_MR} {X : Nat → fx_K} (hX : fx_isX nL M ev ret P p_Situation_copyFrom stops K X) (hs : fx_stop stops 22 = none) : X (n + 1) 22 L st I J R = fx_S nL M ev ret P (.aload_n 0) 0 22 L st I J R (X n) := hX.1 _ _ _ _ _ _ _ _ _ rfl hs
theorem q_Situation_copyFrom_23 {nL : Nat} {M : fx_M} {ev : fx_Env} {ret : Option FieldType} {P : fx_P} {stops : List (Nat × Nat)} {K : fx_K} {n : Nat} {L : List (Option Value)} {st : List Value} {I : fx_MI} {J : fx_MJ} {R : fx_MR} {X : Nat → fx_K} (hX : fx_isX nL M ev ret P p_Situation_copyFrom stops K X) (hs : fx_stop stops 23 = none) : X (n + 1) 23 L st I J R = fx_S nL M ev ret P (.getfield 23) 0 23 L st I J R (X n) := hX.1 _ _ _ _ _ _ _ _ _ rfl hs
theorem q_Situation_copyFrom_26 {nL : Nat} {M : fx_M} {ev : fx_Env} {ret : Option FieldType} {P : fx_P} {stops : List (Nat × Nat)} {K : fx_K} {n : Nat} {L : List (Option Value)} {st : List Value} {I : fx_MI} {J : fx_MJ} {R : fx_MR} {X : Nat → fx_K} (hX : fx_isX nL M ev ret P p_Situation_copyFrom stops K X) (hs : fx_stop stops 26 = none) : X (n + 1) 26 L st I J R = fx_S nL M ev ret P (.aload_n 1) 0 26 L st I J R (X n) := hX.1 _ _ _ _ _ _ _ _ _ rfl hs
theorem q_Situation_copyFrom_27 {nL : Nat} {M : fx_M} {ev : fx_Env} {ret : Option FieldType} {P : fx_P} {stops : List (Nat × Nat)} {K : fx_K} {n : Nat} {L : List (Option Value)} {st : List Value} {I : fx_MI} {J : fx_MJ} {R : fx_MR} {X : Nat → fx_K} (hX : fx_isX nL M ev ret P p_Situation_copyFrom stops K X) (hs : fx_stop stops 27 = none) : X (n + 1) 27 L st I J R = fx_S nL M ev ret P (.getfield 23) 0 27 L st I J R (X n) := hX.1 _ _ _ _ _ _ _ _ _ rfl hs
theorem q_Situation_copyFrom_30 {nL : Nat} {M : fx_M} {ev : fx_Env} {ret : Option FieldType} {P : fx_P} {stops : List (Nat × Nat)} {K : fx_K} {n : Nat} {L : List (Option Value)} {st : List Value} {I : fx_MI} {J : fx_MJ} {R : fx_MR} {X : Nat → fx_K} (hX : fx_isX nL M ev ret P p_Situation_copyFrom stops K X) (hs : fx_stop stops 30 = none) : X (n + 1) 30 L st I J R = fx_S nL M ev ret P (.invokevirtual 30) 0 30 L st I J R (X n) := hX.1 _ _ _ _ _ _ _ _ _ rfl hs
theorem q_Situation_copyFrom_33 {nL : Nat} {M : fx_M} {ev : fx_Env} {ret : Option FieldType} {P : fx_P} {stops : List (Nat × Nat)} {K : fx_K} {n : Nat} {L : List (Option Value)} {st : List Value} {I : fx_MI} {J : fx_MJ} {R : fx_MR} {X : Nat → fx_K} (hX : fx_isX nL M ev ret P p_Situation_copyFrom stops K X) (hs : fx_stop stops 33 = none) : X (n + 1) 33 L st I J R = fx_S nL M ev ret P (.return_) 0 33 L st I J R (X n) := hX.1 _ _ _ _ _ _ _ _ _ rfl hs
def pre_Situation_copyFrom (n : Nat) : fx_Pre := fun st I J R => (∃ b, R = R0C b) ∧ (match st with
  | [.ref q, .ref o] => isK 2 q ∧ (isK 2 o)
  | _ => False)
theorem pi_Situation_copyFrom {n : Nat} {st : List Value} {I : fx_MI} {J : fx_MJ} {R : fx_MR} (h : pre_Situation_copyFrom n st I J R) : (∃ b, R = R0C b) ∧ ∃ q, ∃ o, st = [.ref q, .ref o] ∧ (isK 2 q ∧ (isK 2 o)) := by
  unfold pre_Situation_copyFrom at h
  obtain ⟨h0, h⟩ := h
  split at h
  · exact ⟨h0, _, _, rfl, h⟩
  · cases h
def post_Situation_copyFrom (n : Nat) : fx_Post := fun st I J R r I' J' R' => match st with
  | [.ref q, .ref o] => r = none ∧ I' = cpC I (q + 1) (o + 1) ∧ J' = cpSJ J q o ∧ R' = R
  | _ => True
theorem pz_Situation_copyFrom {st : List Value} {I : fx_MI} {J : fx_MJ} {R : fx_MR} (n : Nat) (h : pre_Situation_copyFrom n st I J R) : ∃ q r, st = .ref q :: r ∧ (MC n).2.2.1 q = some (.inl 2) ∧ r.length = 1 := by
  obtain ⟨_, _, _, rfl, h1, _⟩ := pi_Situation_copyFrom h
  exact ⟨_, _, rfl, isK_pl h1 n, rfl⟩
def v_Situation_copyFrom (n : Nat) : fx_Env := [(.getfield 10, fx_tget (MC n) 2 0), (.invokevirtual 26, fx_tcall 2 (pre_Clues_copyFrom n) (post_Clues_copyFrom n)), (.getfield 19, fx_tget (MC n) 2 1), (.invokevirtual 30, fx_tcall 2 (pre_Layer_copyFrom n) (post_Layer_copyFrom n)), (.getfield 23, fx_tget (MC n) 2 2)]
abbrev rm_Situation_copyFrom : Room := { frames := 2, cells := 0, slots := 0, locals := 81 }
abbrev ws_Situation_copyFrom : List Cond := Cond.code y_Situation_copyFrom b_Situation_copyFrom 2 none :: w_C
theorem e_Situation_c26 {l : Launch} {c0 : Cond} {rm : Room} {n nL : Nat} {cc : ByteArray} (hR : rm_Clues_copyFrom.frames + 1 ≤ rm.frames ∧ 8 + (2 + 11) + rm_Clues_copyFrom.locals ≤ rm.locals) : fx_E1 l R_Situation (c0 :: w_C) rm (MC n) nL cc (.invokevirtual 26) (fx_tcall 2 (pre_Clues_copyFrom n) (post_Clues_copyFrom n)) := fx_callV (ci := 3) (C := R_Clues) rfl (c_Clues_copyFrom l n) (w_C_G (w_C_h6 51 rfl) (w_C_h6 52 rfl) (w_C_h6 53 rfl) (w_C_h0 44 rfl) (w_C_h6 10 rfl)) rfl ⟨rfl, rfl⟩ (by decide) hR (fun st I J R h => pz_Clues_copyFrom n h) (MC_ok n)
theorem e_Situation_c30 {l : Launch} {c0 : Cond} {rm : Room} {n nL : Nat} {cc : ByteArray} (hR : rm_Layer_copyFrom.frames + 1 ≤ rm.frames ∧ 8 + (3 + 11) + rm_Layer_copyFrom.locals ≤ rm.locals) : fx_E1 l R_Situation (c0 :: w_C) rm (MC n) nL cc (.invokevirtual 30) (fx_tcall 2 (pre_Layer_copyFrom n) (post_Layer_copyFrom n)) := fx_callV (ci := 4) (C := R_Layer) rfl (c_Layer_copyFrom l n) (w_C_G (w_C_h6 54 rfl) (w_C_h3 51 rfl) (w_C_h3 52 rfl) (w_C_h3 17 rfl) (w_C_h3 9 rfl)) rfl ⟨rfl, rfl⟩ (by decide) hR (fun st I J R h => pz_Layer_copyFrom n h) (MC_ok n)
theorem vk_Situation_copyFrom {l : Launch} {n : Nat} : fx_EV l R_Situation ws_Situation_copyFrom rm_Situation_copyFrom (MC n) 2 b_Situation_copyFrom (v_Situation_copyFrom n) := (fx_EV_cons e_Situation_g10 (fx_EV_cons (e_Situation_c26 (by decide)) (fx_EV_cons e_Situation_g19 (fx_EV_cons (e_Situation_c30 (by decide)) (fx_EV_cons e_Situation_g23 fx_EV_nil)))))
theorem r_Situation_copyFrom (n : Nat) (st : List Value) (I : fx_MI) (J : fx_MJ) (R : fx_MR) (h : pre_Situation_copyFrom n st I J R) : fx_sz st ≤ 2 ∧ fx_R 2 (MC n) (v_Situation_copyFrom n) none (post_Situation_copyFrom n st I J R) p_Situation_copyFrom 0 (fx_en st) [] I J R := by
  obtain ⟨⟨b, rfl⟩, q, o, rfl, ⟨hthis, hp⟩⟩ := pi_Situation_copyFrom h
  clear h
  refine ⟨Nat.le_of_ble_eq_true rfl, ?_⟩
  have f1 := isK_pl hthis n
  obtain ⟨r1, r2, r3⟩ := (sit_at hthis).1 b
  obtain ⟨k1, k2, k3⟩ := (sit_at hthis).2
  have g1 := isK_pl hp n
  obtain ⟨s1, s2, s3⟩ := (sit_at hp).1 b
  obtain ⟨l1, l2, l3⟩ := (sit_at hp).2
  have hpost : post_Situation_copyFrom n [.ref q, .ref o] I J (R0C b) none (cpC I (q + 1) (o + 1)) (cpSJ J q o) (R0C b) := ⟨rfl, rfl, rfl, rfl⟩
  refine fx_run0 90 fun X hX => ?_
  simp only [q_Situation_copyFrom_0 hX rfl, q_Situation_copyFrom_1 hX rfl, q_Situation_copyFrom_4 hX rfl, q_Situation_copyFrom_5 hX rfl, q_Situation_copyFrom_8 hX rfl, q_Situation_copyFrom_11 hX rfl, q_Situation_copyFrom_12 hX rfl, q_Situation_copyFrom_15 hX rfl, q_Situation_copyFrom_16 hX rfl, q_Situation_copyFrom_19 hX rfl, q_Situation_copyFrom_22 hX rfl, q_Situation_copyFrom_23 hX rfl, q_Situation_copyFrom_26 hX rfl, q_Situation_copyFrom_27 hX rfl, q_Situation_copyFrom_30 hX rfl, q_Situation_copyFrom_33 hX rfl, fs_aload_n0, fs_aload_n1, fs_aload_n2, fs_aload_n3, fs_getfield, fs_invokevirtual, fs_return_, v_Situation_copyFrom, pre_Clues_copyFrom, post_Clues_copyFrom, pre_Layer_copyFrom, post_Layer_copyFrom, kd_C_2_0, pl_C_2, R0C_2_0, pl_C_3, kd_C_2_1, R0C_2_1, pl_C_8, kd_C_2_2, R0C_2_2, pl_C_10, fx_oi_s, fx_ol_s, fx_or_s, fx_do_s, fx_lg_0, fx_lg_s, fx_ls_0, fx_ls_s, fx_ls_n0, fx_ls_ns, fx_en, fx_sz, Value.category, fx_nl, fx_lk, fx_tget, fx_tput, fx_tcall, fx_tldc, fx_fv, va_rf, fx_cat, fx_in, fx_cnd, fx_len, fx_narI, fx_narZ0, fx_narZ1, fx_narZb, zb_e, zb_ne, Option.some.injEq, Value.int.injEq, Value.long.injEq, Value.ref.injEq, List.cons.injEq, Nat.reduceAdd, Nat.reduceLeDiff, Nat.le_refl, List.take, List.drop, List.reverse_cons, List.reverse_nil, List.nil_append, List.cons_append, List.append_nil, List.map_cons, List.map_nil, List.sum_cons, List.sum_nil, List.length_cons, List.length_nil, Option.toList, fx_all4, forall_const, true_and, and_true, not_true_eq_false, not_false_eq_true, false_implies, true_implies, ne_eq, reduceCtorEq, Nat.reduceEqDiff, ite_true, ite_false, reduceIte, Instr.getfield.injEq, Instr.putfield.injEq, Instr.invokevirtual.injEq, Instr.invokestatic.injEq, Instr.ldc2_w.injEq, fx_tcopy, Instr.ldc.injEq, Instr.ldc_w.injEq, exists_eq_left, exists_prop, R0C_ex, f1, r1, r2, r3, g1, s1, s2, s3, k1, k2, k3, l1, l2, l3]
  exact hpost
theorem c_Situation_copyFrom (l : Launch) (n : Nat) : fx_Met l y_Situation_copyFrom ws_Situation_copyFrom rm_Situation_copyFrom (MC n) (pre_Situation_copyFrom n) (post_Situation_copyFrom n) := fx_met (MC_ok n) (MC_tys n) (by decide) rfl pk_Situation_copyFrom vk_Situation_copyFrom (fun st I J R h => r_Situation_copyFrom n st I J R h)

/-! the grid is at place 1: width, height, colors, all -/
def p_Grid_index : fx_Pr := fx_pr [(0, .bipush 8, 0), (2, .iload_n 1, 0), (3, .imul, 0), (4, .iload_n 0, 0), (5, .iadd, 0), (6, .ireturn, 0)]
theorem pk_Grid_index : fx_prOK b_Grid_index p_Grid_index := fx_pr_ok (by decide +kernel)
theorem q_Grid_index_0 {nL : Nat} {M : fx_M} {ev : fx_Env} {ret : Option FieldType} {P : fx_P} {stops : List (Nat × Nat)} {K : fx_K} {n : Nat} {L : List (Option Value)} {st : List Value} {I : fx_MI} {J : fx_MJ} {R : fx_MR} {X : Nat → fx_K} (hX : fx_isX nL M ev ret P p_Grid_index stops K X) (hs : fx_stop stops 0 = none) : X (n + 1) 0 L st I J R = fx_S nL M ev ret P (.bipush 8) 0 0 L st I J R (X n) := hX.1 _ _ _ _ _ _ _ _ _ rfl hs
theorem q_Grid_index_2 {nL : Nat} {M : fx_M} {ev : fx_Env} {ret : Option FieldType} {P : fx_P} {stops : List (Nat × Nat)} {K : fx_K} {n : Nat} {L : List (Option Value)} {st : List Value} {I : fx_MI} {J : fx_MJ} {R : fx_MR} {X : Nat → fx_K} (hX : fx_isX nL M ev ret P p_Grid_index stops K X) (hs : fx_stop stops 2 = none) : X (n + 1) 2 L st I J R = fx_S nL M ev ret P (.iload_n 1) 0 2 L st I J R (X n) := hX.1 _ _ _ _ _ _ _ _ _ rfl hs
theorem q_Grid_index_3 {nL : Nat} {M : fx_M} {ev : fx_Env} {ret : Option FieldType} {P : fx_P} {stops : List (Nat × Nat)} {K : fx_K} {n : Nat} {L : List (Option Value)} {st : List Value} {I : fx_MI} {J : fx_MJ} {R : fx_MR} {X : Nat → fx_K} (hX : fx_isX nL M ev ret P p_Grid_index stops K X) (hs : fx_stop stops 3 = none) : X (n + 1) 3 L st I J R = fx_S nL M ev ret P (.imul) 0 3 L st I J R (X n) := hX.1 _ _ _ _ _ _ _ _ _ rfl hs
theorem q_Grid_index_4 {nL : Nat} {M : fx_M} {ev : fx_Env} {ret : Option FieldType} {P : fx_P} {stops : List (Nat × Nat)} {K : fx_K} {n : Nat} {L : List (Option Value)} {st : List Value} {I : fx_MI} {J : fx_MJ} {R : fx_MR} {X : Nat → fx_K} (hX : fx_isX nL M ev ret P p_Grid_index stops K X) (hs : fx_stop stops 4 = none) : X (n + 1) 4 L st I J R = fx_S nL M ev ret P (.iload_n 0) 0 4 L st I J R (X n) := hX.1 _ _ _ _ _ _ _ _ _ rfl hs
theorem q_Grid_index_5 {nL : Nat} {M : fx_M} {ev : fx_Env} {ret : Option FieldType} {P : fx_P} {stops : List (Nat × Nat)} {K : fx_K} {n : Nat} {L : List (Option Value)} {st : List Value} {I : fx_MI} {J : fx_MJ} {R : fx_MR} {X : Nat → fx_K} (hX : fx_isX nL M ev ret P p_Grid_index stops K X) (hs : fx_stop stops 5 = none) : X (n + 1) 5 L st I J R = fx_S nL M ev ret P (.iadd) 0 5 L st I J R (X n) := hX.1 _ _ _ _ _ _ _ _ _ rfl hs
theorem q_Grid_index_6 {nL : Nat} {M : fx_M} {ev : fx_Env} {ret : Option FieldType} {P : fx_P} {stops : List (Nat × Nat)} {K : fx_K} {n : Nat} {L : List (Option Value)} {st : List Value} {I : fx_MI} {J : fx_MJ} {R : fx_MR} {X : Nat → fx_K} (hX : fx_isX nL M ev ret P p_Grid_index stops K X) (hs : fx_stop stops 6 = none) : X (n + 1) 6 L st I J R = fx_S nL M ev ret P (.ireturn) 0 6 L st I J R (X n) := hX.1 _ _ _ _ _ _ _ _ _ rfl hs
def pre_Grid_index (n : Nat) : fx_Pre := fun st I J R => (∃ b, R = R0C b) ∧ (match st with
  | [.int v, .int w] => True
  | _ => False)
theorem pi_Grid_index {n : Nat} {st : List Value} {I : fx_MI} {J : fx_MJ} {R : fx_MR} (h : pre_Grid_index n st I J R) : (∃ b, R = R0C b) ∧ ∃ v, ∃ w, st = [.int v, .int w] ∧ (True) := by
  unfold pre_Grid_index at h
  obtain ⟨h0, h⟩ := h
  split at h
  · exact ⟨h0, _, _, rfl, h⟩
  · cases h
def post_Grid_index (n : Nat) : fx_Post := fun st I J R r I' J' R' => match st with
  | [.int v, .int w] => r = some (.int (8 * w + v)) ∧ I' = I ∧ J' = J ∧ R' = R
  | _ => True
theorem pz_Grid_index {st : List Value} {I : fx_MI} {J : fx_MJ} {R : fx_MR} (n : Nat) (h : pre_Grid_index n st I J R) : st.length = 2 := by
  obtain ⟨_, _, _, rfl, _⟩ := pi_Grid_index h
  rfl
def v_Grid_index (n : Nat) : fx_Env := []
abbrev rm_Grid_index : Room := { frames := 0, cells := 0, slots := 0, locals := 0 }
abbrev ws_Grid_index : List Cond := Cond.code y_Grid_index b_Grid_index 2 (some .int) :: w_C
theorem vk_Grid_index {l : Launch} {n : Nat} : fx_EV l R_Grid ws_Grid_index rm_Grid_index (MC n) 2 b_Grid_index (v_Grid_index n) := fx_EV_nil
theorem r_Grid_index (n : Nat) (st : List Value) (I : fx_MI) (J : fx_MJ) (R : fx_MR) (h : pre_Grid_index n st I J R) : fx_sz st ≤ 2 ∧ fx_R 2 (MC n) (v_Grid_index n) (some .int) (post_Grid_index n st I J R) p_Grid_index 0 (fx_en st) [] I J R := by
  obtain ⟨⟨b, rfl⟩, v, w, rfl, -⟩ := pi_Grid_index h
  clear h
  refine ⟨Nat.le_of_ble_eq_true rfl, ?_⟩
  refine fx_run0 90 fun X hX => ?_
  simp only [q_Grid_index_0 hX rfl, q_Grid_index_2 hX rfl, q_Grid_index_3 hX rfl, q_Grid_index_4 hX rfl, q_Grid_index_5 hX rfl, q_Grid_index_6 hX rfl, fs_bipush, fs_iadd, fs_iload_n0, fs_iload_n1, fs_iload_n2, fs_iload_n3, fs_imul, fs_ireturn, v_Grid_index, cb_8, fx_oi_s, fx_ol_s, fx_or_s, fx_do_s, fx_lg_0, fx_lg_s, fx_ls_0, fx_ls_s, fx_ls_n0, fx_ls_ns, fx_en, fx_sz, Value.category, fx_nl, fx_lk, fx_tget, fx_tput, fx_tcall, fx_tldc, fx_fv, va_rf, fx_cat, fx_in, fx_cnd, fx_len, fx_narI, fx_narZ0, fx_narZ1, fx_narZb, zb_e, zb_ne, Option.some.injEq, Value.int.injEq, Value.long.injEq, Value.ref.injEq, List.cons.injEq, Nat.reduceAdd, Nat.reduceLeDiff, Nat.le_refl, List.take, List.drop, List.reverse_cons, List.reverse_nil, List.nil_append, List.cons_append, List.append_nil, List.map_cons, List.map_nil, List.sum_cons, List.sum_nil, List.length_cons, List.length_nil, Option.toList, fx_all4, forall_const, true_and, and_true, not_true_eq_false, not_false_eq_true, false_implies, true_implies, ne_eq, reduceCtorEq, Nat.reduceEqDiff, ite_true, ite_false, reduceIte, Instr.getfield.injEq, Instr.putfield.injEq, Instr.invokevirtual.injEq, Instr.invokestatic.injEq, Instr.ldc2_w.injEq, fx_tcopy, Instr.ldc.injEq, Instr.ldc_w.injEq, exists_eq_left, exists_prop, R0C_ex, post_Grid_index]
theorem c_Grid_index (l : Launch) (n : Nat) : fx_Met l y_Grid_index ws_Grid_index rm_Grid_index (MC n) (pre_Grid_index n) (post_Grid_index n) := fx_met (MC_ok n) (MC_tys n) (by decide) rfl pk_Grid_index vk_Grid_index (fun st I J R h => r_Grid_index n st I J R h)

def p_Grid_xOf : fx_Pr := fx_pr [(0, .iload_n 0, 0), (1, .bipush 8, 0), (3, .irem, 0), (4, .ireturn, 0)]
theorem pk_Grid_xOf : fx_prOK b_Grid_xOf p_Grid_xOf := fx_pr_ok (by decide +kernel)
theorem q_Grid_xOf_0 {nL : Nat} {M : fx_M} {ev : fx_Env} {ret : Option FieldType} {P : fx_P} {stops : List (Nat × Nat)} {K : fx_K} {n : Nat} {L : List (Option Value)} {st : List Value} {I : fx_MI} {J : fx_MJ} {R : fx_MR} {X : Nat → fx_K} (hX : fx_isX nL M ev ret P p_Grid_xOf stops K X) (hs : fx_stop stops 0 = none) : X (n + 1) 0 L st I J R = fx_S nL M ev ret P (.iload_n 0) 0 0 L st I J R (X n) := hX.1 _ _ _ _ _ _ _ _ _ rfl hs
theorem q_Grid_xOf_1 {nL : Nat} {M : fx_M} {ev : fx_Env} {ret : Option FieldType} {P : fx_P} {stops : List (Nat × Nat)} {K : fx_K} {n : Nat} {L : List (Option Value)} {st : List Value} {I : fx_MI} {J : fx_MJ} {R : fx_MR} {X : Nat → fx_K} (hX : fx_isX nL M ev ret P p_Grid_xOf stops K X) (hs : fx_stop stops 1 = none) : X (n + 1) 1 L st I J R = fx_S nL M ev ret P (.bipush 8) 0 1 L st I J R (X n) := hX.1 _ _ _ _ _ _ _ _ _ rfl hs
theorem q_Grid_xOf_3 {nL : Nat} {M : fx_M} {ev : fx_Env} {ret : Option FieldType} {P : fx_P} {stops : List (Nat × Nat)} {K : fx_K} {n : Nat} {L : List (Option Value)} {st : List Value} {I : fx_MI} {J : fx_MJ} {R : fx_MR} {X : Nat → fx_K} (hX : fx_isX nL M ev ret P p_Grid_xOf stops K X) (hs : fx_stop stops 3 = none) : X (n + 1) 3 L st I J R = fx_S nL M ev ret P (.irem) 0 3 L st I J R (X n) := hX.1 _ _ _ _ _ _ _ _ _ rfl hs
theorem q_Grid_xOf_4 {nL : Nat} {M : fx_M} {ev : fx_Env} {ret : Option FieldType} {P : fx_P} {stops : List (Nat × Nat)} {K : fx_K} {n : Nat} {L : List (Option Value)} {st : List Value} {I : fx_MI} {J : fx_MJ} {R : fx_MR} {X : Nat → fx_K} (hX : fx_isX nL M ev ret P p_Grid_xOf stops K X) (hs : fx_stop stops 4 = none) : X (n + 1) 4 L st I J R = fx_S nL M ev ret P (.ireturn) 0 4 L st I J R (X n) := hX.1 _ _ _ _ _ _ _ _ _ rfl hs
def pre_Grid_xOf (n : Nat) : fx_Pre := fun st I J R => (∃ b, R = R0C b) ∧ (match st with
  | [.int v] => ∃ k, k < 2147483648 ∧ v = nI k
  | _ => False)
theorem pi_Grid_xOf {n : Nat} {st : List Value} {I : fx_MI} {J : fx_MJ} {R : fx_MR} (h : pre_Grid_xOf n st I J R) : (∃ b, R = R0C b) ∧ ∃ v, st = [.int v] ∧ (∃ k, k < 2147483648 ∧ v = nI k) := by
  unfold pre_Grid_xOf at h
  obtain ⟨h0, h⟩ := h
  split at h
  · exact ⟨h0, _, rfl, h⟩
  · cases h
def post_Grid_xOf (n : Nat) : fx_Post := fun st I J R r I' J' R' => match st with
  | [.int v] => r = some (.int (nI (nv v % 8))) ∧ I' = I ∧ J' = J ∧ R' = R
  | _ => True
theorem pz_Grid_xOf {st : List Value} {I : fx_MI} {J : fx_MJ} {R : fx_MR} (n : Nat) (h : pre_Grid_xOf n st I J R) : st.length = 1 := by
  obtain ⟨_, _, rfl, _⟩ := pi_Grid_xOf h
  rfl
def v_Grid_xOf (n : Nat) : fx_Env := []
abbrev rm_Grid_xOf : Room := { frames := 0, cells := 0, slots := 0, locals := 0 }
abbrev ws_Grid_xOf : List Cond := Cond.code y_Grid_xOf b_Grid_xOf 1 (some .int) :: w_C
theorem vk_Grid_xOf {l : Launch} {n : Nat} : fx_EV l R_Grid ws_Grid_xOf rm_Grid_xOf (MC n) 1 b_Grid_xOf (v_Grid_xOf n) := fx_EV_nil
theorem r_Grid_xOf (n : Nat) (st : List Value) (I : fx_MI) (J : fx_MJ) (R : fx_MR) (h : pre_Grid_xOf n st I J R) : fx_sz st ≤ 1 ∧ fx_R 1 (MC n) (v_Grid_xOf n) (some .int) (post_Grid_xOf n st I J R) p_Grid_xOf 0 (fx_en st) [] I J R := by
  obtain ⟨⟨b, rfl⟩, v, rfl, hp⟩ := pi_Grid_xOf h
  clear h
  refine ⟨Nat.le_of_ble_eq_true rfl, ?_⟩
  obtain ⟨k, hk, rfl⟩ := hp
  refine fx_run0 90 fun X hX => ?_
  simp only [q_Grid_xOf_0 hX rfl, q_Grid_xOf_1 hX rfl, q_Grid_xOf_3 hX rfl, q_Grid_xOf_4 hX rfl, fs_bipush, fs_iload_n0, fs_iload_n1, fs_iload_n2, fs_iload_n3, fs_irem, fs_ireturn, v_Grid_xOf, cb_8, fx_oi_s, fx_ol_s, fx_or_s, fx_do_s, fx_lg_0, fx_lg_s, fx_ls_0, fx_ls_s, fx_ls_n0, fx_ls_ns, fx_en, fx_sz, Value.category, fx_nl, fx_lk, fx_tget, fx_tput, fx_tcall, fx_tldc, fx_fv, va_rf, fx_cat, fx_in, fx_cnd, fx_len, fx_narI, fx_narZ0, fx_narZ1, fx_narZb, zb_e, zb_ne, Option.some.injEq, Value.int.injEq, Value.long.injEq, Value.ref.injEq, List.cons.injEq, Nat.reduceAdd, Nat.reduceLeDiff, Nat.le_refl, List.take, List.drop, List.reverse_cons, List.reverse_nil, List.nil_append, List.cons_append, List.append_nil, List.map_cons, List.map_nil, List.sum_cons, List.sum_nil, List.length_cons, List.length_nil, Option.toList, fx_all4, forall_const, true_and, and_true, not_true_eq_false, not_false_eq_true, false_implies, true_implies, ne_eq, reduceCtorEq, Nat.reduceEqDiff, ite_true, ite_false, reduceIte, Instr.getfield.injEq, Instr.putfield.injEq, Instr.invokevirtual.injEq, Instr.invokestatic.injEq, Instr.ldc2_w.injEq, fx_tcopy, Instr.ldc.injEq, Instr.ldc_w.injEq, exists_eq_left, exists_prop, R0C_ex, post_Grid_xOf]
  simp (disch := omega) only [lit, nI_add, nI_mul', nI_sub', nI_clamp, nI_lt', nI_le', nI_eq', nI_in', iinc1, zb_n0, nI_div', nI_rem2, true_and, and_true, Nat.reduceEqDiff, Nat.reduceLeDiff, Nat.one_ne_zero, Nat.zero_ne_one, not_false_eq_true, not_true_eq_false, false_implies, true_implies, forall_const, Nat.zero_add, Nat.add_zero, nv_nI, up_eq, up_ne, fill_ne, nI_clamp, nI_add]
  omega
theorem c_Grid_xOf (l : Launch) (n : Nat) : fx_Met l y_Grid_xOf ws_Grid_xOf rm_Grid_xOf (MC n) (pre_Grid_xOf n) (post_Grid_xOf n) := fx_met (MC_ok n) (MC_tys n) (by decide) rfl pk_Grid_xOf vk_Grid_xOf (fun st I J R h => r_Grid_xOf n st I J R h)

def p_Grid_yOf : fx_Pr := fx_pr [(0, .iload_n 0, 0), (1, .bipush 8, 0), (3, .idiv, 0), (4, .ireturn, 0)]
theorem pk_Grid_yOf : fx_prOK b_Grid_yOf p_Grid_yOf := fx_pr_ok (by decide +kernel)
theorem q_Grid_yOf_0 {nL : Nat} {M : fx_M} {ev : fx_Env} {ret : Option FieldType} {P : fx_P} {stops : List (Nat × Nat)} {K : fx_K} {n : Nat} {L : List (Option Value)} {st : List Value} {I : fx_MI} {J : fx_MJ} {R : fx_MR} {X : Nat → fx_K} (hX : fx_isX nL M ev ret P p_Grid_yOf stops K X) (hs : fx_stop stops 0 = none) : X (n + 1) 0 L st I J R = fx_S nL M ev ret P (.iload_n 0) 0 0 L st I J R (X n) := hX.1 _ _ _ _ _ _ _ _ _ rfl hs
theorem q_Grid_yOf_1 {nL : Nat} {M : fx_M} {ev : fx_Env} {ret : Option FieldType} {P : fx_P} {stops : List (Nat × Nat)} {K : fx_K} {n : Nat} {L : List (Option Value)} {st : List Value} {I : fx_MI} {J : fx_MJ} {R : fx_MR} {X : Nat → fx_K} (hX : fx_isX nL M ev ret P p_Grid_yOf stops K X) (hs : fx_stop stops 1 = none) : X (n + 1) 1 L st I J R = fx_S nL M ev ret P (.bipush 8) 0 1 L st I J R (X n) := hX.1 _ _ _ _ _ _ _ _ _ rfl hs
theorem q_Grid_yOf_3 {nL : Nat} {M : fx_M} {ev : fx_Env} {ret : Option FieldType} {P : fx_P} {stops : List (Nat × Nat)} {K : fx_K} {n : Nat} {L : List (Option Value)} {st : List Value} {I : fx_MI} {J : fx_MJ} {R : fx_MR} {X : Nat → fx_K} (hX : fx_isX nL M ev ret P p_Grid_yOf stops K X) (hs : fx_stop stops 3 = none) : X (n + 1) 3 L st I J R = fx_S nL M ev ret P (.idiv) 0 3 L st I J R (X n) := hX.1 _ _ _ _ _ _ _ _ _ rfl hs
theorem q_Grid_yOf_4 {nL : Nat} {M : fx_M} {ev : fx_Env} {ret : Option FieldType} {P : fx_P} {stops : List (Nat × Nat)} {K : fx_K} {n : Nat} {L : List (Option Value)} {st : List Value} {I : fx_MI} {J : fx_MJ} {R : fx_MR} {X : Nat → fx_K} (hX : fx_isX nL M ev ret P p_Grid_yOf stops K X) (hs : fx_stop stops 4 = none) : X (n + 1) 4 L st I J R = fx_S nL M ev ret P (.ireturn) 0 4 L st I J R (X n) := hX.1 _ _ _ _ _ _ _ _ _ rfl hs
def pre_Grid_yOf (n : Nat) : fx_Pre := fun st I J R => (∃ b, R = R0C b) ∧ (match st with
  | [.int v] => ∃ k, k < 2147483648 ∧ v = nI k
  | _ => False)
theorem pi_Grid_yOf {n : Nat} {st : List Value} {I : fx_MI} {J : fx_MJ} {R : fx_MR} (h : pre_Grid_yOf n st I J R) : (∃ b, R = R0C b) ∧ ∃ v, st = [.int v] ∧ (∃ k, k < 2147483648 ∧ v = nI k) := by
  unfold pre_Grid_yOf at h
  obtain ⟨h0, h⟩ := h
  split at h
  · exact ⟨h0, _, rfl, h⟩
  · cases h
def post_Grid_yOf (n : Nat) : fx_Post := fun st I J R r I' J' R' => match st with
  | [.int v] => r = some (.int (nI (nv v / 8))) ∧ I' = I ∧ J' = J ∧ R' = R
  | _ => True
theorem pz_Grid_yOf {st : List Value} {I : fx_MI} {J : fx_MJ} {R : fx_MR} (n : Nat) (h : pre_Grid_yOf n st I J R) : st.length = 1 := by
  obtain ⟨_, _, rfl, _⟩ := pi_Grid_yOf h
  rfl
def v_Grid_yOf (n : Nat) : fx_Env := []
abbrev rm_Grid_yOf : Room := { frames := 0, cells := 0, slots := 0, locals := 0 }
abbrev ws_Grid_yOf : List Cond := Cond.code y_Grid_yOf b_Grid_yOf 1 (some .int) :: w_C
theorem vk_Grid_yOf {l : Launch} {n : Nat} : fx_EV l R_Grid ws_Grid_yOf rm_Grid_yOf (MC n) 1 b_Grid_yOf (v_Grid_yOf n) := fx_EV_nil
theorem r_Grid_yOf (n : Nat) (st : List Value) (I : fx_MI) (J : fx_MJ) (R : fx_MR) (h : pre_Grid_yOf n st I J R) : fx_sz st ≤ 1 ∧ fx_R 1 (MC n) (v_Grid_yOf n) (some .int) (post_Grid_yOf n st I J R) p_Grid_yOf 0 (fx_en st) [] I J R := by
  obtain ⟨⟨b, rfl⟩, v, rfl, hp⟩ := pi_Grid_yOf h
  clear h
  refine ⟨Nat.le_of_ble_eq_true rfl, ?_⟩
  obtain ⟨k, hk, rfl⟩ := hp
  refine fx_run0 90 fun X hX => ?_
  simp only [q_Grid_yOf_0 hX rfl, q_Grid_yOf_1 hX rfl, q_Grid_yOf_3 hX rfl, q_Grid_yOf_4 hX rfl, fs_bipush, fs_idiv, fs_iload_n0, fs_iload_n1, fs_iload_n2, fs_iload_n3, fs_ireturn, v_Grid_yOf, cb_8, fx_oi_s, fx_ol_s, fx_or_s, fx_do_s, fx_lg_0, fx_lg_s, fx_ls_0, fx_ls_s, fx_ls_n0, fx_ls_ns, fx_en, fx_sz, Value.category, fx_nl, fx_lk, fx_tget, fx_tput, fx_tcall, fx_tldc, fx_fv, va_rf, fx_cat, fx_in, fx_cnd, fx_len, fx_narI, fx_narZ0, fx_narZ1, fx_narZb, zb_e, zb_ne, Option.some.injEq, Value.int.injEq, Value.long.injEq, Value.ref.injEq, List.cons.injEq, Nat.reduceAdd, Nat.reduceLeDiff, Nat.le_refl, List.take, List.drop, List.reverse_cons, List.reverse_nil, List.nil_append, List.cons_append, List.append_nil, List.map_cons, List.map_nil, List.sum_cons, List.sum_nil, List.length_cons, List.length_nil, Option.toList, fx_all4, forall_const, true_and, and_true, not_true_eq_false, not_false_eq_true, false_implies, true_implies, ne_eq, reduceCtorEq, Nat.reduceEqDiff, ite_true, ite_false, reduceIte, Instr.getfield.injEq, Instr.putfield.injEq, Instr.invokevirtual.injEq, Instr.invokestatic.injEq, Instr.ldc2_w.injEq, fx_tcopy, Instr.ldc.injEq, Instr.ldc_w.injEq, exists_eq_left, exists_prop, R0C_ex, post_Grid_yOf]
  simp (disch := omega) only [lit, nI_add, nI_mul', nI_sub', nI_clamp, nI_lt', nI_le', nI_eq', nI_in', iinc1, zb_n0, nI_div', nI_rem2, true_and, and_true, Nat.reduceEqDiff, Nat.reduceLeDiff, Nat.one_ne_zero, Nat.zero_ne_one, not_false_eq_true, not_true_eq_false, false_implies, true_implies, forall_const, Nat.zero_add, Nat.add_zero, nv_nI, up_eq, up_ne, fill_ne, nI_clamp, nI_add]
theorem c_Grid_yOf (l : Launch) (n : Nat) : fx_Met l y_Grid_yOf ws_Grid_yOf rm_Grid_yOf (MC n) (pre_Grid_yOf n) (post_Grid_yOf n) := fx_met (MC_ok n) (MC_tys n) (by decide) rfl pk_Grid_yOf vk_Grid_yOf (fun st I J R h => r_Grid_yOf n st I J R h)

def p_Grid_lines : fx_Pr := fx_pr [(0, .aload_n 0, 0), (1, .getfield 15, 0), (4, .aload_n 0, 0), (5, .getfield 9, 0), (8, .iadd, 0), (9, .ireturn, 0)]
theorem pk_Grid_lines : fx_prOK b_Grid_lines p_Grid_lines := fx_pr_ok (by decide +kernel)
theorem q_Grid_lines_0 {nL : Nat} {M : fx_M} {ev : fx_Env} {ret : Option FieldType} {P : fx_P} {stops : List (Nat × Nat)} {K : fx_K} {n : Nat} {L : List (Option Value)} {st : List Value} {I : fx_MI} {J : fx_MJ} {R : fx_MR} {X : Nat → fx_K} (hX : fx_isX nL M ev ret P p_Grid_lines stops K X) (hs : fx_stop stops 0 = none) : X (n + 1) 0 L st I J R = fx_S nL M ev ret P (.aload_n 0) 0 0 L st I J R (X n) := hX.1 _ _ _ _ _ _ _ _ _ rfl hs
theorem q_Grid_lines_1 {nL : Nat} {M : fx_M} {ev : fx_Env} {ret : Option FieldType} {P : fx_P} {stops : List (Nat × Nat)} {K : fx_K} {n : Nat} {L : List (Option Value)} {st : List Value} {I : fx_MI} {J : fx_MJ} {R : fx_MR} {X : Nat → fx_K} (hX : fx_isX nL M ev ret P p_Grid_lines stops K X) (hs : fx_stop stops 1 = none) : X (n + 1) 1 L st I J R = fx_S nL M ev ret P (.getfield 15) 0 1 L st I J R (X n) := hX.1 _ _ _ _ _ _ _ _ _ rfl hs
theorem q_Grid_lines_4 {nL : Nat} {M : fx_M} {ev : fx_Env} {ret : Option FieldType} {P : fx_P} {stops : List (Nat × Nat)} {K : fx_K} {n : Nat} {L : List (Option Value)} {st : List Value} {I : fx_MI} {J : fx_MJ} {R : fx_MR} {X : Nat → fx_K} (hX : fx_isX nL M ev ret P p_Grid_lines stops K X) (hs : fx_stop stops 4 = none) : X (n + 1) 4 L st I J R = fx_S nL M ev ret P (.aload_n 0) 0 4 L st I J R (X n) := hX.1 _ _ _ _ _ _ _ _ _ rfl hs
theorem q_Grid_lines_5 {nL : Nat} {M : fx_M} {ev : fx_Env} {ret : Option FieldType} {P : fx_P} {stops : List (Nat × Nat)} {K : fx_K} {n : Nat} {L : List (Option Value)} {st : List Value} {I : fx_MI} {J : fx_MJ} {R : fx_MR} {X : Nat → fx_K} (hX : fx_isX nL M ev ret P p_Grid_lines stops K X) (hs : fx_stop stops 5 = none) : X (n + 1) 5 L st I J R = fx_S nL M ev ret P (.getfield 9) 0 5 L st I J R (X n) := hX.1 _ _ _ _ _ _ _ _ _ rfl hs
theorem q_Grid_lines_8 {nL : Nat} {M : fx_M} {ev : fx_Env} {ret : Option FieldType} {P : fx_P} {stops : List (Nat × Nat)} {K : fx_K} {n : Nat} {L : List (Option Value)} {st : List Value} {I : fx_MI} {J : fx_MJ} {R : fx_MR} {X : Nat → fx_K} (hX : fx_isX nL M ev ret P p_Grid_lines stops K X) (hs : fx_stop stops 8 = none) : X (n + 1) 8 L st I J R = fx_S nL M ev ret P (.iadd) 0 8 L st I J R (X n) := hX.1 _ _ _ _ _ _ _ _ _ rfl hs
theorem q_Grid_lines_9 {nL : Nat} {M : fx_M} {ev : fx_Env} {ret : Option FieldType} {P : fx_P} {stops : List (Nat × Nat)} {K : fx_K} {n : Nat} {L : List (Option Value)} {st : List Value} {I : fx_MI} {J : fx_MJ} {R : fx_MR} {X : Nat → fx_K} (hX : fx_isX nL M ev ret P p_Grid_lines stops K X) (hs : fx_stop stops 9 = none) : X (n + 1) 9 L st I J R = fx_S nL M ev ret P (.ireturn) 0 9 L st I J R (X n) := hX.1 _ _ _ _ _ _ _ _ _ rfl hs
def pre_Grid_lines (n : Nat) : fx_Pre := fun st I J R => (∃ b, R = R0C b) ∧ (match st with
  | [.ref 1] => True
  | _ => False)
theorem pi_Grid_lines {n : Nat} {st : List Value} {I : fx_MI} {J : fx_MJ} {R : fx_MR} (h : pre_Grid_lines n st I J R) : (∃ b, R = R0C b) ∧ st = [.ref 1] ∧ (True) := by
  unfold pre_Grid_lines at h
  obtain ⟨h0, h⟩ := h
  split at h
  · exact ⟨h0, rfl, h⟩
  · cases h
def post_Grid_lines (n : Nat) : fx_Post := fun st I J R r I' J' R' => r = some (.int (I 1 1 + I 1 0)) ∧ I' = I ∧ J' = J ∧ R' = R
theorem pz_Grid_lines {st : List Value} {I : fx_MI} {J : fx_MJ} {R : fx_MR} (n : Nat) (h : pre_Grid_lines n st I J R) : ∃ q r, st = .ref q :: r ∧ (MC n).2.2.1 q = some (.inl 1) ∧ r.length = 0 := by
  obtain ⟨_, rfl, _⟩ := pi_Grid_lines h
  exact ⟨_, _, rfl, rfl, rfl⟩
def v_Grid_lines (n : Nat) : fx_Env := [(.getfield 15, fx_tget (MC n) 1 1), (.getfield 9, fx_tget (MC n) 1 0)]
abbrev rm_Grid_lines : Room := { frames := 0, cells := 0, slots := 0, locals := 0 }
abbrev ws_Grid_lines : List Cond := Cond.code y_Grid_lines b_Grid_lines 1 (some .int) :: w_C
theorem vk_Grid_lines {l : Launch} {n : Nat} : fx_EV l R_Grid ws_Grid_lines rm_Grid_lines (MC n) 1 b_Grid_lines (v_Grid_lines n) := (fx_EV_cons e_Grid_g15 (fx_EV_cons e_Grid_g9 fx_EV_nil))
theorem r_Grid_lines (n : Nat) (st : List Value) (I : fx_MI) (J : fx_MJ) (R : fx_MR) (h : pre_Grid_lines n st I J R) : fx_sz st ≤ 1 ∧ fx_R 1 (MC n) (v_Grid_lines n) (some .int) (post_Grid_lines n st I J R) p_Grid_lines 0 (fx_en st) [] I J R := by
  obtain ⟨⟨b, rfl⟩, rfl, -⟩ := pi_Grid_lines h
  clear h
  refine ⟨Nat.le_of_ble_eq_true rfl, ?_⟩
  refine fx_run0 90 fun X hX => ?_
  simp only [q_Grid_lines_0 hX rfl, q_Grid_lines_1 hX rfl, q_Grid_lines_4 hX rfl, q_Grid_lines_5 hX rfl, q_Grid_lines_8 hX rfl, q_Grid_lines_9 hX rfl, fs_aload_n0, fs_aload_n1, fs_aload_n2, fs_aload_n3, fs_getfield, fs_iadd, fs_ireturn, v_Grid_lines, kd_C_1_1, pl_C_1, kd_C_1_0, fx_oi_s, fx_ol_s, fx_or_s, fx_do_s, fx_lg_0, fx_lg_s, fx_ls_0, fx_ls_s, fx_ls_n0, fx_ls_ns, fx_en, fx_sz, Value.category, fx_nl, fx_lk, fx_tget, fx_tput, fx_tcall, fx_tldc, fx_fv, va_rf, fx_cat, fx_in, fx_cnd, fx_len, fx_narI, fx_narZ0, fx_narZ1, fx_narZb, zb_e, zb_ne, Option.some.injEq, Value.int.injEq, Value.long.injEq, Value.ref.injEq, List.cons.injEq, Nat.reduceAdd, Nat.reduceLeDiff, Nat.le_refl, List.take, List.drop, List.reverse_cons, List.reverse_nil, List.nil_append, List.cons_append, List.append_nil, List.map_cons, List.map_nil, List.sum_cons, List.sum_nil, List.length_cons, List.length_nil, Option.toList, fx_all4, forall_const, true_and, and_true, not_true_eq_false, not_false_eq_true, false_implies, true_implies, ne_eq, reduceCtorEq, Nat.reduceEqDiff, ite_true, ite_false, reduceIte, Instr.getfield.injEq, Instr.putfield.injEq, Instr.invokevirtual.injEq, Instr.invokestatic.injEq, Instr.ldc2_w.injEq, fx_tcopy, Instr.ldc.injEq, Instr.ldc_w.injEq, exists_eq_left, exists_prop, R0C_ex, post_Grid_lines]
theorem c_Grid_lines (l : Launch) (n : Nat) : fx_Met l y_Grid_lines ws_Grid_lines rm_Grid_lines (MC n) (pre_Grid_lines n) (post_Grid_lines n) := fx_met (MC_ok n) (MC_tys n) (by decide) rfl pk_Grid_lines vk_Grid_lines (fun st I J R h => r_Grid_lines n st I J R h)

def p_Grid_cellsOf : fx_Pr := fx_pr [(0, .iload_n 1, 0), (1, .aload_n 0, 0), (2, .getfield 15, 0), (5, .if_icmp .ge 10, 15), (8, .aload_n 0, 0), (9, .getfield 9, 0), (12, .goto 7, 19), (15, .aload_n 0, 0), (16, .getfield 15, 0), (19, .ireturn, 0)]
theorem pk_Grid_cellsOf : fx_prOK b_Grid_cellsOf p_Grid_cellsOf := fx_pr_ok (by decide +kernel)
theorem q_Grid_cellsOf_0 {nL : Nat} {M : fx_M} {ev : fx_Env} {ret : Option FieldType} {P : fx_P} {stops : List (Nat × Nat)} {K : fx_K} {n : Nat} {L : List (Option Value)} {st : List Value} {I : fx_MI} {J : fx_MJ} {R : fx_MR} {X : Nat → fx_K} (hX : fx_isX nL M ev ret P p_Grid_cellsOf stops K X) (hs : fx_stop stops 0 = none) : X (n + 1) 0 L st I J R = fx_S nL M ev ret P (.iload_n 1) 0 0 L st I J R (X n) := hX.1 _ _ _ _ _ _ _ _ _ rfl hs
theorem q_Grid_cellsOf_1 {nL : Nat} {M : fx_M} {ev : fx_Env} {ret : Option FieldType} {P : fx_P} {stops : List (Nat × Nat)} {K : fx_K} {n : Nat} {L : List (Option Value)} {st : List Value} {I : fx_MI} {J : fx_MJ} {R : fx_MR} {X : Nat → fx_K} (hX : fx_isX nL M ev ret P p_Grid_cellsOf stops K X) (hs : fx_stop stops 1 = none) : X (n + 1) 1 L st I J R = fx_S nL M ev ret P (.aload_n 0) 0 1 L st I J R (X n) := hX.1 _ _ _ _ _ _ _ _ _ rfl hs
theorem q_Grid_cellsOf_2 {nL : Nat} {M : fx_M} {ev : fx_Env} {ret : Option FieldType} {P : fx_P} {stops : List (Nat × Nat)} {K : fx_K} {n : Nat} {L : List (Option Value)} {st : List Value} {I : fx_MI} {J : fx_MJ} {R : fx_MR} {X : Nat → fx_K} (hX : fx_isX nL M ev ret P p_Grid_cellsOf stops K X) (hs : fx_stop stops 2 = none) : X (n + 1) 2 L st I J R = fx_S nL M ev ret P (.getfield 15) 0 2 L st I J R (X n) := hX.1 _ _ _ _ _ _ _ _ _ rfl hs
theorem q_Grid_cellsOf_5 {nL : Nat} {M : fx_M} {ev : fx_Env} {ret : Option FieldType} {P : fx_P} {stops : List (Nat × Nat)} {K : fx_K} {n : Nat} {L : List (Option Value)} {st : List Value} {I : fx_MI} {J : fx_MJ} {R : fx_MR} {x y : Int32} {X : Nat → fx_K} (hX : fx_isX nL M ev ret P p_Grid_cellsOf stops K X) (hs : fx_stop stops 5 = none) : X (n + 1) 5 L (.int y :: .int x :: st) I J R = ((y ≤ x → X n 15 L st I J R) ∧ (¬ y ≤ x → X n 8 L st I J R)) := fx_q_icmp hX rfl hs rfl
theorem q_Grid_cellsOf_8 {nL : Nat} {M : fx_M} {ev : fx_Env} {ret : Option FieldType} {P : fx_P} {stops : List (Nat × Nat)} {K : fx_K} {n : Nat} {L : List (Option Value)} {st : List Value} {I : fx_MI} {J : fx_MJ} {R : fx_MR} {X : Nat → fx_K} (hX : fx_isX nL M ev ret P p_Grid_cellsOf stops K X) (hs : fx_stop stops 8 = none) : X (n + 1) 8 L st I J R = fx_S nL M ev ret P (.aload_n 0) 0 8 L st I J R (X n) := hX.1 _ _ _ _ _ _ _ _ _ rfl hs
theorem q_Grid_cellsOf_9 {nL : Nat} {M : fx_M} {ev : fx_Env} {ret : Option FieldType} {P : fx_P} {stops : List (Nat × Nat)} {K : fx_K} {n : Nat} {L : List (Option Value)} {st : List Value} {I : fx_MI} {J : fx_MJ} {R : fx_MR} {X : Nat → fx_K} (hX : fx_isX nL M ev ret P p_Grid_cellsOf stops K X) (hs : fx_stop stops 9 = none) : X (n + 1) 9 L st I J R = fx_S nL M ev ret P (.getfield 9) 0 9 L st I J R (X n) := hX.1 _ _ _ _ _ _ _ _ _ rfl hs
theorem q_Grid_cellsOf_12 {nL : Nat} {M : fx_M} {ev : fx_Env} {ret : Option FieldType} {P : fx_P} {stops : List (Nat × Nat)} {K : fx_K} {n : Nat} {L : List (Option Value)} {st : List Value} {I : fx_MI} {J : fx_MJ} {R : fx_MR} {X : Nat → fx_K} (hX : fx_isX nL M ev ret P p_Grid_cellsOf stops K X) (hs : fx_stop stops 12 = none) : X (n + 1) 12 L st I J R = X n 19 L st I J R := fx_q_goto hX rfl hs rfl
theorem q_Grid_cellsOf_15 {nL : Nat} {M : fx_M} {ev : fx_Env} {ret : Option FieldType} {P : fx_P} {stops : List (Nat × Nat)} {K : fx_K} {n : Nat} {L : List (Option Value)} {st : List Value} {I : fx_MI} {J : fx_MJ} {R : fx_MR} {X : Nat → fx_K} (hX : fx_isX nL M ev ret P p_Grid_cellsOf stops K X) (hs : fx_stop stops 15 = none) : X (n + 1) 15 L st I J R = fx_S nL M ev ret P (.aload_n 0) 0 15 L st I J R (X n) := hX.1 _ _ _ _ _ _ _ _ _ rfl hs
theorem q_Grid_cellsOf_16 {nL : Nat} {M : fx_M} {ev : fx_Env} {ret : Option FieldType} {P : fx_P} {stops : List (Nat × Nat)} {K : fx_K} {n : Nat} {L : List (Option Value)} {st : List Value} {I : fx_MI} {J : fx_MJ} {R : fx_MR} {X : Nat → fx_K} (hX : fx_isX nL M ev ret P p_Grid_cellsOf stops K X) (hs : fx_stop stops 16 = none) : X (n + 1) 16 L st I J R = fx_S nL M ev ret P (.getfield 15) 0 16 L st I J R (X n) := hX.1 _ _ _ _ _ _ _ _ _ rfl hs
theorem q_Grid_cellsOf_19 {nL : Nat} {M : fx_M} {ev : fx_Env} {ret : Option FieldType} {P : fx_P} {stops : List (Nat × Nat)} {K : fx_K} {n : Nat} {L : List (Option Value)} {st : List Value} {I : fx_MI} {J : fx_MJ} {R : fx_MR} {X : Nat → fx_K} (hX : fx_isX nL M ev ret P p_Grid_cellsOf stops K X) (hs : fx_stop stops 19 = none) : X (n + 1) 19 L st I J R = fx_S nL M ev ret P (.ireturn) 0 19 L st I J R (X n) := hX.1 _ _ _ _ _ _ _ _ _ rfl hs
def pre_Grid_cellsOf (n : Nat) : fx_Pre := fun st I J R => (∃ b, R = R0C b) ∧ (match st with
  | [.ref 1, .int v] => True
  | _ => False)
theorem pi_Grid_cellsOf {n : Nat} {st : List Value} {I : fx_MI} {J : fx_MJ} {R : fx_MR} (h : pre_Grid_cellsOf n st I J R) : (∃ b, R = R0C b) ∧ ∃ v, st = [.ref 1, .int v] ∧ (True) := by
  unfold pre_Grid_cellsOf at h
  obtain ⟨h0, h⟩ := h
  split at h
  · exact ⟨h0, _, rfl, h⟩
  · cases h
def post_Grid_cellsOf (n : Nat) : fx_Post := fun st I J R r I' J' R' => match st with
  | [_, .int v] => r = some (.int (if v < I 1 1 then I 1 0 else I 1 1)) ∧ I' = I ∧ J' = J ∧ R' = R
  | _ => True
theorem pz_Grid_cellsOf {st : List Value} {I : fx_MI} {J : fx_MJ} {R : fx_MR} (n : Nat) (h : pre_Grid_cellsOf n st I J R) : ∃ q r, st = .ref q :: r ∧ (MC n).2.2.1 q = some (.inl 1) ∧ r.length = 1 := by
  obtain ⟨_, _, rfl, _⟩ := pi_Grid_cellsOf h
  exact ⟨_, _, rfl, rfl, rfl⟩
def v_Grid_cellsOf (n : Nat) : fx_Env := [(.getfield 15, fx_tget (MC n) 1 1), (.getfield 9, fx_tget (MC n) 1 0)]
abbrev rm_Grid_cellsOf : Room := { frames := 0, cells := 0, slots := 0, locals := 0 }
abbrev ws_Grid_cellsOf : List Cond := Cond.code y_Grid_cellsOf b_Grid_cellsOf 2 (some .int) :: w_C
theorem vk_Grid_cellsOf {l : Launch} {n : Nat} : fx_EV l R_Grid ws_Grid_cellsOf rm_Grid_cellsOf (MC n) 2 b_Grid_cellsOf (v_Grid_cellsOf n) := (fx_EV_cons e_Grid_g15 (fx_EV_cons e_Grid_g9 fx_EV_nil))
theorem r_Grid_cellsOf (n : Nat) (st : List Value) (I : fx_MI) (J : fx_MJ) (R : fx_MR) (h : pre_Grid_cellsOf n st I J R) : fx_sz st ≤ 2 ∧ fx_R 2 (MC n) (v_Grid_cellsOf n) (some .int) (post_Grid_cellsOf n st I J R) p_Grid_cellsOf 0 (fx_en st) [] I J R := by
  obtain ⟨⟨b, rfl⟩, v, rfl, -⟩ := pi_Grid_cellsOf h
  clear h
  refine ⟨Nat.le_of_ble_eq_true rfl, ?_⟩
  refine fx_run0 90 fun X hX => ?_
  simp only [q_Grid_cellsOf_0 hX rfl, q_Grid_cellsOf_1 hX rfl, q_Grid_cellsOf_2 hX rfl, q_Grid_cellsOf_5 hX rfl, q_Grid_cellsOf_8 hX rfl, q_Grid_cellsOf_9 hX rfl, q_Grid_cellsOf_12 hX rfl, q_Grid_cellsOf_15 hX rfl, q_Grid_cellsOf_16 hX rfl, q_Grid_cellsOf_19 hX rfl, fs_aload_n0, fs_aload_n1, fs_aload_n2, fs_aload_n3, fs_getfield, fs_goto, fs_if_icmp, fs_iload_n0, fs_iload_n1, fs_iload_n2, fs_iload_n3, fs_ireturn, v_Grid_cellsOf, kd_C_1_1, pl_C_1, kd_C_1_0, fx_oi_s, fx_ol_s, fx_or_s, fx_do_s, fx_lg_0, fx_lg_s, fx_ls_0, fx_ls_s, fx_ls_n0, fx_ls_ns, fx_en, fx_sz, Value.category, fx_nl, fx_lk, fx_tget, fx_tput, fx_tcall, fx_tldc, fx_fv, va_rf, fx_cat, fx_in, fx_cnd, fx_len, fx_narI, fx_narZ0, fx_narZ1, fx_narZb, zb_e, zb_ne, Option.some.injEq, Value.int.injEq, Value.long.injEq, Value.ref.injEq, List.cons.injEq, Nat.reduceAdd, Nat.reduceLeDiff, Nat.le_refl, List.take, List.drop, List.reverse_cons, List.reverse_nil, List.nil_append, List.cons_append, List.append_nil, List.map_cons, List.map_nil, List.sum_cons, List.sum_nil, List.length_cons, List.length_nil, Option.toList, fx_all4, forall_const, true_and, and_true, not_true_eq_false, not_false_eq_true, false_implies, true_implies, ne_eq, reduceCtorEq, Nat.reduceEqDiff, ite_true, ite_false, reduceIte, Instr.getfield.injEq, Instr.putfield.injEq, Instr.invokevirtual.injEq, Instr.invokestatic.injEq, Instr.ldc2_w.injEq, fx_tcopy, Instr.ldc.injEq, Instr.ldc_w.injEq, exists_eq_left, exists_prop, R0C_ex, post_Grid_cellsOf]
  exact ⟨fun h => (if_neg (Int32.not_lt.mpr h)).symm, fun h => (if_pos (Int32.not_le.mp h)).symm⟩
theorem c_Grid_cellsOf (l : Launch) (n : Nat) : fx_Met l y_Grid_cellsOf ws_Grid_cellsOf rm_Grid_cellsOf (MC n) (pre_Grid_cellsOf n) (post_Grid_cellsOf n) := fx_met (MC_ok n) (MC_tys n) (by decide) rfl pk_Grid_cellsOf vk_Grid_cellsOf (fun st I J R h => r_Grid_cellsOf n st I J R h)

def p_Grid_fullMark : fx_Pr := fx_pr [(0, .iconst 1, 0), (1, .aload_n 0, 0), (2, .getfield 18, 0), (5, .iconst 1, 0), (6, .iadd, 0), (7, .ishl, 0), (8, .iconst 1, 0), (9, .isub, 0), (10, .ireturn, 0)]
theorem pk_Grid_fullMark : fx_prOK b_Grid_fullMark p_Grid_fullMark := fx_pr_ok (by decide +kernel)
theorem q_Grid_fullMark_0 {nL : Nat} {M : fx_M} {ev : fx_Env} {ret : Option FieldType} {P : fx_P} {stops : List (Nat × Nat)} {K : fx_K} {n : Nat} {L : List (Option Value)} {st : List Value} {I : fx_MI} {J : fx_MJ} {R : fx_MR} {X : Nat → fx_K} (hX : fx_isX nL M ev ret P p_Grid_fullMark stops K X) (hs : fx_stop stops 0 = none) : X (n + 1) 0 L st I J R = fx_S nL M ev ret P (.iconst 1) 0 0 L st I J R (X n) := hX.1 _ _ _ _ _ _ _ _ _ rfl hs
theorem q_Grid_fullMark_1 {nL : Nat} {M : fx_M} {ev : fx_Env} {ret : Option FieldType} {P : fx_P} {stops : List (Nat × Nat)} {K : fx_K} {n : Nat} {L : List (Option Value)} {st : List Value} {I : fx_MI} {J : fx_MJ} {R : fx_MR} {X : Nat → fx_K} (hX : fx_isX nL M ev ret P p_Grid_fullMark stops K X) (hs : fx_stop stops 1 = none) : X (n + 1) 1 L st I J R = fx_S nL M ev ret P (.aload_n 0) 0 1 L st I J R (X n) := hX.1 _ _ _ _ _ _ _ _ _ rfl hs
theorem q_Grid_fullMark_2 {nL : Nat} {M : fx_M} {ev : fx_Env} {ret : Option FieldType} {P : fx_P} {stops : List (Nat × Nat)} {K : fx_K} {n : Nat} {L : List (Option Value)} {st : List Value} {I : fx_MI} {J : fx_MJ} {R : fx_MR} {X : Nat → fx_K} (hX : fx_isX nL M ev ret P p_Grid_fullMark stops K X) (hs : fx_stop stops 2 = none) : X (n + 1) 2 L st I J R = fx_S nL M ev ret P (.getfield 18) 0 2 L st I J R (X n) := hX.1 _ _ _ _ _ _ _ _ _ rfl hs
theorem q_Grid_fullMark_5 {nL : Nat} {M : fx_M} {ev : fx_Env} {ret : Option FieldType} {P : fx_P} {stops : List (Nat × Nat)} {K : fx_K} {n : Nat} {L : List (Option Value)} {st : List Value} {I : fx_MI} {J : fx_MJ} {R : fx_MR} {X : Nat → fx_K} (hX : fx_isX nL M ev ret P p_Grid_fullMark stops K X) (hs : fx_stop stops 5 = none) : X (n + 1) 5 L st I J R = fx_S nL M ev ret P (.iconst 1) 0 5 L st I J R (X n) := hX.1 _ _ _ _ _ _ _ _ _ rfl hs
theorem q_Grid_fullMark_6 {nL : Nat} {M : fx_M} {ev : fx_Env} {ret : Option FieldType} {P : fx_P} {stops : List (Nat × Nat)} {K : fx_K} {n : Nat} {L : List (Option Value)} {st : List Value} {I : fx_MI} {J : fx_MJ} {R : fx_MR} {X : Nat → fx_K} (hX : fx_isX nL M ev ret P p_Grid_fullMark stops K X) (hs : fx_stop stops 6 = none) : X (n + 1) 6 L st I J R = fx_S nL M ev ret P (.iadd) 0 6 L st I J R (X n) := hX.1 _ _ _ _ _ _ _ _ _ rfl hs
theorem q_Grid_fullMark_7 {nL : Nat} {M : fx_M} {ev : fx_Env} {ret : Option FieldType} {P : fx_P} {stops : List (Nat × Nat)} {K : fx_K} {n : Nat} {L : List (Option Value)} {st : List Value} {I : fx_MI} {J : fx_MJ} {R : fx_MR} {X : Nat → fx_K} (hX : fx_isX nL M ev ret P p_Grid_fullMark stops K X) (hs : fx_stop stops 7 = none) : X (n + 1) 7 L st I J R = fx_S nL M ev ret P (.ishl) 0 7 L st I J R (X n) := hX.1 _ _ _ _ _ _ _ _ _ rfl hs
theorem q_Grid_fullMark_8 {nL : Nat} {M : fx_M} {ev : fx_Env} {ret : Option FieldType} {P : fx_P} {stops : List (Nat × Nat)} {K : fx_K} {n : Nat} {L : List (Option Value)} {st : List Value} {I : fx_MI} {J : fx_MJ} {R : fx_MR} {X : Nat → fx_K} (hX : fx_isX nL M ev ret P p_Grid_fullMark stops K X) (hs : fx_stop stops 8 = none) : X (n + 1) 8 L st I J R = fx_S nL M ev ret P (.iconst 1) 0 8 L st I J R (X n) := hX.1 _ _ _ _ _ _ _ _ _ rfl hs
theorem q_Grid_fullMark_9 {nL : Nat} {M : fx_M} {ev : fx_Env} {ret : Option FieldType} {P : fx_P} {stops : List (Nat × Nat)} {K : fx_K} {n : Nat} {L : List (Option Value)} {st : List Value} {I : fx_MI} {J : fx_MJ} {R : fx_MR} {X : Nat → fx_K} (hX : fx_isX nL M ev ret P p_Grid_fullMark stops K X) (hs : fx_stop stops 9 = none) : X (n + 1) 9 L st I J R = fx_S nL M ev ret P (.isub) 0 9 L st I J R (X n) := hX.1 _ _ _ _ _ _ _ _ _ rfl hs
theorem q_Grid_fullMark_10 {nL : Nat} {M : fx_M} {ev : fx_Env} {ret : Option FieldType} {P : fx_P} {stops : List (Nat × Nat)} {K : fx_K} {n : Nat} {L : List (Option Value)} {st : List Value} {I : fx_MI} {J : fx_MJ} {R : fx_MR} {X : Nat → fx_K} (hX : fx_isX nL M ev ret P p_Grid_fullMark stops K X) (hs : fx_stop stops 10 = none) : X (n + 1) 10 L st I J R = fx_S nL M ev ret P (.ireturn) 0 10 L st I J R (X n) := hX.1 _ _ _ _ _ _ _ _ _ rfl hs
def pre_Grid_fullMark (n : Nat) : fx_Pre := fun st I J R => (∃ b, R = R0C b) ∧ (match st with
  | [.ref 1] => True
  | _ => False)
theorem pi_Grid_fullMark {n : Nat} {st : List Value} {I : fx_MI} {J : fx_MJ} {R : fx_MR} (h : pre_Grid_fullMark n st I J R) : (∃ b, R = R0C b) ∧ st = [.ref 1] ∧ (True) := by
  unfold pre_Grid_fullMark at h
  obtain ⟨h0, h⟩ := h
  split at h
  · exact ⟨h0, rfl, h⟩
  · cases h
def post_Grid_fullMark (n : Nat) : fx_Post := fun st I J R r I' J' R' => r = some (.int ((1 : Int32) <<< ((I 1 2 + 1) &&& 31) - 1)) ∧ I' = I ∧ J' = J ∧ R' = R
theorem pz_Grid_fullMark {st : List Value} {I : fx_MI} {J : fx_MJ} {R : fx_MR} (n : Nat) (h : pre_Grid_fullMark n st I J R) : ∃ q r, st = .ref q :: r ∧ (MC n).2.2.1 q = some (.inl 1) ∧ r.length = 0 := by
  obtain ⟨_, rfl, _⟩ := pi_Grid_fullMark h
  exact ⟨_, _, rfl, rfl, rfl⟩
def v_Grid_fullMark (n : Nat) : fx_Env := [(.getfield 18, fx_tget (MC n) 1 2)]
abbrev rm_Grid_fullMark : Room := { frames := 0, cells := 0, slots := 0, locals := 0 }
abbrev ws_Grid_fullMark : List Cond := Cond.code y_Grid_fullMark b_Grid_fullMark 1 (some .int) :: w_C
theorem vk_Grid_fullMark {l : Launch} {n : Nat} : fx_EV l R_Grid ws_Grid_fullMark rm_Grid_fullMark (MC n) 1 b_Grid_fullMark (v_Grid_fullMark n) := (fx_EV_cons e_Grid_g18 fx_EV_nil)
theorem r_Grid_fullMark (n : Nat) (st : List Value) (I : fx_MI) (J : fx_MJ) (R : fx_MR) (h : pre_Grid_fullMark n st I J R) : fx_sz st ≤ 1 ∧ fx_R 1 (MC n) (v_Grid_fullMark n) (some .int) (post_Grid_fullMark n st I J R) p_Grid_fullMark 0 (fx_en st) [] I J R := by
  obtain ⟨⟨b, rfl⟩, rfl, -⟩ := pi_Grid_fullMark h
  clear h
  refine ⟨Nat.le_of_ble_eq_true rfl, ?_⟩
  refine fx_run0 90 fun X hX => ?_
  simp only [q_Grid_fullMark_0 hX rfl, q_Grid_fullMark_1 hX rfl, q_Grid_fullMark_2 hX rfl, q_Grid_fullMark_5 hX rfl, q_Grid_fullMark_6 hX rfl, q_Grid_fullMark_7 hX rfl, q_Grid_fullMark_8 hX rfl, q_Grid_fullMark_9 hX rfl, q_Grid_fullMark_10 hX rfl, fs_aload_n0, fs_aload_n1, fs_aload_n2, fs_aload_n3, fs_getfield, fs_iadd, fs_iconst, fs_ireturn, fs_ishl, fs_isub, v_Grid_fullMark, ci_1, kd_C_1_2, pl_C_1, fx_oi_s, fx_ol_s, fx_or_s, fx_do_s, fx_lg_0, fx_lg_s, fx_ls_0, fx_ls_s, fx_ls_n0, fx_ls_ns, fx_en, fx_sz, Value.category, fx_nl, fx_lk, fx_tget, fx_tput, fx_tcall, fx_tldc, fx_fv, va_rf, fx_cat, fx_in, fx_cnd, fx_len, fx_narI, fx_narZ0, fx_narZ1, fx_narZb, zb_e, zb_ne, Option.some.injEq, Value.int.injEq, Value.long.injEq, Value.ref.injEq, List.cons.injEq, Nat.reduceAdd, Nat.reduceLeDiff, Nat.le_refl, List.take, List.drop, List.reverse_cons, List.reverse_nil, List.nil_append, List.cons_append, List.append_nil, List.map_cons, List.map_nil, List.sum_cons, List.sum_nil, List.length_cons, List.length_nil, Option.toList, fx_all4, forall_const, true_and, and_true, not_true_eq_false, not_false_eq_true, false_implies, true_implies, ne_eq, reduceCtorEq, Nat.reduceEqDiff, ite_true, ite_false, reduceIte, Instr.getfield.injEq, Instr.putfield.injEq, Instr.invokevirtual.injEq, Instr.invokestatic.injEq, Instr.ldc2_w.injEq, fx_tcopy, Instr.ldc.injEq, Instr.ldc_w.injEq, exists_eq_left, exists_prop, R0C_ex, post_Grid_fullMark]
theorem c_Grid_fullMark (l : Launch) (n : Nat) : fx_Met l y_Grid_fullMark ws_Grid_fullMark rm_Grid_fullMark (MC n) (pre_Grid_fullMark n) (post_Grid_fullMark n) := fx_met (MC_ok n) (MC_tys n) (by decide) rfl pk_Grid_fullMark vk_Grid_fullMark (fun st I J R h => r_Grid_fullMark n st I J R h)
