/-! the class: the text's letters typed and cleared (own work) -/
theorem i2b_small : ∀ x, x < 128 → (nI x).toInt8.toInt32 = nI x := by decide +kernel
def p_ClueText_append : fx_Pr := fx_pr [(0, .aload_n 0, 0), (1, .getfield 15, 0), (4, .bipush 120, 0), (6, .if_icmp .ge 24, 30), (9, .aload_n 0, 0), (10, .getfield 9, 0), (13, .aload_n 0, 0), (14, .getfield 15, 0), (17, .iload_n 1, 0), (18, .i2b, 0), (19, .bastore, 0), (20, .aload_n 0, 0), (21, .dup, 0), (22, .getfield 15, 0), (25, .iconst 1, 0), (26, .iadd, 0), (27, .putfield 15, 0), (30, .return_, 0)]
theorem pk_ClueText_append : fx_prOK b_ClueText_append p_ClueText_append := fx_pr_ok (by decide +kernel)
theorem q_ClueText_append_0 {nL : Nat} {M : fx_M} {ev : fx_Env} {ret : Option FieldType} {P : fx_P} {stops : List (Nat × Nat)} {K : fx_K} {n : Nat} {L : List (Option Value)} {st : List Value} {I : fx_MI} {J : fx_MJ} {R : fx_MR} {X : Nat → fx_K} (hX : fx_isX nL M ev ret P p_ClueText_append stops K X) (hs : fx_stop stops 0 = none) : X (n + 1) 0 L st I J R = fx_S nL M ev ret P (.aload_n 0) 0 0 L st I J R (X n) := hX.1 _ _ _ _ _ _ _ _ _ rfl hs
theorem q_ClueText_append_1 {nL : Nat} {M : fx_M} {ev : fx_Env} {ret : Option FieldType} {P : fx_P} {stops : List (Nat × Nat)} {K : fx_K} {n : Nat} {L : List (Option Value)} {st : List Value} {I : fx_MI} {J : fx_MJ} {R : fx_MR} {X : Nat → fx_K} (hX : fx_isX nL M ev ret P p_ClueText_append stops K X) (hs : fx_stop stops 1 = none) : X (n + 1) 1 L st I J R = fx_S nL M ev ret P (.getfield 15) 0 1 L st I J R (X n) := hX.1 _ _ _ _ _ _ _ _ _ rfl hs
theorem q_ClueText_append_4 {nL : Nat} {M : fx_M} {ev : fx_Env} {ret : Option FieldType} {P : fx_P} {stops : List (Nat × Nat)} {K : fx_K} {n : Nat} {L : List (Option Value)} {st : List Value} {I : fx_MI} {J : fx_MJ} {R : fx_MR} {X : Nat → fx_K} (hX : fx_isX nL M ev ret P p_ClueText_append stops K X) (hs : fx_stop stops 4 = none) : X (n + 1) 4 L st I J R = fx_S nL M ev ret P (.bipush 120) 0 4 L st I J R (X n) := hX.1 _ _ _ _ _ _ _ _ _ rfl hs
theorem q_ClueText_append_6 {nL : Nat} {M : fx_M} {ev : fx_Env} {ret : Option FieldType} {P : fx_P} {stops : List (Nat × Nat)} {K : fx_K} {n : Nat} {L : List (Option Value)} {st : List Value} {I : fx_MI} {J : fx_MJ} {R : fx_MR} {x y : Int32} {X : Nat → fx_K} (hX : fx_isX nL M ev ret P p_ClueText_append stops K X) (hs : fx_stop stops 6 = none) : X (n + 1) 6 L (.int y :: .int x :: st) I J R = ((y ≤ x → X n 30 L st I J R) ∧ (¬ y ≤ x → X n 9 L st I J R)) := fx_q_icmp hX rfl hs rfl
theorem q_ClueText_append_9 {nL : Nat} {M : fx_M} {ev : fx_Env} {ret : Option FieldType} {P : fx_P} {stops : List (Nat × Nat)} {K : fx_K} {n : Nat} {L : List (Option Value)} {st : List Value} {I : fx_MI} {J : fx_MJ} {R : fx_MR} {X : Nat → fx_K} (hX : fx_isX nL M ev ret P p_ClueText_append stops K X) (hs : fx_stop stops 9 = none) : X (n + 1) 9 L st I J R = fx_S nL M ev ret P (.aload_n 0) 0 9 L st I J R (X n) := hX.1 _ _ _ _ _ _ _ _ _ rfl hs
theorem q_ClueText_append_10 {nL : Nat} {M : fx_M} {ev : fx_Env} {ret : Option FieldType} {P : fx_P} {stops : List (Nat × Nat)} {K : fx_K} {n : Nat} {L : List (Option Value)} {st : List Value} {I : fx_MI} {J : fx_MJ} {R : fx_MR} {X : Nat → fx_K} (hX : fx_isX nL M ev ret P p_ClueText_append stops K X) (hs : fx_stop stops 10 = none) : X (n + 1) 10 L st I J R = fx_S nL M ev ret P (.getfield 9) 0 10 L st I J R (X n) := hX.1 _ _ _ _ _ _ _ _ _ rfl hs
theorem q_ClueText_append_13 {nL : Nat} {M : fx_M} {ev : fx_Env} {ret : Option FieldType} {P : fx_P} {stops : List (Nat × Nat)} {K : fx_K} {n : Nat} {L : List (Option Value)} {st : List Value} {I : fx_MI} {J : fx_MJ} {R : fx_MR} {X : Nat → fx_K} (hX : fx_isX nL M ev ret P p_ClueText_append stops K X) (hs : fx_stop stops 13 = none) : X (n + 1) 13 L st I J R = fx_S nL M ev ret P (.aload_n 0) 0 13 L st I J R (X n) := hX.1 _ _ _ _ _ _ _ _ _ rfl hs
theorem q_ClueText_append_14 {nL : Nat} {M : fx_M} {ev : fx_Env} {ret : Option FieldType} {P : fx_P} {stops : List (Nat × Nat)} {K : fx_K} {n : Nat} {L : List (Option Value)} {st : List Value} {I : fx_MI} {J : fx_MJ} {R : fx_MR} {X : Nat → fx_K} (hX : fx_isX nL M ev ret P p_ClueText_append stops K X) (hs : fx_stop stops 14 = none) : X (n + 1) 14 L st I J R = fx_S nL M ev ret P (.getfield 15) 0 14 L st I J R (X n) := hX.1 _ _ _ _ _ _ _ _ _ rfl hs
theorem q_ClueText_append_17 {nL : Nat} {M : fx_M} {ev : fx_Env} {ret : Option FieldType} {P : fx_P} {stops : List (Nat × Nat)} {K : fx_K} {n : Nat} {L : List (Option Value)} {st : List Value} {I : fx_MI} {J : fx_MJ} {R : fx_MR} {X : Nat → fx_K} (hX : fx_isX nL M ev ret P p_ClueText_append stops K X) (hs : fx_stop stops 17 = none) : X (n + 1) 17 L st I J R = fx_S nL M ev ret P (.iload_n 1) 0 17 L st I J R (X n) := hX.1 _ _ _ _ _ _ _ _ _ rfl hs
theorem q_ClueText_append_18 {nL : Nat} {M : fx_M} {ev : fx_Env} {ret : Option FieldType} {P : fx_P} {stops : List (Nat × Nat)} {K : fx_K} {n : Nat} {L : List (Option Value)} {st : List Value} {I : fx_MI} {J : fx_MJ} {R : fx_MR} {X : Nat → fx_K} (hX : fx_isX nL M ev ret P p_ClueText_append stops K X) (hs : fx_stop stops 18 = none) : X (n + 1) 18 L st I J R = fx_S nL M ev ret P (.i2b) 0 18 L st I J R (X n) := hX.1 _ _ _ _ _ _ _ _ _ rfl hs
theorem q_ClueText_append_19 {nL : Nat} {M : fx_M} {ev : fx_Env} {ret : Option FieldType} {P : fx_P} {stops : List (Nat × Nat)} {K : fx_K} {n : Nat} {L : List (Option Value)} {st : List Value} {I : fx_MI} {J : fx_MJ} {R : fx_MR} {X : Nat → fx_K} (hX : fx_isX nL M ev ret P p_ClueText_append stops K X) (hs : fx_stop stops 19 = none) : X (n + 1) 19 L st I J R = fx_S nL M ev ret P (.bastore) 0 19 L st I J R (X n) := hX.1 _ _ _ _ _ _ _ _ _ rfl hs
theorem q_ClueText_append_20 {nL : Nat} {M : fx_M} {ev : fx_Env} {ret : Option FieldType} {P : fx_P} {stops : List (Nat × Nat)} {K : fx_K} {n : Nat} {L : List (Option Value)} {st : List Value} {I : fx_MI} {J : fx_MJ} {R : fx_MR} {X : Nat → fx_K} (hX : fx_isX nL M ev ret P p_ClueText_append stops K X) (hs : fx_stop stops 20 = none) : X (n + 1) 20 L st I J R = fx_S nL M ev ret P (.aload_n 0) 0 20 L st I J R (X n) := hX.1 _ _ _ _ _ _ _ _ _ rfl hs
theorem q_ClueText_append_21 {nL : Nat} {M : fx_M} {ev : fx_Env} {ret : Option FieldType} {P : fx_P} {stops : List (Nat × Nat)} {K : fx_K} {n : Nat} {L : List (Option Value)} {st : List Value} {I : fx_MI} {J : fx_MJ} {R : fx_MR} {X : Nat → fx_K} (hX : fx_isX nL M ev ret P p_ClueText_append stops K X) (hs : fx_stop stops 21 = none) : X (n + 1) 21 L st I J R = fx_S nL M ev ret P (.dup) 0 21 L st I J R (X n) := hX.1 _ _ _ _ _ _ _ _ _ rfl hs
theorem q_ClueText_append_22 {nL : Nat} {M : fx_M} {ev : fx_Env} {ret : Option FieldType} {P : fx_P} {stops : List (Nat × Nat)} {K : fx_K} {n : Nat} {L : List (Option Value)} {st : List Value} {I : fx_MI} {J : fx_MJ} {R : fx_MR} {X : Nat → fx_K} (hX : fx_isX nL M ev ret P p_ClueText_append stops K X) (hs : fx_stop stops 22 = none) : X (n + 1) 22 L st I J R = fx_S nL M ev ret P (.getfield 15) 0 22 L st I J R (X n) := hX.1 _ _ _ _ _ _ _ _ _ rfl hs
theorem q_ClueText_append_25 {nL : Nat} {M : fx_M} {ev : fx_Env} {ret : Option FieldType} {P : fx_P} {stops : List (Nat × Nat)} {K : fx_K} {n : Nat} {L : List (Option Value)} {st : List Value} {I : fx_MI} {J : fx_MJ} {R : fx_MR} {X : Nat → fx_K} (hX : fx_isX nL M ev ret P p_ClueText_append stops K X) (hs : fx_stop stops 25 = none) : X (n + 1) 25 L st I J R = fx_S nL M ev ret P (.iconst 1) 0 25 L st I J R (X n) := hX.1 _ _ _ _ _ _ _ _ _ rfl hs
theorem q_ClueText_append_26 {nL : Nat} {M : fx_M} {ev : fx_Env} {ret : Option FieldType} {P : fx_P} {stops : List (Nat × Nat)} {K : fx_K} {n : Nat} {L : List (Option Value)} {st : List Value} {I : fx_MI} {J : fx_MJ} {R : fx_MR} {X : Nat → fx_K} (hX : fx_isX nL M ev ret P p_ClueText_append stops K X) (hs : fx_stop stops 26 = none) : X (n + 1) 26 L st I J R = fx_S nL M ev ret P (.iadd) 0 26 L st I J R (X n) := hX.1 _ _ _ _ _ _ _ _ _ rfl hs
theorem q_ClueText_append_27 {nL : Nat} {M : fx_M} {ev : fx_Env} {ret : Option FieldType} {P : fx_P} {stops : List (Nat × Nat)} {K : fx_K} {n : Nat} {L : List (Option Value)} {st : List Value} {I : fx_MI} {J : fx_MJ} {R : fx_MR} {X : Nat → fx_K} (hX : fx_isX nL M ev ret P p_ClueText_append stops K X) (hs : fx_stop stops 27 = none) : X (n + 1) 27 L st I J R = fx_S nL M ev ret P (.putfield 15) 0 27 L st I J R (X n) := hX.1 _ _ _ _ _ _ _ _ _ rfl hs
theorem q_ClueText_append_30 {nL : Nat} {M : fx_M} {ev : fx_Env} {ret : Option FieldType} {P : fx_P} {stops : List (Nat × Nat)} {K : fx_K} {n : Nat} {L : List (Option Value)} {st : List Value} {I : fx_MI} {J : fx_MJ} {R : fx_MR} {X : Nat → fx_K} (hX : fx_isX nL M ev ret P p_ClueText_append stops K X) (hs : fx_stop stops 30 = none) : X (n + 1) 30 L st I J R = fx_S nL M ev ret P (.return_) 0 30 L st I J R (X n) := hX.1 _ _ _ _ _ _ _ _ _ rfl hs
def pre_ClueText_append (n : Nat) : fx_Pre := fun st I J R => (∃ b, R = R0C b) ∧ (match st with
  | [.ref 94, .int v] => rg (I 94 1) 120 ∧ rg v 128
  | _ => False)
theorem pi_ClueText_append {n : Nat} {st : List Value} {I : fx_MI} {J : fx_MJ} {R : fx_MR} (h : pre_ClueText_append n st I J R) : (∃ b, R = R0C b) ∧ ∃ v, st = [.ref 94, .int v] ∧ (rg (I 94 1) 120 ∧ rg v 128) := by
  unfold pre_ClueText_append at h
  obtain ⟨h0, h⟩ := h
  split at h
  · exact ⟨h0, _, rfl, h⟩
  · cases h
def post_ClueText_append (n : Nat) : fx_Post := fun st I J R r I' J' R' => match st with
  | [_, .int v] => r = none ∧ I' = fx_up (fx_up I 95 (nv (I 94 1)) v) 94 1 (nI (nv (I 94 1) + 1)) ∧ J' = J ∧ R' = R
  | _ => True
theorem pz_ClueText_append {st : List Value} {I : fx_MI} {J : fx_MJ} {R : fx_MR} (n : Nat) (h : pre_ClueText_append n st I J R) : ∃ q r, st = .ref q :: r ∧ (MC n).2.2.1 q = some (.inl 6) ∧ r.length = 1 := by
  obtain ⟨_, _, rfl, _⟩ := pi_ClueText_append h
  exact ⟨_, _, rfl, rfl, rfl⟩
def v_ClueText_append (n : Nat) : fx_Env := [(.getfield 15, fx_tget (MC n) 6 1), (.getfield 9, fx_tget (MC n) 6 0), (.putfield 15, fx_tput (MC n) 6 1)]
abbrev rm_ClueText_append : Room := { frames := 0, cells := 0, slots := 0, locals := 0 }
abbrev ws_ClueText_append : List Cond := Cond.code y_ClueText_append b_ClueText_append 2 none :: w_C
theorem vk_ClueText_append {l : Launch} {n : Nat} : fx_EV l R_ClueText ws_ClueText_append rm_ClueText_append (MC n) 2 b_ClueText_append (v_ClueText_append n) := (fx_EV_cons e_ClueText_g15 (fx_EV_cons e_ClueText_g9 (fx_EV_cons e_ClueText_p15 fx_EV_nil)))
theorem r_ClueText_append (n : Nat) (st : List Value) (I : fx_MI) (J : fx_MJ) (R : fx_MR) (h : pre_ClueText_append n st I J R) : fx_sz st ≤ 2 ∧ fx_R 2 (MC n) (v_ClueText_append n) none (post_ClueText_append n st I J R) p_ClueText_append 0 (fx_en st) [] I J R := by
  obtain ⟨⟨b, rfl⟩, v, rfl, hp⟩ := pi_ClueText_append h
  clear h
  refine ⟨Nat.le_of_ble_eq_true rfl, ?_⟩
  obtain ⟨⟨k, hk, e⟩, x, hx, rfl⟩ := hp
  have hi := i2b_small x hx
  have hpost : post_ClueText_append n [.ref 94, .int (nI x)] I J (R0C b) none (fx_up (fx_up I 95 k (nI x)) 94 1 (nI (k + 1))) J (R0C b) := by
    refine ⟨rfl, ?_, rfl, rfl⟩
    rw [e, nv_nI (by omega)]
  refine fx_run0 120 fun X hX => ?_
  simp only [q_ClueText_append_0 hX rfl, q_ClueText_append_1 hX rfl, q_ClueText_append_4 hX rfl, q_ClueText_append_6 hX rfl, q_ClueText_append_9 hX rfl, q_ClueText_append_10 hX rfl, q_ClueText_append_13 hX rfl, q_ClueText_append_14 hX rfl, q_ClueText_append_17 hX rfl, q_ClueText_append_18 hX rfl, q_ClueText_append_19 hX rfl, q_ClueText_append_20 hX rfl, q_ClueText_append_21 hX rfl, q_ClueText_append_22 hX rfl, q_ClueText_append_25 hX rfl, q_ClueText_append_26 hX rfl, q_ClueText_append_27 hX rfl, q_ClueText_append_30 hX rfl, fs_aload_n0, fs_aload_n1, fs_aload_n2, fs_aload_n3, fs_bastore, fs_bipush, fs_dup, fs_getfield, fs_i2b, fs_iadd, fs_iconst, fs_if_icmp, fs_iload_n0, fs_iload_n1, fs_iload_n2, fs_iload_n3, fs_putfield, fs_return_, v_ClueText_append, cb_120, ci_1, kd_C_6_1, pl_C_94, kd_C_6_0, R0C_94_0, pl_C_95, fx_oi_s, fx_ol_s, fx_or_s, fx_do_s, fx_lg_0, fx_lg_s, fx_ls_0, fx_ls_s, fx_ls_n0, fx_ls_ns, fx_en, fx_sz, Value.category, fx_nl, fx_lk, fx_tget, fx_tput, fx_tcall, fx_tldc, fx_fv, va_rf, fx_cat, fx_in, fx_cnd, fx_len, fx_narI, fx_narZ0, fx_narZ1, fx_narZb, zb_e, zb_ne, Option.some.injEq, Value.int.injEq, Value.long.injEq, Value.ref.injEq, List.cons.injEq, Nat.reduceAdd, Nat.reduceLeDiff, Nat.le_refl, List.take, List.drop, List.reverse_cons, List.reverse_nil, List.nil_append, List.cons_append, List.append_nil, List.map_cons, List.map_nil, List.sum_cons, List.sum_nil, List.length_cons, List.length_nil, Option.toList, fx_all4, forall_const, true_and, and_true, not_true_eq_false, not_false_eq_true, false_implies, true_implies, ne_eq, reduceCtorEq, Nat.reduceEqDiff, ite_true, ite_false, reduceIte, Instr.getfield.injEq, Instr.putfield.injEq, Instr.invokevirtual.injEq, Instr.invokestatic.injEq, Instr.ldc2_w.injEq, fx_tcopy, Instr.ldc.injEq, Instr.ldc_w.injEq, exists_eq_left, exists_prop, R0C_ex]
  simp (disch := omega) only [lit, nI_add, nI_mul', nI_sub', nI_clamp, nI_lt', nI_le', nI_eq', nI_in', iinc1, zb_n0, nI_div', nI_rem2, true_and, and_true, Nat.reduceEqDiff, Nat.reduceLeDiff, Nat.one_ne_zero, Nat.zero_ne_one, not_false_eq_true, not_true_eq_false, false_implies, true_implies, forall_const, Nat.zero_add, Nat.add_zero, nv_nI, up_eq, up_ne, fill_ne, nI_clamp, nI_add, e, hi, up_ne]
  refine ⟨fun z => absurd z (by omega), fun _ => ?_⟩
  rw [show vp_nar FieldType.byte (nI x) = nI x from hi]
  exact hpost
theorem c_ClueText_append (l : Launch) (n : Nat) : fx_Met l y_ClueText_append ws_ClueText_append rm_ClueText_append (MC n) (pre_ClueText_append n) (post_ClueText_append n) := fx_met (MC_ok n) (MC_tys n) (by decide) rfl pk_ClueText_append vk_ClueText_append (fun st I J R h => r_ClueText_append n st I J R h)

theorem REL_t {I I' : fx_MI} {J : fx_MJ} {Ir Ir' : fx_MI} (h1 : REL I J Ir) (hI : ∀ q j, q ≠ 95 → (q ≠ 94 ∨ j ≠ 1) → I' q j = I q j) (hr : ∀ q j, q ≠ 10 → (q ≠ 0 ∨ j ≠ 19) → Ir' q j = Ir q j) (ht : relT I' Ir') : REL I' J Ir' := by
  obtain ⟨⟨⟨d1, d2, d3, d4⟩, hall, hl0⟩, h2, ⟨nx, u, n1, n2, n3, n4, n5, n6⟩, -, m1, m2, m3, m4⟩ := h1
  have eW : cW I' = cW I := by unfold cW; rw [hI 1 0 (by omega) (by omega)]
  have eH : cH I' = cH I := by unfold cH; rw [hI 1 1 (by omega) (by omega)]
  have eC : cC I' = cC I := by unfold cC; rw [hI 1 2 (by omega) (by omega)]
  have er : Ir' 1 = Ir 1 := funext fun j => hr 1 j (by omega) (by omega)
  unfold REL relD relH relN allC
  rw [eW, eH, eC, hI 1 0 (by omega) (by omega), hI 1 1 (by omega) (by omega), hI 1 2 (by omega) (by omega), hI 12 1 (by omega) (by omega), hI 12 2 (by omega) (by omega), hI 138 5 (by omega) (by omega), hI 138 6 (by omega) (by omega), hI 138 7 (by omega) (by omega), hI 138 8 (by omega) (by omega), hr 0 2 (by omega) (by omega), hr 0 3 (by omega) (by omega), hr 0 4 (by omega) (by omega), hr 0 5 (by omega) (by omega), hr 0 6 (by omega) (by omega), hr 0 7 (by omega) (by omega), hr 0 8 (by omega) (by omega), hr 0 9 (by omega) (by omega), er]
  refine ⟨⟨⟨?_, d2, d3, d4⟩, hall, hl0⟩, sR_fr (fun p j g1 g2 => hI p j (by omega) (by omega)) (fun p j g1 g2 => rfl) h2, ⟨nx, u, n1, n2, n3, n4, n5, fun t ht => ?_⟩, ht, m1, m2, m3, m4⟩
  · unfold dimC at d1 ⊢
    rw [hI 1 0 (by omega) (by omega), hI 1 1 (by omega) (by omega), hI 1 2 (by omega) (by omega)]
    exact d1
  · have hrow : (fun k => Ir' 2 (416 * t + k)) = fun k => Ir 2 (416 * t + k) := funext fun k => hr 2 _ (by omega) (by omega)
    rw [hrow]
    have hp : (nx + 8 - u + t) % 8 < 8 := by omega
    refine sR_fr (fun p j g1 g2 => hI p j ?_ ?_) (fun p j g1 g2 => rfl) (n6 t ht)
    · unfold rgP at g1 g2
      omega
    · unfold rgP at g1 g2
      omega
def p_Out_type : fx_Pr := fx_pr [(0, .iload_n 1, 0), (1, .iconst 0, 0), (2, .bipush 127, 0), (4, .invokestatic 87, 0), (7, .ifCond .ne 6, 13), (10, .bipush (-2), 0), (12, .ireturn, 0), (13, .aload_n 0, 0), (14, .getfield 33, 0), (17, .getfield 216, 0), (20, .bipush 120, 0), (22, .if_icmp .lt 6, 28), (25, .bipush (-3), 0), (27, .ireturn, 0), (28, .aload_n 0, 0), (29, .getfield 33, 0), (32, .iload_n 1, 0), (33, .invokevirtual 219, 0), (36, .aload_n 0, 0), (37, .getfield 33, 0), (40, .getfield 216, 0), (43, .ireturn, 0)]
theorem pk_Out_type : fx_prOK b_Out_type p_Out_type := fx_pr_ok (by decide +kernel)
theorem q_Out_type_0 {nL : Nat} {M : fx_M} {ev : fx_Env} {ret : Option FieldType} {P : fx_P} {stops : List (Nat × Nat)} {K : fx_K} {n : Nat} {L : List (Option Value)} {st : List Value} {I : fx_MI} {J : fx_MJ} {R : fx_MR} {X : Nat → fx_K} (hX : fx_isX nL M ev ret P p_Out_type stops K X) (hs : fx_stop stops 0 = none) : X (n + 1) 0 L st I J R = fx_S nL M ev ret P (.iload_n 1) 0 0 L st I J R (X n) := hX.1 _ _ _ _ _ _ _ _ _ rfl hs
theorem q_Out_type_1 {nL : Nat} {M : fx_M} {ev : fx_Env} {ret : Option FieldType} {P : fx_P} {stops : List (Nat × Nat)} {K : fx_K} {n : Nat} {L : List (Option Value)} {st : List Value} {I : fx_MI} {J : fx_MJ} {R : fx_MR} {X : Nat → fx_K} (hX : fx_isX nL M ev ret P p_Out_type stops K X) (hs : fx_stop stops 1 = none) : X (n + 1) 1 L st I J R = fx_S nL M ev ret P (.iconst 0) 0 1 L st I J R (X n) := hX.1 _ _ _ _ _ _ _ _ _ rfl hs
theorem q_Out_type_2 {nL : Nat} {M : fx_M} {ev : fx_Env} {ret : Option FieldType} {P : fx_P} {stops : List (Nat × Nat)} {K : fx_K} {n : Nat} {L : List (Option Value)} {st : List Value} {I : fx_MI} {J : fx_MJ} {R : fx_MR} {X : Nat → fx_K} (hX : fx_isX nL M ev ret P p_Out_type stops K X) (hs : fx_stop stops 2 = none) : X (n + 1) 2 L st I J R = fx_S nL M ev ret P (.bipush 127) 0 2 L st I J R (X n) := hX.1 _ _ _ _ _ _ _ _ _ rfl hs
theorem q_Out_type_4 {nL : Nat} {M : fx_M} {ev : fx_Env} {ret : Option FieldType} {P : fx_P} {stops : List (Nat × Nat)} {K : fx_K} {n : Nat} {L : List (Option Value)} {st : List Value} {I : fx_MI} {J : fx_MJ} {R : fx_MR} {X : Nat → fx_K} (hX : fx_isX nL M ev ret P p_Out_type stops K X) (hs : fx_stop stops 4 = none) : X (n + 1) 4 L st I J R = fx_S nL M ev ret P (.invokestatic 87) 0 4 L st I J R (X n) := hX.1 _ _ _ _ _ _ _ _ _ rfl hs
theorem q_Out_type_7 {nL : Nat} {M : fx_M} {ev : fx_Env} {ret : Option FieldType} {P : fx_P} {stops : List (Nat × Nat)} {K : fx_K} {n : Nat} {L : List (Option Value)} {st : List Value} {I : fx_MI} {J : fx_MJ} {R : fx_MR} {x : Int32} {X : Nat → fx_K} (hX : fx_isX nL M ev ret P p_Out_type stops K X) (hs : fx_stop stops 7 = none) : X (n + 1) 7 L (.int x :: st) I J R = ((¬ x = 0 → X n 13 L st I J R) ∧ (x = 0 → X n 10 L st I J R)) := fx_q_ifne hX rfl hs rfl
theorem q_Out_type_10 {nL : Nat} {M : fx_M} {ev : fx_Env} {ret : Option FieldType} {P : fx_P} {stops : List (Nat × Nat)} {K : fx_K} {n : Nat} {L : List (Option Value)} {st : List Value} {I : fx_MI} {J : fx_MJ} {R : fx_MR} {X : Nat → fx_K} (hX : fx_isX nL M ev ret P p_Out_type stops K X) (hs : fx_stop stops 10 = none) : X (n + 1) 10 L st I J R = fx_S nL M ev ret P (.bipush (-2)) 0 10 L st I J R (X n) := hX.1 _ _ _ _ _ _ _ _ _ rfl hs
theorem q_Out_type_12 {nL : Nat} {M : fx_M} {ev : fx_Env} {ret : Option FieldType} {P : fx_P} {stops : List (Nat × Nat)} {K : fx_K} {n : Nat} {L : List (Option Value)} {st : List Value} {I : fx_MI} {J : fx_MJ} {R : fx_MR} {X : Nat → fx_K} (hX : fx_isX nL M ev ret P p_Out_type stops K X) (hs : fx_stop stops 12 = none) : X (n + 1) 12 L st I J R = fx_S nL M ev ret P (.ireturn) 0 12 L st I J R (X n) := hX.1 _ _ _ _ _ _ _ _ _ rfl hs
theorem q_Out_type_13 {nL : Nat} {M : fx_M} {ev : fx_Env} {ret : Option FieldType} {P : fx_P} {stops : List (Nat × Nat)} {K : fx_K} {n : Nat} {L : List (Option Value)} {st : List Value} {I : fx_MI} {J : fx_MJ} {R : fx_MR} {X : Nat → fx_K} (hX : fx_isX nL M ev ret P p_Out_type stops K X) (hs : fx_stop stops 13 = none) : X (n + 1) 13 L st I J R = fx_S nL M ev ret P (.aload_n 0) 0 13 L st I J R (X n) := hX.1 _ _ _ _ _ _ _ _ _ rfl hs
theorem q_Out_type_14 {nL : Nat} {M : fx_M} {ev : fx_Env} {ret : Option FieldType} {P : fx_P} {stops : List (Nat × Nat)} {K : fx_K} {n : Nat} {L : List (Option Value)} {st : List Value} {I : fx_MI} {J : fx_MJ} {R : fx_MR} {X : Nat → fx_K} (hX : fx_isX nL M ev ret P p_Out_type stops K X) (hs : fx_stop stops 14 = none) : X (n + 1) 14 L st I J R = fx_S nL M ev ret P (.getfield 33) 0 14 L st I J R (X n) := hX.1 _ _ _ _ _ _ _ _ _ rfl hs
theorem q_Out_type_17 {nL : Nat} {M : fx_M} {ev : fx_Env} {ret : Option FieldType} {P : fx_P} {stops : List (Nat × Nat)} {K : fx_K} {n : Nat} {L : List (Option Value)} {st : List Value} {I : fx_MI} {J : fx_MJ} {R : fx_MR} {X : Nat → fx_K} (hX : fx_isX nL M ev ret P p_Out_type stops K X) (hs : fx_stop stops 17 = none) : X (n + 1) 17 L st I J R = fx_S nL M ev ret P (.getfield 216) 0 17 L st I J R (X n) := hX.1 _ _ _ _ _ _ _ _ _ rfl hs
theorem q_Out_type_20 {nL : Nat} {M : fx_M} {ev : fx_Env} {ret : Option FieldType} {P : fx_P} {stops : List (Nat × Nat)} {K : fx_K} {n : Nat} {L : List (Option Value)} {st : List Value} {I : fx_MI} {J : fx_MJ} {R : fx_MR} {X : Nat → fx_K} (hX : fx_isX nL M ev ret P p_Out_type stops K X) (hs : fx_stop stops 20 = none) : X (n + 1) 20 L st I J R = fx_S nL M ev ret P (.bipush 120) 0 20 L st I J R (X n) := hX.1 _ _ _ _ _ _ _ _ _ rfl hs
theorem q_Out_type_22 {nL : Nat} {M : fx_M} {ev : fx_Env} {ret : Option FieldType} {P : fx_P} {stops : List (Nat × Nat)} {K : fx_K} {n : Nat} {L : List (Option Value)} {st : List Value} {I : fx_MI} {J : fx_MJ} {R : fx_MR} {x y : Int32} {X : Nat → fx_K} (hX : fx_isX nL M ev ret P p_Out_type stops K X) (hs : fx_stop stops 22 = none) : X (n + 1) 22 L (.int y :: .int x :: st) I J R = ((x < y → X n 28 L st I J R) ∧ (¬ x < y → X n 25 L st I J R)) := fx_q_icmp hX rfl hs rfl
theorem q_Out_type_25 {nL : Nat} {M : fx_M} {ev : fx_Env} {ret : Option FieldType} {P : fx_P} {stops : List (Nat × Nat)} {K : fx_K} {n : Nat} {L : List (Option Value)} {st : List Value} {I : fx_MI} {J : fx_MJ} {R : fx_MR} {X : Nat → fx_K} (hX : fx_isX nL M ev ret P p_Out_type stops K X) (hs : fx_stop stops 25 = none) : X (n + 1) 25 L st I J R = fx_S nL M ev ret P (.bipush (-3)) 0 25 L st I J R (X n) := hX.1 _ _ _ _ _ _ _ _ _ rfl hs
theorem q_Out_type_27 {nL : Nat} {M : fx_M} {ev : fx_Env} {ret : Option FieldType} {P : fx_P} {stops : List (Nat × Nat)} {K : fx_K} {n : Nat} {L : List (Option Value)} {st : List Value} {I : fx_MI} {J : fx_MJ} {R : fx_MR} {X : Nat → fx_K} (hX : fx_isX nL M ev ret P p_Out_type stops K X) (hs : fx_stop stops 27 = none) : X (n + 1) 27 L st I J R = fx_S nL M ev ret P (.ireturn) 0 27 L st I J R (X n) := hX.1 _ _ _ _ _ _ _ _ _ rfl hs
theorem q_Out_type_28 {nL : Nat} {M : fx_M} {ev : fx_Env} {ret : Option FieldType} {P : fx_P} {stops : List (Nat × Nat)} {K : fx_K} {n : Nat} {L : List (Option Value)} {st : List Value} {I : fx_MI} {J : fx_MJ} {R : fx_MR} {X : Nat → fx_K} (hX : fx_isX nL M ev ret P p_Out_type stops K X) (hs : fx_stop stops 28 = none) : X (n + 1) 28 L st I J R = fx_S nL M ev ret P (.aload_n 0) 0 28 L st I J R (X n) := hX.1 _ _ _ _ _ _ _ _ _ rfl hs
theorem q_Out_type_29 {nL : Nat} {M : fx_M} {ev : fx_Env} {ret : Option FieldType} {P : fx_P} {stops : List (Nat × Nat)} {K : fx_K} {n : Nat} {L : List (Option Value)} {st : List Value} {I : fx_MI} {J : fx_MJ} {R : fx_MR} {X : Nat → fx_K} (hX : fx_isX nL M ev ret P p_Out_type stops K X) (hs : fx_stop stops 29 = none) : X (n + 1) 29 L st I J R = fx_S nL M ev ret P (.getfield 33) 0 29 L st I J R (X n) := hX.1 _ _ _ _ _ _ _ _ _ rfl hs
theorem q_Out_type_32 {nL : Nat} {M : fx_M} {ev : fx_Env} {ret : Option FieldType} {P : fx_P} {stops : List (Nat × Nat)} {K : fx_K} {n : Nat} {L : List (Option Value)} {st : List Value} {I : fx_MI} {J : fx_MJ} {R : fx_MR} {X : Nat → fx_K} (hX : fx_isX nL M ev ret P p_Out_type stops K X) (hs : fx_stop stops 32 = none) : X (n + 1) 32 L st I J R = fx_S nL M ev ret P (.iload_n 1) 0 32 L st I J R (X n) := hX.1 _ _ _ _ _ _ _ _ _ rfl hs
theorem q_Out_type_33 {nL : Nat} {M : fx_M} {ev : fx_Env} {ret : Option FieldType} {P : fx_P} {stops : List (Nat × Nat)} {K : fx_K} {n : Nat} {L : List (Option Value)} {st : List Value} {I : fx_MI} {J : fx_MJ} {R : fx_MR} {X : Nat → fx_K} (hX : fx_isX nL M ev ret P p_Out_type stops K X) (hs : fx_stop stops 33 = none) : X (n + 1) 33 L st I J R = fx_S nL M ev ret P (.invokevirtual 219) 0 33 L st I J R (X n) := hX.1 _ _ _ _ _ _ _ _ _ rfl hs
theorem q_Out_type_36 {nL : Nat} {M : fx_M} {ev : fx_Env} {ret : Option FieldType} {P : fx_P} {stops : List (Nat × Nat)} {K : fx_K} {n : Nat} {L : List (Option Value)} {st : List Value} {I : fx_MI} {J : fx_MJ} {R : fx_MR} {X : Nat → fx_K} (hX : fx_isX nL M ev ret P p_Out_type stops K X) (hs : fx_stop stops 36 = none) : X (n + 1) 36 L st I J R = fx_S nL M ev ret P (.aload_n 0) 0 36 L st I J R (X n) := hX.1 _ _ _ _ _ _ _ _ _ rfl hs
theorem q_Out_type_37 {nL : Nat} {M : fx_M} {ev : fx_Env} {ret : Option FieldType} {P : fx_P} {stops : List (Nat × Nat)} {K : fx_K} {n : Nat} {L : List (Option Value)} {st : List Value} {I : fx_MI} {J : fx_MJ} {R : fx_MR} {X : Nat → fx_K} (hX : fx_isX nL M ev ret P p_Out_type stops K X) (hs : fx_stop stops 37 = none) : X (n + 1) 37 L st I J R = fx_S nL M ev ret P (.getfield 33) 0 37 L st I J R (X n) := hX.1 _ _ _ _ _ _ _ _ _ rfl hs
theorem q_Out_type_40 {nL : Nat} {M : fx_M} {ev : fx_Env} {ret : Option FieldType} {P : fx_P} {stops : List (Nat × Nat)} {K : fx_K} {n : Nat} {L : List (Option Value)} {st : List Value} {I : fx_MI} {J : fx_MJ} {R : fx_MR} {X : Nat → fx_K} (hX : fx_isX nL M ev ret P p_Out_type stops K X) (hs : fx_stop stops 40 = none) : X (n + 1) 40 L st I J R = fx_S nL M ev ret P (.getfield 216) 0 40 L st I J R (X n) := hX.1 _ _ _ _ _ _ _ _ _ rfl hs
theorem q_Out_type_43 {nL : Nat} {M : fx_M} {ev : fx_Env} {ret : Option FieldType} {P : fx_P} {stops : List (Nat × Nat)} {K : fx_K} {n : Nat} {L : List (Option Value)} {st : List Value} {I : fx_MI} {J : fx_MJ} {R : fx_MR} {X : Nat → fx_K} (hX : fx_isX nL M ev ret P p_Out_type stops K X) (hs : fx_stop stops 43 = none) : X (n + 1) 43 L st I J R = fx_S nL M ev ret P (.ireturn) 0 43 L st I J R (X n) := hX.1 _ _ _ _ _ _ _ _ _ rfl hs
def pre_Out_type (n : Nat) : fx_Pre := fun st I J R => (∃ b, R = R0C b) ∧ (match st with
  | [.ref 0, .int v] => relE I J
  | _ => False)
theorem pi_Out_type {n : Nat} {st : List Value} {I : fx_MI} {J : fx_MJ} {R : fx_MR} (h : pre_Out_type n st I J R) : (∃ b, R = R0C b) ∧ ∃ v, st = [.ref 0, .int v] ∧ (relE I J) := by
  unfold pre_Out_type at h
  obtain ⟨h0, h⟩ := h
  split at h
  · exact ⟨h0, _, rfl, h⟩
  · cases h
def post_Out_type (n : Nat) : fx_Post := fun st I J R r I' J' R' => match st with
  | [_, .int v] => simP (post_M_type [.ref 0, .int v]) I J r I' J' R'
  | _ => True
theorem pz_Out_type {st : List Value} {I : fx_MI} {J : fx_MJ} {R : fx_MR} (n : Nat) (h : pre_Out_type n st I J R) : ∃ q r, st = .ref q :: r ∧ (MC n).2.2.1 q = some (.inl 0) ∧ r.length = 1 := by
  obtain ⟨_, _, rfl, _⟩ := pi_Out_type h
  exact ⟨_, _, rfl, rfl, rfl⟩
def v_Out_type (n : Nat) : fx_Env := [(.invokestatic 87, fx_tcall 3 (pre_Out_isWithin n) (post_Out_isWithin n)), (.getfield 33, fx_tget (MC n) 0 3), (.getfield 216, fx_tget (MC n) 6 1), (.invokevirtual 219, fx_tcall 2 (pre_ClueText_append n) (post_ClueText_append n))]
abbrev rm_Out_type : Room := { frames := 1, cells := 0, slots := 0, locals := 22 }
abbrev ws_Out_type : List Cond := Cond.code y_Out_type b_Out_type 2 (some .int) :: w_C
theorem e_Out_c219 {l : Launch} {c0 : Cond} {rm : Room} {n nL : Nat} {cc : ByteArray} (hR : rm_ClueText_append.frames + 1 ≤ rm.frames ∧ 8 + (2 + 11) + rm_ClueText_append.locals ≤ rm.locals) : fx_E1 l R_Out (c0 :: w_C) rm (MC n) nL cc (.invokevirtual 219) (fx_tcall 2 (pre_ClueText_append n) (post_ClueText_append n)) := fx_callV (ci := 6) (C := R_ClueText) rfl (c_ClueText_append l n) (w_C_G (w_C_h11 16 rfl) (w_C_h11 17 rfl) (w_C_h11 18 rfl) (w_C_h5 24 rfl) (w_C_h4 20 rfl)) rfl ⟨rfl, rfl⟩ (by decide) hR (fun st I J R h => pz_ClueText_append n h) (MC_ok n)
theorem vk_Out_type {l : Launch} {n : Nat} : fx_EV l R_Out ws_Out_type rm_Out_type (MC n) 2 b_Out_type (v_Out_type n) := (fx_EV_cons (e_Out_c87 (by decide)) (fx_EV_cons e_Out_g33 (fx_EV_cons e_Out_g216 (fx_EV_cons (e_Out_c219 (by decide)) fx_EV_nil))))
theorem r_Out_type (n : Nat) (st : List Value) (I : fx_MI) (J : fx_MJ) (R : fx_MR) (h : pre_Out_type n st I J R) : fx_sz st ≤ 2 ∧ fx_R 2 (MC n) (v_Out_type n) (some .int) (post_Out_type n st I J R) p_Out_type 0 (fx_en st) [] I J R := by
  obtain ⟨⟨b, rfl⟩, v, rfl, hp⟩ := pi_Out_type h
  clear h
  refine ⟨Nat.le_of_ble_eq_true rfl, ?_⟩
  obtain ⟨Ir0, hr0⟩ := hp
  have hk : rg (I 94 1) 121 := by rw [hr0.2.2.2.1.2.1]; exact hr0.2.2.2.1.1.1
  obtain ⟨k, hk, e⟩ := hk
  have hpost : ∀ x I1, (∀ Ir, REL I J Ir → Ir 0 19 = nI k → x = (if in_M v 0 127 then (if k = 120 then -3 else nI (k + 1)) else -2) ∧ REL I1 J (if in_M v 0 127 && decide (k < 120) then fx_up (fx_up Ir 10 k v) 0 19 (nI (k + 1)) else Ir)) → post_Out_type n [.ref 0, .int v] I J (R0C b) (some (.int x)) I1 J (R0C b) := fun x I1 h1 => by
    refine ⟨⟨b, rfl⟩, fun Ir hr Jr r2 Ir2 Jr2 Rr2 hq => ?_⟩
    obtain ⟨rfl, hI, rfl, rfl⟩ := hq
    have e9 : Ir 0 19 = nI k := hr.2.2.2.1.2.1.symm.trans e
    obtain ⟨h2, h3⟩ := h1 Ir hr e9
    rw [hI, e9, nv_nI (by omega), h2]
    exact ⟨rfl, rfl, h3⟩
  refine fx_run0 120 fun X hX => ?_
  simp only [q_Out_type_0 hX rfl, q_Out_type_1 hX rfl, q_Out_type_2 hX rfl, q_Out_type_4 hX rfl, q_Out_type_7 hX rfl, q_Out_type_10 hX rfl, q_Out_type_12 hX rfl, q_Out_type_13 hX rfl, q_Out_type_14 hX rfl, q_Out_type_17 hX rfl, q_Out_type_20 hX rfl, q_Out_type_22 hX rfl, q_Out_type_25 hX rfl, q_Out_type_27 hX rfl, q_Out_type_28 hX rfl, q_Out_type_29 hX rfl, q_Out_type_32 hX rfl, q_Out_type_33 hX rfl, q_Out_type_36 hX rfl, q_Out_type_37 hX rfl, q_Out_type_40 hX rfl, q_Out_type_43 hX rfl, fs_aload_n0, fs_aload_n1, fs_aload_n2, fs_aload_n3, fs_bipush, fs_getfield, fs_iconst, fs_ifCond, fs_if_icmp, fs_iload_n0, fs_iload_n1, fs_iload_n2, fs_iload_n3, fs_invokestatic, fs_invokevirtual, fs_ireturn, v_Out_type, ci_0, cb_127, cb_m2, cb_120, cb_m3, pre_Out_isWithin, post_Out_isWithin, pre_ClueText_append, post_ClueText_append, kd_C_0_3, pl_C_0, R0C_0_3, pl_C_94, kd_C_6_1, fx_oi_s, fx_ol_s, fx_or_s, fx_do_s, fx_lg_0, fx_lg_s, fx_ls_0, fx_ls_s, fx_ls_n0, fx_ls_ns, fx_en, fx_sz, Value.category, fx_nl, fx_lk, fx_tget, fx_tput, fx_tcall, fx_tldc, fx_fv, va_rf, fx_cat, fx_in, fx_cnd, fx_len, fx_narI, fx_narZ0, fx_narZ1, fx_narZb, zb_e, zb_ne, Option.some.injEq, Value.int.injEq, Value.long.injEq, Value.ref.injEq, List.cons.injEq, Nat.reduceAdd, Nat.reduceLeDiff, Nat.le_refl, List.take, List.drop, List.reverse_cons, List.reverse_nil, List.nil_append, List.cons_append, List.append_nil, List.map_cons, List.map_nil, List.sum_cons, List.sum_nil, List.length_cons, List.length_nil, Option.toList, fx_all4, forall_const, true_and, and_true, not_true_eq_false, not_false_eq_true, false_implies, true_implies, ne_eq, reduceCtorEq, Nat.reduceEqDiff, ite_true, ite_false, reduceIte, Instr.getfield.injEq, Instr.putfield.injEq, Instr.invokevirtual.injEq, Instr.invokestatic.injEq, Instr.ldc2_w.injEq, fx_tcopy, Instr.ldc.injEq, Instr.ldc_w.injEq, exists_eq_left, exists_prop, R0C_ex]
  simp (disch := omega) only [lit, nI_add, nI_mul', nI_sub', nI_clamp, nI_lt', nI_le', nI_eq', nI_in', iinc1, zb_n0, nI_div', nI_rem2, true_and, and_true, Nat.reduceEqDiff, Nat.reduceLeDiff, Nat.one_ne_zero, Nat.zero_ne_one, not_false_eq_true, not_true_eq_false, false_implies, true_implies, forall_const, Nat.zero_add, Nat.add_zero, nv_nI, up_eq, up_ne, fill_ne, nI_clamp, nI_add, e]
  refine ⟨fun h1 => ⟨fun h2 => ?_, fun h2 => hpost _ _ fun Ir hr e9 => ?_⟩, fun z => hpost _ _ fun Ir hr e9 => ?_⟩
  · obtain ⟨x, -, x2, rfl⟩ := in_t (a := 0) (b := 127) (by omega) (by omega) (bnf h1)
    refine ⟨⟨⟨k, h2, rfl⟩, x, by omega, rfl⟩, hpost _ _ fun Ir hr e9 => ?_⟩
    rw [show in_M (nI x) 0 127 = true from bnf h1, if_pos rfl, if_neg (by omega), if_pos (by rw [Bool.true_and]; exact decide_eq_true h2)]
    refine ⟨rfl, REL_t hr (fun q j g1 g2 => by rw [up_ne (by omega), up_ne (by omega)]) (fun q j g1 g2 => by rw [up_ne (by omega), up_ne (by omega)]) ?_⟩
    obtain ⟨⟨t0, t1⟩, t2, t3⟩ := hr.2.2.2.1
    unfold relT okt tlN at *
    rw [up_eq, up_eq, nv_nI (by omega)]
    rw [e9, nv_nI (by omega)] at t3
    refine ⟨⟨⟨k + 1, by omega, rfl⟩, fun j hj => ?_⟩, rfl, fun j hj => ?_⟩
    · rw [up_ne (by omega)]
      by_cases hjk : j = k
      · rw [hjk, up_eq]
        exact ⟨x, by omega, rfl⟩
      · rw [up_ne (by omega)]
        exact t1 j hj
    · rw [up_ne (I := fx_up I 95 k _) (by omega), up_ne (I := fx_up Ir 10 k _) (by omega)]
      by_cases hjk : j = k
      · rw [hjk, up_eq, up_eq]
      · rw [up_ne (by omega), up_ne (by omega)]
        exact t3 j (by omega)
  · rw [show in_M v 0 127 = true from bnf h1, if_pos rfl, if_pos (by omega), if_neg (by rw [Bool.true_and]; exact fun z => h2 (of_decide_eq_true z))]
    exact ⟨rfl, hr⟩
  · rw [show in_M v 0 127 = false from z, if_neg (by decide), if_neg (by rw [Bool.false_and]; decide)]
    exact ⟨rfl, hr⟩
theorem c_Out_type (l : Launch) (n : Nat) : fx_Met l y_Out_type ws_Out_type rm_Out_type (MC n) (pre_Out_type n) (post_Out_type n) := fx_met (MC_ok n) (MC_tys n) (by decide) rfl pk_Out_type vk_Out_type (fun st I J R h => r_Out_type n st I J R h)

def p_Out_clear : fx_Pr := fx_pr [(0, .aload_n 0, 0), (1, .getfield 33, 0), (4, .getfield 216, 0), (7, .istore_n 1, 0), (8, .aload_n 0, 0), (9, .getfield 33, 0), (12, .iconst 0, 0), (13, .putfield 216, 0), (16, .iload_n 1, 0), (17, .ireturn, 0)]
theorem pk_Out_clear : fx_prOK b_Out_clear p_Out_clear := fx_pr_ok (by decide +kernel)
theorem q_Out_clear_0 {nL : Nat} {M : fx_M} {ev : fx_Env} {ret : Option FieldType} {P : fx_P} {stops : List (Nat × Nat)} {K : fx_K} {n : Nat} {L : List (Option Value)} {st : List Value} {I : fx_MI} {J : fx_MJ} {R : fx_MR} {X : Nat → fx_K} (hX : fx_isX nL M ev ret P p_Out_clear stops K X) (hs : fx_stop stops 0 = none) : X (n + 1) 0 L st I J R = fx_S nL M ev ret P (.aload_n 0) 0 0 L st I J R (X n) := hX.1 _ _ _ _ _ _ _ _ _ rfl hs
theorem q_Out_clear_1 {nL : Nat} {M : fx_M} {ev : fx_Env} {ret : Option FieldType} {P : fx_P} {stops : List (Nat × Nat)} {K : fx_K} {n : Nat} {L : List (Option Value)} {st : List Value} {I : fx_MI} {J : fx_MJ} {R : fx_MR} {X : Nat → fx_K} (hX : fx_isX nL M ev ret P p_Out_clear stops K X) (hs : fx_stop stops 1 = none) : X (n + 1) 1 L st I J R = fx_S nL M ev ret P (.getfield 33) 0 1 L st I J R (X n) := hX.1 _ _ _ _ _ _ _ _ _ rfl hs
theorem q_Out_clear_4 {nL : Nat} {M : fx_M} {ev : fx_Env} {ret : Option FieldType} {P : fx_P} {stops : List (Nat × Nat)} {K : fx_K} {n : Nat} {L : List (Option Value)} {st : List Value} {I : fx_MI} {J : fx_MJ} {R : fx_MR} {X : Nat → fx_K} (hX : fx_isX nL M ev ret P p_Out_clear stops K X) (hs : fx_stop stops 4 = none) : X (n + 1) 4 L st I J R = fx_S nL M ev ret P (.getfield 216) 0 4 L st I J R (X n) := hX.1 _ _ _ _ _ _ _ _ _ rfl hs
theorem q_Out_clear_7 {nL : Nat} {M : fx_M} {ev : fx_Env} {ret : Option FieldType} {P : fx_P} {stops : List (Nat × Nat)} {K : fx_K} {n : Nat} {L : List (Option Value)} {st : List Value} {I : fx_MI} {J : fx_MJ} {R : fx_MR} {X : Nat → fx_K} (hX : fx_isX nL M ev ret P p_Out_clear stops K X) (hs : fx_stop stops 7 = none) : X (n + 1) 7 L st I J R = fx_S nL M ev ret P (.istore_n 1) 0 7 L st I J R (X n) := hX.1 _ _ _ _ _ _ _ _ _ rfl hs
theorem q_Out_clear_8 {nL : Nat} {M : fx_M} {ev : fx_Env} {ret : Option FieldType} {P : fx_P} {stops : List (Nat × Nat)} {K : fx_K} {n : Nat} {L : List (Option Value)} {st : List Value} {I : fx_MI} {J : fx_MJ} {R : fx_MR} {X : Nat → fx_K} (hX : fx_isX nL M ev ret P p_Out_clear stops K X) (hs : fx_stop stops 8 = none) : X (n + 1) 8 L st I J R = fx_S nL M ev ret P (.aload_n 0) 0 8 L st I J R (X n) := hX.1 _ _ _ _ _ _ _ _ _ rfl hs
theorem q_Out_clear_9 {nL : Nat} {M : fx_M} {ev : fx_Env} {ret : Option FieldType} {P : fx_P} {stops : List (Nat × Nat)} {K : fx_K} {n : Nat} {L : List (Option Value)} {st : List Value} {I : fx_MI} {J : fx_MJ} {R : fx_MR} {X : Nat → fx_K} (hX : fx_isX nL M ev ret P p_Out_clear stops K X) (hs : fx_stop stops 9 = none) : X (n + 1) 9 L st I J R = fx_S nL M ev ret P (.getfield 33) 0 9 L st I J R (X n) := hX.1 _ _ _ _ _ _ _ _ _ rfl hs
theorem q_Out_clear_12 {nL : Nat} {M : fx_M} {ev : fx_Env} {ret : Option FieldType} {P : fx_P} {stops : List (Nat × Nat)} {K : fx_K} {n : Nat} {L : List (Option Value)} {st : List Value} {I : fx_MI} {J : fx_MJ} {R : fx_MR} {X : Nat → fx_K} (hX : fx_isX nL M ev ret P p_Out_clear stops K X) (hs : fx_stop stops 12 = none) : X (n + 1) 12 L st I J R = fx_S nL M ev ret P (.iconst 0) 0 12 L st I J R (X n) := hX.1 _ _ _ _ _ _ _ _ _ rfl hs
theorem q_Out_clear_13 {nL : Nat} {M : fx_M} {ev : fx_Env} {ret : Option FieldType} {P : fx_P} {stops : List (Nat × Nat)} {K : fx_K} {n : Nat} {L : List (Option Value)} {st : List Value} {I : fx_MI} {J : fx_MJ} {R : fx_MR} {X : Nat → fx_K} (hX : fx_isX nL M ev ret P p_Out_clear stops K X) (hs : fx_stop stops 13 = none) : X (n + 1) 13 L st I J R = fx_S nL M ev ret P (.putfield 216) 0 13 L st I J R (X n) := hX.1 _ _ _ _ _ _ _ _ _ rfl hs
theorem q_Out_clear_16 {nL : Nat} {M : fx_M} {ev : fx_Env} {ret : Option FieldType} {P : fx_P} {stops : List (Nat × Nat)} {K : fx_K} {n : Nat} {L : List (Option Value)} {st : List Value} {I : fx_MI} {J : fx_MJ} {R : fx_MR} {X : Nat → fx_K} (hX : fx_isX nL M ev ret P p_Out_clear stops K X) (hs : fx_stop stops 16 = none) : X (n + 1) 16 L st I J R = fx_S nL M ev ret P (.iload_n 1) 0 16 L st I J R (X n) := hX.1 _ _ _ _ _ _ _ _ _ rfl hs
theorem q_Out_clear_17 {nL : Nat} {M : fx_M} {ev : fx_Env} {ret : Option FieldType} {P : fx_P} {stops : List (Nat × Nat)} {K : fx_K} {n : Nat} {L : List (Option Value)} {st : List Value} {I : fx_MI} {J : fx_MJ} {R : fx_MR} {X : Nat → fx_K} (hX : fx_isX nL M ev ret P p_Out_clear stops K X) (hs : fx_stop stops 17 = none) : X (n + 1) 17 L st I J R = fx_S nL M ev ret P (.ireturn) 0 17 L st I J R (X n) := hX.1 _ _ _ _ _ _ _ _ _ rfl hs
def pre_Out_clear (n : Nat) : fx_Pre := fun st I J R => (∃ b, R = R0C b) ∧ (match st with
  | [.ref 0] => relE I J
  | _ => False)
theorem pi_Out_clear {n : Nat} {st : List Value} {I : fx_MI} {J : fx_MJ} {R : fx_MR} (h : pre_Out_clear n st I J R) : (∃ b, R = R0C b) ∧ st = [.ref 0] ∧ (relE I J) := by
  unfold pre_Out_clear at h
  obtain ⟨h0, h⟩ := h
  split at h
  · exact ⟨h0, rfl, h⟩
  · cases h
def post_Out_clear (n : Nat) : fx_Post := fun st I J R r I' J' R' => simP (post_M_clear [.ref 0]) I J r I' J' R'
theorem pz_Out_clear {st : List Value} {I : fx_MI} {J : fx_MJ} {R : fx_MR} (n : Nat) (h : pre_Out_clear n st I J R) : ∃ q r, st = .ref q :: r ∧ (MC n).2.2.1 q = some (.inl 0) ∧ r.length = 0 := by
  obtain ⟨_, rfl, _⟩ := pi_Out_clear h
  exact ⟨_, _, rfl, rfl, rfl⟩
def v_Out_clear (n : Nat) : fx_Env := [(.getfield 33, fx_tget (MC n) 0 3), (.getfield 216, fx_tget (MC n) 6 1), (.putfield 216, fx_tput (MC n) 6 1)]
abbrev rm_Out_clear : Room := { frames := 0, cells := 0, slots := 0, locals := 0 }
abbrev ws_Out_clear : List Cond := Cond.code y_Out_clear b_Out_clear 2 (some .int) :: w_C
theorem vk_Out_clear {l : Launch} {n : Nat} : fx_EV l R_Out ws_Out_clear rm_Out_clear (MC n) 2 b_Out_clear (v_Out_clear n) := (fx_EV_cons e_Out_g33 (fx_EV_cons e_Out_g216 (fx_EV_cons e_Out_p216 fx_EV_nil)))
theorem r_Out_clear (n : Nat) (st : List Value) (I : fx_MI) (J : fx_MJ) (R : fx_MR) (h : pre_Out_clear n st I J R) : fx_sz st ≤ 2 ∧ fx_R 2 (MC n) (v_Out_clear n) (some .int) (post_Out_clear n st I J R) p_Out_clear 0 (fx_en st) [] I J R := by
  obtain ⟨⟨b, rfl⟩, rfl, hp⟩ := pi_Out_clear h
  clear h
  refine ⟨Nat.le_of_ble_eq_true rfl, ?_⟩
  refine fx_run0 120 fun X hX => ?_
  simp only [q_Out_clear_0 hX rfl, q_Out_clear_1 hX rfl, q_Out_clear_4 hX rfl, q_Out_clear_7 hX rfl, q_Out_clear_8 hX rfl, q_Out_clear_9 hX rfl, q_Out_clear_12 hX rfl, q_Out_clear_13 hX rfl, q_Out_clear_16 hX rfl, q_Out_clear_17 hX rfl, fs_aload_n0, fs_aload_n1, fs_aload_n2, fs_aload_n3, fs_getfield, fs_iconst, fs_iload_n0, fs_iload_n1, fs_iload_n2, fs_iload_n3, fs_ireturn, fs_istore_n0, fs_istore_n1, fs_istore_n2, fs_istore_n3, fs_putfield, v_Out_clear, lt_1_2, ci_0, kd_C_0_3, pl_C_0, R0C_0_3, pl_C_94, kd_C_6_1, fx_oi_s, fx_ol_s, fx_or_s, fx_do_s, fx_lg_0, fx_lg_s, fx_ls_0, fx_ls_s, fx_ls_n0, fx_ls_ns, fx_en, fx_sz, Value.category, fx_nl, fx_lk, fx_tget, fx_tput, fx_tcall, fx_tldc, fx_fv, va_rf, fx_cat, fx_in, fx_cnd, fx_len, fx_narI, fx_narZ0, fx_narZ1, fx_narZb, zb_e, zb_ne, Option.some.injEq, Value.int.injEq, Value.long.injEq, Value.ref.injEq, List.cons.injEq, Nat.reduceAdd, Nat.reduceLeDiff, Nat.le_refl, List.take, List.drop, List.reverse_cons, List.reverse_nil, List.nil_append, List.cons_append, List.append_nil, List.map_cons, List.map_nil, List.sum_cons, List.sum_nil, List.length_cons, List.length_nil, Option.toList, fx_all4, forall_const, true_and, and_true, not_true_eq_false, not_false_eq_true, false_implies, true_implies, ne_eq, reduceCtorEq, Nat.reduceEqDiff, ite_true, ite_false, reduceIte, Instr.getfield.injEq, Instr.putfield.injEq, Instr.invokevirtual.injEq, Instr.invokestatic.injEq, Instr.ldc2_w.injEq, fx_tcopy, Instr.ldc.injEq, Instr.ldc_w.injEq, exists_eq_left, exists_prop, R0C_ex]
  simp (disch := omega) only [lit, nI_add, nI_mul', nI_sub', nI_clamp, nI_lt', nI_le', nI_eq', nI_in', iinc1, zb_n0, nI_div', nI_rem2, true_and, and_true, Nat.reduceEqDiff, Nat.reduceLeDiff, Nat.one_ne_zero, Nat.zero_ne_one, not_false_eq_true, not_true_eq_false, false_implies, true_implies, forall_const, Nat.zero_add, Nat.add_zero, nv_nI, up_eq, up_ne, fill_ne, nI_clamp, nI_add]
  refine ⟨⟨b, rfl⟩, fun Ir hr Jr r2 Ir2 Jr2 Rr2 hq => ?_⟩
  obtain ⟨rfl, rfl, rfl, rfl⟩ := hq
  obtain ⟨⟨t0, t1⟩, t2, t3⟩ := id hr.2.2.2.1
  refine ⟨rfl, by rw [t2], REL_t hr (fun q j g1 g2 => by rw [up_ne (by omega)]) (fun q j g1 g2 => by rw [up_ne (by omega)]) ?_⟩
  unfold relT okt tlN
  rw [up_eq, up_eq]
  exact ⟨⟨⟨0, by omega, rfl⟩, fun j hj => by rw [up_ne (by omega)]; exact t1 j hj⟩, rfl, fun j hj => absurd hj (by show ¬ j < nv 0; exact Nat.not_lt_zero _)⟩
theorem c_Out_clear (l : Launch) (n : Nat) : fx_Met l y_Out_clear ws_Out_clear rm_Out_clear (MC n) (pre_Out_clear n) (post_Out_clear n) := fx_met (MC_ok n) (MC_tys n) (by decide) rfl pk_Out_clear vk_Out_clear (fun st I J R h => r_Out_clear n st I J R h)

