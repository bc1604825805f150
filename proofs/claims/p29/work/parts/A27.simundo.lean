/-! the class: undo (own work) -/
theorem REL_undo {I : fx_MI} {J : fx_MJ} {Ir : fx_MI} (h1 : REL I J Ir) (hu1 : 0 < nv (Ir 0 2)) : REL (rstI I 2) (rstJ I J 2) (undoM Ir) := by
  obtain ⟨⟨⟨d1, d2, d3, d4⟩, hall, hl0⟩, h2, ⟨nx, u, n1, n2, n3, n4, n5, n6⟩, ⟨t1, t2, t3⟩, m1, m2, m3, m4⟩ := h1
  obtain ⟨hw, hhh, hc, -⟩ := dimC_of d1
  have hwh := wh_le hw.2 hhh.2
  rw [n5, nv_nI (by omega)] at hu1
  have hp : (nx + 7) % 8 < 8 := by omega
  have hI : rstI I 2 = cpC (fx_up (fx_up I 12 2 (nI ((nx + 7) % 8))) 12 1 (nI (u - 1))) 3 (rgP ((nx + 7) % 8) + 1) := by
    unfold rstI
    rw [n3, n4, nv_nI (by omega), nv_nI (by omega)]
  have hJ : rstJ I J 2 = cpSJ J 2 (rgP ((nx + 7) % 8)) := by
    unfold rstJ
    rw [n3, nv_nI (by omega)]
  rw [hI, hJ]
  generalize hI1 : fx_up (fx_up I 12 2 (nI ((nx + 7) % 8))) 12 1 (nI (u - 1)) = I1
  have i1 : ∀ q j, q ≠ 12 → I1 q j = I q j := fun q j hq => by rw [← hI1, up_ne (Or.inl hq), up_ne (Or.inl hq)]
  have i12 : I1 12 2 = nI ((nx + 7) % 8) ∧ I1 12 1 = nI (u - 1) := by
    rw [← hI1]
    exact ⟨by rw [up_ne (by omega), up_eq], up_eq⟩
  have eI : ∀ q j, (q < 3 ∨ 7 < q) → cpC I1 3 (rgP ((nx + 7) % 8) + 1) q j = I1 q j := fun q j hq => cpC_ne (by omega)
  have eJ : ∀ q j, q ≠ 9 → q ≠ 11 → cpSJ J 2 (rgP ((nx + 7) % 8)) q j = J q j := fun q j h9 h11 => (cpSJ_at (by unfold rgP; omega)).2.2 q j h9 h11
  have eI1 : ∀ q j, (q < 3 ∨ 7 < q) → q ≠ 12 → cpC I1 3 (rgP ((nx + 7) % 8) + 1) q j = I q j := fun q j hq h12 => (eI q j hq).trans (i1 q j h12)
  have k0 : ∀ j, j ≠ 2 → undoM Ir 0 j = Ir 0 j := fun j hj => by
    unfold undoM
    rw [fill_ne (by omega), up_ne (by omega)]
  have kq : ∀ q j, q ≠ 0 → q ≠ 1 → undoM Ir q j = Ir q j := fun q j h0 h1 => by
    unfold undoM
    rw [fill_ne h1, up_ne (Or.inl h0)]
  have k2 : undoM Ir 0 2 = nI (u - 1) := by
    unfold undoM
    rw [fill_ne (by omega), up_eq, n5, nv_nI (by omega)]
  have k1 : ∀ k, k < 416 → undoM Ir 1 k = Ir 2 (416 * (u - 1) + k) := fun k hk => by
    unfold undoM
    rw [n5, nv_nI (by omega)]
    exact if_pos ⟨rfl, Nat.zero_le _, by omega⟩
  have eW : cW (cpC I1 3 (rgP ((nx + 7) % 8) + 1)) = cW I := by unfold cW; rw [eI1 1 0 (by omega) (by omega)]
  have eH : cH (cpC I1 3 (rgP ((nx + 7) % 8) + 1)) = cH I := by unfold cH; rw [eI1 1 1 (by omega) (by omega)]
  have eC : cC (cpC I1 3 (rgP ((nx + 7) % 8) + 1)) = cC I := by unfold cC; rw [eI1 1 2 (by omega) (by omega)]
  unfold REL relD relH relT relN allC
  rw [eW, eH, eC, eI1 1 0 (by omega) (by omega), eI1 1 1 (by omega) (by omega), eI1 1 2 (by omega) (by omega), k0 3 (by omega), k0 4 (by omega), k0 5 (by omega), k0 6 (by omega), k0 7 (by omega), k0 8 (by omega), k0 9 (by omega), eI1 138 5 (by omega) (by omega), eI1 138 6 (by omega) (by omega), eI1 138 7 (by omega) (by omega), eI1 138 8 (by omega) (by omega), eI1 94 1 (by omega) (by omega), k0 19 (by omega), eI 12 2 (by omega), eI 12 1 (by omega), i12.1, i12.2, k2]
  refine ⟨⟨⟨?_, d2, d3, d4⟩, fun i hi => by rw [eJ 1 3 (by omega) (by omega)]; exact hall i hi, fun c hc i hi hb => hl0 c hc i hi (by rw [← eJ 114 c (by omega) (by omega)]; exact hb)⟩, ?_, ⟨(nx + 7) % 8, u - 1, hp, by omega, rfl, rfl, rfl, fun t ht => ?_⟩, ⟨⟨by rw [k0 19 (by omega)]; exact t1.1, fun k hk => by rw [kq 10 k (by omega) (by omega)]; exact t1.2 k hk⟩, t2, fun k hk => ?_⟩, m1, m2, m3, m4⟩
  · unfold dimC at d1 ⊢
    rw [eI1 1 0 (by omega) (by omega), eI1 1 1 (by omega) (by omega), eI1 1 2 (by omega) (by omega)]
    exact d1
  · have h6 := n6 (u - 1) (by omega)
    rw [show (nx + 8 - u + (u - 1)) % 8 = (nx + 7) % 8 by omega] at h6
    have h7 : sR (cW I) (cH I) (cC I) I1 J (rgP ((nx + 7) % 8)) (fun k => Ir 2 (416 * (u - 1) + k)) := sR_fr (fun p j g1 g2 => i1 p j (by unfold rgP at g1; omega)) (fun p j g1 g2 => rfl) h6
    refine sR_cong (by omega) hwh (fun k hk => k1 k hk) (sR_cp (a := 2) (by omega) (by unfold rgP; omega) h7)
  · have h6 := n6 t (by omega)
    have hrow : (fun k => undoM Ir 2 (416 * t + k)) = fun k => Ir 2 (416 * t + k) := funext fun k => kq 2 _ (by omega) (by omega)
    rw [hrow, show ((nx + 7) % 8 + 8 - (u - 1) + t) % 8 = (nx + 8 - u + t) % 8 by omega]
    refine sR_fr (fun p j g1 g2 => ?_) (fun p j g1 g2 => ?_) h6
    · unfold rgP at g1 g2
      exact eI1 p j (by omega) (by omega)
    · unfold rgP at g1 g2
      exact eJ p j (by omega) (by omega)
  · rw [eI1 95 k (by omega) (by omega), kq 10 k (by omega) (by omega)]
    refine t3 k ?_
    unfold tlN at hk ⊢
    rw [k0 19 (by omega)] at hk
    exact hk
def p_Out_undo : fx_Pr := fx_pr [(0, .aload_n 0, 0), (1, .getfield 26, 0), (4, .getfield 307, 0), (7, .ifCond .ne 6, 13), (10, .bipush (-3), 0), (12, .ireturn, 0), (13, .aload_n 0, 0), (14, .getfield 26, 0), (17, .aload_n 0, 0), (18, .getfield 19, 0), (21, .invokevirtual 310, 0), (24, .aload_n 0, 0), (25, .getfield 26, 0), (28, .getfield 307, 0), (31, .ireturn, 0)]
theorem pk_Out_undo : fx_prOK b_Out_undo p_Out_undo := fx_pr_ok (by decide +kernel)
theorem q_Out_undo_0 {nL : Nat} {M : fx_M} {ev : fx_Env} {ret : Option FieldType} {P : fx_P} {stops : List (Nat × Nat)} {K : fx_K} {n : Nat} {L : List (Option Value)} {st : List Value} {I : fx_MI} {J : fx_MJ} {R : fx_MR} {X : Nat → fx_K} (hX : fx_isX nL M ev ret P p_Out_undo stops K X) (hs : fx_stop stops 0 = none) : X (n + 1) 0 L st I J R = fx_S nL M ev ret P (.aload_n 0) 0 0 L st I J R (X n) := hX.1 _ _ _ _ _ _ _ _ _ rfl hs
theorem q_Out_undo_1 {nL : Nat} {M : fx_M} {ev : fx_Env} {ret : Option FieldType} {P : fx_P} {stops : List (Nat × Nat)} {K : fx_K} {n : Nat} {L : List (Option Value)} {st : List Value} {I : fx_MI} {J : fx_MJ} {R : fx_MR} {X : Nat → fx_K} (hX : fx_isX nL M ev ret P p_Out_undo stops K X) (hs : fx_stop stops 1 = none) : X (n + 1) 1 L st I J R = fx_S nL M ev ret P (.getfield 26) 0 1 L st I J R (X n) := hX.1 _ _ _ _ _ _ _ _ _ rfl hs
theorem q_Out_undo_4 {nL : Nat} {M : fx_M} {ev : fx_Env} {ret : Option FieldType} {P : fx_P} {stops : List (Nat × Nat)} {K : fx_K} {n : Nat} {L : List (Option Value)} {st : List Value} {I : fx_MI} {J : fx_MJ} {R : fx_MR} {X : Nat → fx_K} (hX : fx_isX nL M ev ret P p_Out_undo stops K X) (hs : fx_stop stops 4 = none) : X (n + 1) 4 L st I J R = fx_S nL M ev ret P (.getfield 307) 0 4 L st I J R (X n) := hX.1 _ _ _ _ _ _ _ _ _ rfl hs
theorem q_Out_undo_7 {nL : Nat} {M : fx_M} {ev : fx_Env} {ret : Option FieldType} {P : fx_P} {stops : List (Nat × Nat)} {K : fx_K} {n : Nat} {L : List (Option Value)} {st : List Value} {I : fx_MI} {J : fx_MJ} {R : fx_MR} {x : Int32} {X : Nat → fx_K} (hX : fx_isX nL M ev ret P p_Out_undo stops K X) (hs : fx_stop stops 7 = none) : X (n + 1) 7 L (.int x :: st) I J R = ((¬ x = 0 → X n 13 L st I J R) ∧ (x = 0 → X n 10 L st I J R)) := fx_q_ifne hX rfl hs rfl
theorem q_Out_undo_10 {nL : Nat} {M : fx_M} {ev : fx_Env} {ret : Option FieldType} {P : fx_P} {stops : List (Nat × Nat)} {K : fx_K} {n : Nat} {L : List (Option Value)} {st : List Value} {I : fx_MI} {J : fx_MJ} {R : fx_MR} {X : Nat → fx_K} (hX : fx_isX nL M ev ret P p_Out_undo stops K X) (hs : fx_stop stops 10 = none) : X (n + 1) 10 L st I J R = fx_S nL M ev ret P (.bipush (-3)) 0 10 L st I J R (X n) := hX.1 _ _ _ _ _ _ _ _ _ rfl hs
theorem q_Out_undo_12 {nL : Nat} {M : fx_M} {ev : fx_Env} {ret : Option FieldType} {P : fx_P} {stops : List (Nat × Nat)} {K : fx_K} {n : Nat} {L : List (Option Value)} {st : List Value} {I : fx_MI} {J : fx_MJ} {R : fx_MR} {X : Nat → fx_K} (hX : fx_isX nL M ev ret P p_Out_undo stops K X) (hs : fx_stop stops 12 = none) : X (n + 1) 12 L st I J R = fx_S nL M ev ret P (.ireturn) 0 12 L st I J R (X n) := hX.1 _ _ _ _ _ _ _ _ _ rfl hs
theorem q_Out_undo_13 {nL : Nat} {M : fx_M} {ev : fx_Env} {ret : Option FieldType} {P : fx_P} {stops : List (Nat × Nat)} {K : fx_K} {n : Nat} {L : List (Option Value)} {st : List Value} {I : fx_MI} {J : fx_MJ} {R : fx_MR} {X : Nat → fx_K} (hX : fx_isX nL M ev ret P p_Out_undo stops K X) (hs : fx_stop stops 13 = none) : X (n + 1) 13 L st I J R = fx_S nL M ev ret P (.aload_n 0) 0 13 L st I J R (X n) := hX.1 _ _ _ _ _ _ _ _ _ rfl hs
theorem q_Out_undo_14 {nL : Nat} {M : fx_M} {ev : fx_Env} {ret : Option FieldType} {P : fx_P} {stops : List (Nat × Nat)} {K : fx_K} {n : Nat} {L : List (Option Value)} {st : List Value} {I : fx_MI} {J : fx_MJ} {R : fx_MR} {X : Nat → fx_K} (hX : fx_isX nL M ev ret P p_Out_undo stops K X) (hs : fx_stop stops 14 = none) : X (n + 1) 14 L st I J R = fx_S nL M ev ret P (.getfield 26) 0 14 L st I J R (X n) := hX.1 _ _ _ _ _ _ _ _ _ rfl hs
theorem q_Out_undo_17 {nL : Nat} {M : fx_M} {ev : fx_Env} {ret : Option FieldType} {P : fx_P} {stops : List (Nat × Nat)} {K : fx_K} {n : Nat} {L : List (Option Value)} {st : List Value} {I : fx_MI} {J : fx_MJ} {R : fx_MR} {X : Nat → fx_K} (hX : fx_isX nL M ev ret P p_Out_undo stops K X) (hs : fx_stop stops 17 = none) : X (n + 1) 17 L st I J R = fx_S nL M ev ret P (.aload_n 0) 0 17 L st I J R (X n) := hX.1 _ _ _ _ _ _ _ _ _ rfl hs
theorem q_Out_undo_18 {nL : Nat} {M : fx_M} {ev : fx_Env} {ret : Option FieldType} {P : fx_P} {stops : List (Nat × Nat)} {K : fx_K} {n : Nat} {L : List (Option Value)} {st : List Value} {I : fx_MI} {J : fx_MJ} {R : fx_MR} {X : Nat → fx_K} (hX : fx_isX nL M ev ret P p_Out_undo stops K X) (hs : fx_stop stops 18 = none) : X (n + 1) 18 L st I J R = fx_S nL M ev ret P (.getfield 19) 0 18 L st I J R (X n) := hX.1 _ _ _ _ _ _ _ _ _ rfl hs
theorem q_Out_undo_21 {nL : Nat} {M : fx_M} {ev : fx_Env} {ret : Option FieldType} {P : fx_P} {stops : List (Nat × Nat)} {K : fx_K} {n : Nat} {L : List (Option Value)} {st : List Value} {I : fx_MI} {J : fx_MJ} {R : fx_MR} {X : Nat → fx_K} (hX : fx_isX nL M ev ret P p_Out_undo stops K X) (hs : fx_stop stops 21 = none) : X (n + 1) 21 L st I J R = fx_S nL M ev ret P (.invokevirtual 310) 0 21 L st I J R (X n) := hX.1 _ _ _ _ _ _ _ _ _ rfl hs
theorem q_Out_undo_24 {nL : Nat} {M : fx_M} {ev : fx_Env} {ret : Option FieldType} {P : fx_P} {stops : List (Nat × Nat)} {K : fx_K} {n : Nat} {L : List (Option Value)} {st : List Value} {I : fx_MI} {J : fx_MJ} {R : fx_MR} {X : Nat → fx_K} (hX : fx_isX nL M ev ret P p_Out_undo stops K X) (hs : fx_stop stops 24 = none) : X (n + 1) 24 L st I J R = fx_S nL M ev ret P (.aload_n 0) 0 24 L st I J R (X n) := hX.1 _ _ _ _ _ _ _ _ _ rfl hs
theorem q_Out_undo_25 {nL : Nat} {M : fx_M} {ev : fx_Env} {ret : Option FieldType} {P : fx_P} {stops : List (Nat × Nat)} {K : fx_K} {n : Nat} {L : List (Option Value)} {st : List Value} {I : fx_MI} {J : fx_MJ} {R : fx_MR} {X : Nat → fx_K} (hX : fx_isX nL M ev ret P p_Out_undo stops K X) (hs : fx_stop stops 25 = none) : X (n + 1) 25 L st I J R = fx_S nL M ev ret P (.getfield 26) 0 25 L st I J R (X n) := hX.1 _ _ _ _ _ _ _ _ _ rfl hs
theorem q_Out_undo_28 {nL : Nat} {M : fx_M} {ev : fx_Env} {ret : Option FieldType} {P : fx_P} {stops : List (Nat × Nat)} {K : fx_K} {n : Nat} {L : List (Option Value)} {st : List Value} {I : fx_MI} {J : fx_MJ} {R : fx_MR} {X : Nat → fx_K} (hX : fx_isX nL M ev ret P p_Out_undo stops K X) (hs : fx_stop stops 28 = none) : X (n + 1) 28 L st I J R = fx_S nL M ev ret P (.getfield 307) 0 28 L st I J R (X n) := hX.1 _ _ _ _ _ _ _ _ _ rfl hs
theorem q_Out_undo_31 {nL : Nat} {M : fx_M} {ev : fx_Env} {ret : Option FieldType} {P : fx_P} {stops : List (Nat × Nat)} {K : fx_K} {n : Nat} {L : List (Option Value)} {st : List Value} {I : fx_MI} {J : fx_MJ} {R : fx_MR} {X : Nat → fx_K} (hX : fx_isX nL M ev ret P p_Out_undo stops K X) (hs : fx_stop stops 31 = none) : X (n + 1) 31 L st I J R = fx_S nL M ev ret P (.ireturn) 0 31 L st I J R (X n) := hX.1 _ _ _ _ _ _ _ _ _ rfl hs
def pre_Out_undo (n : Nat) : fx_Pre := fun st I J R => (∃ b, R = R0C b) ∧ (match st with
  | [.ref 0] => relE I J
  | _ => False)
theorem pi_Out_undo {n : Nat} {st : List Value} {I : fx_MI} {J : fx_MJ} {R : fx_MR} (h : pre_Out_undo n st I J R) : (∃ b, R = R0C b) ∧ st = [.ref 0] ∧ (relE I J) := by
  unfold pre_Out_undo at h
  obtain ⟨h0, h⟩ := h
  split at h
  · exact ⟨h0, rfl, h⟩
  · cases h
def post_Out_undo (n : Nat) : fx_Post := fun st I J R r I' J' R' => simP (post_M_undo [.ref 0]) I J r I' J' R'
theorem pz_Out_undo {st : List Value} {I : fx_MI} {J : fx_MJ} {R : fx_MR} (n : Nat) (h : pre_Out_undo n st I J R) : ∃ q r, st = .ref q :: r ∧ (MC n).2.2.1 q = some (.inl 0) ∧ r.length = 0 := by
  obtain ⟨_, rfl, _⟩ := pi_Out_undo h
  exact ⟨_, _, rfl, rfl, rfl⟩
def v_Out_undo (n : Nat) : fx_Env := [(.getfield 26, fx_tget (MC n) 0 2), (.getfield 307, fx_tget (MC n) 5 1), (.getfield 19, fx_tget (MC n) 0 1), (.invokevirtual 310, fx_tcall 2 (pre_History_restore n) (post_History_restore n))]
abbrev rm_Out_undo : Room := { frames := 4, cells := 0, slots := 0, locals := 123 }
abbrev ws_Out_undo : List Cond := Cond.code y_Out_undo b_Out_undo 1 (some .int) :: w_C
theorem e_Out_c310 {l : Launch} {c0 : Cond} {rm : Room} {n nL : Nat} {cc : ByteArray} (hR : rm_History_restore.frames + 1 ≤ rm.frames ∧ 8 + (2 + 11) + rm_History_restore.locals ≤ rm.locals) : fx_E1 l R_Out (c0 :: w_C) rm (MC n) nL cc (.invokevirtual 310) (fx_tcall 2 (pre_History_restore n) (post_History_restore n)) := fx_callV (ci := 5) (C := R_History) rfl (c_History_restore l n) (w_C_G (w_C_h6 12 rfl) (w_C_h6 13 rfl) (w_C_h6 14 rfl) (w_C_h4 42 rfl) (w_C_h3 29 rfl)) rfl ⟨rfl, rfl⟩ (by decide) hR (fun st I J R h => pz_History_restore n h) (MC_ok n)
theorem vk_Out_undo {l : Launch} {n : Nat} : fx_EV l R_Out ws_Out_undo rm_Out_undo (MC n) 1 b_Out_undo (v_Out_undo n) := (fx_EV_cons e_Out_g26 (fx_EV_cons e_Out_g307 (fx_EV_cons e_Out_g19 (fx_EV_cons (e_Out_c310 (by decide)) fx_EV_nil))))
theorem r_Out_undo (n : Nat) (st : List Value) (I : fx_MI) (J : fx_MJ) (R : fx_MR) (h : pre_Out_undo n st I J R) : fx_sz st ≤ 1 ∧ fx_R 1 (MC n) (v_Out_undo n) (some .int) (post_Out_undo n st I J R) p_Out_undo 0 (fx_en st) [] I J R := by
  obtain ⟨⟨b, rfl⟩, rfl, hp⟩ := pi_Out_undo h
  clear h
  refine ⟨Nat.le_of_ble_eq_true rfl, ?_⟩
  obtain ⟨Ir0, hr0⟩ := hp
  have hh := REL_his hr0
  obtain ⟨nx, u, n1, n2, n3, n4, n5, n6⟩ := hr0.2.2.1
  have hu : ∀ Ir, REL I J Ir → nv (Ir 0 2) = u := fun Ir hr => by
    obtain ⟨nx', u', -, m2, -, m4, m5, -⟩ := hr.2.2.1
    have := congrArg nv (m4.symm.trans n4)
    rw [nv_nI (by omega), nv_nI (by omega)] at this
    rw [m5, nv_nI (by omega), this]
  have h12 : rstI I 2 12 1 = nI (u - 1) := by
    unfold rstI
    rw [cpC_ne (by omega), up_eq, n4, nv_nI (by omega)]
  refine fx_run0 120 fun X hX => ?_
  simp only [q_Out_undo_0 hX rfl, q_Out_undo_1 hX rfl, q_Out_undo_4 hX rfl, q_Out_undo_7 hX rfl, q_Out_undo_10 hX rfl, q_Out_undo_12 hX rfl, q_Out_undo_13 hX rfl, q_Out_undo_14 hX rfl, q_Out_undo_17 hX rfl, q_Out_undo_18 hX rfl, q_Out_undo_21 hX rfl, q_Out_undo_24 hX rfl, q_Out_undo_25 hX rfl, q_Out_undo_28 hX rfl, q_Out_undo_31 hX rfl, fs_aload_n0, fs_aload_n1, fs_aload_n2, fs_aload_n3, fs_bipush, fs_getfield, fs_ifCond, fs_invokevirtual, fs_ireturn, v_Out_undo, cb_m3, pre_History_restore, post_History_restore, kd_C_0_2, pl_C_0, R0C_0_2, pl_C_12, kd_C_5_1, kd_C_0_1, R0C_0_1, pl_C_2, fx_oi_s, fx_ol_s, fx_or_s, fx_do_s, fx_lg_0, fx_lg_s, fx_ls_0, fx_ls_s, fx_ls_n0, fx_ls_ns, fx_en, fx_sz, Value.category, fx_nl, fx_lk, fx_tget, fx_tput, fx_tcall, fx_tldc, fx_fv, va_rf, fx_cat, fx_in, fx_cnd, fx_len, fx_narI, fx_narZ0, fx_narZ1, fx_narZb, zb_e, zb_ne, Option.some.injEq, Value.int.injEq, Value.long.injEq, Value.ref.injEq, List.cons.injEq, Nat.reduceAdd, Nat.reduceLeDiff, Nat.le_refl, List.take, List.drop, List.reverse_cons, List.reverse_nil, List.nil_append, List.cons_append, List.append_nil, List.map_cons, List.map_nil, List.sum_cons, List.sum_nil, List.length_cons, List.length_nil, Option.toList, fx_all4, forall_const, true_and, and_true, not_true_eq_false, not_false_eq_true, false_implies, true_implies, ne_eq, reduceCtorEq, Nat.reduceEqDiff, ite_true, ite_false, reduceIte, Instr.getfield.injEq, Instr.putfield.injEq, Instr.invokevirtual.injEq, Instr.invokestatic.injEq, Instr.ldc2_w.injEq, fx_tcopy, Instr.ldc.injEq, Instr.ldc_w.injEq, exists_eq_left, exists_prop, R0C_ex]
  simp (disch := omega) only [lit, nI_add, nI_mul', nI_sub', nI_clamp, nI_lt', nI_le', nI_eq', nI_in', iinc1, zb_n0, nI_div', nI_rem2, true_and, and_true, Nat.reduceEqDiff, Nat.reduceLeDiff, Nat.one_ne_zero, Nat.zero_ne_one, not_false_eq_true, not_true_eq_false, false_implies, true_implies, forall_const, Nat.zero_add, Nat.add_zero, nv_nI, up_eq, up_ne, fill_ne, nI_clamp, nI_add, n4, h12]
  refine ⟨fun h0 => ⟨⟨rfl, hh, by omega⟩, ⟨b, rfl⟩, fun Ir hr Jr r2 Ir2 Jr2 Rr2 hq => ?_⟩, fun h0 => ⟨⟨b, rfl⟩, fun Ir hr Jr r2 Ir2 Jr2 Rr2 hq => ?_⟩⟩
  · have hv := hu Ir hr
    rcases hq with ⟨k1, -⟩ | ⟨k1, rfl, rfl, rfl, rfl⟩
    · omega
    · rw [hv]
      exact ⟨rfl, rfl, REL_undo hr k1⟩
  · have hv := hu Ir hr
    rcases hq with ⟨k1, rfl, rfl, rfl, rfl⟩ | ⟨k1, -⟩
    · exact ⟨rfl, rfl, hr⟩
    · omega
theorem c_Out_undo (l : Launch) (n : Nat) : fx_Met l y_Out_undo ws_Out_undo rm_Out_undo (MC n) (pre_Out_undo n) (post_Out_undo n) := fx_met (MC_ok n) (MC_tys n) (by decide) rfl pk_Out_undo vk_Out_undo (fun st I J R h => r_Out_undo n st I J R h)
