/-! the class's text: letters, blanks, words (own work) -/
def txC (I : fx_MI) (k : Nat) : Nat := nv (I 95 k)
def tlC (I : fx_MI) : Nat := nv (I 94 1)
def okX (I : fx_MI) : Prop := rg (I 94 1) 121 ∧ ∀ k, k < tlC I → rg (I 95 k) 128
def byC (I : fx_MI) (k : Nat) : Int32 := if k < tlC I then I 95 k else -1
theorem okX_tl {I : fx_MI} (h : okX I) : I 94 1 = nI (tlC I) ∧ tlC I ≤ 120 := by
  have := rg_eq h.1 (by omega)
  exact ⟨this.1, by unfold tlC; omega⟩
theorem byC_c {I : fx_MI} (h : okX I) (k : Nat) : (byN (txC I) (tlC I) k < 128 ∧ byC I k = nI (byN (txC I) (tlC I) k)) ∨ (byN (txC I) (tlC I) k = 999 ∧ byC I k = -nI 1) := by
  unfold byC byN
  by_cases hk : k < tlC I
  · rw [if_pos hk, if_pos hk]
    have := rg_eq (h.2 k hk) (by omega)
    exact Or.inl ⟨this.2, this.1⟩
  · rw [if_neg hk, if_neg hk]
    exact Or.inr ⟨rfl, rfl⟩
theorem byC_eq {I : fx_MI} (h : okX I) (k : Nat) {c : Nat} (hc : c < 128) : (byC I k = nI c) = (byN (txC I) (tlC I) k = c) := by
  apply propext
  rcases byC_c h k with ⟨h1, h2⟩ | ⟨h1, h2⟩
  · rw [h2]
    simp (disch := omega) only [nI_eq']
  · rw [h2, h1]
    constructor
    · intro z
      have := nI_pos (n := c) (by omega)
      rw [← z] at this
      exact absurd (by decide +kernel) this
    · omega
theorem byC_in {I : fx_MI} (h : okX I) (k : Nat) {a b : Nat} (ha : a < 128) (hb : b < 128) : in_M (byC I k) (nI a) (nI b) = decide (a ≤ byN (txC I) (tlC I) k ∧ byN (txC I) (tlC I) k ≤ b) := by
  unfold in_M
  rcases byC_c h k with ⟨h1, h2⟩ | ⟨h1, h2⟩
  · rw [h2]
    simp (disch := omega) only [nI_lt']
    rw [Bool.eq_iff_iff, Bool.and_eq_true, Bool.not_eq_true', Bool.not_eq_true', decide_eq_false_iff_not, decide_eq_false_iff_not, decide_eq_true_iff]
    omega
  · rw [h2, h1]
    have : (-nI 1 : Int32) < nI a := by
      rw [Int32.lt_iff_toInt_lt, nI_toInt (by omega)]
      have : (-nI 1 : Int32).toInt = -1 := by decide +kernel
      omega
    have h9 : decide (a ≤ 999 ∧ 999 ≤ b) = false := decide_eq_false (by omega)
    rw [decide_eq_true this, h9]
    rfl
/-- the text is the same in a memory that keeps it -/
def txF (I I' : fx_MI) : Prop := I' 94 1 = I 94 1 ∧ ∀ k, I' 95 k = I 95 k
theorem txF_t {I I' : fx_MI} (h : txF I I') (ht : okX I) : okX I' ∧ txC I' = txC I ∧ tlC I' = tlC I ∧ byC I' = byC I := by
  have e : tlC I' = tlC I := by unfold tlC; rw [h.1]
  refine ⟨⟨by rw [h.1]; exact ht.1, fun k hk => by rw [h.2 k]; exact ht.2 k (by rw [e] at hk; exact hk)⟩, ?_, e, ?_⟩
  · funext k
    unfold txC
    rw [h.2 k]
  · funext k
    unfold byC
    rw [e, h.2 k]
theorem txF_up {I : fx_MI} {x : Int32} : txF I (fx_up I 94 2 x) := ⟨up_ne (by omega), fun k => up_ne (by omega)⟩
theorem lett_in {I : fx_MI} (ht : okX I) {p : Nat} (h : p < tlC I) : vp_in (nI p) 120 := by
  have := okX_tl ht
  simp (disch := omega) only [nI_in']
def p_ClueText_here : fx_Pr := fx_pr [(0, .aload_n 0, 0), (1, .getfield 24, 0), (4, .aload_n 0, 0), (5, .getfield 15, 0), (8, .if_icmp .ge 15, 23), (11, .aload_n 0, 0), (12, .getfield 9, 0), (15, .aload_n 0, 0), (16, .getfield 24, 0), (19, .baload, 0), (20, .goto 4, 24), (23, .iconst (-1), 0), (24, .ireturn, 0)]
theorem pk_ClueText_here : fx_prOK b_ClueText_here p_ClueText_here := fx_pr_ok (by decide +kernel)
theorem q_ClueText_here_0 {nL : Nat} {M : fx_M} {ev : fx_Env} {ret : Option FieldType} {P : fx_P} {stops : List (Nat × Nat)} {K : fx_K} {n : Nat} {L : List (Option Value)} {st : List Value} {I : fx_MI} {J : fx_MJ} {R : fx_MR} {X : Nat → fx_K} (hX : fx_isX nL M ev ret P p_ClueText_here stops K X) (hs : fx_stop stops 0 = none) : X (n + 1) 0 L st I J R = fx_S nL M ev ret P (.aload_n 0) 0 0 L st I J R (X n) := hX.1 _ _ _ _ _ _ _ _ _ rfl hs
theorem q_ClueText_here_1 {nL : Nat} {M : fx_M} {ev : fx_Env} {ret : Option FieldType} {P : fx_P} {stops : List (Nat × Nat)} {K : fx_K} {n : Nat} {L : List (Option Value)} {st : List Value} {I : fx_MI} {J : fx_MJ} {R : fx_MR} {X : Nat → fx_K} (hX : fx_isX nL M ev ret P p_ClueText_here stops K X) (hs : fx_stop stops 1 = none) : X (n + 1) 1 L st I J R = fx_S nL M ev ret P (.getfield 24) 0 1 L st I J R (X n) := hX.1 _ _ _ _ _ _ _ _ _ rfl hs
theorem q_ClueText_here_4 {nL : Nat} {M : fx_M} {ev : fx_Env} {ret : Option FieldType} {P : fx_P} {stops : List (Nat × Nat)} {K : fx_K} {n : Nat} {L : List (Option Value)} {st : List Value} {I : fx_MI} {J : fx_MJ} {R : fx_MR} {X : Nat → fx_K} (hX : fx_isX nL M ev ret P p_ClueText_here stops K X) (hs : fx_stop stops 4 = none) : X (n + 1) 4 L st I J R = fx_S nL M ev ret P (.aload_n 0) 0 4 L st I J R (X n) := hX.1 _ _ _ _ _ _ _ _ _ rfl hs
theorem q_ClueText_here_5 {nL : Nat} {M : fx_M} {ev : fx_Env} {ret : Option FieldType} {P : fx_P} {stops : List (Nat × Nat)} {K : fx_K} {n : Nat} {L : List (Option Value)} {st : List Value} {I : fx_MI} {J : fx_MJ} {R : fx_MR} {X : Nat → fx_K} (hX : fx_isX nL M ev ret P p_ClueText_here stops K X) (hs : fx_stop stops 5 = none) : X (n + 1) 5 L st I J R = fx_S nL M ev ret P (.getfield 15) 0 5 L st I J R (X n) := hX.1 _ _ _ _ _ _ _ _ _ rfl hs
theorem q_ClueText_here_8 {nL : Nat} {M : fx_M} {ev : fx_Env} {ret : Option FieldType} {P : fx_P} {stops : List (Nat × Nat)} {K : fx_K} {n : Nat} {L : List (Option Value)} {st : List Value} {I : fx_MI} {J : fx_MJ} {R : fx_MR} {x y : Int32} {X : Nat → fx_K} (hX : fx_isX nL M ev ret P p_ClueText_here stops K X) (hs : fx_stop stops 8 = none) : X (n + 1) 8 L (.int y :: .int x :: st) I J R = ((y ≤ x → X n 23 L st I J R) ∧ (¬ y ≤ x → X n 11 L st I J R)) := fx_q_icmp hX rfl hs rfl
theorem q_ClueText_here_11 {nL : Nat} {M : fx_M} {ev : fx_Env} {ret : Option FieldType} {P : fx_P} {stops : List (Nat × Nat)} {K : fx_K} {n : Nat} {L : List (Option Value)} {st : List Value} {I : fx_MI} {J : fx_MJ} {R : fx_MR} {X : Nat → fx_K} (hX : fx_isX nL M ev ret P p_ClueText_here stops K X) (hs : fx_stop stops 11 = none) : X (n + 1) 11 L st I J R = fx_S nL M ev ret P (.aload_n 0) 0 11 L st I J R (X n) := hX.1 _ _ _ _ _ _ _ _ _ rfl hs
theorem q_ClueText_here_12 {nL : Nat} {M : fx_M} {ev : fx_Env} {ret : Option FieldType} {P : fx_P} {stops : List (Nat × Nat)} {K : fx_K} {n : Nat} {L : List (Option Value)} {st : List Value} {I : fx_MI} {J : fx_MJ} {R : fx_MR} {X : Nat → fx_K} (hX : fx_isX nL M ev ret P p_ClueText_here stops K X) (hs : fx_stop stops 12 = none) : X (n + 1) 12 L st I J R = fx_S nL M ev ret P (.getfield 9) 0 12 L st I J R (X n) := hX.1 _ _ _ _ _ _ _ _ _ rfl hs
theorem q_ClueText_here_15 {nL : Nat} {M : fx_M} {ev : fx_Env} {ret : Option FieldType} {P : fx_P} {stops : List (Nat × Nat)} {K : fx_K} {n : Nat} {L : List (Option Value)} {st : List Value} {I : fx_MI} {J : fx_MJ} {R : fx_MR} {X : Nat → fx_K} (hX : fx_isX nL M ev ret P p_ClueText_here stops K X) (hs : fx_stop stops 15 = none) : X (n + 1) 15 L st I J R = fx_S nL M ev ret P (.aload_n 0) 0 15 L st I J R (X n) := hX.1 _ _ _ _ _ _ _ _ _ rfl hs
theorem q_ClueText_here_16 {nL : Nat} {M : fx_M} {ev : fx_Env} {ret : Option FieldType} {P : fx_P} {stops : List (Nat × Nat)} {K : fx_K} {n : Nat} {L : List (Option Value)} {st : List Value} {I : fx_MI} {J : fx_MJ} {R : fx_MR} {X : Nat → fx_K} (hX : fx_isX nL M ev ret P p_ClueText_here stops K X) (hs : fx_stop stops 16 = none) : X (n + 1) 16 L st I J R = fx_S nL M ev ret P (.getfield 24) 0 16 L st I J R (X n) := hX.1 _ _ _ _ _ _ _ _ _ rfl hs
theorem q_ClueText_here_19 {nL : Nat} {M : fx_M} {ev : fx_Env} {ret : Option FieldType} {P : fx_P} {stops : List (Nat × Nat)} {K : fx_K} {n : Nat} {L : List (Option Value)} {st : List Value} {I : fx_MI} {J : fx_MJ} {R : fx_MR} {X : Nat → fx_K} (hX : fx_isX nL M ev ret P p_ClueText_here stops K X) (hs : fx_stop stops 19 = none) : X (n + 1) 19 L st I J R = fx_S nL M ev ret P (.baload) 0 19 L st I J R (X n) := hX.1 _ _ _ _ _ _ _ _ _ rfl hs
theorem q_ClueText_here_20 {nL : Nat} {M : fx_M} {ev : fx_Env} {ret : Option FieldType} {P : fx_P} {stops : List (Nat × Nat)} {K : fx_K} {n : Nat} {L : List (Option Value)} {st : List Value} {I : fx_MI} {J : fx_MJ} {R : fx_MR} {X : Nat → fx_K} (hX : fx_isX nL M ev ret P p_ClueText_here stops K X) (hs : fx_stop stops 20 = none) : X (n + 1) 20 L st I J R = X n 24 L st I J R := fx_q_goto hX rfl hs rfl
theorem q_ClueText_here_23 {nL : Nat} {M : fx_M} {ev : fx_Env} {ret : Option FieldType} {P : fx_P} {stops : List (Nat × Nat)} {K : fx_K} {n : Nat} {L : List (Option Value)} {st : List Value} {I : fx_MI} {J : fx_MJ} {R : fx_MR} {X : Nat → fx_K} (hX : fx_isX nL M ev ret P p_ClueText_here stops K X) (hs : fx_stop stops 23 = none) : X (n + 1) 23 L st I J R = fx_S nL M ev ret P (.iconst (-1)) 0 23 L st I J R (X n) := hX.1 _ _ _ _ _ _ _ _ _ rfl hs
theorem q_ClueText_here_24 {nL : Nat} {M : fx_M} {ev : fx_Env} {ret : Option FieldType} {P : fx_P} {stops : List (Nat × Nat)} {K : fx_K} {n : Nat} {L : List (Option Value)} {st : List Value} {I : fx_MI} {J : fx_MJ} {R : fx_MR} {X : Nat → fx_K} (hX : fx_isX nL M ev ret P p_ClueText_here stops K X) (hs : fx_stop stops 24 = none) : X (n + 1) 24 L st I J R = fx_S nL M ev ret P (.ireturn) 0 24 L st I J R (X n) := hX.1 _ _ _ _ _ _ _ _ _ rfl hs
def pre_ClueText_here (n : Nat) : fx_Pre := fun st I J R => (∃ b, R = R0C b) ∧ (match st with
  | [.ref 94] => okX I ∧ ∃ p, p < 200 ∧ I 94 2 = nI p
  | _ => False)
theorem pi_ClueText_here {n : Nat} {st : List Value} {I : fx_MI} {J : fx_MJ} {R : fx_MR} (h : pre_ClueText_here n st I J R) : (∃ b, R = R0C b) ∧ st = [.ref 94] ∧ (okX I ∧ ∃ p, p < 200 ∧ I 94 2 = nI p) := by
  unfold pre_ClueText_here at h
  obtain ⟨h0, h⟩ := h
  split at h
  · exact ⟨h0, rfl, h⟩
  · cases h
def post_ClueText_here (n : Nat) : fx_Post := fun st I J R r I' J' R' => r = some (.int (byC I (nv (I 94 2)))) ∧ I' = I ∧ J' = J ∧ R' = R
theorem pz_ClueText_here {st : List Value} {I : fx_MI} {J : fx_MJ} {R : fx_MR} (n : Nat) (h : pre_ClueText_here n st I J R) : ∃ q r, st = .ref q :: r ∧ (MC n).2.2.1 q = some (.inl 6) ∧ r.length = 0 := by
  obtain ⟨_, rfl, _⟩ := pi_ClueText_here h
  exact ⟨_, _, rfl, rfl, rfl⟩
def v_ClueText_here (n : Nat) : fx_Env := [(.getfield 24, fx_tget (MC n) 6 2), (.getfield 15, fx_tget (MC n) 6 1), (.getfield 9, fx_tget (MC n) 6 0)]
abbrev rm_ClueText_here : Room := { frames := 0, cells := 0, slots := 0, locals := 0 }
abbrev ws_ClueText_here : List Cond := Cond.code y_ClueText_here b_ClueText_here 1 (some .int) :: w_C
theorem vk_ClueText_here {l : Launch} {n : Nat} : fx_EV l R_ClueText ws_ClueText_here rm_ClueText_here (MC n) 1 b_ClueText_here (v_ClueText_here n) := (fx_EV_cons e_ClueText_g24 (fx_EV_cons e_ClueText_g15 (fx_EV_cons e_ClueText_g9 fx_EV_nil)))
theorem r_ClueText_here (n : Nat) (st : List Value) (I : fx_MI) (J : fx_MJ) (R : fx_MR) (h : pre_ClueText_here n st I J R) : fx_sz st ≤ 1 ∧ fx_R 1 (MC n) (v_ClueText_here n) (some .int) (post_ClueText_here n st I J R) p_ClueText_here 0 (fx_en st) [] I J R := by
  obtain ⟨⟨b, rfl⟩, rfl, hp⟩ := pi_ClueText_here h
  clear h
  refine ⟨Nat.le_of_ble_eq_true rfl, ?_⟩
  obtain ⟨ht, p, hp, hI⟩ := hp
  have htl := okX_tl ht
  have hpost : ∀ x, x = byC I p → post_ClueText_here n [.ref 94] I J (R0C b) (some (.int x)) I J (R0C b) := by
    rintro x rfl
    refine ⟨?_, rfl, rfl, rfl⟩
    rw [hI, nv_nI (by omega)]
  refine fx_run0 60 fun X hX => ?_
  simp only [q_ClueText_here_0 hX rfl, q_ClueText_here_1 hX rfl, q_ClueText_here_4 hX rfl, q_ClueText_here_5 hX rfl, q_ClueText_here_8 hX rfl, q_ClueText_here_11 hX rfl, q_ClueText_here_12 hX rfl, q_ClueText_here_15 hX rfl, q_ClueText_here_16 hX rfl, q_ClueText_here_19 hX rfl, q_ClueText_here_20 hX rfl, q_ClueText_here_23 hX rfl, q_ClueText_here_24 hX rfl, fs_aload_n0, fs_aload_n1, fs_aload_n2, fs_aload_n3, fs_baload, fs_getfield, fs_goto, fs_iconst, fs_if_icmp, fs_ireturn, v_ClueText_here, ci_m1, kd_C_6_2, pl_C_94, kd_C_6_1, kd_C_6_0, R0C_94_0, pl_C_95, fx_oi_s, fx_ol_s, fx_or_s, fx_do_s, fx_lg_0, fx_lg_s, fx_ls_0, fx_ls_s, fx_ls_n0, fx_ls_ns, fx_en, fx_sz, Value.category, fx_nl, fx_lk, fx_tget, fx_tput, fx_tcall, fx_tldc, fx_fv, va_rf, fx_cat, fx_in, fx_cnd, fx_len, fx_narI, fx_narZ0, fx_narZ1, fx_narZb, zb_e, zb_ne, Option.some.injEq, Value.int.injEq, Value.long.injEq, Value.ref.injEq, List.cons.injEq, Nat.reduceAdd, Nat.reduceLeDiff, Nat.le_refl, List.take, List.drop, List.reverse_cons, List.reverse_nil, List.nil_append, List.cons_append, List.append_nil, List.map_cons, List.map_nil, List.sum_cons, List.sum_nil, List.length_cons, List.length_nil, Option.toList, fx_all4, forall_const, true_and, and_true, not_true_eq_false, not_false_eq_true, false_implies, true_implies, ne_eq, reduceCtorEq, Nat.reduceEqDiff, ite_true, ite_false, reduceIte, Instr.getfield.injEq, Instr.putfield.injEq, Instr.invokevirtual.injEq, Instr.invokestatic.injEq, Instr.ldc2_w.injEq, fx_tcopy, Instr.ldc.injEq, Instr.ldc_w.injEq, exists_eq_left, exists_prop, R0C_ex]
  simp (disch := omega) only [lit, nI_add, nI_mul', nI_sub', nI_clamp, nI_lt', nI_le', nI_eq', nI_in', iinc1, zb_n0, nI_div', nI_rem2, true_and, and_true, Nat.reduceEqDiff, Nat.reduceLeDiff, Nat.one_ne_zero, Nat.zero_ne_one, not_false_eq_true, not_true_eq_false, false_implies, true_implies, forall_const, Nat.zero_add, Nat.add_zero, nv_nI, up_eq, up_ne, fill_ne, nI_clamp, nI_add, hI, htl.1]
  refine ⟨fun h => hpost _ (by unfold byC; rw [if_neg (by omega)]; rfl), fun h => ⟨lett_in ht (by omega), hpost _ (by unfold byC; rw [if_pos (by omega)])⟩⟩
theorem c_ClueText_here (l : Launch) (n : Nat) : fx_Met l y_ClueText_here ws_ClueText_here rm_ClueText_here (MC n) (pre_ClueText_here n) (post_ClueText_here n) := fx_met (MC_ok n) (MC_tys n) (by decide) rfl pk_ClueText_here vk_ClueText_here (fun st I J R h => r_ClueText_here n st I J R h)

def p_ClueText_isSmall : fx_Pr := fx_pr [(0, .iload_n 0, 0), (1, .bipush 97, 0), (3, .bipush 122, 0), (5, .invokestatic 92, 0), (8, .ireturn, 0)]
theorem pk_ClueText_isSmall : fx_prOK b_ClueText_isSmall p_ClueText_isSmall := fx_pr_ok (by decide +kernel)
theorem q_ClueText_isSmall_0 {nL : Nat} {M : fx_M} {ev : fx_Env} {ret : Option FieldType} {P : fx_P} {stops : List (Nat × Nat)} {K : fx_K} {n : Nat} {L : List (Option Value)} {st : List Value} {I : fx_MI} {J : fx_MJ} {R : fx_MR} {X : Nat → fx_K} (hX : fx_isX nL M ev ret P p_ClueText_isSmall stops K X) (hs : fx_stop stops 0 = none) : X (n + 1) 0 L st I J R = fx_S nL M ev ret P (.iload_n 0) 0 0 L st I J R (X n) := hX.1 _ _ _ _ _ _ _ _ _ rfl hs
theorem q_ClueText_isSmall_1 {nL : Nat} {M : fx_M} {ev : fx_Env} {ret : Option FieldType} {P : fx_P} {stops : List (Nat × Nat)} {K : fx_K} {n : Nat} {L : List (Option Value)} {st : List Value} {I : fx_MI} {J : fx_MJ} {R : fx_MR} {X : Nat → fx_K} (hX : fx_isX nL M ev ret P p_ClueText_isSmall stops K X) (hs : fx_stop stops 1 = none) : X (n + 1) 1 L st I J R = fx_S nL M ev ret P (.bipush 97) 0 1 L st I J R (X n) := hX.1 _ _ _ _ _ _ _ _ _ rfl hs
theorem q_ClueText_isSmall_3 {nL : Nat} {M : fx_M} {ev : fx_Env} {ret : Option FieldType} {P : fx_P} {stops : List (Nat × Nat)} {K : fx_K} {n : Nat} {L : List (Option Value)} {st : List Value} {I : fx_MI} {J : fx_MJ} {R : fx_MR} {X : Nat → fx_K} (hX : fx_isX nL M ev ret P p_ClueText_isSmall stops K X) (hs : fx_stop stops 3 = none) : X (n + 1) 3 L st I J R = fx_S nL M ev ret P (.bipush 122) 0 3 L st I J R (X n) := hX.1 _ _ _ _ _ _ _ _ _ rfl hs
theorem q_ClueText_isSmall_5 {nL : Nat} {M : fx_M} {ev : fx_Env} {ret : Option FieldType} {P : fx_P} {stops : List (Nat × Nat)} {K : fx_K} {n : Nat} {L : List (Option Value)} {st : List Value} {I : fx_MI} {J : fx_MJ} {R : fx_MR} {X : Nat → fx_K} (hX : fx_isX nL M ev ret P p_ClueText_isSmall stops K X) (hs : fx_stop stops 5 = none) : X (n + 1) 5 L st I J R = fx_S nL M ev ret P (.invokestatic 92) 0 5 L st I J R (X n) := hX.1 _ _ _ _ _ _ _ _ _ rfl hs
theorem q_ClueText_isSmall_8 {nL : Nat} {M : fx_M} {ev : fx_Env} {ret : Option FieldType} {P : fx_P} {stops : List (Nat × Nat)} {K : fx_K} {n : Nat} {L : List (Option Value)} {st : List Value} {I : fx_MI} {J : fx_MJ} {R : fx_MR} {X : Nat → fx_K} (hX : fx_isX nL M ev ret P p_ClueText_isSmall stops K X) (hs : fx_stop stops 8 = none) : X (n + 1) 8 L st I J R = fx_S nL M ev ret P (.ireturn) 0 8 L st I J R (X n) := hX.1 _ _ _ _ _ _ _ _ _ rfl hs
def pre_ClueText_isSmall (n : Nat) : fx_Pre := fun st I J R => (∃ b, R = R0C b) ∧ (match st with
  | [.int v] => True
  | _ => False)
theorem pi_ClueText_isSmall {n : Nat} {st : List Value} {I : fx_MI} {J : fx_MJ} {R : fx_MR} (h : pre_ClueText_isSmall n st I J R) : (∃ b, R = R0C b) ∧ ∃ v, st = [.int v] ∧ (True) := by
  unfold pre_ClueText_isSmall at h
  obtain ⟨h0, h⟩ := h
  split at h
  · exact ⟨h0, _, rfl, h⟩
  · cases h
def post_ClueText_isSmall (n : Nat) : fx_Post := fun st I J R r I' J' R' => match st with
  | [.int v] => r = some (.int (zb (in_M v (nI 97) (nI 122)))) ∧ I' = I ∧ J' = J ∧ R' = R
  | _ => True
theorem pz_ClueText_isSmall {st : List Value} {I : fx_MI} {J : fx_MJ} {R : fx_MR} (n : Nat) (h : pre_ClueText_isSmall n st I J R) : st.length = 1 := by
  obtain ⟨_, _, rfl, _⟩ := pi_ClueText_isSmall h
  rfl
def v_ClueText_isSmall (n : Nat) : fx_Env := [(.invokestatic 92, fx_tcall 3 (pre_Out_isWithin n) (post_Out_isWithin n))]
abbrev rm_ClueText_isSmall : Room := { frames := 1, cells := 0, slots := 0, locals := 22 }
abbrev ws_ClueText_isSmall : List Cond := Cond.code y_ClueText_isSmall b_ClueText_isSmall 1 (some .boolean) :: w_C
theorem e_ClueText_c92 {l : Launch} {c0 : Cond} {rm : Room} {n nL : Nat} {cc : ByteArray} (hR : rm_Out_isWithin.frames + 1 ≤ rm.frames ∧ 8 + (3 + 11) + rm_Out_isWithin.locals ≤ rm.locals) : fx_E1 l R_ClueText (c0 :: w_C) rm (MC n) nL cc (.invokestatic 92) (fx_tcall 3 (pre_Out_isWithin n) (post_Out_isWithin n)) := fx_callSN (c_Out_isWithin l n) (w_C_GN (w_C_h4 28 rfl)) (List.mem_of_getElem? (i := 13) rfl) (List.mem_cons_of_mem _ (w_C_h4 30 rfl)) (List.mem_cons_of_mem _ (w_C_h1 40 rfl)) rfl ⟨rfl, rfl⟩ (by decide) hR (fun st I J R h => pz_Out_isWithin n h)
theorem vk_ClueText_isSmall {l : Launch} {n : Nat} : fx_EV l R_ClueText ws_ClueText_isSmall rm_ClueText_isSmall (MC n) 1 b_ClueText_isSmall (v_ClueText_isSmall n) := (fx_EV_cons (e_ClueText_c92 (by decide)) fx_EV_nil)
theorem r_ClueText_isSmall (n : Nat) (st : List Value) (I : fx_MI) (J : fx_MJ) (R : fx_MR) (h : pre_ClueText_isSmall n st I J R) : fx_sz st ≤ 1 ∧ fx_R 1 (MC n) (v_ClueText_isSmall n) (some .boolean) (post_ClueText_isSmall n st I J R) p_ClueText_isSmall 0 (fx_en st) [] I J R := by
  obtain ⟨⟨b, rfl⟩, v, rfl, -⟩ := pi_ClueText_isSmall h
  clear h
  refine ⟨Nat.le_of_ble_eq_true rfl, ?_⟩
  refine fx_run0 40 fun X hX => ?_
  simp only [q_ClueText_isSmall_0 hX rfl, q_ClueText_isSmall_1 hX rfl, q_ClueText_isSmall_3 hX rfl, q_ClueText_isSmall_5 hX rfl, q_ClueText_isSmall_8 hX rfl, fs_bipush, fs_iload_n0, fs_iload_n1, fs_iload_n2, fs_iload_n3, fs_invokestatic, fs_ireturn, v_ClueText_isSmall, cb_97, cb_122, pre_Out_isWithin, post_Out_isWithin, fx_oi_s, fx_ol_s, fx_or_s, fx_do_s, fx_lg_0, fx_lg_s, fx_ls_0, fx_ls_s, fx_ls_n0, fx_ls_ns, fx_en, fx_sz, Value.category, fx_nl, fx_lk, fx_tget, fx_tput, fx_tcall, fx_tldc, fx_fv, va_rf, fx_cat, fx_in, fx_cnd, fx_len, fx_narI, fx_narZ0, fx_narZ1, fx_narZb, zb_e, zb_ne, Option.some.injEq, Value.int.injEq, Value.long.injEq, Value.ref.injEq, List.cons.injEq, Nat.reduceAdd, Nat.reduceLeDiff, Nat.le_refl, List.take, List.drop, List.reverse_cons, List.reverse_nil, List.nil_append, List.cons_append, List.append_nil, List.map_cons, List.map_nil, List.sum_cons, List.sum_nil, List.length_cons, List.length_nil, Option.toList, fx_all4, forall_const, true_and, and_true, not_true_eq_false, not_false_eq_true, false_implies, true_implies, ne_eq, reduceCtorEq, Nat.reduceEqDiff, ite_true, ite_false, reduceIte, Instr.getfield.injEq, Instr.putfield.injEq, Instr.invokevirtual.injEq, Instr.invokestatic.injEq, Instr.ldc2_w.injEq, fx_tcopy, Instr.ldc.injEq, Instr.ldc_w.injEq, exists_eq_left, exists_prop, R0C_ex, post_ClueText_isSmall, lit]
theorem c_ClueText_isSmall (l : Launch) (n : Nat) : fx_Met l y_ClueText_isSmall ws_ClueText_isSmall rm_ClueText_isSmall (MC n) (pre_ClueText_isSmall n) (post_ClueText_isSmall n) := fx_met (MC_ok n) (MC_tys n) (by decide) rfl pk_ClueText_isSmall vk_ClueText_isSmall (fun st I J R h => r_ClueText_isSmall n st I J R h)

def p_ClueText_isDigit : fx_Pr := fx_pr [(0, .iload_n 0, 0), (1, .bipush 49, 0), (3, .bipush 56, 0), (5, .invokestatic 92, 0), (8, .ireturn, 0)]
theorem pk_ClueText_isDigit : fx_prOK b_ClueText_isDigit p_ClueText_isDigit := fx_pr_ok (by decide +kernel)
theorem q_ClueText_isDigit_0 {nL : Nat} {M : fx_M} {ev : fx_Env} {ret : Option FieldType} {P : fx_P} {stops : List (Nat × Nat)} {K : fx_K} {n : Nat} {L : List (Option Value)} {st : List Value} {I : fx_MI} {J : fx_MJ} {R : fx_MR} {X : Nat → fx_K} (hX : fx_isX nL M ev ret P p_ClueText_isDigit stops K X) (hs : fx_stop stops 0 = none) : X (n + 1) 0 L st I J R = fx_S nL M ev ret P (.iload_n 0) 0 0 L st I J R (X n) := hX.1 _ _ _ _ _ _ _ _ _ rfl hs
theorem q_ClueText_isDigit_1 {nL : Nat} {M : fx_M} {ev : fx_Env} {ret : Option FieldType} {P : fx_P} {stops : List (Nat × Nat)} {K : fx_K} {n : Nat} {L : List (Option Value)} {st : List Value} {I : fx_MI} {J : fx_MJ} {R : fx_MR} {X : Nat → fx_K} (hX : fx_isX nL M ev ret P p_ClueText_isDigit stops K X) (hs : fx_stop stops 1 = none) : X (n + 1) 1 L st I J R = fx_S nL M ev ret P (.bipush 49) 0 1 L st I J R (X n) := hX.1 _ _ _ _ _ _ _ _ _ rfl hs
theorem q_ClueText_isDigit_3 {nL : Nat} {M : fx_M} {ev : fx_Env} {ret : Option FieldType} {P : fx_P} {stops : List (Nat × Nat)} {K : fx_K} {n : Nat} {L : List (Option Value)} {st : List Value} {I : fx_MI} {J : fx_MJ} {R : fx_MR} {X : Nat → fx_K} (hX : fx_isX nL M ev ret P p_ClueText_isDigit stops K X) (hs : fx_stop stops 3 = none) : X (n + 1) 3 L st I J R = fx_S nL M ev ret P (.bipush 56) 0 3 L st I J R (X n) := hX.1 _ _ _ _ _ _ _ _ _ rfl hs
theorem q_ClueText_isDigit_5 {nL : Nat} {M : fx_M} {ev : fx_Env} {ret : Option FieldType} {P : fx_P} {stops : List (Nat × Nat)} {K : fx_K} {n : Nat} {L : List (Option Value)} {st : List Value} {I : fx_MI} {J : fx_MJ} {R : fx_MR} {X : Nat → fx_K} (hX : fx_isX nL M ev ret P p_ClueText_isDigit stops K X) (hs : fx_stop stops 5 = none) : X (n + 1) 5 L st I J R = fx_S nL M ev ret P (.invokestatic 92) 0 5 L st I J R (X n) := hX.1 _ _ _ _ _ _ _ _ _ rfl hs
theorem q_ClueText_isDigit_8 {nL : Nat} {M : fx_M} {ev : fx_Env} {ret : Option FieldType} {P : fx_P} {stops : List (Nat × Nat)} {K : fx_K} {n : Nat} {L : List (Option Value)} {st : List Value} {I : fx_MI} {J : fx_MJ} {R : fx_MR} {X : Nat → fx_K} (hX : fx_isX nL M ev ret P p_ClueText_isDigit stops K X) (hs : fx_stop stops 8 = none) : X (n + 1) 8 L st I J R = fx_S nL M ev ret P (.ireturn) 0 8 L st I J R (X n) := hX.1 _ _ _ _ _ _ _ _ _ rfl hs
def pre_ClueText_isDigit (n : Nat) : fx_Pre := fun st I J R => (∃ b, R = R0C b) ∧ (match st with
  | [.int v] => True
  | _ => False)
theorem pi_ClueText_isDigit {n : Nat} {st : List Value} {I : fx_MI} {J : fx_MJ} {R : fx_MR} (h : pre_ClueText_isDigit n st I J R) : (∃ b, R = R0C b) ∧ ∃ v, st = [.int v] ∧ (True) := by
  unfold pre_ClueText_isDigit at h
  obtain ⟨h0, h⟩ := h
  split at h
  · exact ⟨h0, _, rfl, h⟩
  · cases h
def post_ClueText_isDigit (n : Nat) : fx_Post := fun st I J R r I' J' R' => match st with
  | [.int v] => r = some (.int (zb (in_M v (nI 49) (nI 56)))) ∧ I' = I ∧ J' = J ∧ R' = R
  | _ => True
theorem pz_ClueText_isDigit {st : List Value} {I : fx_MI} {J : fx_MJ} {R : fx_MR} (n : Nat) (h : pre_ClueText_isDigit n st I J R) : st.length = 1 := by
  obtain ⟨_, _, rfl, _⟩ := pi_ClueText_isDigit h
  rfl
def v_ClueText_isDigit (n : Nat) : fx_Env := [(.invokestatic 92, fx_tcall 3 (pre_Out_isWithin n) (post_Out_isWithin n))]
abbrev rm_ClueText_isDigit : Room := { frames := 1, cells := 0, slots := 0, locals := 22 }
abbrev ws_ClueText_isDigit : List Cond := Cond.code y_ClueText_isDigit b_ClueText_isDigit 1 (some .boolean) :: w_C
theorem vk_ClueText_isDigit {l : Launch} {n : Nat} : fx_EV l R_ClueText ws_ClueText_isDigit rm_ClueText_isDigit (MC n) 1 b_ClueText_isDigit (v_ClueText_isDigit n) := (fx_EV_cons (e_ClueText_c92 (by decide)) fx_EV_nil)
theorem r_ClueText_isDigit (n : Nat) (st : List Value) (I : fx_MI) (J : fx_MJ) (R : fx_MR) (h : pre_ClueText_isDigit n st I J R) : fx_sz st ≤ 1 ∧ fx_R 1 (MC n) (v_ClueText_isDigit n) (some .boolean) (post_ClueText_isDigit n st I J R) p_ClueText_isDigit 0 (fx_en st) [] I J R := by
  obtain ⟨⟨b, rfl⟩, v, rfl, -⟩ := pi_ClueText_isDigit h
  clear h
  refine ⟨Nat.le_of_ble_eq_true rfl, ?_⟩
  refine fx_run0 40 fun X hX => ?_
  simp only [q_ClueText_isDigit_0 hX rfl, q_ClueText_isDigit_1 hX rfl, q_ClueText_isDigit_3 hX rfl, q_ClueText_isDigit_5 hX rfl, q_ClueText_isDigit_8 hX rfl, fs_bipush, fs_iload_n0, fs_iload_n1, fs_iload_n2, fs_iload_n3, fs_invokestatic, fs_ireturn, v_ClueText_isDigit, cb_49, cb_56, pre_Out_isWithin, post_Out_isWithin, fx_oi_s, fx_ol_s, fx_or_s, fx_do_s, fx_lg_0, fx_lg_s, fx_ls_0, fx_ls_s, fx_ls_n0, fx_ls_ns, fx_en, fx_sz, Value.category, fx_nl, fx_lk, fx_tget, fx_tput, fx_tcall, fx_tldc, fx_fv, va_rf, fx_cat, fx_in, fx_cnd, fx_len, fx_narI, fx_narZ0, fx_narZ1, fx_narZb, zb_e, zb_ne, Option.some.injEq, Value.int.injEq, Value.long.injEq, Value.ref.injEq, List.cons.injEq, Nat.reduceAdd, Nat.reduceLeDiff, Nat.le_refl, List.take, List.drop, List.reverse_cons, List.reverse_nil, List.nil_append, List.cons_append, List.append_nil, List.map_cons, List.map_nil, List.sum_cons, List.sum_nil, List.length_cons, List.length_nil, Option.toList, fx_all4, forall_const, true_and, and_true, not_true_eq_false, not_false_eq_true, false_implies, true_implies, ne_eq, reduceCtorEq, Nat.reduceEqDiff, ite_true, ite_false, reduceIte, Instr.getfield.injEq, Instr.putfield.injEq, Instr.invokevirtual.injEq, Instr.invokestatic.injEq, Instr.ldc2_w.injEq, fx_tcopy, Instr.ldc.injEq, Instr.ldc_w.injEq, exists_eq_left, exists_prop, R0C_ex, post_ClueText_isDigit, lit]
theorem c_ClueText_isDigit (l : Launch) (n : Nat) : fx_Met l y_ClueText_isDigit ws_ClueText_isDigit rm_ClueText_isDigit (MC n) (pre_ClueText_isDigit n) (post_ClueText_isDigit n) := fx_met (MC_ok n) (MC_tys n) (by decide) rfl pk_ClueText_isDigit vk_ClueText_isDigit (fun st I J R h => r_ClueText_isDigit n st I J R h)

def p_ClueText_skipBlanks : fx_Pr := fx_pr [(0, .aload_n 0, 0), (1, .getfield 24, 0), (4, .aload_n 0, 0), (5, .getfield 15, 0), (8, .if_icmp .ge 30, 38), (11, .aload_n 0, 0), (12, .getfield 9, 0), (15, .aload_n 0, 0), (16, .getfield 24, 0), (19, .baload, 0), (20, .bipush 32, 0), (22, .if_icmp .ne 16, 38), (25, .aload_n 0, 0), (26, .dup, 0), (27, .getfield 24, 0), (30, .iconst 1, 0), (31, .iadd, 0), (32, .putfield 24, 0), (35, .goto (-35), 0), (38, .return_, 0)]
theorem pk_ClueText_skipBlanks : fx_prOK b_ClueText_skipBlanks p_ClueText_skipBlanks := fx_pr_ok (by decide +kernel)
theorem q_ClueText_skipBlanks_0 {nL : Nat} {M : fx_M} {ev : fx_Env} {ret : Option FieldType} {P : fx_P} {stops : List (Nat × Nat)} {K : fx_K} {n : Nat} {L : List (Option Value)} {st : List Value} {I : fx_MI} {J : fx_MJ} {R : fx_MR} {X : Nat → fx_K} (hX : fx_isX nL M ev ret P p_ClueText_skipBlanks stops K X) (hs : fx_stop stops 0 = none) : X (n + 1) 0 L st I J R = fx_S nL M ev ret P (.aload_n 0) 0 0 L st I J R (X n) := hX.1 _ _ _ _ _ _ _ _ _ rfl hs
theorem h_ClueText_skipBlanks_0 {nL : Nat} {M : fx_M} {ev : fx_Env} {ret : Option FieldType} {P : fx_P} {L : List (Option Value)} {st : List Value} {I : fx_MI} {J : fx_MJ} {R : fx_MR} {X : fx_K} : fx_go nL M ev ret P p_ClueText_skipBlanks X 0 L st I J R = fx_S nL M ev ret P (.aload_n 0) 0 0 L st I J R X := fx_go_at rfl
theorem q_ClueText_skipBlanks_1 {nL : Nat} {M : fx_M} {ev : fx_Env} {ret : Option FieldType} {P : fx_P} {stops : List (Nat × Nat)} {K : fx_K} {n : Nat} {L : List (Option Value)} {st : List Value} {I : fx_MI} {J : fx_MJ} {R : fx_MR} {X : Nat → fx_K} (hX : fx_isX nL M ev ret P p_ClueText_skipBlanks stops K X) (hs : fx_stop stops 1 = none) : X (n + 1) 1 L st I J R = fx_S nL M ev ret P (.getfield 24) 0 1 L st I J R (X n) := hX.1 _ _ _ _ _ _ _ _ _ rfl hs
theorem q_ClueText_skipBlanks_4 {nL : Nat} {M : fx_M} {ev : fx_Env} {ret : Option FieldType} {P : fx_P} {stops : List (Nat × Nat)} {K : fx_K} {n : Nat} {L : List (Option Value)} {st : List Value} {I : fx_MI} {J : fx_MJ} {R : fx_MR} {X : Nat → fx_K} (hX : fx_isX nL M ev ret P p_ClueText_skipBlanks stops K X) (hs : fx_stop stops 4 = none) : X (n + 1) 4 L st I J R = fx_S nL M ev ret P (.aload_n 0) 0 4 L st I J R (X n) := hX.1 _ _ _ _ _ _ _ _ _ rfl hs
theorem q_ClueText_skipBlanks_5 {nL : Nat} {M : fx_M} {ev : fx_Env} {ret : Option FieldType} {P : fx_P} {stops : List (Nat × Nat)} {K : fx_K} {n : Nat} {L : List (Option Value)} {st : List Value} {I : fx_MI} {J : fx_MJ} {R : fx_MR} {X : Nat → fx_K} (hX : fx_isX nL M ev ret P p_ClueText_skipBlanks stops K X) (hs : fx_stop stops 5 = none) : X (n + 1) 5 L st I J R = fx_S nL M ev ret P (.getfield 15) 0 5 L st I J R (X n) := hX.1 _ _ _ _ _ _ _ _ _ rfl hs
theorem q_ClueText_skipBlanks_8 {nL : Nat} {M : fx_M} {ev : fx_Env} {ret : Option FieldType} {P : fx_P} {stops : List (Nat × Nat)} {K : fx_K} {n : Nat} {L : List (Option Value)} {st : List Value} {I : fx_MI} {J : fx_MJ} {R : fx_MR} {x y : Int32} {X : Nat → fx_K} (hX : fx_isX nL M ev ret P p_ClueText_skipBlanks stops K X) (hs : fx_stop stops 8 = none) : X (n + 1) 8 L (.int y :: .int x :: st) I J R = ((y ≤ x → X n 38 L st I J R) ∧ (¬ y ≤ x → X n 11 L st I J R)) := fx_q_icmp hX rfl hs rfl
theorem q_ClueText_skipBlanks_11 {nL : Nat} {M : fx_M} {ev : fx_Env} {ret : Option FieldType} {P : fx_P} {stops : List (Nat × Nat)} {K : fx_K} {n : Nat} {L : List (Option Value)} {st : List Value} {I : fx_MI} {J : fx_MJ} {R : fx_MR} {X : Nat → fx_K} (hX : fx_isX nL M ev ret P p_ClueText_skipBlanks stops K X) (hs : fx_stop stops 11 = none) : X (n + 1) 11 L st I J R = fx_S nL M ev ret P (.aload_n 0) 0 11 L st I J R (X n) := hX.1 _ _ _ _ _ _ _ _ _ rfl hs
theorem q_ClueText_skipBlanks_12 {nL : Nat} {M : fx_M} {ev : fx_Env} {ret : Option FieldType} {P : fx_P} {stops : List (Nat × Nat)} {K : fx_K} {n : Nat} {L : List (Option Value)} {st : List Value} {I : fx_MI} {J : fx_MJ} {R : fx_MR} {X : Nat → fx_K} (hX : fx_isX nL M ev ret P p_ClueText_skipBlanks stops K X) (hs : fx_stop stops 12 = none) : X (n + 1) 12 L st I J R = fx_S nL M ev ret P (.getfield 9) 0 12 L st I J R (X n) := hX.1 _ _ _ _ _ _ _ _ _ rfl hs
theorem q_ClueText_skipBlanks_15 {nL : Nat} {M : fx_M} {ev : fx_Env} {ret : Option FieldType} {P : fx_P} {stops : List (Nat × Nat)} {K : fx_K} {n : Nat} {L : List (Option Value)} {st : List Value} {I : fx_MI} {J : fx_MJ} {R : fx_MR} {X : Nat → fx_K} (hX : fx_isX nL M ev ret P p_ClueText_skipBlanks stops K X) (hs : fx_stop stops 15 = none) : X (n + 1) 15 L st I J R = fx_S nL M ev ret P (.aload_n 0) 0 15 L st I J R (X n) := hX.1 _ _ _ _ _ _ _ _ _ rfl hs
theorem q_ClueText_skipBlanks_16 {nL : Nat} {M : fx_M} {ev : fx_Env} {ret : Option FieldType} {P : fx_P} {stops : List (Nat × Nat)} {K : fx_K} {n : Nat} {L : List (Option Value)} {st : List Value} {I : fx_MI} {J : fx_MJ} {R : fx_MR} {X : Nat → fx_K} (hX : fx_isX nL M ev ret P p_ClueText_skipBlanks stops K X) (hs : fx_stop stops 16 = none) : X (n + 1) 16 L st I J R = fx_S nL M ev ret P (.getfield 24) 0 16 L st I J R (X n) := hX.1 _ _ _ _ _ _ _ _ _ rfl hs
theorem q_ClueText_skipBlanks_19 {nL : Nat} {M : fx_M} {ev : fx_Env} {ret : Option FieldType} {P : fx_P} {stops : List (Nat × Nat)} {K : fx_K} {n : Nat} {L : List (Option Value)} {st : List Value} {I : fx_MI} {J : fx_MJ} {R : fx_MR} {X : Nat → fx_K} (hX : fx_isX nL M ev ret P p_ClueText_skipBlanks stops K X) (hs : fx_stop stops 19 = none) : X (n + 1) 19 L st I J R = fx_S nL M ev ret P (.baload) 0 19 L st I J R (X n) := hX.1 _ _ _ _ _ _ _ _ _ rfl hs
theorem q_ClueText_skipBlanks_20 {nL : Nat} {M : fx_M} {ev : fx_Env} {ret : Option FieldType} {P : fx_P} {stops : List (Nat × Nat)} {K : fx_K} {n : Nat} {L : List (Option Value)} {st : List Value} {I : fx_MI} {J : fx_MJ} {R : fx_MR} {X : Nat → fx_K} (hX : fx_isX nL M ev ret P p_ClueText_skipBlanks stops K X) (hs : fx_stop stops 20 = none) : X (n + 1) 20 L st I J R = fx_S nL M ev ret P (.bipush 32) 0 20 L st I J R (X n) := hX.1 _ _ _ _ _ _ _ _ _ rfl hs
theorem q_ClueText_skipBlanks_22 {nL : Nat} {M : fx_M} {ev : fx_Env} {ret : Option FieldType} {P : fx_P} {stops : List (Nat × Nat)} {K : fx_K} {n : Nat} {L : List (Option Value)} {st : List Value} {I : fx_MI} {J : fx_MJ} {R : fx_MR} {x y : Int32} {X : Nat → fx_K} (hX : fx_isX nL M ev ret P p_ClueText_skipBlanks stops K X) (hs : fx_stop stops 22 = none) : X (n + 1) 22 L (.int y :: .int x :: st) I J R = ((¬ x = y → X n 38 L st I J R) ∧ (x = y → X n 25 L st I J R)) := fx_q_icmpne hX rfl hs rfl
theorem q_ClueText_skipBlanks_25 {nL : Nat} {M : fx_M} {ev : fx_Env} {ret : Option FieldType} {P : fx_P} {stops : List (Nat × Nat)} {K : fx_K} {n : Nat} {L : List (Option Value)} {st : List Value} {I : fx_MI} {J : fx_MJ} {R : fx_MR} {X : Nat → fx_K} (hX : fx_isX nL M ev ret P p_ClueText_skipBlanks stops K X) (hs : fx_stop stops 25 = none) : X (n + 1) 25 L st I J R = fx_S nL M ev ret P (.aload_n 0) 0 25 L st I J R (X n) := hX.1 _ _ _ _ _ _ _ _ _ rfl hs
theorem q_ClueText_skipBlanks_26 {nL : Nat} {M : fx_M} {ev : fx_Env} {ret : Option FieldType} {P : fx_P} {stops : List (Nat × Nat)} {K : fx_K} {n : Nat} {L : List (Option Value)} {st : List Value} {I : fx_MI} {J : fx_MJ} {R : fx_MR} {X : Nat → fx_K} (hX : fx_isX nL M ev ret P p_ClueText_skipBlanks stops K X) (hs : fx_stop stops 26 = none) : X (n + 1) 26 L st I J R = fx_S nL M ev ret P (.dup) 0 26 L st I J R (X n) := hX.1 _ _ _ _ _ _ _ _ _ rfl hs
theorem q_ClueText_skipBlanks_27 {nL : Nat} {M : fx_M} {ev : fx_Env} {ret : Option FieldType} {P : fx_P} {stops : List (Nat × Nat)} {K : fx_K} {n : Nat} {L : List (Option Value)} {st : List Value} {I : fx_MI} {J : fx_MJ} {R : fx_MR} {X : Nat → fx_K} (hX : fx_isX nL M ev ret P p_ClueText_skipBlanks stops K X) (hs : fx_stop stops 27 = none) : X (n + 1) 27 L st I J R = fx_S nL M ev ret P (.getfield 24) 0 27 L st I J R (X n) := hX.1 _ _ _ _ _ _ _ _ _ rfl hs
theorem q_ClueText_skipBlanks_30 {nL : Nat} {M : fx_M} {ev : fx_Env} {ret : Option FieldType} {P : fx_P} {stops : List (Nat × Nat)} {K : fx_K} {n : Nat} {L : List (Option Value)} {st : List Value} {I : fx_MI} {J : fx_MJ} {R : fx_MR} {X : Nat → fx_K} (hX : fx_isX nL M ev ret P p_ClueText_skipBlanks stops K X) (hs : fx_stop stops 30 = none) : X (n + 1) 30 L st I J R = fx_S nL M ev ret P (.iconst 1) 0 30 L st I J R (X n) := hX.1 _ _ _ _ _ _ _ _ _ rfl hs
theorem q_ClueText_skipBlanks_31 {nL : Nat} {M : fx_M} {ev : fx_Env} {ret : Option FieldType} {P : fx_P} {stops : List (Nat × Nat)} {K : fx_K} {n : Nat} {L : List (Option Value)} {st : List Value} {I : fx_MI} {J : fx_MJ} {R : fx_MR} {X : Nat → fx_K} (hX : fx_isX nL M ev ret P p_ClueText_skipBlanks stops K X) (hs : fx_stop stops 31 = none) : X (n + 1) 31 L st I J R = fx_S nL M ev ret P (.iadd) 0 31 L st I J R (X n) := hX.1 _ _ _ _ _ _ _ _ _ rfl hs
theorem q_ClueText_skipBlanks_32 {nL : Nat} {M : fx_M} {ev : fx_Env} {ret : Option FieldType} {P : fx_P} {stops : List (Nat × Nat)} {K : fx_K} {n : Nat} {L : List (Option Value)} {st : List Value} {I : fx_MI} {J : fx_MJ} {R : fx_MR} {X : Nat → fx_K} (hX : fx_isX nL M ev ret P p_ClueText_skipBlanks stops K X) (hs : fx_stop stops 32 = none) : X (n + 1) 32 L st I J R = fx_S nL M ev ret P (.putfield 24) 0 32 L st I J R (X n) := hX.1 _ _ _ _ _ _ _ _ _ rfl hs
theorem q_ClueText_skipBlanks_35 {nL : Nat} {M : fx_M} {ev : fx_Env} {ret : Option FieldType} {P : fx_P} {stops : List (Nat × Nat)} {K : fx_K} {n : Nat} {L : List (Option Value)} {st : List Value} {I : fx_MI} {J : fx_MJ} {R : fx_MR} {X : Nat → fx_K} (hX : fx_isX nL M ev ret P p_ClueText_skipBlanks stops K X) (hs : fx_stop stops 35 = none) : X (n + 1) 35 L st I J R = X n 0 L st I J R := fx_q_goto hX rfl hs rfl
theorem q_ClueText_skipBlanks_38 {nL : Nat} {M : fx_M} {ev : fx_Env} {ret : Option FieldType} {P : fx_P} {stops : List (Nat × Nat)} {K : fx_K} {n : Nat} {L : List (Option Value)} {st : List Value} {I : fx_MI} {J : fx_MJ} {R : fx_MR} {X : Nat → fx_K} (hX : fx_isX nL M ev ret P p_ClueText_skipBlanks stops K X) (hs : fx_stop stops 38 = none) : X (n + 1) 38 L st I J R = fx_S nL M ev ret P (.return_) 0 38 L st I J R (X n) := hX.1 _ _ _ _ _ _ _ _ _ rfl hs
def pre_ClueText_skipBlanks (n : Nat) : fx_Pre := fun st I J R => (∃ b, R = R0C b) ∧ (match st with
  | [.ref 94] => okX I ∧ ∃ p, p < 190 ∧ I 94 2 = nI p
  | _ => False)
theorem pi_ClueText_skipBlanks {n : Nat} {st : List Value} {I : fx_MI} {J : fx_MJ} {R : fx_MR} (h : pre_ClueText_skipBlanks n st I J R) : (∃ b, R = R0C b) ∧ st = [.ref 94] ∧ (okX I ∧ ∃ p, p < 190 ∧ I 94 2 = nI p) := by
  unfold pre_ClueText_skipBlanks at h
  obtain ⟨h0, h⟩ := h
  split at h
  · exact ⟨h0, rfl, h⟩
  · cases h
def post_ClueText_skipBlanks (n : Nat) : fx_Post := fun st I J R r I' J' R' => r = none ∧ I' = fx_up I 94 2 (nI (skB (txC I) (tlC I) (nv (I 94 2)))) ∧ J' = J ∧ R' = R
theorem pz_ClueText_skipBlanks {st : List Value} {I : fx_MI} {J : fx_MJ} {R : fx_MR} (n : Nat) (h : pre_ClueText_skipBlanks n st I J R) : ∃ q r, st = .ref q :: r ∧ (MC n).2.2.1 q = some (.inl 6) ∧ r.length = 0 := by
  obtain ⟨_, rfl, _⟩ := pi_ClueText_skipBlanks h
  exact ⟨_, _, rfl, rfl, rfl⟩
def v_ClueText_skipBlanks (n : Nat) : fx_Env := [(.getfield 24, fx_tget (MC n) 6 2), (.getfield 15, fx_tget (MC n) 6 1), (.getfield 9, fx_tget (MC n) 6 0), (.putfield 24, fx_tput (MC n) 6 2)]
abbrev rm_ClueText_skipBlanks : Room := { frames := 0, cells := 0, slots := 0, locals := 0 }
abbrev ws_ClueText_skipBlanks : List Cond := Cond.code y_ClueText_skipBlanks b_ClueText_skipBlanks 1 none :: w_C
theorem vk_ClueText_skipBlanks {l : Launch} {n : Nat} : fx_EV l R_ClueText ws_ClueText_skipBlanks rm_ClueText_skipBlanks (MC n) 1 b_ClueText_skipBlanks (v_ClueText_skipBlanks n) := (fx_EV_cons e_ClueText_g24 (fx_EV_cons e_ClueText_g15 (fx_EV_cons e_ClueText_g9 (fx_EV_cons e_ClueText_p24 fx_EV_nil))))
theorem r_ClueText_skipBlanks (n : Nat) (st : List Value) (I : fx_MI) (J : fx_MJ) (R : fx_MR) (h : pre_ClueText_skipBlanks n st I J R) : fx_sz st ≤ 1 ∧ fx_R 1 (MC n) (v_ClueText_skipBlanks n) none (post_ClueText_skipBlanks n st I J R) p_ClueText_skipBlanks 0 (fx_en st) [] I J R := by
  obtain ⟨⟨b, rfl⟩, rfl, hp⟩ := pi_ClueText_skipBlanks h
  clear h
  refine ⟨Nat.le_of_ble_eq_true rfl, ?_⟩
  obtain ⟨ht, p0, hp0, hI⟩ := hp
  have htl := okX_tl ht
  have hpost : ∀ I', I' = fx_up I 94 2 (nI (skB (txC I) (tlC I) p0)) → post_ClueText_skipBlanks n [.ref 94] I J (R0C b) none I' J (R0C b) := by
    rintro I' rfl
    refine ⟨rfl, ?_, rfl, rfl⟩
    rw [hI, nv_nI (by omega)]
  have hA : ∀ d p, p < 200 → tlC I - p ≤ d → skB (txC I) (tlC I) p = skB (txC I) (tlC I) p0 → fx_R 1 (MC n) (v_ClueText_skipBlanks n) none (post_ClueText_skipBlanks n [.ref 94] I J (R0C b)) p_ClueText_skipBlanks 0 [some (.ref 94)] [] (fx_up I 94 2 (nI p)) J (R0C b) := by
    intro d
    induction d with
    | zero =>
      intro p hp hd hsk
      refine fx_run1 (stops := [(0, 1)]) (K := fun _ _ _ _ _ _ => False) (fun _ _ _ _ _ _ h => h.elim) 60 fun X hX => ?_
      simp only [hX.2 _ 0 1 _ _ _ _ _ rfl, q_ClueText_skipBlanks_1 hX rfl, q_ClueText_skipBlanks_4 hX rfl, q_ClueText_skipBlanks_5 hX rfl, q_ClueText_skipBlanks_8 hX rfl, q_ClueText_skipBlanks_11 hX rfl, q_ClueText_skipBlanks_12 hX rfl, q_ClueText_skipBlanks_15 hX rfl, q_ClueText_skipBlanks_16 hX rfl, q_ClueText_skipBlanks_19 hX rfl, q_ClueText_skipBlanks_20 hX rfl, q_ClueText_skipBlanks_22 hX rfl, q_ClueText_skipBlanks_25 hX rfl, q_ClueText_skipBlanks_26 hX rfl, q_ClueText_skipBlanks_27 hX rfl, q_ClueText_skipBlanks_30 hX rfl, q_ClueText_skipBlanks_31 hX rfl, q_ClueText_skipBlanks_32 hX rfl, q_ClueText_skipBlanks_35 hX rfl, q_ClueText_skipBlanks_38 hX rfl, h_ClueText_skipBlanks_0, fs_aload_n0, fs_aload_n1, fs_aload_n2, fs_aload_n3, fs_baload, fs_bipush, fs_dup, fs_getfield, fs_goto, fs_iadd, fs_iconst, fs_if_icmp, fs_putfield, fs_return_, v_ClueText_skipBlanks, cb_32, ci_1, kd_C_6_2, pl_C_94, kd_C_6_1, kd_C_6_0, R0C_94_0, pl_C_95, fx_oi_s, fx_ol_s, fx_or_s, fx_do_s, fx_lg_0, fx_lg_s, fx_ls_0, fx_ls_s, fx_ls_n0, fx_ls_ns, fx_en, fx_sz, Value.category, fx_nl, fx_lk, fx_tget, fx_tput, fx_tcall, fx_tldc, fx_fv, va_rf, fx_cat, fx_in, fx_cnd, fx_len, fx_narI, fx_narZ0, fx_narZ1, fx_narZb, zb_e, zb_ne, Option.some.injEq, Value.int.injEq, Value.long.injEq, Value.ref.injEq, List.cons.injEq, Nat.reduceAdd, Nat.reduceLeDiff, Nat.le_refl, List.take, List.drop, List.reverse_cons, List.reverse_nil, List.nil_append, List.cons_append, List.append_nil, List.map_cons, List.map_nil, List.sum_cons, List.sum_nil, List.length_cons, List.length_nil, Option.toList, fx_all4, forall_const, true_and, and_true, not_true_eq_false, not_false_eq_true, false_implies, true_implies, ne_eq, reduceCtorEq, Nat.reduceEqDiff, ite_true, ite_false, reduceIte, Instr.getfield.injEq, Instr.putfield.injEq, Instr.invokevirtual.injEq, Instr.invokestatic.injEq, Instr.ldc2_w.injEq, fx_tcopy, Instr.ldc.injEq, Instr.ldc_w.injEq, exists_eq_left, exists_prop, R0C_ex]
      simp (disch := omega) only [lit, nI_add, nI_mul', nI_sub', nI_clamp, nI_lt', nI_le', nI_eq', nI_in', iinc1, zb_n0, nI_div', nI_rem2, true_and, and_true, Nat.reduceEqDiff, Nat.reduceLeDiff, Nat.one_ne_zero, Nat.zero_ne_one, not_false_eq_true, not_true_eq_false, false_implies, true_implies, forall_const, Nat.zero_add, Nat.add_zero, nv_nI, up_eq, up_ne, fill_ne, nI_clamp, nI_add, htl.1]
      refine ⟨fun h => hpost _ ?_, fun h => by omega⟩
      rw [← hsk]
      congr 2
      exact (scan_stop (P := isB (txC I) (tlC I)) (fun z => by have := isB_lt z; omega)).symm
    | succ d ih =>
      intro p hp hd hsk
      refine fx_run1 (stops := [(0, 1)]) (K := fx_at 0 (fun L st I' J' R' => tlC I - (p + 1) ≤ d ∧ p < tlC I ∧ skB (txC I) (tlC I) (p + 1) = skB (txC I) (tlC I) p0 ∧ L = [some (.ref 94)] ∧ st = [] ∧ I' = fx_up I 94 2 (nI (p + 1)) ∧ J' = J ∧ R' = R0C b)) ?_ 60 fun X hX => ?_
      · rintro pc L st I' J' R' ⟨rfl, k1, k0, k2, hL, k3, k4, k5, k6⟩
        rw [hL, k3, k4, k5, k6]
        exact ih (p + 1) (by omega) k1 k2
      simp only [hX.2 _ 0 1 _ _ _ _ _ rfl, q_ClueText_skipBlanks_1 hX rfl, q_ClueText_skipBlanks_4 hX rfl, q_ClueText_skipBlanks_5 hX rfl, q_ClueText_skipBlanks_8 hX rfl, q_ClueText_skipBlanks_11 hX rfl, q_ClueText_skipBlanks_12 hX rfl, q_ClueText_skipBlanks_15 hX rfl, q_ClueText_skipBlanks_16 hX rfl, q_ClueText_skipBlanks_19 hX rfl, q_ClueText_skipBlanks_20 hX rfl, q_ClueText_skipBlanks_22 hX rfl, q_ClueText_skipBlanks_25 hX rfl, q_ClueText_skipBlanks_26 hX rfl, q_ClueText_skipBlanks_27 hX rfl, q_ClueText_skipBlanks_30 hX rfl, q_ClueText_skipBlanks_31 hX rfl, q_ClueText_skipBlanks_32 hX rfl, q_ClueText_skipBlanks_35 hX rfl, q_ClueText_skipBlanks_38 hX rfl, h_ClueText_skipBlanks_0, fs_aload_n0, fs_aload_n1, fs_aload_n2, fs_aload_n3, fs_baload, fs_bipush, fs_dup, fs_getfield, fs_goto, fs_iadd, fs_iconst, fs_if_icmp, fs_putfield, fs_return_, v_ClueText_skipBlanks, cb_32, ci_1, kd_C_6_2, pl_C_94, kd_C_6_1, kd_C_6_0, R0C_94_0, pl_C_95, fx_oi_s, fx_ol_s, fx_or_s, fx_do_s, fx_lg_0, fx_lg_s, fx_ls_0, fx_ls_s, fx_ls_n0, fx_ls_ns, fx_en, fx_sz, Value.category, fx_nl, fx_lk, fx_tget, fx_tput, fx_tcall, fx_tldc, fx_fv, va_rf, fx_cat, fx_in, fx_cnd, fx_len, fx_narI, fx_narZ0, fx_narZ1, fx_narZb, zb_e, zb_ne, Option.some.injEq, Value.int.injEq, Value.long.injEq, Value.ref.injEq, List.cons.injEq, Nat.reduceAdd, Nat.reduceLeDiff, Nat.le_refl, List.take, List.drop, List.reverse_cons, List.reverse_nil, List.nil_append, List.cons_append, List.append_nil, List.map_cons, List.map_nil, List.sum_cons, List.sum_nil, List.length_cons, List.length_nil, Option.toList, fx_all4, forall_const, true_and, and_true, not_true_eq_false, not_false_eq_true, false_implies, true_implies, ne_eq, reduceCtorEq, Nat.reduceEqDiff, ite_true, ite_false, reduceIte, Instr.getfield.injEq, Instr.putfield.injEq, Instr.invokevirtual.injEq, Instr.invokestatic.injEq, Instr.ldc2_w.injEq, fx_tcopy, Instr.ldc.injEq, Instr.ldc_w.injEq, exists_eq_left, exists_prop, R0C_ex]
      simp (disch := omega) only [lit, nI_add, nI_mul', nI_sub', nI_clamp, nI_lt', nI_le', nI_eq', nI_in', iinc1, zb_n0, nI_div', nI_rem2, true_and, and_true, Nat.reduceEqDiff, Nat.reduceLeDiff, Nat.one_ne_zero, Nat.zero_ne_one, not_false_eq_true, not_true_eq_false, false_implies, true_implies, forall_const, Nat.zero_add, Nat.add_zero, nv_nI, up_eq, up_ne, fill_ne, nI_clamp, nI_add, htl.1]
      have hstop : ¬ isB (txC I) (tlC I) p = true → post_ClueText_skipBlanks n [.ref 94] I J (R0C b) none (fx_up I 94 2 (nI p)) J (R0C b) := fun h => hpost _ (by
        rw [← hsk]
        congr 2
        exact (scan_stop (P := isB (txC I) (tlC I)) h).symm)
      refine ⟨fun h => hstop (fun z => by have := isB_lt z; omega), fun h => ⟨lett_in ht (by omega), fun h2 => hstop (fun z => h2 ?_), fun h2 => ?_⟩⟩
      · have := byC_eq ht p (c := 32) (by omega)
        unfold byC at this
        rw [if_pos (by omega)] at this
        exact this.mpr (beq_iff_eq.mp z)
      · have hb : isB (txC I) (tlC I) p = true := by
          have := byC_eq ht p (c := 32) (by omega)
          unfold byC at this
          rw [if_pos (by omega)] at this
          exact beq_iff_eq.mpr (this.mp h2)
        refine fx_at_i ⟨by omega, by omega, ?_, rfl, rfl, up_up, rfl, rfl⟩
        rw [← hsk]
        exact (scan_step (P := isB (txC I) (tlC I)) (fun k hk => isB_lt hk) hb).symm
  have := hA (tlC I - p0) p0 (by omega) (Nat.le_refl _) rfl
  rw [up_self hI] at this
  exact this
theorem c_ClueText_skipBlanks (l : Launch) (n : Nat) : fx_Met l y_ClueText_skipBlanks ws_ClueText_skipBlanks rm_ClueText_skipBlanks (MC n) (pre_ClueText_skipBlanks n) (post_ClueText_skipBlanks n) := fx_met (MC_ok n) (MC_tys n) (by decide) rfl pk_ClueText_skipBlanks vk_ClueText_skipBlanks (fun st I J R h => r_ClueText_skipBlanks n st I J R h)

