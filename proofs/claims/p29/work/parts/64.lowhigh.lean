/-! the class: lowest and highest bit (own work) -/
def lowI (a : Int64) : Int32 := nI (pop 64 (lb ((a &&& -a) - 1)))
theorem pop_lt : ∀ {n k : Nat}, k ≤ n → pop n (fun i => decide (i < k)) = k
  | 0, k, h => by
    show 0 = k
    omega
  | n + 1, k, h => by
    show pop n (fun i => decide (i < k)) + _ = k
    by_cases h1 : k ≤ n
    · rw [pop_lt h1]
      simp [show ¬ n < k by omega]
    · have e : pop n (fun i => decide (i < k)) = pop n (fun i => decide (i < n)) := pop_c (fun i hi => by simp [hi, show i < k by omega])
      rw [e, pop_lt (Nat.le_refl n)]
      simp [show n < k by omega]
      omega
theorem lb_toNat (x : Int64) (i : Nat) : lb x i = x.toBitVec.toNat.testBit i := rfl
theorem nat_low {x k : Nat} (hk : x.testBit k = true) (h0 : ∀ i, i < k → x.testBit i = false) : ∃ m, x = 2 ^ (k + 1) * m + 2 ^ k := by
  refine ⟨x / 2 ^ (k + 1), Nat.eq_of_testBit_eq fun i => ?_⟩
  have hlt : 2 ^ k < 2 ^ (k + 1) := Nat.pow_lt_pow_right (by omega) (by omega)
  rw [Nat.testBit_two_pow_mul_add _ hlt]
  split
  · rename_i h
    rw [Nat.testBit_two_pow]
    by_cases h1 : k = i
    · subst h1
      simp [hk]
    · simp [h1, h0 i (by omega)]
  · rename_i h
    rw [Nat.testBit_div_two_pow]
    congr 1
    omega
theorem low_and {a : Int64} {k : Nat} (hk64 : k < 64) (hk : lb a k = true) (h0 : ∀ i, i < k → lb a i = false) : a &&& -a = lN (2 ^ k) := by
  obtain ⟨m, hm⟩ := nat_low (x := a.toBitVec.toNat) (k := k) hk h0
  have hx : a.toBitVec.toNat < 2 ^ 64 := a.toBitVec.isLt
  have hp1 : 2 ^ k < 2 ^ (k + 1) := Nat.pow_lt_pow_right (by omega) (by omega)
  have hp0 : 0 < 2 ^ k := Nat.two_pow_pos k
  refine l_ext fun i hi => ?_
  rw [l_and, l_lN hi, Nat.testBit_two_pow]
  have e1 : lb (-a) i = !(a.toBitVec.toNat - 1).testBit i := by
    unfold lb
    rw [Int64.toBitVec_neg]
    show (-a.toBitVec).toNat.testBit i = _
    rw [BitVec.toNat_neg, Nat.mod_eq_of_lt (by omega)]
    have e2 : 2 ^ 64 - a.toBitVec.toNat = 2 ^ 64 - ((a.toBitVec.toNat - 1) + 1) := by omega
    rw [e2, Nat.testBit_two_pow_sub_succ (by omega)]
    simp [hi]
  rw [e1, lb_toNat, hm]
  have e3 : 2 ^ (k + 1) * m + 2 ^ k - 1 = 2 ^ (k + 1) * m + (2 ^ k - 1) := by omega
  rw [e3, Nat.testBit_two_pow_mul_add _ hp1, Nat.testBit_two_pow_mul_add _ (show 2 ^ k - 1 < 2 ^ (k + 1) by omega)]
  split
  · rename_i h
    rw [Nat.testBit_two_pow, Nat.testBit_two_pow_sub_one]
    by_cases h1 : k = i
    · simp [h1]
    · simp [h1]
  · rename_i h
    simp [show ¬ k = i by omega]
theorem lowI_at {a : Int64} {k : Nat} (hk64 : k < 64) (hk : lb a k = true) (h0 : ∀ i, i < k → lb a i = false) : lowI a = nI k := by
  unfold lowI
  rw [low_and hk64 hk h0]
  congr 1
  have key : ∀ k, k < 64 → ∀ i, i < 64 → lb (lN (2 ^ k) - 1) i = decide (i < k) := by decide +kernel
  rw [pop_c (fun i hi => key k hk64 i hi), pop_lt (by omega)]
def p_Out_lowestBit : fx_Pr := fx_pr [(0, .lload_n 0, 0), (1, .lload_n 0, 0), (2, .lneg, 0), (3, .land, 0), (4, .lconst 1, 0), (5, .lsub, 0), (6, .invokestatic 197, 0), (9, .ireturn, 0)]
theorem pk_Out_lowestBit : fx_prOK b_Out_lowestBit p_Out_lowestBit := fx_pr_ok (by decide +kernel)
theorem q_Out_lowestBit_0 {nL : Nat} {M : fx_M} {ev : fx_Env} {ret : Option FieldType} {P : fx_P} {stops : List (Nat × Nat)} {K : fx_K} {n : Nat} {L : List (Option Value)} {st : List Value} {I : fx_MI} {J : fx_MJ} {R : fx_MR} {X : Nat → fx_K} (hX : fx_isX nL M ev ret P p_Out_lowestBit stops K X) (hs : fx_stop stops 0 = none) : X (n + 1) 0 L st I J R = fx_S nL M ev ret P (.lload_n 0) 0 0 L st I J R (X n) := hX.1 _ _ _ _ _ _ _ _ _ rfl hs
theorem q_Out_lowestBit_1 {nL : Nat} {M : fx_M} {ev : fx_Env} {ret : Option FieldType} {P : fx_P} {stops : List (Nat × Nat)} {K : fx_K} {n : Nat} {L : List (Option Value)} {st : List Value} {I : fx_MI} {J : fx_MJ} {R : fx_MR} {X : Nat → fx_K} (hX : fx_isX nL M ev ret P p_Out_lowestBit stops K X) (hs : fx_stop stops 1 = none) : X (n + 1) 1 L st I J R = fx_S nL M ev ret P (.lload_n 0) 0 1 L st I J R (X n) := hX.1 _ _ _ _ _ _ _ _ _ rfl hs
theorem q_Out_lowestBit_2 {nL : Nat} {M : fx_M} {ev : fx_Env} {ret : Option FieldType} {P : fx_P} {stops : List (Nat × Nat)} {K : fx_K} {n : Nat} {L : List (Option Value)} {st : List Value} {I : fx_MI} {J : fx_MJ} {R : fx_MR} {X : Nat → fx_K} (hX : fx_isX nL M ev ret P p_Out_lowestBit stops K X) (hs : fx_stop stops 2 = none) : X (n + 1) 2 L st I J R = fx_S nL M ev ret P (.lneg) 0 2 L st I J R (X n) := hX.1 _ _ _ _ _ _ _ _ _ rfl hs
theorem q_Out_lowestBit_3 {nL : Nat} {M : fx_M} {ev : fx_Env} {ret : Option FieldType} {P : fx_P} {stops : List (Nat × Nat)} {K : fx_K} {n : Nat} {L : List (Option Value)} {st : List Value} {I : fx_MI} {J : fx_MJ} {R : fx_MR} {X : Nat → fx_K} (hX : fx_isX nL M ev ret P p_Out_lowestBit stops K X) (hs : fx_stop stops 3 = none) : X (n + 1) 3 L st I J R = fx_S nL M ev ret P (.land) 0 3 L st I J R (X n) := hX.1 _ _ _ _ _ _ _ _ _ rfl hs
theorem q_Out_lowestBit_4 {nL : Nat} {M : fx_M} {ev : fx_Env} {ret : Option FieldType} {P : fx_P} {stops : List (Nat × Nat)} {K : fx_K} {n : Nat} {L : List (Option Value)} {st : List Value} {I : fx_MI} {J : fx_MJ} {R : fx_MR} {X : Nat → fx_K} (hX : fx_isX nL M ev ret P p_Out_lowestBit stops K X) (hs : fx_stop stops 4 = none) : X (n + 1) 4 L st I J R = fx_S nL M ev ret P (.lconst 1) 0 4 L st I J R (X n) := hX.1 _ _ _ _ _ _ _ _ _ rfl hs
theorem q_Out_lowestBit_5 {nL : Nat} {M : fx_M} {ev : fx_Env} {ret : Option FieldType} {P : fx_P} {stops : List (Nat × Nat)} {K : fx_K} {n : Nat} {L : List (Option Value)} {st : List Value} {I : fx_MI} {J : fx_MJ} {R : fx_MR} {X : Nat → fx_K} (hX : fx_isX nL M ev ret P p_Out_lowestBit stops K X) (hs : fx_stop stops 5 = none) : X (n + 1) 5 L st I J R = fx_S nL M ev ret P (.lsub) 0 5 L st I J R (X n) := hX.1 _ _ _ _ _ _ _ _ _ rfl hs
theorem q_Out_lowestBit_6 {nL : Nat} {M : fx_M} {ev : fx_Env} {ret : Option FieldType} {P : fx_P} {stops : List (Nat × Nat)} {K : fx_K} {n : Nat} {L : List (Option Value)} {st : List Value} {I : fx_MI} {J : fx_MJ} {R : fx_MR} {X : Nat → fx_K} (hX : fx_isX nL M ev ret P p_Out_lowestBit stops K X) (hs : fx_stop stops 6 = none) : X (n + 1) 6 L st I J R = fx_S nL M ev ret P (.invokestatic 197) 0 6 L st I J R (X n) := hX.1 _ _ _ _ _ _ _ _ _ rfl hs
theorem q_Out_lowestBit_9 {nL : Nat} {M : fx_M} {ev : fx_Env} {ret : Option FieldType} {P : fx_P} {stops : List (Nat × Nat)} {K : fx_K} {n : Nat} {L : List (Option Value)} {st : List Value} {I : fx_MI} {J : fx_MJ} {R : fx_MR} {X : Nat → fx_K} (hX : fx_isX nL M ev ret P p_Out_lowestBit stops K X) (hs : fx_stop stops 9 = none) : X (n + 1) 9 L st I J R = fx_S nL M ev ret P (.ireturn) 0 9 L st I J R (X n) := hX.1 _ _ _ _ _ _ _ _ _ rfl hs
def pre_Out_lowestBit (n : Nat) : fx_Pre := fun st I J R => (∃ b, R = R0C b) ∧ (match st with
  | [.long a] => True
  | _ => False)
theorem pi_Out_lowestBit {n : Nat} {st : List Value} {I : fx_MI} {J : fx_MJ} {R : fx_MR} (h : pre_Out_lowestBit n st I J R) : (∃ b, R = R0C b) ∧ ∃ a, st = [.long a] ∧ (True) := by
  unfold pre_Out_lowestBit at h
  obtain ⟨h0, h⟩ := h
  split at h
  · exact ⟨h0, _, rfl, h⟩
  · cases h
def post_Out_lowestBit (n : Nat) : fx_Post := fun st I J R r I' J' R' => match st with
  | [.long a] => r = some (.int (lowI a)) ∧ I' = I ∧ J' = J ∧ R' = R
  | _ => True
theorem pz_Out_lowestBit {st : List Value} {I : fx_MI} {J : fx_MJ} {R : fx_MR} (n : Nat) (h : pre_Out_lowestBit n st I J R) : st.length = 1 := by
  obtain ⟨_, _, rfl, _⟩ := pi_Out_lowestBit h
  rfl
def v_Out_lowestBit (n : Nat) : fx_Env := [(.invokestatic 197, fx_tcall 1 (pre_J13_bitCount_95d88 n) (post_J13_bitCount_95d88 n))]
abbrev rm_Out_lowestBit : Room := { frames := 1, cells := 0, slots := 0, locals := 21 }
abbrev ws_Out_lowestBit : List Cond := Cond.code y_Out_lowestBit b_Out_lowestBit 2 (some .int) :: w_C
theorem e_Out_c197 {l : Launch} {c0 : Cond} {rm : Room} {n nL : Nat} {cc : ByteArray} (hR : rm_J13_bitCount_95d88.frames + 1 ≤ rm.frames ∧ 8 + (2 + 11) + rm_J13_bitCount_95d88.locals ≤ rm.locals) : fx_E1 l R_Out (c0 :: w_C) rm (MC n) nL cc (.invokestatic 197) (fx_tcall 1 (pre_J13_bitCount_95d88 n) (post_J13_bitCount_95d88 n)) := fx_callS2 (c_J13_bitCount_95d88 l n) (w_C_GS (w_C_h1 50 rfl) (w_C_h1 51 rfl) (w_C_h1 52 rfl) (w_C_h1 53 rfl)) rfl ⟨rfl, rfl⟩ (by decide) hR (fun st I J R h => pz_J13_bitCount_95d88 n h)
theorem vk_Out_lowestBit {l : Launch} {n : Nat} : fx_EV l R_Out ws_Out_lowestBit rm_Out_lowestBit (MC n) 2 b_Out_lowestBit (v_Out_lowestBit n) := (fx_EV_cons (e_Out_c197 (by decide)) fx_EV_nil)
theorem r_Out_lowestBit (n : Nat) (st : List Value) (I : fx_MI) (J : fx_MJ) (R : fx_MR) (h : pre_Out_lowestBit n st I J R) : fx_sz st ≤ 2 ∧ fx_R 2 (MC n) (v_Out_lowestBit n) (some .int) (post_Out_lowestBit n st I J R) p_Out_lowestBit 0 (fx_en st) [] I J R := by
  obtain ⟨⟨b, rfl⟩, a, rfl, -⟩ := pi_Out_lowestBit h
  clear h
  refine ⟨Nat.le_of_ble_eq_true rfl, ?_⟩
  refine fx_run0 40 fun X hX => ?_
  simp only [q_Out_lowestBit_0 hX rfl, q_Out_lowestBit_1 hX rfl, q_Out_lowestBit_2 hX rfl, q_Out_lowestBit_3 hX rfl, q_Out_lowestBit_4 hX rfl, q_Out_lowestBit_5 hX rfl, q_Out_lowestBit_6 hX rfl, q_Out_lowestBit_9 hX rfl, fs_invokestatic, fs_ireturn, fs_land, fs_lconst, fs_lload_n0, fs_lload_n1, fs_lload_n2, fs_lload_n3, fs_lneg, fs_lsub, v_Out_lowestBit, cl_1, pre_J13_bitCount_95d88, post_J13_bitCount_95d88, fx_oi_s, fx_ol_s, fx_or_s, fx_do_s, fx_lg_0, fx_lg_s, fx_ls_0, fx_ls_s, fx_ls_n0, fx_ls_ns, fx_en, fx_sz, Value.category, fx_nl, fx_lk, fx_tget, fx_tput, fx_tcall, fx_tldc, fx_fv, va_rf, fx_cat, fx_in, fx_cnd, fx_len, fx_narI, fx_narZ0, fx_narZ1, fx_narZb, zb_e, zb_ne, Option.some.injEq, Value.int.injEq, Value.long.injEq, Value.ref.injEq, List.cons.injEq, Nat.reduceAdd, Nat.reduceLeDiff, Nat.le_refl, List.take, List.drop, List.reverse_cons, List.reverse_nil, List.nil_append, List.cons_append, List.append_nil, List.map_cons, List.map_nil, List.sum_cons, List.sum_nil, List.length_cons, List.length_nil, Option.toList, fx_all4, forall_const, true_and, and_true, not_true_eq_false, not_false_eq_true, false_implies, true_implies, ne_eq, reduceCtorEq, Nat.reduceEqDiff, ite_true, ite_false, reduceIte, Instr.getfield.injEq, Instr.putfield.injEq, Instr.invokevirtual.injEq, Instr.invokestatic.injEq, Instr.ldc2_w.injEq, fx_tcopy, Instr.ldc.injEq, Instr.ldc_w.injEq, exists_eq_left, exists_prop, R0C_ex, post_Out_lowestBit]
  rfl
theorem c_Out_lowestBit (l : Launch) (n : Nat) : fx_Met l y_Out_lowestBit ws_Out_lowestBit rm_Out_lowestBit (MC n) (pre_Out_lowestBit n) (post_Out_lowestBit n) := fx_met (MC_ok n) (MC_tys n) (by decide) rfl pk_Out_lowestBit vk_Out_lowestBit (fun st I J R h => r_Out_lowestBit n st I J R h)
def hb1 (x : Int32) : Int32 := x ||| uS_ x 1
def hb2 (x : Int32) : Int32 := hb1 x ||| uS_ (hb1 x) 2
def hb3 (x : Int32) : Int32 := hb2 x ||| uS_ (hb2 x) 4
def hb4 (x : Int32) : Int32 := hb3 x ||| uS_ (hb3 x) 8
def higI (x : Int32) : Int32 := nI (pop 32 (bt (hb4 x))) - 1
def upB (x y : Int32) (j : Nat) : Prop := ∀ i, bt y i = true ↔ ∃ t, t < j ∧ bt x (i + t) = true
theorem upB_d {x y : Int32} {j : Nat} (hj : j < 32) (h : upB x y j) : upB x (y ||| uS_ y j) (j + j) := fun i => by
  rw [b_or, uS_b hj, Bool.or_eq_true, h i, h (j + i)]
  constructor
  · rintro (⟨t, h1, h2⟩ | ⟨t, h1, h2⟩)
    · exact ⟨t, by omega, h2⟩
    · exact ⟨j + t, by omega, by rw [show i + (j + t) = j + i + t by omega]; exact h2⟩
  · rintro ⟨t, h1, h2⟩
    by_cases h3 : t < j
    · exact Or.inl ⟨t, h3, h2⟩
    · exact Or.inr ⟨t - j, by omega, by rw [show j + i + (t - j) = i + t by omega]; exact h2⟩
theorem higI_at {x : Int32} {k : Nat} (hk16 : k < 16) (hk : bt x k = true) (h0 : ∀ i, k < i → bt x i = false) : higI x = nI k := by
  have s0 : upB x x 1 := fun i => ⟨fun h => ⟨0, by omega, h⟩, fun ⟨t, h1, h2⟩ => by rw [show t = 0 by omega] at h2; exact h2⟩
  have s4 : upB x (hb4 x) 16 := upB_d (by omega) (upB_d (by omega) (upB_d (by omega) (upB_d (by omega) s0)))
  have e : pop 32 (bt (hb4 x)) = k + 1 := by
    rw [pop_c (g := fun i => decide (i < k + 1)) (fun i hi => ?_), pop_lt (by omega)]
    by_cases h1 : i ≤ k
    · rw [(s4 i).mpr ⟨k - i, by omega, by rw [show i + (k - i) = k by omega]; exact hk⟩]
      simp [show i < k + 1 by omega]
    · rw [bnt (x := bt (hb4 x) i) (fun z => by
        obtain ⟨t, h2, h3⟩ := (s4 i).mp z
        rw [h0 _ (by omega)] at h3
        cases h3)]
      simp [show ¬ i < k + 1 by omega]
  unfold higI
  rw [e]
  show nI (k + 1) - nI 1 = nI k
  rw [nI_sub' (by omega), Nat.add_sub_cancel]
def p_Out_highestBit : fx_Pr := fx_pr [(0, .iload_n 0, 0), (1, .iload_n 0, 0), (2, .iconst 1, 0), (3, .iushr, 0), (4, .ior, 0), (5, .istore_n 1, 0), (6, .iload_n 1, 0), (7, .iload_n 1, 0), (8, .iconst 2, 0), (9, .iushr, 0), (10, .ior, 0), (11, .istore_n 1, 0), (12, .iload_n 1, 0), (13, .iload_n 1, 0), (14, .iconst 4, 0), (15, .iushr, 0), (16, .ior, 0), (17, .istore_n 1, 0), (18, .iload_n 1, 0), (19, .iload_n 1, 0), (20, .bipush 8, 0), (22, .iushr, 0), (23, .ior, 0), (24, .istore_n 1, 0), (25, .iload_n 1, 0), (26, .invokestatic 150, 0), (29, .iconst 1, 0), (30, .isub, 0), (31, .ireturn, 0)]
theorem pk_Out_highestBit : fx_prOK b_Out_highestBit p_Out_highestBit := fx_pr_ok (by decide +kernel)
theorem q_Out_highestBit_0 {nL : Nat} {M : fx_M} {ev : fx_Env} {ret : Option FieldType} {P : fx_P} {stops : List (Nat × Nat)} {K : fx_K} {n : Nat} {L : List (Option Value)} {st : List Value} {I : fx_MI} {J : fx_MJ} {R : fx_MR} {X : Nat → fx_K} (hX : fx_isX nL M ev ret P p_Out_highestBit stops K X) (hs : fx_stop stops 0 = none) : X (n + 1) 0 L st I J R = fx_S nL M ev ret P (.iload_n 0) 0 0 L st I J R (X n) := hX.1 _ _ _ _ _ _ _ _ _ rfl hs
theorem q_Out_highestBit_1 {nL : Nat} {M : fx_M} {ev : fx_Env} {ret : Option FieldType} {P : fx_P} {stops : List (Nat × Nat)} {K : fx_K} {n : Nat} {L : List (Option Value)} {st : List Value} {I : fx_MI} {J : fx_MJ} {R : fx_MR} {X : Nat → fx_K} (hX : fx_isX nL M ev ret P p_Out_highestBit stops K X) (hs : fx_stop stops 1 = none) : X (n + 1) 1 L st I J R = fx_S nL M ev ret P (.iload_n 0) 0 1 L st I J R (X n) := hX.1 _ _ _ _ _ _ _ _ _ rfl hs
theorem q_Out_highestBit_2 {nL : Nat} {M : fx_M} {ev : fx_Env} {ret : Option FieldType} {P : fx_P} {stops : List (Nat × Nat)} {K : fx_K} {n : Nat} {L : List (Option Value)} {st : List Value} {I : fx_MI} {J : fx_MJ} {R : fx_MR} {X : Nat → fx_K} (hX : fx_isX nL M ev ret P p_Out_highestBit stops K X) (hs : fx_stop stops 2 = none) : X (n + 1) 2 L st I J R = fx_S nL M ev ret P (.iconst 1) 0 2 L st I J R (X n) := hX.1 _ _ _ _ _ _ _ _ _ rfl hs
theorem q_Out_highestBit_3 {nL : Nat} {M : fx_M} {ev : fx_Env} {ret : Option FieldType} {P : fx_P} {stops : List (Nat × Nat)} {K : fx_K} {n : Nat} {L : List (Option Value)} {st : List Value} {I : fx_MI} {J : fx_MJ} {R : fx_MR} {X : Nat → fx_K} (hX : fx_isX nL M ev ret P p_Out_highestBit stops K X) (hs : fx_stop stops 3 = none) : X (n + 1) 3 L st I J R = fx_S nL M ev ret P (.iushr) 0 3 L st I J R (X n) := hX.1 _ _ _ _ _ _ _ _ _ rfl hs
theorem q_Out_highestBit_4 {nL : Nat} {M : fx_M} {ev : fx_Env} {ret : Option FieldType} {P : fx_P} {stops : List (Nat × Nat)} {K : fx_K} {n : Nat} {L : List (Option Value)} {st : List Value} {I : fx_MI} {J : fx_MJ} {R : fx_MR} {X : Nat → fx_K} (hX : fx_isX nL M ev ret P p_Out_highestBit stops K X) (hs : fx_stop stops 4 = none) : X (n + 1) 4 L st I J R = fx_S nL M ev ret P (.ior) 0 4 L st I J R (X n) := hX.1 _ _ _ _ _ _ _ _ _ rfl hs
theorem q_Out_highestBit_5 {nL : Nat} {M : fx_M} {ev : fx_Env} {ret : Option FieldType} {P : fx_P} {stops : List (Nat × Nat)} {K : fx_K} {n : Nat} {L : List (Option Value)} {st : List Value} {I : fx_MI} {J : fx_MJ} {R : fx_MR} {X : Nat → fx_K} (hX : fx_isX nL M ev ret P p_Out_highestBit stops K X) (hs : fx_stop stops 5 = none) : X (n + 1) 5 L st I J R = fx_S nL M ev ret P (.istore_n 1) 0 5 L st I J R (X n) := hX.1 _ _ _ _ _ _ _ _ _ rfl hs
theorem q_Out_highestBit_6 {nL : Nat} {M : fx_M} {ev : fx_Env} {ret : Option FieldType} {P : fx_P} {stops : List (Nat × Nat)} {K : fx_K} {n : Nat} {L : List (Option Value)} {st : List Value} {I : fx_MI} {J : fx_MJ} {R : fx_MR} {X : Nat → fx_K} (hX : fx_isX nL M ev ret P p_Out_highestBit stops K X) (hs : fx_stop stops 6 = none) : X (n + 1) 6 L st I J R = fx_S nL M ev ret P (.iload_n 1) 0 6 L st I J R (X n) := hX.1 _ _ _ _ _ _ _ _ _ rfl hs
theorem q_Out_highestBit_7 {nL : Nat} {M : fx_M} {ev : fx_Env} {ret : Option FieldType} {P : fx_P} {stops : List (Nat × Nat)} {K : fx_K} {n : Nat} {L : List (Option Value)} {st : List Value} {I : fx_MI} {J : fx_MJ} {R : fx_MR} {X : Nat → fx_K} (hX : fx_isX nL M ev ret P p_Out_highestBit stops K X) (hs : fx_stop stops 7 = none) : X (n + 1) 7 L st I J R = fx_S nL M ev ret P (.iload_n 1) 0 7 L st I J R (X n) := hX.1 _ _ _ _ _ _ _ _ _ rfl hs
theorem q_Out_highestBit_8 {nL : Nat} {M : fx_M} {ev : fx_Env} {ret : Option FieldType} {P : fx_P} {stops : List (Nat × Nat)} {K : fx_K} {n : Nat} {L : List (Option Value)} {st : List Value} {I : fx_MI} {J : fx_MJ} {R : fx_MR} {X : Nat → fx_K} (hX : fx_isX nL M ev ret P p_Out_highestBit stops K X) (hs : fx_stop stops 8 = none) : X (n + 1) 8 L st I J R = fx_S nL M ev ret P (.iconst 2) 0 8 L st I J R (X n) := hX.1 _ _ _ _ _ _ _ _ _ rfl hs
theorem q_Out_highestBit_9 {nL : Nat} {M : fx_M} {ev : fx_Env} {ret : Option FieldType} {P : fx_P} {stops : List (Nat × Nat)} {K : fx_K} {n : Nat} {L : List (Option Value)} {st : List Value} {I : fx_MI} {J : fx_MJ} {R : fx_MR} {X : Nat → fx_K} (hX : fx_isX nL M ev ret P p_Out_highestBit stops K X) (hs : fx_stop stops 9 = none) : X (n + 1) 9 L st I J R = fx_S nL M ev ret P (.iushr) 0 9 L st I J R (X n) := hX.1 _ _ _ _ _ _ _ _ _ rfl hs
theorem q_Out_highestBit_10 {nL : Nat} {M : fx_M} {ev : fx_Env} {ret : Option FieldType} {P : fx_P} {stops : List (Nat × Nat)} {K : fx_K} {n : Nat} {L : List (Option Value)} {st : List Value} {I : fx_MI} {J : fx_MJ} {R : fx_MR} {X : Nat → fx_K} (hX : fx_isX nL M ev ret P p_Out_highestBit stops K X) (hs : fx_stop stops 10 = none) : X (n + 1) 10 L st I J R = fx_S nL M ev ret P (.ior) 0 10 L st I J R (X n) := hX.1 _ _ _ _ _ _ _ _ _ rfl hs
theorem q_Out_highestBit_11 {nL : Nat} {M : fx_M} {ev : fx_Env} {ret : Option FieldType} {P : fx_P} {stops : List (Nat × Nat)} {K : fx_K} {n : Nat} {L : List (Option Value)} {st : List Value} {I : fx_MI} {J : fx_MJ} {R : fx_MR} {X : Nat → fx_K} (hX : fx_isX nL M ev ret P p_Out_highestBit stops K X) (hs : fx_stop stops 11 = none) : X (n + 1) 11 L st I J R = fx_S nL M ev ret P (.istore_n 1) 0 11 L st I J R (X n) := hX.1 _ _ _ _ _ _ _ _ _ rfl hs
theorem q_Out_highestBit_12 {nL : Nat} {M : fx_M} {ev : fx_Env} {ret : Option FieldType} {P : fx_P} {stops : List (Nat × Nat)} {K : fx_K} {n : Nat} {L : List (Option Value)} {st : List Value} {I : fx_MI} {J : fx_MJ} {R : fx_MR} {X : Nat → fx_K} (hX : fx_isX nL M ev ret P p_Out_highestBit stops K X) (hs : fx_stop stops 12 = none) : X (n + 1) 12 L st I J R = fx_S nL M ev ret P (.iload_n 1) 0 12 L st I J R (X n) := hX.1 _ _ _ _ _ _ _ _ _ rfl hs
theorem q_Out_highestBit_13 {nL : Nat} {M : fx_M} {ev : fx_Env} {ret : Option FieldType} {P : fx_P} {stops : List (Nat × Nat)} {K : fx_K} {n : Nat} {L : List (Option Value)} {st : List Value} {I : fx_MI} {J : fx_MJ} {R : fx_MR} {X : Nat → fx_K} (hX : fx_isX nL M ev ret P p_Out_highestBit stops K X) (hs : fx_stop stops 13 = none) : X (n + 1) 13 L st I J R = fx_S nL M ev ret P (.iload_n 1) 0 13 L st I J R (X n) := hX.1 _ _ _ _ _ _ _ _ _ rfl hs
theorem q_Out_highestBit_14 {nL : Nat} {M : fx_M} {ev : fx_Env} {ret : Option FieldType} {P : fx_P} {stops : List (Nat × Nat)} {K : fx_K} {n : Nat} {L : List (Option Value)} {st : List Value} {I : fx_MI} {J : fx_MJ} {R : fx_MR} {X : Nat → fx_K} (hX : fx_isX nL M ev ret P p_Out_highestBit stops K X) (hs : fx_stop stops 14 = none) : X (n + 1) 14 L st I J R = fx_S nL M ev ret P (.iconst 4) 0 14 L st I J R (X n) := hX.1 _ _ _ _ _ _ _ _ _ rfl hs
theorem q_Out_highestBit_15 {nL : Nat} {M : fx_M} {ev : fx_Env} {ret : Option FieldType} {P : fx_P} {stops : List (Nat × Nat)} {K : fx_K} {n : Nat} {L : List (Option Value)} {st : List Value} {I : fx_MI} {J : fx_MJ} {R : fx_MR} {X : Nat → fx_K} (hX : fx_isX nL M ev ret P p_Out_highestBit stops K X) (hs : fx_stop stops 15 = none) : X (n + 1) 15 L st I J R = fx_S nL M ev ret P (.iushr) 0 15 L st I J R (X n) := hX.1 _ _ _ _ _ _ _ _ _ rfl hs
theorem q_Out_highestBit_16 {nL : Nat} {M : fx_M} {ev : fx_Env} {ret : Option FieldType} {P : fx_P} {stops : List (Nat × Nat)} {K : fx_K} {n : Nat} {L : List (Option Value)} {st : List Value} {I : fx_MI} {J : fx_MJ} {R : fx_MR} {X : Nat → fx_K} (hX : fx_isX nL M ev ret P p_Out_highestBit stops K X) (hs : fx_stop stops 16 = none) : X (n + 1) 16 L st I J R = fx_S nL M ev ret P (.ior) 0 16 L st I J R (X n) := hX.1 _ _ _ _ _ _ _ _ _ rfl hs
theorem q_Out_highestBit_17 {nL : Nat} {M : fx_M} {ev : fx_Env} {ret : Option FieldType} {P : fx_P} {stops : List (Nat × Nat)} {K : fx_K} {n : Nat} {L : List (Option Value)} {st : List Value} {I : fx_MI} {J : fx_MJ} {R : fx_MR} {X : Nat → fx_K} (hX : fx_isX nL M ev ret P p_Out_highestBit stops K X) (hs : fx_stop stops 17 = none) : X (n + 1) 17 L st I J R = fx_S nL M ev ret P (.istore_n 1) 0 17 L st I J R (X n) := hX.1 _ _ _ _ _ _ _ _ _ rfl hs
theorem q_Out_highestBit_18 {nL : Nat} {M : fx_M} {ev : fx_Env} {ret : Option FieldType} {P : fx_P} {stops : List (Nat × Nat)} {K : fx_K} {n : Nat} {L : List (Option Value)} {st : List Value} {I : fx_MI} {J : fx_MJ} {R : fx_MR} {X : Nat → fx_K} (hX : fx_isX nL M ev ret P p_Out_highestBit stops K X) (hs : fx_stop stops 18 = none) : X (n + 1) 18 L st I J R = fx_S nL M ev ret P (.iload_n 1) 0 18 L st I J R (X n) := hX.1 _ _ _ _ _ _ _ _ _ rfl hs
theorem q_Out_highestBit_19 {nL : Nat} {M : fx_M} {ev : fx_Env} {ret : Option FieldType} {P : fx_P} {stops : List (Nat × Nat)} {K : fx_K} {n : Nat} {L : List (Option Value)} {st : List Value} {I : fx_MI} {J : fx_MJ} {R : fx_MR} {X : Nat → fx_K} (hX : fx_isX nL M ev ret P p_Out_highestBit stops K X) (hs : fx_stop stops 19 = none) : X (n + 1) 19 L st I J R = fx_S nL M ev ret P (.iload_n 1) 0 19 L st I J R (X n) := hX.1 _ _ _ _ _ _ _ _ _ rfl hs
theorem q_Out_highestBit_20 {nL : Nat} {M : fx_M} {ev : fx_Env} {ret : Option FieldType} {P : fx_P} {stops : List (Nat × Nat)} {K : fx_K} {n : Nat} {L : List (Option Value)} {st : List Value} {I : fx_MI} {J : fx_MJ} {R : fx_MR} {X : Nat → fx_K} (hX : fx_isX nL M ev ret P p_Out_highestBit stops K X) (hs : fx_stop stops 20 = none) : X (n + 1) 20 L st I J R = fx_S nL M ev ret P (.bipush 8) 0 20 L st I J R (X n) := hX.1 _ _ _ _ _ _ _ _ _ rfl hs
theorem q_Out_highestBit_22 {nL : Nat} {M : fx_M} {ev : fx_Env} {ret : Option FieldType} {P : fx_P} {stops : List (Nat × Nat)} {K : fx_K} {n : Nat} {L : List (Option Value)} {st : List Value} {I : fx_MI} {J : fx_MJ} {R : fx_MR} {X : Nat → fx_K} (hX : fx_isX nL M ev ret P p_Out_highestBit stops K X) (hs : fx_stop stops 22 = none) : X (n + 1) 22 L st I J R = fx_S nL M ev ret P (.iushr) 0 22 L st I J R (X n) := hX.1 _ _ _ _ _ _ _ _ _ rfl hs
theorem q_Out_highestBit_23 {nL : Nat} {M : fx_M} {ev : fx_Env} {ret : Option FieldType} {P : fx_P} {stops : List (Nat × Nat)} {K : fx_K} {n : Nat} {L : List (Option Value)} {st : List Value} {I : fx_MI} {J : fx_MJ} {R : fx_MR} {X : Nat → fx_K} (hX : fx_isX nL M ev ret P p_Out_highestBit stops K X) (hs : fx_stop stops 23 = none) : X (n + 1) 23 L st I J R = fx_S nL M ev ret P (.ior) 0 23 L st I J R (X n) := hX.1 _ _ _ _ _ _ _ _ _ rfl hs
theorem q_Out_highestBit_24 {nL : Nat} {M : fx_M} {ev : fx_Env} {ret : Option FieldType} {P : fx_P} {stops : List (Nat × Nat)} {K : fx_K} {n : Nat} {L : List (Option Value)} {st : List Value} {I : fx_MI} {J : fx_MJ} {R : fx_MR} {X : Nat → fx_K} (hX : fx_isX nL M ev ret P p_Out_highestBit stops K X) (hs : fx_stop stops 24 = none) : X (n + 1) 24 L st I J R = fx_S nL M ev ret P (.istore_n 1) 0 24 L st I J R (X n) := hX.1 _ _ _ _ _ _ _ _ _ rfl hs
theorem q_Out_highestBit_25 {nL : Nat} {M : fx_M} {ev : fx_Env} {ret : Option FieldType} {P : fx_P} {stops : List (Nat × Nat)} {K : fx_K} {n : Nat} {L : List (Option Value)} {st : List Value} {I : fx_MI} {J : fx_MJ} {R : fx_MR} {X : Nat → fx_K} (hX : fx_isX nL M ev ret P p_Out_highestBit stops K X) (hs : fx_stop stops 25 = none) : X (n + 1) 25 L st I J R = fx_S nL M ev ret P (.iload_n 1) 0 25 L st I J R (X n) := hX.1 _ _ _ _ _ _ _ _ _ rfl hs
theorem q_Out_highestBit_26 {nL : Nat} {M : fx_M} {ev : fx_Env} {ret : Option FieldType} {P : fx_P} {stops : List (Nat × Nat)} {K : fx_K} {n : Nat} {L : List (Option Value)} {st : List Value} {I : fx_MI} {J : fx_MJ} {R : fx_MR} {X : Nat → fx_K} (hX : fx_isX nL M ev ret P p_Out_highestBit stops K X) (hs : fx_stop stops 26 = none) : X (n + 1) 26 L st I J R = fx_S nL M ev ret P (.invokestatic 150) 0 26 L st I J R (X n) := hX.1 _ _ _ _ _ _ _ _ _ rfl hs
theorem q_Out_highestBit_29 {nL : Nat} {M : fx_M} {ev : fx_Env} {ret : Option FieldType} {P : fx_P} {stops : List (Nat × Nat)} {K : fx_K} {n : Nat} {L : List (Option Value)} {st : List Value} {I : fx_MI} {J : fx_MJ} {R : fx_MR} {X : Nat → fx_K} (hX : fx_isX nL M ev ret P p_Out_highestBit stops K X) (hs : fx_stop stops 29 = none) : X (n + 1) 29 L st I J R = fx_S nL M ev ret P (.iconst 1) 0 29 L st I J R (X n) := hX.1 _ _ _ _ _ _ _ _ _ rfl hs
theorem q_Out_highestBit_30 {nL : Nat} {M : fx_M} {ev : fx_Env} {ret : Option FieldType} {P : fx_P} {stops : List (Nat × Nat)} {K : fx_K} {n : Nat} {L : List (Option Value)} {st : List Value} {I : fx_MI} {J : fx_MJ} {R : fx_MR} {X : Nat → fx_K} (hX : fx_isX nL M ev ret P p_Out_highestBit stops K X) (hs : fx_stop stops 30 = none) : X (n + 1) 30 L st I J R = fx_S nL M ev ret P (.isub) 0 30 L st I J R (X n) := hX.1 _ _ _ _ _ _ _ _ _ rfl hs
theorem q_Out_highestBit_31 {nL : Nat} {M : fx_M} {ev : fx_Env} {ret : Option FieldType} {P : fx_P} {stops : List (Nat × Nat)} {K : fx_K} {n : Nat} {L : List (Option Value)} {st : List Value} {I : fx_MI} {J : fx_MJ} {R : fx_MR} {X : Nat → fx_K} (hX : fx_isX nL M ev ret P p_Out_highestBit stops K X) (hs : fx_stop stops 31 = none) : X (n + 1) 31 L st I J R = fx_S nL M ev ret P (.ireturn) 0 31 L st I J R (X n) := hX.1 _ _ _ _ _ _ _ _ _ rfl hs
def pre_Out_highestBit (n : Nat) : fx_Pre := fun st I J R => (∃ b, R = R0C b) ∧ (match st with
  | [.int x] => True
  | _ => False)
theorem pi_Out_highestBit {n : Nat} {st : List Value} {I : fx_MI} {J : fx_MJ} {R : fx_MR} (h : pre_Out_highestBit n st I J R) : (∃ b, R = R0C b) ∧ ∃ x, st = [.int x] ∧ (True) := by
  unfold pre_Out_highestBit at h
  obtain ⟨h0, h⟩ := h
  split at h
  · exact ⟨h0, _, rfl, h⟩
  · cases h
def post_Out_highestBit (n : Nat) : fx_Post := fun st I J R r I' J' R' => match st with
  | [.int x] => r = some (.int (higI x)) ∧ I' = I ∧ J' = J ∧ R' = R
  | _ => True
theorem pz_Out_highestBit {st : List Value} {I : fx_MI} {J : fx_MJ} {R : fx_MR} (n : Nat) (h : pre_Out_highestBit n st I J R) : st.length = 1 := by
  obtain ⟨_, _, rfl, _⟩ := pi_Out_highestBit h
  rfl
def v_Out_highestBit (n : Nat) : fx_Env := [(.invokestatic 150, fx_tcall 1 (pre_J6_bitCount_0f7a4 n) (post_J6_bitCount_0f7a4 n))]
abbrev rm_Out_highestBit : Room := { frames := 1, cells := 0, slots := 0, locals := 20 }
abbrev ws_Out_highestBit : List Cond := Cond.code y_Out_highestBit b_Out_highestBit 2 (some .int) :: w_C
theorem e_Out_c150 {l : Launch} {c0 : Cond} {rm : Room} {n nL : Nat} {cc : ByteArray} (hR : rm_J6_bitCount_0f7a4.frames + 1 ≤ rm.frames ∧ 8 + (1 + 11) + rm_J6_bitCount_0f7a4.locals ≤ rm.locals) : fx_E1 l R_Out (c0 :: w_C) rm (MC n) nL cc (.invokestatic 150) (fx_tcall 1 (pre_J6_bitCount_0f7a4 n) (post_J6_bitCount_0f7a4 n)) := fx_callS2 (c_J6_bitCount_0f7a4 l n) (w_C_GS (w_C_h2 1 rfl) (w_C_h2 2 rfl) (w_C_h2 3 rfl) (w_C_h2 4 rfl)) rfl ⟨rfl, rfl⟩ (by decide) hR (fun st I J R h => pz_J6_bitCount_0f7a4 n h)
theorem vk_Out_highestBit {l : Launch} {n : Nat} : fx_EV l R_Out ws_Out_highestBit rm_Out_highestBit (MC n) 2 b_Out_highestBit (v_Out_highestBit n) := (fx_EV_cons (e_Out_c150 (by decide)) fx_EV_nil)
theorem r_Out_highestBit (n : Nat) (st : List Value) (I : fx_MI) (J : fx_MJ) (R : fx_MR) (h : pre_Out_highestBit n st I J R) : fx_sz st ≤ 2 ∧ fx_R 2 (MC n) (v_Out_highestBit n) (some .int) (post_Out_highestBit n st I J R) p_Out_highestBit 0 (fx_en st) [] I J R := by
  obtain ⟨⟨b, rfl⟩, x, rfl, -⟩ := pi_Out_highestBit h
  clear h
  refine ⟨Nat.le_of_ble_eq_true rfl, ?_⟩
  have hpost : post_Out_highestBit n [.int x] I J (R0C b) (some (.int (higI x))) I J (R0C b) := ⟨rfl, rfl, rfl, rfl⟩
  refine fx_run0 60 fun X hX => ?_
  simp only [q_Out_highestBit_0 hX rfl, q_Out_highestBit_1 hX rfl, q_Out_highestBit_2 hX rfl, q_Out_highestBit_3 hX rfl, q_Out_highestBit_4 hX rfl, q_Out_highestBit_5 hX rfl, q_Out_highestBit_6 hX rfl, q_Out_highestBit_7 hX rfl, q_Out_highestBit_8 hX rfl, q_Out_highestBit_9 hX rfl, q_Out_highestBit_10 hX rfl, q_Out_highestBit_11 hX rfl, q_Out_highestBit_12 hX rfl, q_Out_highestBit_13 hX rfl, q_Out_highestBit_14 hX rfl, q_Out_highestBit_15 hX rfl, q_Out_highestBit_16 hX rfl, q_Out_highestBit_17 hX rfl, q_Out_highestBit_18 hX rfl, q_Out_highestBit_19 hX rfl, q_Out_highestBit_20 hX rfl, q_Out_highestBit_22 hX rfl, q_Out_highestBit_23 hX rfl, q_Out_highestBit_24 hX rfl, q_Out_highestBit_25 hX rfl, q_Out_highestBit_26 hX rfl, q_Out_highestBit_29 hX rfl, q_Out_highestBit_30 hX rfl, q_Out_highestBit_31 hX rfl, fs_bipush, fs_iconst, fs_iload_n0, fs_iload_n1, fs_iload_n2, fs_iload_n3, fs_invokestatic, fs_ior, fs_ireturn, fs_istore_n0, fs_istore_n1, fs_istore_n2, fs_istore_n3, fs_isub, fs_iushr, v_Out_highestBit, ci_1, lt_1_2, ci_2, ci_4, cb_8, pre_J6_bitCount_0f7a4, post_J6_bitCount_0f7a4, fx_oi_s, fx_ol_s, fx_or_s, fx_do_s, fx_lg_0, fx_lg_s, fx_ls_0, fx_ls_s, fx_ls_n0, fx_ls_ns, fx_en, fx_sz, Value.category, fx_nl, fx_lk, fx_tget, fx_tput, fx_tcall, fx_tldc, fx_fv, va_rf, fx_cat, fx_in, fx_cnd, fx_len, fx_narI, fx_narZ0, fx_narZ1, fx_narZb, zb_e, zb_ne, Option.some.injEq, Value.int.injEq, Value.long.injEq, Value.ref.injEq, List.cons.injEq, Nat.reduceAdd, Nat.reduceLeDiff, Nat.le_refl, List.take, List.drop, List.reverse_cons, List.reverse_nil, List.nil_append, List.cons_append, List.append_nil, List.map_cons, List.map_nil, List.sum_cons, List.sum_nil, List.length_cons, List.length_nil, Option.toList, fx_all4, forall_const, true_and, and_true, not_true_eq_false, not_false_eq_true, false_implies, true_implies, ne_eq, reduceCtorEq, Nat.reduceEqDiff, ite_true, ite_false, reduceIte, Instr.getfield.injEq, Instr.putfield.injEq, Instr.invokevirtual.injEq, Instr.invokestatic.injEq, Instr.ldc2_w.injEq, fx_tcopy, Instr.ldc.injEq, Instr.ldc_w.injEq, exists_eq_left, exists_prop, R0C_ex]
  exact hpost
theorem c_Out_highestBit (l : Launch) (n : Nat) : fx_Met l y_Out_highestBit ws_Out_highestBit rm_Out_highestBit (MC n) (pre_Out_highestBit n) (post_Out_highestBit n) := fx_met (MC_ok n) (MC_tys n) (by decide) rfl pk_Out_highestBit vk_Out_highestBit (fun st I J R h => r_Out_highestBit n st I J R h)
def p_Fillings_earliest : fx_Pr := fx_pr [(0, .aload_n 0, 0), (1, .getfield 30, 0), (4, .iload_n 1, 0), (5, .iaload, 0), (6, .i2l, 0), (7, .invokestatic 67, 0), (10, .ireturn, 0)]
theorem pk_Fillings_earliest : fx_prOK b_Fillings_earliest p_Fillings_earliest := fx_pr_ok (by decide +kernel)
theorem q_Fillings_earliest_0 {nL : Nat} {M : fx_M} {ev : fx_Env} {ret : Option FieldType} {P : fx_P} {stops : List (Nat × Nat)} {K : fx_K} {n : Nat} {L : List (Option Value)} {st : List Value} {I : fx_MI} {J : fx_MJ} {R : fx_MR} {X : Nat → fx_K} (hX : fx_isX nL M ev ret P p_Fillings_earliest stops K X) (hs : fx_stop stops 0 = none) : X (n + 1) 0 L st I J R = fx_S nL M ev ret P (.aload_n 0) 0 0 L st I J R (X n) := hX.1 _ _ _ _ _ _ _ _ _ rfl hs
theorem q_Fillings_earliest_1 {nL : Nat} {M : fx_M} {ev : fx_Env} {ret : Option FieldType} {P : fx_P} {stops : List (Nat × Nat)} {K : fx_K} {n : Nat} {L : List (Option Value)} {st : List Value} {I : fx_MI} {J : fx_MJ} {R : fx_MR} {X : Nat → fx_K} (hX : fx_isX nL M ev ret P p_Fillings_earliest stops K X) (hs : fx_stop stops 1 = none) : X (n + 1) 1 L st I J R = fx_S nL M ev ret P (.getfield 30) 0 1 L st I J R (X n) := hX.1 _ _ _ _ _ _ _ _ _ rfl hs
theorem q_Fillings_earliest_4 {nL : Nat} {M : fx_M} {ev : fx_Env} {ret : Option FieldType} {P : fx_P} {stops : List (Nat × Nat)} {K : fx_K} {n : Nat} {L : List (Option Value)} {st : List Value} {I : fx_MI} {J : fx_MJ} {R : fx_MR} {X : Nat → fx_K} (hX : fx_isX nL M ev ret P p_Fillings_earliest stops K X) (hs : fx_stop stops 4 = none) : X (n + 1) 4 L st I J R = fx_S nL M ev ret P (.iload_n 1) 0 4 L st I J R (X n) := hX.1 _ _ _ _ _ _ _ _ _ rfl hs
theorem q_Fillings_earliest_5 {nL : Nat} {M : fx_M} {ev : fx_Env} {ret : Option FieldType} {P : fx_P} {stops : List (Nat × Nat)} {K : fx_K} {n : Nat} {L : List (Option Value)} {st : List Value} {I : fx_MI} {J : fx_MJ} {R : fx_MR} {X : Nat → fx_K} (hX : fx_isX nL M ev ret P p_Fillings_earliest stops K X) (hs : fx_stop stops 5 = none) : X (n + 1) 5 L st I J R = fx_S nL M ev ret P (.iaload) 0 5 L st I J R (X n) := hX.1 _ _ _ _ _ _ _ _ _ rfl hs
theorem q_Fillings_earliest_6 {nL : Nat} {M : fx_M} {ev : fx_Env} {ret : Option FieldType} {P : fx_P} {stops : List (Nat × Nat)} {K : fx_K} {n : Nat} {L : List (Option Value)} {st : List Value} {I : fx_MI} {J : fx_MJ} {R : fx_MR} {X : Nat → fx_K} (hX : fx_isX nL M ev ret P p_Fillings_earliest stops K X) (hs : fx_stop stops 6 = none) : X (n + 1) 6 L st I J R = fx_S nL M ev ret P (.i2l) 0 6 L st I J R (X n) := hX.1 _ _ _ _ _ _ _ _ _ rfl hs
theorem q_Fillings_earliest_7 {nL : Nat} {M : fx_M} {ev : fx_Env} {ret : Option FieldType} {P : fx_P} {stops : List (Nat × Nat)} {K : fx_K} {n : Nat} {L : List (Option Value)} {st : List Value} {I : fx_MI} {J : fx_MJ} {R : fx_MR} {X : Nat → fx_K} (hX : fx_isX nL M ev ret P p_Fillings_earliest stops K X) (hs : fx_stop stops 7 = none) : X (n + 1) 7 L st I J R = fx_S nL M ev ret P (.invokestatic 67) 0 7 L st I J R (X n) := hX.1 _ _ _ _ _ _ _ _ _ rfl hs
theorem q_Fillings_earliest_10 {nL : Nat} {M : fx_M} {ev : fx_Env} {ret : Option FieldType} {P : fx_P} {stops : List (Nat × Nat)} {K : fx_K} {n : Nat} {L : List (Option Value)} {st : List Value} {I : fx_MI} {J : fx_MJ} {R : fx_MR} {X : Nat → fx_K} (hX : fx_isX nL M ev ret P p_Fillings_earliest stops K X) (hs : fx_stop stops 10 = none) : X (n + 1) 10 L st I J R = fx_S nL M ev ret P (.ireturn) 0 10 L st I J R (X n) := hX.1 _ _ _ _ _ _ _ _ _ rfl hs
def pre_Fillings_earliest (n : Nat) : fx_Pre := fun st I J R => (∃ b, R = R0C b) ∧ (match st with
  | [.ref 101, .int v] => ∃ k, k < 8 ∧ v = nI k
  | _ => False)
theorem pi_Fillings_earliest {n : Nat} {st : List Value} {I : fx_MI} {J : fx_MJ} {R : fx_MR} (h : pre_Fillings_earliest n st I J R) : (∃ b, R = R0C b) ∧ ∃ v, st = [.ref 101, .int v] ∧ (∃ k, k < 8 ∧ v = nI k) := by
  unfold pre_Fillings_earliest at h
  obtain ⟨h0, h⟩ := h
  split at h
  · exact ⟨h0, _, rfl, h⟩
  · cases h
def post_Fillings_earliest (n : Nat) : fx_Post := fun st I J R r I' J' R' => match st with
  | [_, .int v] => r = some (.int (lowI (I 108 (nv v)).toInt64)) ∧ I' = I ∧ J' = J ∧ R' = R
  | _ => True
theorem pz_Fillings_earliest {st : List Value} {I : fx_MI} {J : fx_MJ} {R : fx_MR} (n : Nat) (h : pre_Fillings_earliest n st I J R) : ∃ q r, st = .ref q :: r ∧ (MC n).2.2.1 q = some (.inl 7) ∧ r.length = 1 := by
  obtain ⟨_, _, rfl, _⟩ := pi_Fillings_earliest h
  exact ⟨_, _, rfl, rfl, rfl⟩
def v_Fillings_earliest (n : Nat) : fx_Env := [(.getfield 30, fx_tget (MC n) 7 11), (.invokestatic 67, fx_tcall 1 (pre_Out_lowestBit n) (post_Out_lowestBit n))]
abbrev rm_Fillings_earliest : Room := { frames := 2, cells := 0, slots := 0, locals := 42 }
abbrev ws_Fillings_earliest : List Cond := Cond.code y_Fillings_earliest b_Fillings_earliest 2 (some .int) :: w_C
theorem e_Fillings_c67 {l : Launch} {c0 : Cond} {rm : Room} {n nL : Nat} {cc : ByteArray} (hR : rm_Out_lowestBit.frames + 1 ≤ rm.frames ∧ 8 + (2 + 11) + rm_Out_lowestBit.locals ≤ rm.locals) : fx_E1 l R_Fillings (c0 :: w_C) rm (MC n) nL cc (.invokestatic 67) (fx_tcall 1 (pre_Out_lowestBit n) (post_Out_lowestBit n)) := fx_callSN (c_Out_lowestBit l n) (w_C_GN (w_C_h1 49 rfl)) (List.mem_of_getElem? (i := 10) rfl) (List.mem_cons_of_mem _ (w_C_h1 58 rfl)) (List.mem_cons_of_mem _ (w_C_h1 59 rfl)) rfl ⟨rfl, rfl⟩ (by decide) hR (fun st I J R h => pz_Out_lowestBit n h)
theorem vk_Fillings_earliest {l : Launch} {n : Nat} : fx_EV l R_Fillings ws_Fillings_earliest rm_Fillings_earliest (MC n) 2 b_Fillings_earliest (v_Fillings_earliest n) := (fx_EV_cons e_Fillings_g30 (fx_EV_cons (e_Fillings_c67 (by decide)) fx_EV_nil))
theorem r_Fillings_earliest (n : Nat) (st : List Value) (I : fx_MI) (J : fx_MJ) (R : fx_MR) (h : pre_Fillings_earliest n st I J R) : fx_sz st ≤ 2 ∧ fx_R 2 (MC n) (v_Fillings_earliest n) (some .int) (post_Fillings_earliest n st I J R) p_Fillings_earliest 0 (fx_en st) [] I J R := by
  obtain ⟨⟨b, rfl⟩, v, rfl, hp⟩ := pi_Fillings_earliest h
  clear h
  refine ⟨Nat.le_of_ble_eq_true rfl, ?_⟩
  obtain ⟨k, hk, rfl⟩ := hp
  have hpost : post_Fillings_earliest n [.ref 101, .int (nI k)] I J (R0C b) (some (.int (lowI (I 108 k).toInt64))) I J (R0C b) := by
    refine ⟨?_, rfl, rfl, rfl⟩
    rw [nv_nI (by omega)]
  refine fx_run0 60 fun X hX => ?_
  simp only [q_Fillings_earliest_0 hX rfl, q_Fillings_earliest_1 hX rfl, q_Fillings_earliest_4 hX rfl, q_Fillings_earliest_5 hX rfl, q_Fillings_earliest_6 hX rfl, q_Fillings_earliest_7 hX rfl, q_Fillings_earliest_10 hX rfl, fs_aload_n0, fs_aload_n1, fs_aload_n2, fs_aload_n3, fs_getfield, fs_i2l, fs_iaload, fs_iload_n0, fs_iload_n1, fs_iload_n2, fs_iload_n3, fs_invokestatic, fs_ireturn, v_Fillings_earliest, pre_Out_lowestBit, post_Out_lowestBit, kd_C_7_11, pl_C_101, R0C_101_11, pl_C_108, fx_oi_s, fx_ol_s, fx_or_s, fx_do_s, fx_lg_0, fx_lg_s, fx_ls_0, fx_ls_s, fx_ls_n0, fx_ls_ns, fx_en, fx_sz, Value.category, fx_nl, fx_lk, fx_tget, fx_tput, fx_tcall, fx_tldc, fx_fv, va_rf, fx_cat, fx_in, fx_cnd, fx_len, fx_narI, fx_narZ0, fx_narZ1, fx_narZb, zb_e, zb_ne, Option.some.injEq, Value.int.injEq, Value.long.injEq, Value.ref.injEq, List.cons.injEq, Nat.reduceAdd, Nat.reduceLeDiff, Nat.le_refl, List.take, List.drop, List.reverse_cons, List.reverse_nil, List.nil_append, List.cons_append, List.append_nil, List.map_cons, List.map_nil, List.sum_cons, List.sum_nil, List.length_cons, List.length_nil, Option.toList, fx_all4, forall_const, true_and, and_true, not_true_eq_false, not_false_eq_true, false_implies, true_implies, ne_eq, reduceCtorEq, Nat.reduceEqDiff, ite_true, ite_false, reduceIte, Instr.getfield.injEq, Instr.putfield.injEq, Instr.invokevirtual.injEq, Instr.invokestatic.injEq, Instr.ldc2_w.injEq, fx_tcopy, Instr.ldc.injEq, Instr.ldc_w.injEq, exists_eq_left, exists_prop, R0C_ex]
  simp (disch := omega) only [lit, nI_add, nI_mul', nI_sub', nI_clamp, nI_lt', nI_le', nI_eq', nI_in', iinc1, zb_n0, nI_div', nI_rem2, true_and, and_true, Nat.reduceEqDiff, Nat.reduceLeDiff, Nat.one_ne_zero, Nat.zero_ne_one, not_false_eq_true, not_true_eq_false, false_implies, true_implies, forall_const, Nat.zero_add, Nat.add_zero, nv_nI, up_eq, up_ne, fill_ne, nI_clamp, nI_add, nI_in']
  exact hpost
theorem c_Fillings_earliest (l : Launch) (n : Nat) : fx_Met l y_Fillings_earliest ws_Fillings_earliest rm_Fillings_earliest (MC n) (pre_Fillings_earliest n) (post_Fillings_earliest n) := fx_met (MC_ok n) (MC_tys n) (by decide) rfl pk_Fillings_earliest vk_Fillings_earliest (fun st I J R h => r_Fillings_earliest n st I J R h)
def p_Fillings_latest : fx_Pr := fx_pr [(0, .aload_n 0, 0), (1, .getfield 30, 0), (4, .iload_n 1, 0), (5, .iaload, 0), (6, .invokestatic 71, 0), (9, .ireturn, 0)]
theorem pk_Fillings_latest : fx_prOK b_Fillings_latest p_Fillings_latest := fx_pr_ok (by decide +kernel)
theorem q_Fillings_latest_0 {nL : Nat} {M : fx_M} {ev : fx_Env} {ret : Option FieldType} {P : fx_P} {stops : List (Nat × Nat)} {K : fx_K} {n : Nat} {L : List (Option Value)} {st : List Value} {I : fx_MI} {J : fx_MJ} {R : fx_MR} {X : Nat → fx_K} (hX : fx_isX nL M ev ret P p_Fillings_latest stops K X) (hs : fx_stop stops 0 = none) : X (n + 1) 0 L st I J R = fx_S nL M ev ret P (.aload_n 0) 0 0 L st I J R (X n) := hX.1 _ _ _ _ _ _ _ _ _ rfl hs
theorem q_Fillings_latest_1 {nL : Nat} {M : fx_M} {ev : fx_Env} {ret : Option FieldType} {P : fx_P} {stops : List (Nat × Nat)} {K : fx_K} {n : Nat} {L : List (Option Value)} {st : List Value} {I : fx_MI} {J : fx_MJ} {R : fx_MR} {X : Nat → fx_K} (hX : fx_isX nL M ev ret P p_Fillings_latest stops K X) (hs : fx_stop stops 1 = none) : X (n + 1) 1 L st I J R = fx_S nL M ev ret P (.getfield 30) 0 1 L st I J R (X n) := hX.1 _ _ _ _ _ _ _ _ _ rfl hs
theorem q_Fillings_latest_4 {nL : Nat} {M : fx_M} {ev : fx_Env} {ret : Option FieldType} {P : fx_P} {stops : List (Nat × Nat)} {K : fx_K} {n : Nat} {L : List (Option Value)} {st : List Value} {I : fx_MI} {J : fx_MJ} {R : fx_MR} {X : Nat → fx_K} (hX : fx_isX nL M ev ret P p_Fillings_latest stops K X) (hs : fx_stop stops 4 = none) : X (n + 1) 4 L st I J R = fx_S nL M ev ret P (.iload_n 1) 0 4 L st I J R (X n) := hX.1 _ _ _ _ _ _ _ _ _ rfl hs
theorem q_Fillings_latest_5 {nL : Nat} {M : fx_M} {ev : fx_Env} {ret : Option FieldType} {P : fx_P} {stops : List (Nat × Nat)} {K : fx_K} {n : Nat} {L : List (Option Value)} {st : List Value} {I : fx_MI} {J : fx_MJ} {R : fx_MR} {X : Nat → fx_K} (hX : fx_isX nL M ev ret P p_Fillings_latest stops K X) (hs : fx_stop stops 5 = none) : X (n + 1) 5 L st I J R = fx_S nL M ev ret P (.iaload) 0 5 L st I J R (X n) := hX.1 _ _ _ _ _ _ _ _ _ rfl hs
theorem q_Fillings_latest_6 {nL : Nat} {M : fx_M} {ev : fx_Env} {ret : Option FieldType} {P : fx_P} {stops : List (Nat × Nat)} {K : fx_K} {n : Nat} {L : List (Option Value)} {st : List Value} {I : fx_MI} {J : fx_MJ} {R : fx_MR} {X : Nat → fx_K} (hX : fx_isX nL M ev ret P p_Fillings_latest stops K X) (hs : fx_stop stops 6 = none) : X (n + 1) 6 L st I J R = fx_S nL M ev ret P (.invokestatic 71) 0 6 L st I J R (X n) := hX.1 _ _ _ _ _ _ _ _ _ rfl hs
theorem q_Fillings_latest_9 {nL : Nat} {M : fx_M} {ev : fx_Env} {ret : Option FieldType} {P : fx_P} {stops : List (Nat × Nat)} {K : fx_K} {n : Nat} {L : List (Option Value)} {st : List Value} {I : fx_MI} {J : fx_MJ} {R : fx_MR} {X : Nat → fx_K} (hX : fx_isX nL M ev ret P p_Fillings_latest stops K X) (hs : fx_stop stops 9 = none) : X (n + 1) 9 L st I J R = fx_S nL M ev ret P (.ireturn) 0 9 L st I J R (X n) := hX.1 _ _ _ _ _ _ _ _ _ rfl hs
def pre_Fillings_latest (n : Nat) : fx_Pre := fun st I J R => (∃ b, R = R0C b) ∧ (match st with
  | [.ref 101, .int v] => ∃ k, k < 8 ∧ v = nI k
  | _ => False)
theorem pi_Fillings_latest {n : Nat} {st : List Value} {I : fx_MI} {J : fx_MJ} {R : fx_MR} (h : pre_Fillings_latest n st I J R) : (∃ b, R = R0C b) ∧ ∃ v, st = [.ref 101, .int v] ∧ (∃ k, k < 8 ∧ v = nI k) := by
  unfold pre_Fillings_latest at h
  obtain ⟨h0, h⟩ := h
  split at h
  · exact ⟨h0, _, rfl, h⟩
  · cases h
def post_Fillings_latest (n : Nat) : fx_Post := fun st I J R r I' J' R' => match st with
  | [_, .int v] => r = some (.int (higI (I 108 (nv v)))) ∧ I' = I ∧ J' = J ∧ R' = R
  | _ => True
theorem pz_Fillings_latest {st : List Value} {I : fx_MI} {J : fx_MJ} {R : fx_MR} (n : Nat) (h : pre_Fillings_latest n st I J R) : ∃ q r, st = .ref q :: r ∧ (MC n).2.2.1 q = some (.inl 7) ∧ r.length = 1 := by
  obtain ⟨_, _, rfl, _⟩ := pi_Fillings_latest h
  exact ⟨_, _, rfl, rfl, rfl⟩
def v_Fillings_latest (n : Nat) : fx_Env := [(.getfield 30, fx_tget (MC n) 7 11), (.invokestatic 71, fx_tcall 1 (pre_Out_highestBit n) (post_Out_highestBit n))]
abbrev rm_Fillings_latest : Room := { frames := 2, cells := 0, slots := 0, locals := 41 }
abbrev ws_Fillings_latest : List Cond := Cond.code y_Fillings_latest b_Fillings_latest 2 (some .int) :: w_C
theorem e_Fillings_c71 {l : Launch} {c0 : Cond} {rm : Room} {n nL : Nat} {cc : ByteArray} (hR : rm_Out_highestBit.frames + 1 ≤ rm.frames ∧ 8 + (2 + 11) + rm_Out_highestBit.locals ≤ rm.locals) : fx_E1 l R_Fillings (c0 :: w_C) rm (MC n) nL cc (.invokestatic 71) (fx_tcall 1 (pre_Out_highestBit n) (post_Out_highestBit n)) := fx_callSN (c_Out_highestBit l n) (w_C_GN (w_C_h2 0 rfl)) (List.mem_of_getElem? (i := 11) rfl) (List.mem_cons_of_mem _ (w_C_h2 9 rfl)) (List.mem_cons_of_mem _ (w_C_h1 59 rfl)) rfl ⟨rfl, rfl⟩ (by decide) hR (fun st I J R h => pz_Out_highestBit n h)
theorem vk_Fillings_latest {l : Launch} {n : Nat} : fx_EV l R_Fillings ws_Fillings_latest rm_Fillings_latest (MC n) 2 b_Fillings_latest (v_Fillings_latest n) := (fx_EV_cons e_Fillings_g30 (fx_EV_cons (e_Fillings_c71 (by decide)) fx_EV_nil))
theorem r_Fillings_latest (n : Nat) (st : List Value) (I : fx_MI) (J : fx_MJ) (R : fx_MR) (h : pre_Fillings_latest n st I J R) : fx_sz st ≤ 2 ∧ fx_R 2 (MC n) (v_Fillings_latest n) (some .int) (post_Fillings_latest n st I J R) p_Fillings_latest 0 (fx_en st) [] I J R := by
  obtain ⟨⟨b, rfl⟩, v, rfl, hp⟩ := pi_Fillings_latest h
  clear h
  refine ⟨Nat.le_of_ble_eq_true rfl, ?_⟩
  obtain ⟨k, hk, rfl⟩ := hp
  have hpost : post_Fillings_latest n [.ref 101, .int (nI k)] I J (R0C b) (some (.int (higI (I 108 k)))) I J (R0C b) := by
    refine ⟨?_, rfl, rfl, rfl⟩
    rw [nv_nI (by omega)]
  refine fx_run0 60 fun X hX => ?_
  simp only [q_Fillings_latest_0 hX rfl, q_Fillings_latest_1 hX rfl, q_Fillings_latest_4 hX rfl, q_Fillings_latest_5 hX rfl, q_Fillings_latest_6 hX rfl, q_Fillings_latest_9 hX rfl, fs_aload_n0, fs_aload_n1, fs_aload_n2, fs_aload_n3, fs_getfield, fs_iaload, fs_iload_n0, fs_iload_n1, fs_iload_n2, fs_iload_n3, fs_invokestatic, fs_ireturn, v_Fillings_latest, pre_Out_highestBit, post_Out_highestBit, kd_C_7_11, pl_C_101, R0C_101_11, pl_C_108, fx_oi_s, fx_ol_s, fx_or_s, fx_do_s, fx_lg_0, fx_lg_s, fx_ls_0, fx_ls_s, fx_ls_n0, fx_ls_ns, fx_en, fx_sz, Value.category, fx_nl, fx_lk, fx_tget, fx_tput, fx_tcall, fx_tldc, fx_fv, va_rf, fx_cat, fx_in, fx_cnd, fx_len, fx_narI, fx_narZ0, fx_narZ1, fx_narZb, zb_e, zb_ne, Option.some.injEq, Value.int.injEq, Value.long.injEq, Value.ref.injEq, List.cons.injEq, Nat.reduceAdd, Nat.reduceLeDiff, Nat.le_refl, List.take, List.drop, List.reverse_cons, List.reverse_nil, List.nil_append, List.cons_append, List.append_nil, List.map_cons, List.map_nil, List.sum_cons, List.sum_nil, List.length_cons, List.length_nil, Option.toList, fx_all4, forall_const, true_and, and_true, not_true_eq_false, not_false_eq_true, false_implies, true_implies, ne_eq, reduceCtorEq, Nat.reduceEqDiff, ite_true, ite_false, reduceIte, Instr.getfield.injEq, Instr.putfield.injEq, Instr.invokevirtual.injEq, Instr.invokestatic.injEq, Instr.ldc2_w.injEq, fx_tcopy, Instr.ldc.injEq, Instr.ldc_w.injEq, exists_eq_left, exists_prop, R0C_ex]
  simp (disch := omega) only [lit, nI_add, nI_mul', nI_sub', nI_clamp, nI_lt', nI_le', nI_eq', nI_in', iinc1, zb_n0, nI_div', nI_rem2, true_and, and_true, Nat.reduceEqDiff, Nat.reduceLeDiff, Nat.one_ne_zero, Nat.zero_ne_one, not_false_eq_true, not_true_eq_false, false_implies, true_implies, forall_const, Nat.zero_add, Nat.add_zero, nv_nI, up_eq, up_ne, fill_ne, nI_clamp, nI_add, nI_in']
  exact hpost
theorem c_Fillings_latest (l : Launch) (n : Nat) : fx_Met l y_Fillings_latest ws_Fillings_latest rm_Fillings_latest (MC n) (pre_Fillings_latest n) (post_Fillings_latest n) := fx_met (MC_ok n) (MC_tys n) (by decide) rfl pk_Fillings_latest vk_Fillings_latest (fun st I J R h => r_Fillings_latest n st I J R h)
