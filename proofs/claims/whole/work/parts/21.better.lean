/-! the reference: the mark that a cell gets -/
def betM (I : fx_MI) (l i : Nat) (v : Int32) : Int32 := if v = nI 1 then ovM (I 1) (I 6) (I 7) l (nI i) (I 1 (288 + atN (rW I) (rH I) l i)) (manyN (I 1) l) 0 false else nI (bfM (I 4) i (nv (I 0 13)))
def p_M_better : fx_Pr := fx_pr [(0, .iload_n 3, 0), (1, .iconst 1, 0), (2, .if_icmp .ne 12, 14), (5, .aload_n 0, 0), (6, .iload_n 1, 0), (7, .iload_n 2, 0), (8, .invokevirtual 128, 0), (11, .goto 8, 19), (14, .aload_n 0, 0), (15, .iload_n 2, 0), (16, .invokevirtual 131, 0), (19, .ireturn, 0)]
theorem pk_M_better : fx_prOK b_M_better p_M_better := fx_pr_ok (by decide +kernel)
theorem q_M_better_0 {nL : Nat} {M : fx_M} {ev : fx_Env} {ret : Option FieldType} {P : fx_P} {stops : List (Nat × Nat)} {K : fx_K} {n : Nat} {L : List (Option Value)} {st : List Value} {I : fx_MI} {J : fx_MJ} {R : fx_MR} {X : Nat → fx_K} (hX : fx_isX nL M ev ret P p_M_better stops K X) (hs : fx_stop stops 0 = none) : X (n + 1) 0 L st I J R = fx_S nL M ev ret P (.iload_n 3) 0 0 L st I J R (X n) := hX.1 _ _ _ _ _ _ _ _ _ rfl hs
theorem q_M_better_1 {nL : Nat} {M : fx_M} {ev : fx_Env} {ret : Option FieldType} {P : fx_P} {stops : List (Nat × Nat)} {K : fx_K} {n : Nat} {L : List (Option Value)} {st : List Value} {I : fx_MI} {J : fx_MJ} {R : fx_MR} {X : Nat → fx_K} (hX : fx_isX nL M ev ret P p_M_better stops K X) (hs : fx_stop stops 1 = none) : X (n + 1) 1 L st I J R = fx_S nL M ev ret P (.iconst 1) 0 1 L st I J R (X n) := hX.1 _ _ _ _ _ _ _ _ _ rfl hs
theorem q_M_better_2 {nL : Nat} {M : fx_M} {ev : fx_Env} {ret : Option FieldType} {P : fx_P} {stops : List (Nat × Nat)} {K : fx_K} {n : Nat} {L : List (Option Value)} {st : List Value} {I : fx_MI} {J : fx_MJ} {R : fx_MR} {x y : Int32} {X : Nat → fx_K} (hX : fx_isX nL M ev ret P p_M_better stops K X) (hs : fx_stop stops 2 = none) : X (n + 1) 2 L (.int y :: .int x :: st) I J R = ((¬ x = y → X n 14 L st I J R) ∧ (x = y → X n 5 L st I J R)) := fx_q_icmpne hX rfl hs rfl
theorem q_M_better_5 {nL : Nat} {M : fx_M} {ev : fx_Env} {ret : Option FieldType} {P : fx_P} {stops : List (Nat × Nat)} {K : fx_K} {n : Nat} {L : List (Option Value)} {st : List Value} {I : fx_MI} {J : fx_MJ} {R : fx_MR} {X : Nat → fx_K} (hX : fx_isX nL M ev ret P p_M_better stops K X) (hs : fx_stop stops 5 = none) : X (n + 1) 5 L st I J R = fx_S nL M ev ret P (.aload_n 0) 0 5 L st I J R (X n) := hX.1 _ _ _ _ _ _ _ _ _ rfl hs
theorem q_M_better_6 {nL : Nat} {M : fx_M} {ev : fx_Env} {ret : Option FieldType} {P : fx_P} {stops : List (Nat × Nat)} {K : fx_K} {n : Nat} {L : List (Option Value)} {st : List Value} {I : fx_MI} {J : fx_MJ} {R : fx_MR} {X : Nat → fx_K} (hX : fx_isX nL M ev ret P p_M_better stops K X) (hs : fx_stop stops 6 = none) : X (n + 1) 6 L st I J R = fx_S nL M ev ret P (.iload_n 1) 0 6 L st I J R (X n) := hX.1 _ _ _ _ _ _ _ _ _ rfl hs
theorem q_M_better_7 {nL : Nat} {M : fx_M} {ev : fx_Env} {ret : Option FieldType} {P : fx_P} {stops : List (Nat × Nat)} {K : fx_K} {n : Nat} {L : List (Option Value)} {st : List Value} {I : fx_MI} {J : fx_MJ} {R : fx_MR} {X : Nat → fx_K} (hX : fx_isX nL M ev ret P p_M_better stops K X) (hs : fx_stop stops 7 = none) : X (n + 1) 7 L st I J R = fx_S nL M ev ret P (.iload_n 2) 0 7 L st I J R (X n) := hX.1 _ _ _ _ _ _ _ _ _ rfl hs
theorem q_M_better_8 {nL : Nat} {M : fx_M} {ev : fx_Env} {ret : Option FieldType} {P : fx_P} {stops : List (Nat × Nat)} {K : fx_K} {n : Nat} {L : List (Option Value)} {st : List Value} {I : fx_MI} {J : fx_MJ} {R : fx_MR} {X : Nat → fx_K} (hX : fx_isX nL M ev ret P p_M_better stops K X) (hs : fx_stop stops 8 = none) : X (n + 1) 8 L st I J R = fx_S nL M ev ret P (.invokevirtual 128) 0 8 L st I J R (X n) := hX.1 _ _ _ _ _ _ _ _ _ rfl hs
theorem q_M_better_11 {nL : Nat} {M : fx_M} {ev : fx_Env} {ret : Option FieldType} {P : fx_P} {stops : List (Nat × Nat)} {K : fx_K} {n : Nat} {L : List (Option Value)} {st : List Value} {I : fx_MI} {J : fx_MJ} {R : fx_MR} {X : Nat → fx_K} (hX : fx_isX nL M ev ret P p_M_better stops K X) (hs : fx_stop stops 11 = none) : X (n + 1) 11 L st I J R = X n 19 L st I J R := fx_q_goto hX rfl hs rfl
theorem q_M_better_14 {nL : Nat} {M : fx_M} {ev : fx_Env} {ret : Option FieldType} {P : fx_P} {stops : List (Nat × Nat)} {K : fx_K} {n : Nat} {L : List (Option Value)} {st : List Value} {I : fx_MI} {J : fx_MJ} {R : fx_MR} {X : Nat → fx_K} (hX : fx_isX nL M ev ret P p_M_better stops K X) (hs : fx_stop stops 14 = none) : X (n + 1) 14 L st I J R = fx_S nL M ev ret P (.aload_n 0) 0 14 L st I J R (X n) := hX.1 _ _ _ _ _ _ _ _ _ rfl hs
theorem q_M_better_15 {nL : Nat} {M : fx_M} {ev : fx_Env} {ret : Option FieldType} {P : fx_P} {stops : List (Nat × Nat)} {K : fx_K} {n : Nat} {L : List (Option Value)} {st : List Value} {I : fx_MI} {J : fx_MJ} {R : fx_MR} {X : Nat → fx_K} (hX : fx_isX nL M ev ret P p_M_better stops K X) (hs : fx_stop stops 15 = none) : X (n + 1) 15 L st I J R = fx_S nL M ev ret P (.iload_n 2) 0 15 L st I J R (X n) := hX.1 _ _ _ _ _ _ _ _ _ rfl hs
theorem q_M_better_16 {nL : Nat} {M : fx_M} {ev : fx_Env} {ret : Option FieldType} {P : fx_P} {stops : List (Nat × Nat)} {K : fx_K} {n : Nat} {L : List (Option Value)} {st : List Value} {I : fx_MI} {J : fx_MJ} {R : fx_MR} {X : Nat → fx_K} (hX : fx_isX nL M ev ret P p_M_better stops K X) (hs : fx_stop stops 16 = none) : X (n + 1) 16 L st I J R = fx_S nL M ev ret P (.invokevirtual 131) 0 16 L st I J R (X n) := hX.1 _ _ _ _ _ _ _ _ _ rfl hs
theorem q_M_better_19 {nL : Nat} {M : fx_M} {ev : fx_Env} {ret : Option FieldType} {P : fx_P} {stops : List (Nat × Nat)} {K : fx_K} {n : Nat} {L : List (Option Value)} {st : List Value} {I : fx_MI} {J : fx_MJ} {R : fx_MR} {X : Nat → fx_K} (hX : fx_isX nL M ev ret P p_M_better stops K X) (hs : fx_stop stops 19 = none) : X (n + 1) 19 L st I J R = fx_S nL M ev ret P (.ireturn) 0 19 L st I J R (X n) := hX.1 _ _ _ _ _ _ _ _ _ rfl hs
def pre_M_better : fx_Pre := fun st I J R => R = R0_M ∧ (match st with
  | [.ref 0, .int l, .int i, .int v] => ∃ n k, l = nI n ∧ i = nI k ∧ preL I n ∧ k < cellsN (rW I) (rH I) n ∧ rg (I 0 13) 71 ∧ ∀ k, k < nv (I 0 13) → rg (I 4 k) 65536
  | _ => False)
theorem pi_M_better {st : List Value} {I : fx_MI} {J : fx_MJ} {R : fx_MR} (h : pre_M_better st I J R) : R = R0_M ∧ ∃ l, ∃ i, ∃ v, st = [.ref 0, .int l, .int i, .int v] ∧ (∃ n k, l = nI n ∧ i = nI k ∧ preL I n ∧ k < cellsN (rW I) (rH I) n ∧ rg (I 0 13) 71 ∧ ∀ k, k < nv (I 0 13) → rg (I 4 k) 65536) := by
  unfold pre_M_better at h
  obtain ⟨h0, h⟩ := h
  split at h
  · exact ⟨h0, _, _, _, rfl, h⟩
  · cases h
def post_M_better : fx_Post := fun st I J R r I' J' R' => match st with
  | [_, .int l, .int i, .int v] => r = some (.int (betM I (nv l) (nv i) v)) ∧ I' = I ∧ J' = J ∧ R' = R
  | _ => True
theorem pz_M_better {st : List Value} {I : fx_MI} {J : fx_MJ} {R : fx_MR} (h : pre_M_better st I J R) : ∃ q r, st = .ref q :: r ∧ MM.2.2.1 q = some (.inl 0) ∧ r.length = 3 := by
  obtain ⟨_, _, _, _, rfl, _⟩ := pi_M_better h
  exact ⟨_, _, rfl, rfl, rfl⟩
def v_M_better : fx_Env := [(.invokevirtual 128, fx_tcall 3 pre_M_byOverlap post_M_byOverlap), (.invokevirtual 131, fx_tcall 2 pre_M_byFillings post_M_byFillings)]
abbrev rm_M_better : Room := { frames := 2, cells := 0, slots := 0, locals := 48 }
abbrev ws_M_better : List Cond := Cond.code y_M_better b_M_better 4 (some .int) :: w_M
theorem vk_M_better {l : Launch} : fx_EV l R_M ws_M_better rm_M_better MM 4 b_M_better v_M_better := (fx_EV_cons (e_M_byOverlap (by decide)) (fx_EV_cons (e_M_byFillings (by decide)) fx_EV_nil))
theorem r_M_better (st : List Value) (I : fx_MI) (J : fx_MJ) (R : fx_MR) (h : pre_M_better st I J R) : fx_sz st ≤ 4 ∧ fx_R 4 MM v_M_better (some .int) (post_M_better st I J R) p_M_better 0 (fx_en st) [] I J R := by
  obtain ⟨rfl, l, i, v, rfl, hp⟩ := pi_M_better h
  clear h
  refine ⟨Nat.le_of_ble_eq_true rfl, ?_⟩
  obtain ⟨l, i, rfl, rfl, hpl, hi, h13, h4⟩ := hp
  obtain ⟨hw, hh, hc, e1, e2, e3⟩ := dim_of hpl.1
  have hcl := cellsN_le (l := l) hw.2 hh.2
  have hl := hpl.2.2.1
  refine fx_run0 60 fun X hX => ?_
  simp only [q_M_better_0 hX rfl, q_M_better_1 hX rfl, q_M_better_2 hX rfl, q_M_better_5 hX rfl, q_M_better_6 hX rfl, q_M_better_7 hX rfl, q_M_better_8 hX rfl, q_M_better_11 hX rfl, q_M_better_14 hX rfl, q_M_better_15 hX rfl, q_M_better_16 hX rfl, q_M_better_19 hX rfl, fs_aload_n0, fs_aload_n1, fs_aload_n2, fs_aload_n3, fs_goto, fs_iconst, fs_if_icmp, fs_iload_n0, fs_iload_n1, fs_iload_n2, fs_iload_n3, fs_invokevirtual, fs_ireturn, v_M_better, ci_1, pre_M_byOverlap, post_M_byOverlap, pre_M_byFillings, post_M_byFillings, fx_oi_s, fx_ol_s, fx_or_s, fx_do_s, fx_lg_0, fx_lg_s, fx_ls_0, fx_ls_s, fx_ls_n0, fx_ls_ns, fx_en, fx_sz, Value.category, fx_nl, fx_lk, fx_tget, fx_tput, fx_tcall, fx_tldc, fx_fv, va_rf, fx_cat, fx_in, fx_cnd, fx_len, fx_narI, fx_narZ0, fx_narZ1, fx_narZb, zb_e, zb_ne, Option.some.injEq, Value.int.injEq, Value.long.injEq, Value.ref.injEq, List.cons.injEq, Nat.reduceAdd, Nat.reduceLeDiff, Nat.le_refl, List.take, List.drop, List.reverse_cons, List.reverse_nil, List.nil_append, List.cons_append, List.append_nil, List.map_cons, List.map_nil, List.sum_cons, List.sum_nil, List.length_cons, List.length_nil, Option.toList, fx_all4, forall_const, true_and, and_true, not_true_eq_false, not_false_eq_true, false_implies, true_implies, ne_eq, reduceCtorEq, Nat.reduceEqDiff, ite_true, ite_false, reduceIte, Instr.getfield.injEq, Instr.putfield.injEq, Instr.invokevirtual.injEq, Instr.invokestatic.injEq, Instr.ldc2_w.injEq]
  simp (disch := omega) only [lit, nI_add, nI_mul', nI_sub', nI_clamp, nI_lt', nI_le', nI_eq', nI_in', iinc1, zb_n0, nI_div', nI_rem2, true_and, and_true, nv_nI, rg_nI]
  refine ⟨fun h => ⟨⟨h13, h4⟩, ?_⟩, fun h => ⟨⟨l, i, rfl, rfl, hpl, hi⟩, ?_⟩⟩
  · simp (disch := omega) only [post_M_better, nv_nI, betM, if_neg h, and_self]
  · simp (disch := omega) only [post_M_better, nv_nI, betM, if_pos h, and_self]
theorem c_M_better (l : Launch) : fx_Met l y_M_better ws_M_better rm_M_better MM pre_M_better post_M_better := fx_met MM_ok MM_tys (by decide) rfl pk_M_better vk_M_better (fun st I J R h => r_M_better st I J R h)
theorem e_M_better {l : Launch} {c0 : Cond} {rm : Room} {nL : Nat} {cc : ByteArray} (hR : rm_M_better.frames + 1 ≤ rm.frames ∧ 8 + (4 + 11) + rm_M_better.locals ≤ rm.locals) : fx_E1 l R_M (c0 :: w_M) rm MM nL cc (.invokevirtual 137) (fx_tcall 4 pre_M_better post_M_better) := fx_callV (ci := 0) (C := R_M) rfl (c_M_better l) (w_M_G (w_M_has 99 rfl) (w_M_has 100 rfl) (w_M_has 101 rfl) (w_M_has 7 rfl) (w_M_has 89 rfl)) rfl ⟨rfl, rfl⟩ (by decide) hR (fun st I J R h => pz_M_better h) MM_ok

theorem tb_or (a b c : Nat) : ((a ||| b) / 2 ^ c % 2 = 1) ↔ (a / 2 ^ c % 2 = 1 ∨ b / 2 ^ c % 2 = 1) := by
  have h := Nat.testBit_or a b c
  rw [Nat.testBit_eq_decide_div_mod_eq, Nat.testBit_eq_decide_div_mod_eq, Nat.testBit_eq_decide_div_mod_eq] at h
  constructor
  · intro h1
    rw [decide_eq_true h1] at h
    have := h.symm
    rw [Bool.or_eq_true, decide_eq_true_eq, decide_eq_true_eq] at this
    exact this
  · intro h1
    have h2 : (decide (a / 2 ^ c % 2 = 1) || decide (b / 2 ^ c % 2 = 1)) = true := by
      rw [Bool.or_eq_true, decide_eq_true_eq, decide_eq_true_eq]
      exact h1
    rw [h2] at h
    exact of_decide_eq_true h
theorem bfM_bit {g : Nat → Int32} {i c : Nat} (hc : c < 4) : ∀ {k : Nat}, bfM g i k / 2 ^ c % 2 = 1 ↔ ∃ j, j < k ∧ nv (g j) / 2 ^ (2 * i) % 4 = c
  | 0 => by
    constructor
    · intro h
      have h1 : (0 : Nat) / 2 ^ c % 2 = 1 := h
      rw [Nat.zero_div] at h1
      omega
    · rintro ⟨j, h, -⟩
      omega
  | k + 1 => by
    show (bfM g i k ||| 2 ^ (nv (g k) / 2 ^ (2 * i) % 4)) / 2 ^ c % 2 = 1 ↔ _
    rw [tb_or, bfM_bit hc, bit_p2 _ (Nat.mod_lt _ (by omega)) _ hc]
    constructor
    · rintro (⟨j, h1, h2⟩ | h)
      · exact ⟨j, by omega, h2⟩
      · exact ⟨k, by omega, h.symm⟩
    · rintro ⟨j, h1, h2⟩
      by_cases h3 : j = k
      · subst h3
        exact Or.inr h2.symm
      · exact Or.inl ⟨j, by omega, h2⟩
theorem mnI_eq {g : Nat → Nat} : ∀ {N : Nat}, (∀ k, k < N + 1 → g k < 9) → ∃ a, mnI g (N + 1) = nI a ∧ (∃ k, k < N + 1 ∧ g k = a) ∧ ∀ k, k < N + 1 → a ≤ g k
  | 0, h => by
    have h0 := h 0 (by omega)
    refine ⟨g 0, ?_, ⟨0, by omega, rfl⟩, fun k hk => by rw [show k = 0 by omega]; exact Nat.le_refl _⟩
    show (if nI 9 ≤ nI (g 0) then nI 9 else nI (g 0)) = nI (g 0)
    rw [if_neg (by rw [nI_le' (by omega) (by omega)]; omega)]
  | N + 1, h => by
    obtain ⟨a, h1, ⟨k, h2, h3⟩, h4⟩ := mnI_eq (g := g) (N := N) (fun k hk => h k (by omega))
    have hk9 := h k (by omega)
    have hn9 := h (N + 1) (by omega)
    have e : mnI g (N + 1 + 1) = if nI a ≤ nI (g (N + 1)) then nI a else nI (g (N + 1)) := by
      show (if mnI g (N + 1) ≤ nI (g (N + 1)) then mnI g (N + 1) else nI (g (N + 1))) = _
      rw [h1]
    by_cases h5 : a ≤ g (N + 1)
    · refine ⟨a, by rw [e, if_pos (by rw [nI_le' (by omega) (by omega)]; exact h5)], ⟨k, by omega, h3⟩, fun q hq => ?_⟩
      by_cases h6 : q = N + 1
      · rw [h6]; exact h5
      · exact h4 q (by omega)
    · refine ⟨g (N + 1), by rw [e, if_neg (by rw [nI_le' (by omega) (by omega)]; exact h5)], ⟨N + 1, by omega, rfl⟩, fun q hq => ?_⟩
      by_cases h6 : q = N + 1
      · rw [h6]; exact Nat.le_refl _
      · have := h4 q (by omega)
        omega
theorem mxI_eq {g : Nat → Nat} : ∀ {N : Nat}, (∀ k, k < N + 1 → g k < 9) → ∃ a, mxI g (N + 1) = nI a ∧ (∃ k, k < N + 1 ∧ g k = a) ∧ ∀ k, k < N + 1 → g k ≤ a
  | 0, h => by
    have h0 := h 0 (by omega)
    refine ⟨g 0, ?_, ⟨0, by omega, rfl⟩, fun k hk => by rw [show k = 0 by omega]; exact Nat.le_refl _⟩
    have key : ∀ a, a < 9 → (if nI a ≤ -nI 1 then -nI 1 else nI a) = nI a := by decide +kernel
    exact key _ h0
  | N + 1, h => by
    obtain ⟨a, h1, ⟨k, h2, h3⟩, h4⟩ := mxI_eq (g := g) (N := N) (fun k hk => h k (by omega))
    have hk9 := h k (by omega)
    have hn9 := h (N + 1) (by omega)
    have e : mxI g (N + 1 + 1) = if nI (g (N + 1)) ≤ nI a then nI a else nI (g (N + 1)) := by
      show (if nI (g (N + 1)) ≤ mxI g (N + 1) then mxI g (N + 1) else nI (g (N + 1))) = _
      rw [h1]
    by_cases h5 : g (N + 1) ≤ a
    · refine ⟨a, by rw [e, if_pos (by rw [nI_le' (by omega) (by omega)]; exact h5)], ⟨k, by omega, h3⟩, fun q hq => ?_⟩
      by_cases h6 : q = N + 1
      · rw [h6]; exact h5
      · exact h4 q (by omega)
    · refine ⟨g (N + 1), by rw [e, if_neg (by rw [nI_le' (by omega) (by omega)]; exact h5)], ⟨N + 1, by omega, rfl⟩, fun q hq => ?_⟩
      by_cases h6 : q = N + 1
      · rw [h6]; exact Nat.le_refl _
      · have := h4 q (by omega)
        omega
/-- ovM, as the mathematics has it -/
theorem ovM_eq {f : Nat → Int32} {ea la : Nat → Int32} {E L : Nat → Nat} {l i : Nat} {its : Int32} (hok : okl 3 f l) (hi : i < 8) (he : ∀ b, b < manyN f l → ea b = nI (E b) ∧ E b < 9) (hl : ∀ b, b < manyN f l → la b = nI (L b) ∧ L b < 9) : ∀ (d b : Nat) (nr : Bool), b + d = manyN f l →
    (∃ b', b ≤ b' ∧ b' < manyN f l ∧ L b' ≤ i ∧ i < E b' + lenN f l b' ∧ ovM f ea la l (nI i) its d b nr = nI (2 ^ colN f l b')) ∨
    ((∀ b', b ≤ b' → b' < manyN f l → ¬ (L b' ≤ i ∧ i < E b' + lenN f l b')) ∧ ((nr = true ∨ ∃ b', b ≤ b' ∧ b' < manyN f l ∧ E b' ≤ i ∧ i < L b' + lenN f l b') ∧ ovM f ea la l (nI i) its d b nr = its ∨ (nr = false ∧ ∀ b', b ≤ b' → b' < manyN f l → ¬ (E b' ≤ i ∧ i < L b' + lenN f l b')) ∧ ovM f ea la l (nI i) its d b nr = nI 1))
  | 0, b, nr, hbd => by
    refine Or.inr ⟨fun b' h1 h2 => by omega, ?_⟩
    cases nr
    · exact Or.inr ⟨⟨rfl, fun b' h1 h2 => by omega⟩, rfl⟩
    · exact Or.inl ⟨Or.inl rfl, rfl⟩
  | d + 1, b, nr, hbd => by
    obtain ⟨e1, e2⟩ := he b (by omega)
    obtain ⟨l1, l2⟩ := hl b (by omega)
    have hlen := len_eq hok (show b < manyN f l by omega)
    have hcol := col_eq (by omega) hok (show b < manyN f l by omega)
    have hcov : (¬ nI i < la b ∧ ¬ ea b + f (32 + (8 * l + b)) ≤ nI i) ↔ (L b ≤ i ∧ i < E b + lenN f l b) := by
      rw [e1, l1, hlen.1]
      simp (disch := omega) only [nI_add, nI_lt', nI_le']
      omega
    have hnear : (decide (¬ nI i < ea b) && decide (¬ la b + f (32 + (8 * l + b)) ≤ nI i)) = decide (E b ≤ i ∧ i < L b + lenN f l b) := by
      rw [e1, l1, hlen.1]
      simp (disch := omega) only [nI_add, nI_lt', nI_le']
      rw [Bool.eq_iff_iff, Bool.and_eq_true, decide_eq_true_eq, decide_eq_true_eq, decide_eq_true_eq]
      omega
    by_cases h1 : L b ≤ i ∧ i < E b + lenN f l b
    · refine Or.inl ⟨b, Nat.le_refl _, by omega, h1.1, h1.2, ?_⟩
      rw [ovM, if_pos (hcov.mpr h1), hcol.1]
      have := p2_16 (colN f l b) (by omega)
      rw [nI_shl (by omega) (by omega), Nat.one_mul]
    · have hstep : ovM f ea la l (nI i) its (d + 1) b nr = ovM f ea la l (nI i) its d (b + 1) (nr || decide (E b ≤ i ∧ i < L b + lenN f l b)) := by
        rw [ovM, if_neg (fun z => h1 (hcov.mp z)), hnear]
      rw [hstep]
      rcases ovM_eq (its := its) hok hi he hl d (b + 1) (nr || decide (E b ≤ i ∧ i < L b + lenN f l b)) (by omega) with ⟨b', g1, g2, g3, g4, g5⟩ | ⟨g1, ⟨g2, g3⟩ | ⟨⟨g2, g4⟩, g3⟩⟩
      · exact Or.inl ⟨b', by omega, g2, g3, g4, g5⟩
      · refine Or.inr ⟨fun b' k1 k2 => ?_, Or.inl ⟨?_, g3⟩⟩
        · by_cases k3 : b' = b
          · subst k3; exact h1
          · exact g1 b' (by omega) k2
        · rcases g2 with g2 | ⟨b', k1, k2, k3, k4⟩
          · rw [Bool.or_eq_true] at g2
            rcases g2 with g2 | g2
            · exact Or.inl g2
            · have := of_decide_eq_true g2
              exact Or.inr ⟨b, Nat.le_refl _, by omega, this.1, this.2⟩
          · exact Or.inr ⟨b', by omega, k2, k3, k4⟩
      · rw [Bool.or_eq_false_iff] at g2
        refine Or.inr ⟨fun b' k1 k2 => ?_, Or.inr ⟨⟨g2.1, fun b' k1 k2 => ?_⟩, g3⟩⟩
        · by_cases k3 : b' = b
          · subst k3; exact h1
          · exact g1 b' (by omega) k2
        · by_cases k3 : b' = b
          · subst k3
            exact of_decide_eq_false g2.2
          · exact g4 b' (by omega) k2
/-- behind lists, better answers the mark of the mathematics -/
theorem betM_BT {I I' : fx_MI} {l i N : Nat} {e : Nat → Nat → Nat} {v : Int32} (hpl : preL I l) (hfr : frL I I') (hL : LSt I I' l N e) (hN : 0 < N) (hi : i < cellsN (rW I) (rH I) l) : ∃ x, betM I' l i v = nI x ∧ BT (rW I) (rH I) (I 1) (if v = nI 1 then 1 else 2) (mkN (I 1)) l i x := by
  obtain ⟨hN70, hEN, hEM, hmm⟩ := hL
  obtain ⟨f1, f2, f3, f4, f5⟩ := frL_d hfr
  have hok := hpl.2.2.2
  obtain ⟨hw, hh, hc, -, -, -⟩ := dim_of hpl.1
  have hcl := cellsN_le (l := l) hw.2 hh.2
  have hm := many_eq hok
  have hat := atN_lt hw.2 hh.2 hpl.2.2.1 hi
  have hwh := wh_le hw.2 hh.2
  have hPF : ∀ s, PF (rW I) (rH I) (I 1) (mkN (I 1)) l s ↔ (vld (I 1) l (cellsN (rW I) (rH I) l) s ∧ fitN (rW I) (rH I) (I 1) l s) := fun s => Iff.rfl
  obtain ⟨N', hN'⟩ : ∃ N', N = N' + 1 := ⟨N - 1, by omega⟩
  subst hN'
  unfold betM BT
  rw [f1, f2, f3]
  by_cases hv : v = nI 1
  · rw [if_pos hv, if_pos hv]
    simp only [ite_true]
    have hlt : ∀ b, b < manyN (I 1) l → ∀ k, k < N' + 1 → e k b < 9 := fun b hb k hk => by
      have := vld_16 hok (hEN.1 k hk).1 hb
      omega
    have hmin : ∀ b, ∃ a, b < manyN (I 1) l → I' 6 b = nI a ∧ a < 9 ∧ Es (rW I) (rH I) (I 1) (mkN (I 1)) l b a := fun b => by
      by_cases hb : b < manyN (I 1) l
      · obtain ⟨a, g1, ⟨k, g2, g3⟩, g4⟩ := mnI_eq (g := fun k => e k b) (N := N') (fun k hk => hlt b hb k hk)
        refine ⟨a, fun _ => ⟨by rw [(hmm b hb).1, g1], by have := hlt b hb k g2; omega, ⟨e k, (hPF _).mpr ⟨(hEN.1 k g2).1, (hEN.1 k g2).2.1⟩, g3⟩, fun s hs => ?_⟩⟩
        obtain ⟨k', g5, g6⟩ := hEN.2.2 s hs.1 hs.2 trivial
        rw [← g6 b hb]
        exact g4 k' g5
      · exact ⟨0, fun h => absurd h hb⟩
    have hmax : ∀ b, ∃ a, b < manyN (I 1) l → I' 7 b = nI a ∧ a < 9 ∧ Ls (rW I) (rH I) (I 1) (mkN (I 1)) l b a := fun b => by
      by_cases hb : b < manyN (I 1) l
      · obtain ⟨a, g1, ⟨k, g2, g3⟩, g4⟩ := mxI_eq (g := fun k => e k b) (N := N') (fun k hk => hlt b hb k hk)
        refine ⟨a, fun _ => ⟨by rw [(hmm b hb).2, g1], by have := hlt b hb k g2; omega, ⟨e k, (hPF _).mpr ⟨(hEN.1 k g2).1, (hEN.1 k g2).2.1⟩, g3⟩, fun s hs => ?_⟩⟩
        obtain ⟨k', g5, g6⟩ := hEN.2.2 s hs.1 hs.2 trivial
        rw [← g6 b hb]
        exact g4 k' g5
      · exact ⟨0, fun h => absurd h hb⟩
    obtain ⟨E, hE⟩ : ∃ E : Nat → Nat, ∀ b, b < manyN (I 1) l → I' 6 b = nI (E b) ∧ E b < 9 ∧ Es (rW I) (rH I) (I 1) (mkN (I 1)) l b (E b) := ⟨fun b => (hmin b).choose, fun b hb => (hmin b).choose_spec hb⟩
    obtain ⟨L, hL⟩ : ∃ L : Nat → Nat, ∀ b, b < manyN (I 1) l → I' 7 b = nI (L b) ∧ L b < 9 ∧ Ls (rW I) (rH I) (I 1) (mkN (I 1)) l b (L b) := ⟨fun b => (hmax b).choose, fun b hb => (hmax b).choose_spec hb⟩
    have hmk := mark_eq hpl.2.1 (show atN (rW I) (rH I) l i < 64 by omega)
    rcases ovM_eq (its := I 1 (288 + atN (rW I) (rH I) l i)) hok (show i < 8 by omega) (fun b hb => ⟨(hE b hb).1, (hE b hb).2.1⟩) (fun b hb => ⟨(hL b hb).1, (hL b hb).2.1⟩) (manyN (I 1) l) 0 false (by omega) with ⟨b, -, g2, g3, g4, g5⟩ | ⟨g1, ⟨g2, g3⟩ | ⟨⟨-, g4⟩, g3⟩⟩
    · exact ⟨_, g5, E, L, fun b hb => ⟨(hE b hb).2.2, (hL b hb).2.2⟩, Or.inl ⟨b, g2, g3, g4, rfl⟩⟩
    · rcases g2 with g2 | ⟨b, -, k2, k3, k4⟩
      · cases g2
      · exact ⟨_, by rw [g3]; exact hmk.1, E, L, fun b hb => ⟨(hE b hb).2.2, (hL b hb).2.2⟩, Or.inr (Or.inl ⟨fun b hb => g1 b (Nat.zero_le _) hb, ⟨b, k2, k3, k4⟩, rfl⟩)⟩
    · exact ⟨_, g3, E, L, fun b hb => ⟨(hE b hb).2.2, (hL b hb).2.2⟩, Or.inr (Or.inr ⟨fun b hb => g1 b (Nat.zero_le _) hb, fun b hb => g4 b (Nat.zero_le _) hb, rfl⟩)⟩
  · rw [if_neg hv, if_neg hv, hEM.1, nv_nI (by omega)]
    simp only [show ¬ (2 : Nat) = 1 by decide, ite_false]
    refine ⟨_, rfl, bfM_lt, fun c hc => ?_⟩
    rw [bfM_bit hc]
    constructor
    · rintro ⟨k, hk, hd⟩
      obtain ⟨-, n, g1, g2⟩ := hEM.2 k hk
      rw [g1, nv_nI (by have := g2.1; omega), g2.2 i (by omega)] at hd
      exact ⟨e k, (hPF _).mpr ⟨(hEN.1 k hk).1, (hEN.1 k hk).2.1⟩, hd⟩
    · rintro ⟨s, hs, hd⟩
      obtain ⟨k, hk, g6⟩ := hEN.2.2 s hs.1 hs.2 trivial
      obtain ⟨-, n, g1, g2⟩ := hEM.2 k hk
      refine ⟨k, hk, ?_⟩
      rw [g1, nv_nI (by have := g2.1; omega), g2.2 i (by omega), pcN_cong (t := s) (fun b hb => g6 b hb)]
      exact hd
