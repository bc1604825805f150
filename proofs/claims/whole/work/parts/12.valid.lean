/-! the reference: what a state is -/
def sm (f : Nat → Nat) : Nat → Nat
  | 0 => 0
  | n + 1 => sm f n + f n
theorem sm_le {f : Nat → Nat} {c : Nat} : ∀ {n : Nat}, (∀ k, k < n → f k ≤ c) → sm f n ≤ n * c
  | 0, _ => Nat.zero_le _
  | n + 1, h => by
    have ih := sm_le (n := n) (fun k hk => h k (by omega))
    have := h n (by omega)
    show sm f n + f n ≤ (n + 1) * c
    rw [Nat.succ_mul]
    omega
theorem sm_cong {f g : Nat → Nat} : ∀ {n : Nat}, (∀ k, k < n → f k = g k) → sm f n = sm g n
  | 0, _ => rfl
  | n + 1, h => by
    show sm f n + f n = sm g n + g n
    rw [sm_cong (n := n) (fun k hk => h k (by omega)), h n (by omega)]
theorem sm_mono {f : Nat → Nat} : ∀ {m n : Nat}, m ≤ n → sm f m ≤ sm f n := by
  intro m n h
  induction n with
  | zero => rw [show m = 0 by omega]; exact Nat.le_refl _
  | succ n ih =>
    rcases Nat.lt_or_ge n m with h1 | h1
    · rw [show m = n + 1 by omega]; exact Nat.le_refl _
    · exact Nat.le_trans (ih h1) (Nat.le_add_right _ _)
/-- what block b of line l takes, with the gap ahead of it -/
def gapN (f : Nat → Int32) (l b : Nat) : Nat := if 0 < b ∧ f (160 + (8 * l + b)) = f (160 + (8 * l + b) - 1) then 1 else 0
def lenN (f : Nat → Int32) (l b : Nat) : Nat := nv (f (32 + (8 * l + b)))
def colN (f : Nat → Int32) (l b : Nat) : Nat := nv (f (160 + (8 * l + b)))
def manyN (f : Nat → Int32) (l : Nat) : Nat := nv (f (16 + l))
def roomN (f : Nat → Int32) (l k : Nat) : Nat := sm (fun b => lenN f l b + gapN f l b) k
def cellsN (w h l : Nat) : Nat := if l < h then w else h
def atN (w h l i : Nat) : Nat := if l < h then w * l + i else w * i + l - h
/-- the clue of a line -/
def okl (c : Nat) (f : Nat → Int32) (l : Nat) : Prop := rg (f l) 2 ∧ rg (f (16 + l)) 9 ∧ (f l = 0 → f (16 + l) = 0) ∧ ∀ b, b < manyN f l → (rg (f (32 + (8 * l + b))) 9 ∧ 1 ≤ lenN f l b) ∧ rg (f (160 + (8 * l + b))) (c + 1) ∧ 1 ≤ colN f l b
def okc (w h c : Nat) (f : Nat → Int32) : Prop := (∀ l, l < 16 → okl c f l) ∧ ∀ l, l < h + w → roomN f l (manyN f l) ≤ cellsN w h l
def okp (c : Nat) (f : Nat → Int32) : Prop := ∀ k, k < 64 → (rg (f (288 + k)) (2 ^ (c + 1)) ∧ 1 ≤ nv (f (288 + k))) ∧ rg (f (352 + k)) (c + 1)
def okm (w h c : Nat) (f : Nat → Int32) : Prop := okc w h c f ∧ okp c f
def rW (I : fx_MI) : Nat := nv (I 0 3)
def rH (I : fx_MI) : Nat := nv (I 0 4)
def rC (I : fx_MI) : Nat := nv (I 0 5)
theorem dim_of {I : fx_MI} (h : dimM I) : (1 ≤ rW I ∧ rW I ≤ 8) ∧ (1 ≤ rH I ∧ rH I ≤ 8) ∧ (1 ≤ rC I ∧ rC I ≤ 3) ∧ I 0 3 = nI (rW I) ∧ I 0 4 = nI (rH I) ∧ I 0 5 = nI (rC I) := by
  obtain ⟨w, h', c, hw, hh, hc, e1, e2, e3⟩ := dimM_eq h
  simp (disch := omega) only [rW, rH, rC, e1, e2, e3, nv_nI]
  exact ⟨hw, hh, hc, trivial, trivial, trivial⟩
theorem cellsN_le {w h l : Nat} (hw : w ≤ 8) (hh : h ≤ 8) : cellsN w h l ≤ 8 := by
  unfold cellsN
  split <;> omega
theorem atN_lt {w h l i : Nat} (hw : w ≤ 8) (hh : h ≤ 8) (hl : l < h + w) (hi : i < cellsN w h l) : atN w h l i < w * h := by
  unfold cellsN at hi
  unfold atN
  split at hi
  · rename_i h1
    rw [if_pos h1]
    have h2 : w * l + w ≤ w * h := by
      rw [← Nat.mul_succ]
      exact Nat.mul_le_mul_left w h1
    omega
  · rename_i h1
    rw [if_neg h1]
    have h2 : w * i + w ≤ w * h := by
      rw [← Nat.mul_succ]
      exact Nat.mul_le_mul_left w hi
    omega
theorem wh_le {w h : Nat} (hw : w ≤ 8) (hh : h ≤ 8) : w * h ≤ 64 := Nat.mul_le_mul hw hh
theorem cells_eq {I : fx_MI} (h : dimM I) {l : Nat} (hl : l < 16) : cells_M I (nI l) = nI (cellsN (rW I) (rH I) l) := by
  obtain ⟨hw, hh, hc, e1, e2, e3⟩ := dim_of h
  unfold cells_M cellsN
  simp (disch := omega) only [e1, e2, nI_le']
  by_cases h1 : rH I ≤ l
  · rw [if_pos h1, if_neg (by omega)]
  · rw [if_neg h1, if_pos (by omega)]
theorem at_eq {I : fx_MI} (h : dimM I) {l i : Nat} (hl : l < 16) (hi : i < 8) : at_M I (nI l) (nI i) = nI (atN (rW I) (rH I) l i) := by
  obtain ⟨hw, hh, hc, e1, e2, e3⟩ := dim_of h
  unfold at_M atN
  simp (disch := omega) only [e1, e2, nI_le']
  by_cases h1 : rH I ≤ l
  · rw [if_pos h1, if_neg (by omega)]
    simp (disch := omega) only [nI_add, nI_mul', nI_sub']
  · rw [if_neg h1, if_pos (by omega)]
    simp (disch := omega) only [nI_add, nI_mul']
theorem room_le {c : Nat} {f : Nat → Int32} {l k : Nat} (h : okl c f l) (hk : k ≤ manyN f l) : roomN f l k ≤ 72 := by
  have h1 : manyN f l ≤ 8 := by
    have := (rg_eq h.2.1 (by omega)).2
    unfold manyN
    omega
  have h2 : sm (fun b => lenN f l b + gapN f l b) k ≤ k * 9 := sm_le (fun b hb => by
    have h3 := (rg_eq (h.2.2.2 b (by omega)).1.1 (by omega)).2
    have h4 : lenN f l b ≤ 8 := by unfold lenN; omega
    have h5 : gapN f l b ≤ 1 := by unfold gapN; split <;> omega
    omega)
  unfold roomN
  omega
theorem many_eq {c : Nat} {f : Nat → Int32} {l : Nat} (h : okl c f l) : f (16 + l) = nI (manyN f l) ∧ manyN f l ≤ 8 := by
  have := rg_eq h.2.1 (by omega)
  exact ⟨this.1, by unfold manyN; omega⟩
theorem len_eq {c : Nat} {f : Nat → Int32} {l b : Nat} (h : okl c f l) (hb : b < manyN f l) : f (32 + (8 * l + b)) = nI (lenN f l b) ∧ lenN f l b ≤ 8 ∧ 1 ≤ lenN f l b := by
  have h1 := h.2.2.2 b hb
  have := rg_eq h1.1.1 (by omega)
  exact ⟨this.1, by unfold lenN; omega, h1.1.2⟩
theorem col_eq {c : Nat} {f : Nat → Int32} {l b : Nat} (hc : c ≤ 3) (h : okl c f l) (hb : b < manyN f l) : f (160 + (8 * l + b)) = nI (colN f l b) ∧ colN f l b ≤ c ∧ 1 ≤ colN f l b := by
  have h1 := h.2.2.2 b hb
  have := rg_eq h1.2.1 (by omega)
  exact ⟨this.1, by unfold colN; omega, h1.2.2⟩
theorem has_eq {c : Nat} {f : Nat → Int32} {l : Nat} (h : okl c f l) : f l = nI (nv (f l)) ∧ nv (f l) ≤ 1 := by
  have := rg_eq h.1 (by omega)
  exact ⟨this.1, by omega⟩
def p_M_room : fx_Pr := fx_pr [(0, .iconst 0, 0), (1, .istore_n 2, 0), (2, .iconst 0, 0), (3, .istore_n 3, 0), (4, .iload_n 3, 0), (5, .aload_n 0, 0), (6, .getfield 7, 0), (9, .bipush 16, 0), (11, .iload_n 1, 0), (12, .iadd, 0), (13, .iaload, 0), (14, .if_icmp .ge 67, 81), (17, .bipush 8, 0), (19, .iload_n 1, 0), (20, .imul, 0), (21, .iload_n 3, 0), (22, .iadd, 0), (23, .istore 4, 0), (25, .iload_n 2, 0), (26, .aload_n 0, 0), (27, .getfield 7, 0), (30, .bipush 32, 0), (32, .iload 4, 0), (34, .iadd, 0), (35, .iaload, 0), (36, .iload_n 3, 0), (37, .ifCond .le 34, 71), (40, .aload_n 0, 0), (41, .getfield 7, 0), (44, .sipush 160, 0), (47, .iload 4, 0), (49, .iadd, 0), (50, .iaload, 0), (51, .aload_n 0, 0), (52, .getfield 7, 0), (55, .sipush 160, 0), (58, .iload 4, 0), (60, .iadd, 0), (61, .iconst 1, 0), (62, .isub, 0), (63, .iaload, 0), (64, .if_icmp .ne 7, 71), (67, .iconst 1, 0), (68, .goto 4, 72), (71, .iconst 0, 0), (72, .iadd, 0), (73, .iadd, 0), (74, .istore_n 2, 0), (75, .iinc 3 1, 0), (78, .goto (-74), 4), (81, .iload_n 2, 0), (82, .ireturn, 0)]
theorem pk_M_room : fx_prOK b_M_room p_M_room := fx_pr_ok (by decide +kernel)
theorem q_M_room_0 {nL : Nat} {M : fx_M} {ev : fx_Env} {ret : Option FieldType} {P : fx_P} {stops : List (Nat × Nat)} {K : fx_K} {n : Nat} {L : List (Option Value)} {st : List Value} {I : fx_MI} {J : fx_MJ} {R : fx_MR} {X : Nat → fx_K} (hX : fx_isX nL M ev ret P p_M_room stops K X) (hs : fx_stop stops 0 = none) : X (n + 1) 0 L st I J R = fx_S nL M ev ret P (.iconst 0) 0 0 L st I J R (X n) := hX.1 _ _ _ _ _ _ _ _ _ rfl hs
theorem q_M_room_1 {nL : Nat} {M : fx_M} {ev : fx_Env} {ret : Option FieldType} {P : fx_P} {stops : List (Nat × Nat)} {K : fx_K} {n : Nat} {L : List (Option Value)} {st : List Value} {I : fx_MI} {J : fx_MJ} {R : fx_MR} {X : Nat → fx_K} (hX : fx_isX nL M ev ret P p_M_room stops K X) (hs : fx_stop stops 1 = none) : X (n + 1) 1 L st I J R = fx_S nL M ev ret P (.istore_n 2) 0 1 L st I J R (X n) := hX.1 _ _ _ _ _ _ _ _ _ rfl hs
theorem q_M_room_2 {nL : Nat} {M : fx_M} {ev : fx_Env} {ret : Option FieldType} {P : fx_P} {stops : List (Nat × Nat)} {K : fx_K} {n : Nat} {L : List (Option Value)} {st : List Value} {I : fx_MI} {J : fx_MJ} {R : fx_MR} {X : Nat → fx_K} (hX : fx_isX nL M ev ret P p_M_room stops K X) (hs : fx_stop stops 2 = none) : X (n + 1) 2 L st I J R = fx_S nL M ev ret P (.iconst 0) 0 2 L st I J R (X n) := hX.1 _ _ _ _ _ _ _ _ _ rfl hs
theorem q_M_room_3 {nL : Nat} {M : fx_M} {ev : fx_Env} {ret : Option FieldType} {P : fx_P} {stops : List (Nat × Nat)} {K : fx_K} {n : Nat} {L : List (Option Value)} {st : List Value} {I : fx_MI} {J : fx_MJ} {R : fx_MR} {X : Nat → fx_K} (hX : fx_isX nL M ev ret P p_M_room stops K X) (hs : fx_stop stops 3 = none) : X (n + 1) 3 L st I J R = fx_S nL M ev ret P (.istore_n 3) 0 3 L st I J R (X n) := hX.1 _ _ _ _ _ _ _ _ _ rfl hs
theorem q_M_room_4 {nL : Nat} {M : fx_M} {ev : fx_Env} {ret : Option FieldType} {P : fx_P} {stops : List (Nat × Nat)} {K : fx_K} {n : Nat} {L : List (Option Value)} {st : List Value} {I : fx_MI} {J : fx_MJ} {R : fx_MR} {X : Nat → fx_K} (hX : fx_isX nL M ev ret P p_M_room stops K X) (hs : fx_stop stops 4 = none) : X (n + 1) 4 L st I J R = fx_S nL M ev ret P (.iload_n 3) 0 4 L st I J R (X n) := hX.1 _ _ _ _ _ _ _ _ _ rfl hs
theorem h_M_room_4 {nL : Nat} {M : fx_M} {ev : fx_Env} {ret : Option FieldType} {P : fx_P} {L : List (Option Value)} {st : List Value} {I : fx_MI} {J : fx_MJ} {R : fx_MR} {X : fx_K} : fx_go nL M ev ret P p_M_room X 4 L st I J R = fx_S nL M ev ret P (.iload_n 3) 0 4 L st I J R X := fx_go_at rfl
theorem q_M_room_5 {nL : Nat} {M : fx_M} {ev : fx_Env} {ret : Option FieldType} {P : fx_P} {stops : List (Nat × Nat)} {K : fx_K} {n : Nat} {L : List (Option Value)} {st : List Value} {I : fx_MI} {J : fx_MJ} {R : fx_MR} {X : Nat → fx_K} (hX : fx_isX nL M ev ret P p_M_room stops K X) (hs : fx_stop stops 5 = none) : X (n + 1) 5 L st I J R = fx_S nL M ev ret P (.aload_n 0) 0 5 L st I J R (X n) := hX.1 _ _ _ _ _ _ _ _ _ rfl hs
theorem q_M_room_6 {nL : Nat} {M : fx_M} {ev : fx_Env} {ret : Option FieldType} {P : fx_P} {stops : List (Nat × Nat)} {K : fx_K} {n : Nat} {L : List (Option Value)} {st : List Value} {I : fx_MI} {J : fx_MJ} {R : fx_MR} {X : Nat → fx_K} (hX : fx_isX nL M ev ret P p_M_room stops K X) (hs : fx_stop stops 6 = none) : X (n + 1) 6 L st I J R = fx_S nL M ev ret P (.getfield 7) 0 6 L st I J R (X n) := hX.1 _ _ _ _ _ _ _ _ _ rfl hs
theorem q_M_room_9 {nL : Nat} {M : fx_M} {ev : fx_Env} {ret : Option FieldType} {P : fx_P} {stops : List (Nat × Nat)} {K : fx_K} {n : Nat} {L : List (Option Value)} {st : List Value} {I : fx_MI} {J : fx_MJ} {R : fx_MR} {X : Nat → fx_K} (hX : fx_isX nL M ev ret P p_M_room stops K X) (hs : fx_stop stops 9 = none) : X (n + 1) 9 L st I J R = fx_S nL M ev ret P (.bipush 16) 0 9 L st I J R (X n) := hX.1 _ _ _ _ _ _ _ _ _ rfl hs
theorem q_M_room_11 {nL : Nat} {M : fx_M} {ev : fx_Env} {ret : Option FieldType} {P : fx_P} {stops : List (Nat × Nat)} {K : fx_K} {n : Nat} {L : List (Option Value)} {st : List Value} {I : fx_MI} {J : fx_MJ} {R : fx_MR} {X : Nat → fx_K} (hX : fx_isX nL M ev ret P p_M_room stops K X) (hs : fx_stop stops 11 = none) : X (n + 1) 11 L st I J R = fx_S nL M ev ret P (.iload_n 1) 0 11 L st I J R (X n) := hX.1 _ _ _ _ _ _ _ _ _ rfl hs
theorem q_M_room_12 {nL : Nat} {M : fx_M} {ev : fx_Env} {ret : Option FieldType} {P : fx_P} {stops : List (Nat × Nat)} {K : fx_K} {n : Nat} {L : List (Option Value)} {st : List Value} {I : fx_MI} {J : fx_MJ} {R : fx_MR} {X : Nat → fx_K} (hX : fx_isX nL M ev ret P p_M_room stops K X) (hs : fx_stop stops 12 = none) : X (n + 1) 12 L st I J R = fx_S nL M ev ret P (.iadd) 0 12 L st I J R (X n) := hX.1 _ _ _ _ _ _ _ _ _ rfl hs
theorem q_M_room_13 {nL : Nat} {M : fx_M} {ev : fx_Env} {ret : Option FieldType} {P : fx_P} {stops : List (Nat × Nat)} {K : fx_K} {n : Nat} {L : List (Option Value)} {st : List Value} {I : fx_MI} {J : fx_MJ} {R : fx_MR} {X : Nat → fx_K} (hX : fx_isX nL M ev ret P p_M_room stops K X) (hs : fx_stop stops 13 = none) : X (n + 1) 13 L st I J R = fx_S nL M ev ret P (.iaload) 0 13 L st I J R (X n) := hX.1 _ _ _ _ _ _ _ _ _ rfl hs
theorem q_M_room_14 {nL : Nat} {M : fx_M} {ev : fx_Env} {ret : Option FieldType} {P : fx_P} {stops : List (Nat × Nat)} {K : fx_K} {n : Nat} {L : List (Option Value)} {st : List Value} {I : fx_MI} {J : fx_MJ} {R : fx_MR} {x y : Int32} {X : Nat → fx_K} (hX : fx_isX nL M ev ret P p_M_room stops K X) (hs : fx_stop stops 14 = none) : X (n + 1) 14 L (.int y :: .int x :: st) I J R = ((y ≤ x → X n 81 L st I J R) ∧ (¬ y ≤ x → X n 17 L st I J R)) := fx_q_icmp hX rfl hs rfl
theorem q_M_room_17 {nL : Nat} {M : fx_M} {ev : fx_Env} {ret : Option FieldType} {P : fx_P} {stops : List (Nat × Nat)} {K : fx_K} {n : Nat} {L : List (Option Value)} {st : List Value} {I : fx_MI} {J : fx_MJ} {R : fx_MR} {X : Nat → fx_K} (hX : fx_isX nL M ev ret P p_M_room stops K X) (hs : fx_stop stops 17 = none) : X (n + 1) 17 L st I J R = fx_S nL M ev ret P (.bipush 8) 0 17 L st I J R (X n) := hX.1 _ _ _ _ _ _ _ _ _ rfl hs
theorem q_M_room_19 {nL : Nat} {M : fx_M} {ev : fx_Env} {ret : Option FieldType} {P : fx_P} {stops : List (Nat × Nat)} {K : fx_K} {n : Nat} {L : List (Option Value)} {st : List Value} {I : fx_MI} {J : fx_MJ} {R : fx_MR} {X : Nat → fx_K} (hX : fx_isX nL M ev ret P p_M_room stops K X) (hs : fx_stop stops 19 = none) : X (n + 1) 19 L st I J R = fx_S nL M ev ret P (.iload_n 1) 0 19 L st I J R (X n) := hX.1 _ _ _ _ _ _ _ _ _ rfl hs
theorem q_M_room_20 {nL : Nat} {M : fx_M} {ev : fx_Env} {ret : Option FieldType} {P : fx_P} {stops : List (Nat × Nat)} {K : fx_K} {n : Nat} {L : List (Option Value)} {st : List Value} {I : fx_MI} {J : fx_MJ} {R : fx_MR} {X : Nat → fx_K} (hX : fx_isX nL M ev ret P p_M_room stops K X) (hs : fx_stop stops 20 = none) : X (n + 1) 20 L st I J R = fx_S nL M ev ret P (.imul) 0 20 L st I J R (X n) := hX.1 _ _ _ _ _ _ _ _ _ rfl hs
theorem q_M_room_21 {nL : Nat} {M : fx_M} {ev : fx_Env} {ret : Option FieldType} {P : fx_P} {stops : List (Nat × Nat)} {K : fx_K} {n : Nat} {L : List (Option Value)} {st : List Value} {I : fx_MI} {J : fx_MJ} {R : fx_MR} {X : Nat → fx_K} (hX : fx_isX nL M ev ret P p_M_room stops K X) (hs : fx_stop stops 21 = none) : X (n + 1) 21 L st I J R = fx_S nL M ev ret P (.iload_n 3) 0 21 L st I J R (X n) := hX.1 _ _ _ _ _ _ _ _ _ rfl hs
theorem q_M_room_22 {nL : Nat} {M : fx_M} {ev : fx_Env} {ret : Option FieldType} {P : fx_P} {stops : List (Nat × Nat)} {K : fx_K} {n : Nat} {L : List (Option Value)} {st : List Value} {I : fx_MI} {J : fx_MJ} {R : fx_MR} {X : Nat → fx_K} (hX : fx_isX nL M ev ret P p_M_room stops K X) (hs : fx_stop stops 22 = none) : X (n + 1) 22 L st I J R = fx_S nL M ev ret P (.iadd) 0 22 L st I J R (X n) := hX.1 _ _ _ _ _ _ _ _ _ rfl hs
theorem q_M_room_23 {nL : Nat} {M : fx_M} {ev : fx_Env} {ret : Option FieldType} {P : fx_P} {stops : List (Nat × Nat)} {K : fx_K} {n : Nat} {L : List (Option Value)} {st : List Value} {I : fx_MI} {J : fx_MJ} {R : fx_MR} {X : Nat → fx_K} (hX : fx_isX nL M ev ret P p_M_room stops K X) (hs : fx_stop stops 23 = none) : X (n + 1) 23 L st I J R = fx_S nL M ev ret P (.istore 4) 0 23 L st I J R (X n) := hX.1 _ _ _ _ _ _ _ _ _ rfl hs
theorem q_M_room_25 {nL : Nat} {M : fx_M} {ev : fx_Env} {ret : Option FieldType} {P : fx_P} {stops : List (Nat × Nat)} {K : fx_K} {n : Nat} {L : List (Option Value)} {st : List Value} {I : fx_MI} {J : fx_MJ} {R : fx_MR} {X : Nat → fx_K} (hX : fx_isX nL M ev ret P p_M_room stops K X) (hs : fx_stop stops 25 = none) : X (n + 1) 25 L st I J R = fx_S nL M ev ret P (.iload_n 2) 0 25 L st I J R (X n) := hX.1 _ _ _ _ _ _ _ _ _ rfl hs
theorem q_M_room_26 {nL : Nat} {M : fx_M} {ev : fx_Env} {ret : Option FieldType} {P : fx_P} {stops : List (Nat × Nat)} {K : fx_K} {n : Nat} {L : List (Option Value)} {st : List Value} {I : fx_MI} {J : fx_MJ} {R : fx_MR} {X : Nat → fx_K} (hX : fx_isX nL M ev ret P p_M_room stops K X) (hs : fx_stop stops 26 = none) : X (n + 1) 26 L st I J R = fx_S nL M ev ret P (.aload_n 0) 0 26 L st I J R (X n) := hX.1 _ _ _ _ _ _ _ _ _ rfl hs
theorem q_M_room_27 {nL : Nat} {M : fx_M} {ev : fx_Env} {ret : Option FieldType} {P : fx_P} {stops : List (Nat × Nat)} {K : fx_K} {n : Nat} {L : List (Option Value)} {st : List Value} {I : fx_MI} {J : fx_MJ} {R : fx_MR} {X : Nat → fx_K} (hX : fx_isX nL M ev ret P p_M_room stops K X) (hs : fx_stop stops 27 = none) : X (n + 1) 27 L st I J R = fx_S nL M ev ret P (.getfield 7) 0 27 L st I J R (X n) := hX.1 _ _ _ _ _ _ _ _ _ rfl hs
theorem q_M_room_30 {nL : Nat} {M : fx_M} {ev : fx_Env} {ret : Option FieldType} {P : fx_P} {stops : List (Nat × Nat)} {K : fx_K} {n : Nat} {L : List (Option Value)} {st : List Value} {I : fx_MI} {J : fx_MJ} {R : fx_MR} {X : Nat → fx_K} (hX : fx_isX nL M ev ret P p_M_room stops K X) (hs : fx_stop stops 30 = none) : X (n + 1) 30 L st I J R = fx_S nL M ev ret P (.bipush 32) 0 30 L st I J R (X n) := hX.1 _ _ _ _ _ _ _ _ _ rfl hs
theorem q_M_room_32 {nL : Nat} {M : fx_M} {ev : fx_Env} {ret : Option FieldType} {P : fx_P} {stops : List (Nat × Nat)} {K : fx_K} {n : Nat} {L : List (Option Value)} {st : List Value} {I : fx_MI} {J : fx_MJ} {R : fx_MR} {X : Nat → fx_K} (hX : fx_isX nL M ev ret P p_M_room stops K X) (hs : fx_stop stops 32 = none) : X (n + 1) 32 L st I J R = fx_S nL M ev ret P (.iload 4) 0 32 L st I J R (X n) := hX.1 _ _ _ _ _ _ _ _ _ rfl hs
theorem q_M_room_34 {nL : Nat} {M : fx_M} {ev : fx_Env} {ret : Option FieldType} {P : fx_P} {stops : List (Nat × Nat)} {K : fx_K} {n : Nat} {L : List (Option Value)} {st : List Value} {I : fx_MI} {J : fx_MJ} {R : fx_MR} {X : Nat → fx_K} (hX : fx_isX nL M ev ret P p_M_room stops K X) (hs : fx_stop stops 34 = none) : X (n + 1) 34 L st I J R = fx_S nL M ev ret P (.iadd) 0 34 L st I J R (X n) := hX.1 _ _ _ _ _ _ _ _ _ rfl hs
theorem q_M_room_35 {nL : Nat} {M : fx_M} {ev : fx_Env} {ret : Option FieldType} {P : fx_P} {stops : List (Nat × Nat)} {K : fx_K} {n : Nat} {L : List (Option Value)} {st : List Value} {I : fx_MI} {J : fx_MJ} {R : fx_MR} {X : Nat → fx_K} (hX : fx_isX nL M ev ret P p_M_room stops K X) (hs : fx_stop stops 35 = none) : X (n + 1) 35 L st I J R = fx_S nL M ev ret P (.iaload) 0 35 L st I J R (X n) := hX.1 _ _ _ _ _ _ _ _ _ rfl hs
theorem q_M_room_36 {nL : Nat} {M : fx_M} {ev : fx_Env} {ret : Option FieldType} {P : fx_P} {stops : List (Nat × Nat)} {K : fx_K} {n : Nat} {L : List (Option Value)} {st : List Value} {I : fx_MI} {J : fx_MJ} {R : fx_MR} {X : Nat → fx_K} (hX : fx_isX nL M ev ret P p_M_room stops K X) (hs : fx_stop stops 36 = none) : X (n + 1) 36 L st I J R = fx_S nL M ev ret P (.iload_n 3) 0 36 L st I J R (X n) := hX.1 _ _ _ _ _ _ _ _ _ rfl hs
theorem q_M_room_37 {nL : Nat} {M : fx_M} {ev : fx_Env} {ret : Option FieldType} {P : fx_P} {stops : List (Nat × Nat)} {K : fx_K} {n : Nat} {L : List (Option Value)} {st : List Value} {I : fx_MI} {J : fx_MJ} {R : fx_MR} {x : Int32} {X : Nat → fx_K} (hX : fx_isX nL M ev ret P p_M_room stops K X) (hs : fx_stop stops 37 = none) : X (n + 1) 37 L (.int x :: st) I J R = ((x ≤ 0 → X n 71 L st I J R) ∧ (¬ x ≤ 0 → X n 40 L st I J R)) := fx_q_if hX rfl hs rfl
theorem q_M_room_40 {nL : Nat} {M : fx_M} {ev : fx_Env} {ret : Option FieldType} {P : fx_P} {stops : List (Nat × Nat)} {K : fx_K} {n : Nat} {L : List (Option Value)} {st : List Value} {I : fx_MI} {J : fx_MJ} {R : fx_MR} {X : Nat → fx_K} (hX : fx_isX nL M ev ret P p_M_room stops K X) (hs : fx_stop stops 40 = none) : X (n + 1) 40 L st I J R = fx_S nL M ev ret P (.aload_n 0) 0 40 L st I J R (X n) := hX.1 _ _ _ _ _ _ _ _ _ rfl hs
theorem q_M_room_41 {nL : Nat} {M : fx_M} {ev : fx_Env} {ret : Option FieldType} {P : fx_P} {stops : List (Nat × Nat)} {K : fx_K} {n : Nat} {L : List (Option Value)} {st : List Value} {I : fx_MI} {J : fx_MJ} {R : fx_MR} {X : Nat → fx_K} (hX : fx_isX nL M ev ret P p_M_room stops K X) (hs : fx_stop stops 41 = none) : X (n + 1) 41 L st I J R = fx_S nL M ev ret P (.getfield 7) 0 41 L st I J R (X n) := hX.1 _ _ _ _ _ _ _ _ _ rfl hs
theorem q_M_room_44 {nL : Nat} {M : fx_M} {ev : fx_Env} {ret : Option FieldType} {P : fx_P} {stops : List (Nat × Nat)} {K : fx_K} {n : Nat} {L : List (Option Value)} {st : List Value} {I : fx_MI} {J : fx_MJ} {R : fx_MR} {X : Nat → fx_K} (hX : fx_isX nL M ev ret P p_M_room stops K X) (hs : fx_stop stops 44 = none) : X (n + 1) 44 L st I J R = fx_S nL M ev ret P (.sipush 160) 0 44 L st I J R (X n) := hX.1 _ _ _ _ _ _ _ _ _ rfl hs
theorem q_M_room_47 {nL : Nat} {M : fx_M} {ev : fx_Env} {ret : Option FieldType} {P : fx_P} {stops : List (Nat × Nat)} {K : fx_K} {n : Nat} {L : List (Option Value)} {st : List Value} {I : fx_MI} {J : fx_MJ} {R : fx_MR} {X : Nat → fx_K} (hX : fx_isX nL M ev ret P p_M_room stops K X) (hs : fx_stop stops 47 = none) : X (n + 1) 47 L st I J R = fx_S nL M ev ret P (.iload 4) 0 47 L st I J R (X n) := hX.1 _ _ _ _ _ _ _ _ _ rfl hs
theorem q_M_room_49 {nL : Nat} {M : fx_M} {ev : fx_Env} {ret : Option FieldType} {P : fx_P} {stops : List (Nat × Nat)} {K : fx_K} {n : Nat} {L : List (Option Value)} {st : List Value} {I : fx_MI} {J : fx_MJ} {R : fx_MR} {X : Nat → fx_K} (hX : fx_isX nL M ev ret P p_M_room stops K X) (hs : fx_stop stops 49 = none) : X (n + 1) 49 L st I J R = fx_S nL M ev ret P (.iadd) 0 49 L st I J R (X n) := hX.1 _ _ _ _ _ _ _ _ _ rfl hs
theorem q_M_room_50 {nL : Nat} {M : fx_M} {ev : fx_Env} {ret : Option FieldType} {P : fx_P} {stops : List (Nat × Nat)} {K : fx_K} {n : Nat} {L : List (Option Value)} {st : List Value} {I : fx_MI} {J : fx_MJ} {R : fx_MR} {X : Nat → fx_K} (hX : fx_isX nL M ev ret P p_M_room stops K X) (hs : fx_stop stops 50 = none) : X (n + 1) 50 L st I J R = fx_S nL M ev ret P (.iaload) 0 50 L st I J R (X n) := hX.1 _ _ _ _ _ _ _ _ _ rfl hs
theorem q_M_room_51 {nL : Nat} {M : fx_M} {ev : fx_Env} {ret : Option FieldType} {P : fx_P} {stops : List (Nat × Nat)} {K : fx_K} {n : Nat} {L : List (Option Value)} {st : List Value} {I : fx_MI} {J : fx_MJ} {R : fx_MR} {X : Nat → fx_K} (hX : fx_isX nL M ev ret P p_M_room stops K X) (hs : fx_stop stops 51 = none) : X (n + 1) 51 L st I J R = fx_S nL M ev ret P (.aload_n 0) 0 51 L st I J R (X n) := hX.1 _ _ _ _ _ _ _ _ _ rfl hs
theorem q_M_room_52 {nL : Nat} {M : fx_M} {ev : fx_Env} {ret : Option FieldType} {P : fx_P} {stops : List (Nat × Nat)} {K : fx_K} {n : Nat} {L : List (Option Value)} {st : List Value} {I : fx_MI} {J : fx_MJ} {R : fx_MR} {X : Nat → fx_K} (hX : fx_isX nL M ev ret P p_M_room stops K X) (hs : fx_stop stops 52 = none) : X (n + 1) 52 L st I J R = fx_S nL M ev ret P (.getfield 7) 0 52 L st I J R (X n) := hX.1 _ _ _ _ _ _ _ _ _ rfl hs
theorem q_M_room_55 {nL : Nat} {M : fx_M} {ev : fx_Env} {ret : Option FieldType} {P : fx_P} {stops : List (Nat × Nat)} {K : fx_K} {n : Nat} {L : List (Option Value)} {st : List Value} {I : fx_MI} {J : fx_MJ} {R : fx_MR} {X : Nat → fx_K} (hX : fx_isX nL M ev ret P p_M_room stops K X) (hs : fx_stop stops 55 = none) : X (n + 1) 55 L st I J R = fx_S nL M ev ret P (.sipush 160) 0 55 L st I J R (X n) := hX.1 _ _ _ _ _ _ _ _ _ rfl hs
theorem q_M_room_58 {nL : Nat} {M : fx_M} {ev : fx_Env} {ret : Option FieldType} {P : fx_P} {stops : List (Nat × Nat)} {K : fx_K} {n : Nat} {L : List (Option Value)} {st : List Value} {I : fx_MI} {J : fx_MJ} {R : fx_MR} {X : Nat → fx_K} (hX : fx_isX nL M ev ret P p_M_room stops K X) (hs : fx_stop stops 58 = none) : X (n + 1) 58 L st I J R = fx_S nL M ev ret P (.iload 4) 0 58 L st I J R (X n) := hX.1 _ _ _ _ _ _ _ _ _ rfl hs
theorem q_M_room_60 {nL : Nat} {M : fx_M} {ev : fx_Env} {ret : Option FieldType} {P : fx_P} {stops : List (Nat × Nat)} {K : fx_K} {n : Nat} {L : List (Option Value)} {st : List Value} {I : fx_MI} {J : fx_MJ} {R : fx_MR} {X : Nat → fx_K} (hX : fx_isX nL M ev ret P p_M_room stops K X) (hs : fx_stop stops 60 = none) : X (n + 1) 60 L st I J R = fx_S nL M ev ret P (.iadd) 0 60 L st I J R (X n) := hX.1 _ _ _ _ _ _ _ _ _ rfl hs
theorem q_M_room_61 {nL : Nat} {M : fx_M} {ev : fx_Env} {ret : Option FieldType} {P : fx_P} {stops : List (Nat × Nat)} {K : fx_K} {n : Nat} {L : List (Option Value)} {st : List Value} {I : fx_MI} {J : fx_MJ} {R : fx_MR} {X : Nat → fx_K} (hX : fx_isX nL M ev ret P p_M_room stops K X) (hs : fx_stop stops 61 = none) : X (n + 1) 61 L st I J R = fx_S nL M ev ret P (.iconst 1) 0 61 L st I J R (X n) := hX.1 _ _ _ _ _ _ _ _ _ rfl hs
theorem q_M_room_62 {nL : Nat} {M : fx_M} {ev : fx_Env} {ret : Option FieldType} {P : fx_P} {stops : List (Nat × Nat)} {K : fx_K} {n : Nat} {L : List (Option Value)} {st : List Value} {I : fx_MI} {J : fx_MJ} {R : fx_MR} {X : Nat → fx_K} (hX : fx_isX nL M ev ret P p_M_room stops K X) (hs : fx_stop stops 62 = none) : X (n + 1) 62 L st I J R = fx_S nL M ev ret P (.isub) 0 62 L st I J R (X n) := hX.1 _ _ _ _ _ _ _ _ _ rfl hs
theorem q_M_room_63 {nL : Nat} {M : fx_M} {ev : fx_Env} {ret : Option FieldType} {P : fx_P} {stops : List (Nat × Nat)} {K : fx_K} {n : Nat} {L : List (Option Value)} {st : List Value} {I : fx_MI} {J : fx_MJ} {R : fx_MR} {X : Nat → fx_K} (hX : fx_isX nL M ev ret P p_M_room stops K X) (hs : fx_stop stops 63 = none) : X (n + 1) 63 L st I J R = fx_S nL M ev ret P (.iaload) 0 63 L st I J R (X n) := hX.1 _ _ _ _ _ _ _ _ _ rfl hs
theorem q_M_room_64 {nL : Nat} {M : fx_M} {ev : fx_Env} {ret : Option FieldType} {P : fx_P} {stops : List (Nat × Nat)} {K : fx_K} {n : Nat} {L : List (Option Value)} {st : List Value} {I : fx_MI} {J : fx_MJ} {R : fx_MR} {x y : Int32} {X : Nat → fx_K} (hX : fx_isX nL M ev ret P p_M_room stops K X) (hs : fx_stop stops 64 = none) : X (n + 1) 64 L (.int y :: .int x :: st) I J R = ((¬ x = y → X n 71 L st I J R) ∧ (x = y → X n 67 L st I J R)) := fx_q_icmpne hX rfl hs rfl
theorem q_M_room_67 {nL : Nat} {M : fx_M} {ev : fx_Env} {ret : Option FieldType} {P : fx_P} {stops : List (Nat × Nat)} {K : fx_K} {n : Nat} {L : List (Option Value)} {st : List Value} {I : fx_MI} {J : fx_MJ} {R : fx_MR} {X : Nat → fx_K} (hX : fx_isX nL M ev ret P p_M_room stops K X) (hs : fx_stop stops 67 = none) : X (n + 1) 67 L st I J R = fx_S nL M ev ret P (.iconst 1) 0 67 L st I J R (X n) := hX.1 _ _ _ _ _ _ _ _ _ rfl hs
theorem q_M_room_68 {nL : Nat} {M : fx_M} {ev : fx_Env} {ret : Option FieldType} {P : fx_P} {stops : List (Nat × Nat)} {K : fx_K} {n : Nat} {L : List (Option Value)} {st : List Value} {I : fx_MI} {J : fx_MJ} {R : fx_MR} {X : Nat → fx_K} (hX : fx_isX nL M ev ret P p_M_room stops K X) (hs : fx_stop stops 68 = none) : X (n + 1) 68 L st I J R = X n 72 L st I J R := fx_q_goto hX rfl hs rfl
theorem q_M_room_71 {nL : Nat} {M : fx_M} {ev : fx_Env} {ret : Option FieldType} {P : fx_P} {stops : List (Nat × Nat)} {K : fx_K} {n : Nat} {L : List (Option Value)} {st : List Value} {I : fx_MI} {J : fx_MJ} {R : fx_MR} {X : Nat → fx_K} (hX : fx_isX nL M ev ret P p_M_room stops K X) (hs : fx_stop stops 71 = none) : X (n + 1) 71 L st I J R = fx_S nL M ev ret P (.iconst 0) 0 71 L st I J R (X n) := hX.1 _ _ _ _ _ _ _ _ _ rfl hs
theorem q_M_room_72 {nL : Nat} {M : fx_M} {ev : fx_Env} {ret : Option FieldType} {P : fx_P} {stops : List (Nat × Nat)} {K : fx_K} {n : Nat} {L : List (Option Value)} {st : List Value} {I : fx_MI} {J : fx_MJ} {R : fx_MR} {X : Nat → fx_K} (hX : fx_isX nL M ev ret P p_M_room stops K X) (hs : fx_stop stops 72 = none) : X (n + 1) 72 L st I J R = fx_S nL M ev ret P (.iadd) 0 72 L st I J R (X n) := hX.1 _ _ _ _ _ _ _ _ _ rfl hs
theorem q_M_room_73 {nL : Nat} {M : fx_M} {ev : fx_Env} {ret : Option FieldType} {P : fx_P} {stops : List (Nat × Nat)} {K : fx_K} {n : Nat} {L : List (Option Value)} {st : List Value} {I : fx_MI} {J : fx_MJ} {R : fx_MR} {X : Nat → fx_K} (hX : fx_isX nL M ev ret P p_M_room stops K X) (hs : fx_stop stops 73 = none) : X (n + 1) 73 L st I J R = fx_S nL M ev ret P (.iadd) 0 73 L st I J R (X n) := hX.1 _ _ _ _ _ _ _ _ _ rfl hs
theorem q_M_room_74 {nL : Nat} {M : fx_M} {ev : fx_Env} {ret : Option FieldType} {P : fx_P} {stops : List (Nat × Nat)} {K : fx_K} {n : Nat} {L : List (Option Value)} {st : List Value} {I : fx_MI} {J : fx_MJ} {R : fx_MR} {X : Nat → fx_K} (hX : fx_isX nL M ev ret P p_M_room stops K X) (hs : fx_stop stops 74 = none) : X (n + 1) 74 L st I J R = fx_S nL M ev ret P (.istore_n 2) 0 74 L st I J R (X n) := hX.1 _ _ _ _ _ _ _ _ _ rfl hs
theorem q_M_room_75 {nL : Nat} {M : fx_M} {ev : fx_Env} {ret : Option FieldType} {P : fx_P} {stops : List (Nat × Nat)} {K : fx_K} {n : Nat} {L : List (Option Value)} {st : List Value} {I : fx_MI} {J : fx_MJ} {R : fx_MR} {X : Nat → fx_K} (hX : fx_isX nL M ev ret P p_M_room stops K X) (hs : fx_stop stops 75 = none) : X (n + 1) 75 L st I J R = fx_S nL M ev ret P (.iinc 3 1) 0 75 L st I J R (X n) := hX.1 _ _ _ _ _ _ _ _ _ rfl hs
theorem q_M_room_78 {nL : Nat} {M : fx_M} {ev : fx_Env} {ret : Option FieldType} {P : fx_P} {stops : List (Nat × Nat)} {K : fx_K} {n : Nat} {L : List (Option Value)} {st : List Value} {I : fx_MI} {J : fx_MJ} {R : fx_MR} {X : Nat → fx_K} (hX : fx_isX nL M ev ret P p_M_room stops K X) (hs : fx_stop stops 78 = none) : X (n + 1) 78 L st I J R = X n 4 L st I J R := fx_q_goto hX rfl hs rfl
theorem q_M_room_81 {nL : Nat} {M : fx_M} {ev : fx_Env} {ret : Option FieldType} {P : fx_P} {stops : List (Nat × Nat)} {K : fx_K} {n : Nat} {L : List (Option Value)} {st : List Value} {I : fx_MI} {J : fx_MJ} {R : fx_MR} {X : Nat → fx_K} (hX : fx_isX nL M ev ret P p_M_room stops K X) (hs : fx_stop stops 81 = none) : X (n + 1) 81 L st I J R = fx_S nL M ev ret P (.iload_n 2) 0 81 L st I J R (X n) := hX.1 _ _ _ _ _ _ _ _ _ rfl hs
theorem q_M_room_82 {nL : Nat} {M : fx_M} {ev : fx_Env} {ret : Option FieldType} {P : fx_P} {stops : List (Nat × Nat)} {K : fx_K} {n : Nat} {L : List (Option Value)} {st : List Value} {I : fx_MI} {J : fx_MJ} {R : fx_MR} {X : Nat → fx_K} (hX : fx_isX nL M ev ret P p_M_room stops K X) (hs : fx_stop stops 82 = none) : X (n + 1) 82 L st I J R = fx_S nL M ev ret P (.ireturn) 0 82 L st I J R (X n) := hX.1 _ _ _ _ _ _ _ _ _ rfl hs
def pre_M_room : fx_Pre := fun st I J R => R = R0_M ∧ (match st with
  | [.ref 0, .int l] => rg l 16 ∧ okl 3 (I 1) (nv l)
  | _ => False)
theorem pi_M_room {st : List Value} {I : fx_MI} {J : fx_MJ} {R : fx_MR} (h : pre_M_room st I J R) : R = R0_M ∧ ∃ l, st = [.ref 0, .int l] ∧ (rg l 16 ∧ okl 3 (I 1) (nv l)) := by
  unfold pre_M_room at h
  obtain ⟨h0, h⟩ := h
  split at h
  · exact ⟨h0, _, rfl, h⟩
  · cases h
def post_M_room : fx_Post := fun st I J R r I' J' R' => match st with
  | [_, .int l] => r = some (.int (nI (roomN (I 1) (nv l) (manyN (I 1) (nv l))))) ∧ I' = I ∧ J' = J ∧ R' = R
  | _ => True
theorem pz_M_room {st : List Value} {I : fx_MI} {J : fx_MJ} {R : fx_MR} (h : pre_M_room st I J R) : ∃ q r, st = .ref q :: r ∧ MM.2.2.1 q = some (.inl 0) ∧ r.length = 1 := by
  obtain ⟨_, _, rfl, _⟩ := pi_M_room h
  exact ⟨_, _, rfl, rfl, rfl⟩
def v_M_room : fx_Env := [(.getfield 7, fx_tget MM 0 0)]
abbrev rm_M_room : Room := { frames := 0, cells := 0, slots := 0, locals := 0 }
abbrev ws_M_room : List Cond := Cond.code y_M_room b_M_room 5 (some .int) :: w_M
theorem vk_M_room {l : Launch} : fx_EV l R_M ws_M_room rm_M_room MM 5 b_M_room v_M_room := (fx_EV_cons e_M_g7 fx_EV_nil)
theorem r_M_room (st : List Value) (I : fx_MI) (J : fx_MJ) (R : fx_MR) (h : pre_M_room st I J R) : fx_sz st ≤ 5 ∧ fx_R 5 MM v_M_room (some .int) (post_M_room st I J R) p_M_room 0 (fx_en st) [] I J R := by
  obtain ⟨rfl, l, rfl, hp⟩ := pi_M_room h
  clear h
  refine ⟨Nat.le_of_ble_eq_true rfl, ?_⟩
  obtain ⟨⟨l, hl, rfl⟩, hok⟩ := hp
  rw [nv_nI (by omega)] at hok
  obtain ⟨hm, hm8⟩ := many_eq hok
  have hpost : ∀ x, x = roomN (I 1) l (manyN (I 1) l) → post_M_room [.ref 0, .int (nI l)] I J R0_M (some (.int (nI x))) I J R0_M := by
    rintro x rfl
    simp (disch := omega) only [post_M_room, nv_nI, and_self]
  refine fx_for 4 4 90 90 (manyN (I 1) l) (fun k L st I' J' R' => L = [some (.ref 0), some (.int (nI l)), some (.int (nI (roomN (I 1) l k))), some (.int (nI k))] ∧ st = [] ∧ I' = I ∧ J' = J ∧ R' = R0_M) ?_ ?_
  · intro X hX
    simp only [q_M_room_0 hX rfl, q_M_room_1 hX rfl, q_M_room_2 hX rfl, q_M_room_3 hX rfl, hX.2 _ 4 4 _ _ _ _ _ rfl, q_M_room_5 hX rfl, q_M_room_6 hX rfl, q_M_room_9 hX rfl, q_M_room_11 hX rfl, q_M_room_12 hX rfl, q_M_room_13 hX rfl, q_M_room_14 hX rfl, q_M_room_17 hX rfl, q_M_room_19 hX rfl, q_M_room_20 hX rfl, q_M_room_21 hX rfl, q_M_room_22 hX rfl, q_M_room_23 hX rfl, q_M_room_25 hX rfl, q_M_room_26 hX rfl, q_M_room_27 hX rfl, q_M_room_30 hX rfl, q_M_room_32 hX rfl, q_M_room_34 hX rfl, q_M_room_35 hX rfl, q_M_room_36 hX rfl, q_M_room_37 hX rfl, q_M_room_40 hX rfl, q_M_room_41 hX rfl, q_M_room_44 hX rfl, q_M_room_47 hX rfl, q_M_room_49 hX rfl, q_M_room_50 hX rfl, q_M_room_51 hX rfl, q_M_room_52 hX rfl, q_M_room_55 hX rfl, q_M_room_58 hX rfl, q_M_room_60 hX rfl, q_M_room_61 hX rfl, q_M_room_62 hX rfl, q_M_room_63 hX rfl, q_M_room_64 hX rfl, q_M_room_67 hX rfl, q_M_room_68 hX rfl, q_M_room_71 hX rfl, q_M_room_72 hX rfl, q_M_room_73 hX rfl, q_M_room_74 hX rfl, q_M_room_75 hX rfl, q_M_room_78 hX rfl, q_M_room_81 hX rfl, q_M_room_82 hX rfl, h_M_room_4, fs_aload_n0, fs_aload_n1, fs_aload_n2, fs_aload_n3, fs_bipush, fs_getfield, fs_goto, fs_iadd, fs_iaload, fs_iconst, fs_ifCond, fs_if_icmp, fs_iinc, fs_iload, fs_iload_n0, fs_iload_n1, fs_iload_n2, fs_iload_n3, fs_imul, fs_ireturn, fs_istore, fs_istore_n0, fs_istore_n1, fs_istore_n2, fs_istore_n3, fs_isub, fs_sipush, v_M_room, ci_0, lt_2_5, lt_3_5, cb_16, cb_8, lt_4_5, cb_32, cs_160, ci_1, kd_M_0, R0_M_0, pl_M_1, pl_M_0, fx_oi_s, fx_ol_s, fx_or_s, fx_do_s, fx_lg_0, fx_lg_s, fx_ls_0, fx_ls_s, fx_ls_n0, fx_ls_ns, fx_en, fx_sz, Value.category, fx_nl, fx_lk, fx_tget, fx_tput, fx_tcall, fx_tldc, fx_fv, va_rf, fx_cat, fx_in, fx_cnd, fx_len, fx_narI, fx_narZ0, fx_narZ1, fx_narZb, zb_e, zb_ne, Option.some.injEq, Value.int.injEq, Value.long.injEq, Value.ref.injEq, List.cons.injEq, Nat.reduceAdd, Nat.reduceLeDiff, Nat.le_refl, List.take, List.drop, List.reverse_cons, List.reverse_nil, List.nil_append, List.cons_append, List.append_nil, List.map_cons, List.map_nil, List.sum_cons, List.sum_nil, List.length_cons, List.length_nil, Option.toList, fx_all4, forall_const, true_and, and_true, not_true_eq_false, not_false_eq_true, false_implies, true_implies, ne_eq, reduceCtorEq, Nat.reduceEqDiff, ite_true, ite_false, reduceIte, Instr.getfield.injEq, Instr.putfield.injEq, Instr.invokevirtual.injEq, Instr.invokestatic.injEq, Instr.ldc2_w.injEq]
    exact ⟨rfl, rfl⟩
  · rintro k X hk hX L st I' J' R' ⟨rfl, rfl, rfl, rfl, rfl⟩
    simp (disch := omega) only [q_M_room_0 hX rfl, q_M_room_1 hX rfl, q_M_room_2 hX rfl, q_M_room_3 hX rfl, hX.2 _ 4 4 _ _ _ _ _ rfl, q_M_room_5 hX rfl, q_M_room_6 hX rfl, q_M_room_9 hX rfl, q_M_room_11 hX rfl, q_M_room_12 hX rfl, q_M_room_13 hX rfl, q_M_room_14 hX rfl, q_M_room_17 hX rfl, q_M_room_19 hX rfl, q_M_room_20 hX rfl, q_M_room_21 hX rfl, q_M_room_22 hX rfl, q_M_room_23 hX rfl, q_M_room_25 hX rfl, q_M_room_26 hX rfl, q_M_room_27 hX rfl, q_M_room_30 hX rfl, q_M_room_32 hX rfl, q_M_room_34 hX rfl, q_M_room_35 hX rfl, q_M_room_36 hX rfl, q_M_room_37 hX rfl, q_M_room_40 hX rfl, q_M_room_41 hX rfl, q_M_room_44 hX rfl, q_M_room_47 hX rfl, q_M_room_49 hX rfl, q_M_room_50 hX rfl, q_M_room_51 hX rfl, q_M_room_52 hX rfl, q_M_room_55 hX rfl, q_M_room_58 hX rfl, q_M_room_60 hX rfl, q_M_room_61 hX rfl, q_M_room_62 hX rfl, q_M_room_63 hX rfl, q_M_room_64 hX rfl, q_M_room_67 hX rfl, q_M_room_68 hX rfl, q_M_room_71 hX rfl, q_M_room_72 hX rfl, q_M_room_73 hX rfl, q_M_room_74 hX rfl, q_M_room_75 hX rfl, q_M_room_78 hX rfl, q_M_room_81 hX rfl, q_M_room_82 hX rfl, h_M_room_4, fs_aload_n0, fs_aload_n1, fs_aload_n2, fs_aload_n3, fs_bipush, fs_getfield, fs_goto, fs_iadd, fs_iaload, fs_iconst, fs_ifCond, fs_if_icmp, fs_iinc, fs_iload, fs_iload_n0, fs_iload_n1, fs_iload_n2, fs_iload_n3, fs_imul, fs_ireturn, fs_istore, fs_istore_n0, fs_istore_n1, fs_istore_n2, fs_istore_n3, fs_isub, fs_sipush, v_M_room, ci_0, lt_2_5, lt_3_5, cb_16, cb_8, lt_4_5, cb_32, cs_160, ci_1, kd_M_0, R0_M_0, pl_M_1, pl_M_0, fx_oi_s, fx_ol_s, fx_or_s, fx_do_s, fx_lg_0, fx_lg_s, fx_ls_0, fx_ls_s, fx_ls_n0, fx_ls_ns, fx_en, fx_sz, Value.category, fx_nl, fx_lk, fx_tget, fx_tput, fx_tcall, fx_tldc, fx_fv, va_rf, fx_cat, fx_in, fx_cnd, fx_len, fx_narI, fx_narZ0, fx_narZ1, fx_narZb, zb_e, zb_ne, Option.some.injEq, Value.int.injEq, Value.long.injEq, Value.ref.injEq, List.cons.injEq, Nat.reduceAdd, Nat.reduceLeDiff, Nat.le_refl, List.take, List.drop, List.reverse_cons, List.reverse_nil, List.nil_append, List.cons_append, List.append_nil, List.map_cons, List.map_nil, List.sum_cons, List.sum_nil, List.length_cons, List.length_nil, Option.toList, fx_all4, forall_const, true_and, and_true, not_true_eq_false, not_false_eq_true, false_implies, true_implies, ne_eq, reduceCtorEq, Nat.reduceEqDiff, ite_true, ite_false, reduceIte, Instr.getfield.injEq, Instr.putfield.injEq, Instr.invokevirtual.injEq, Instr.invokestatic.injEq, Instr.ldc2_w.injEq, lit, nI_add, nI_mul', nI_sub', nI_clamp, nI_lt', nI_le', nI_eq', nI_in', iinc1, zb_n0, nI_div', nI_rem2, true_and, and_true, hm]
    refine ⟨fun h => ?_, fun h => ?_⟩
    · exact hpost _ (by rw [show k = manyN (I' 1) l by omega])
    · have hlen := len_eq hok (show k < manyN (I' 1) l by omega)
      simp (disch := omega) only [nI_in', true_and, hlen.1, nI_add]
      have hs : roomN (I' 1) l (k + 1) = roomN (I' 1) l k + (lenN (I' 1) l k + gapN (I' 1) l k) := rfl
      refine ⟨fun h0 => fx_kf_i (by omega) ⟨?_, rfl, rfl, rfl, rfl⟩, fun h0 => ⟨fun h1 => fx_kf_i (by omega) ⟨?_, rfl, rfl, rfl, rfl⟩, fun h1 => fx_kf_i (by omega) ⟨?_, rfl, rfl, rfl, rfl⟩⟩⟩
      all_goals (rw [hs]; unfold gapN)
      · rw [if_neg (by omega)]
      · rw [if_neg (by rintro ⟨_, z⟩; exact h1 z)]
      · rw [if_pos ⟨by omega, h1⟩]
theorem c_M_room (l : Launch) : fx_Met l y_M_room ws_M_room rm_M_room MM pre_M_room post_M_room := fx_met MM_ok MM_tys (by decide) rfl pk_M_room vk_M_room (fun st I J R h => r_M_room st I J R h)
theorem e_M_room {l : Launch} {c0 : Cond} {rm : Room} {nL : Nat} {cc : ByteArray} (hR : rm_M_room.frames + 1 ≤ rm.frames ∧ 8 + (5 + 11) + rm_M_room.locals ≤ rm.locals) : fx_E1 l R_M (c0 :: w_M) rm MM nL cc (.invokevirtual 154) (fx_tcall 2 pre_M_room post_M_room) := fx_callV (ci := 0) (C := R_M) rfl (c_M_room l) (w_M_G (w_M_has 121 rfl) (w_M_has 122 rfl) (w_M_has 123 rfl) (w_M_has 7 rfl) (w_M_has 119 rfl)) rfl ⟨rfl, rfl⟩ (by decide) hR (fun st I J R h => pz_M_room h) MM_ok

