/-! the reference: reading all clues; load -/
abbrev fx_CL : Type := Nat × Nat × (Nat → Nat) × (Nat → Nat)
abbrev fx_PL : Type := Nat ⊕ (Nat × (Nat → fx_CL))
/-- the first l clues: a fault, or the next place and the clues -/
noncomputable def pLn (t : Nat → Nat) (tl C w h : Nat) : Nat → fx_PL
  | 0 => .inr (skB t tl 0, fun _ => (0, 0, fun _ => 0, fun _ => 0))
  | l + 1 => match pLn t tl C w h l with
    | .inl e => .inl e
    | .inr (p, cl) => if 0 < l ∧ ¬ byN t tl p = 59 then .inl p else match pClue t tl C (cellsN w h l) (if 0 < l then skB t tl (p + 1) else p) with
      | .inl e => .inl e
      | .inr (p', x) => .inr (p', fun l' => if l' = l then x else cl l')
noncomputable def pAll (t : Nat → Nat) (tl C w h : Nat) : Nat ⊕ (Nat → fx_CL) := match pLn t tl C w h (h + w) with
  | .inl e => .inl e
  | .inr (p, cl) => if p < tl then .inl p else .inr cl
theorem pLn_inl {t : Nat → Nat} {tl C w h l e : Nat} (hx : pLn t tl C w h l = .inl e) : ∀ d, pLn t tl C w h (l + d) = .inl e
  | 0 => hx
  | d + 1 => by
    have ih := pLn_inl hx d
    rw [← Nat.add_assoc, pLn, ih]
/-- what is kept of clues that were read -/
def okCl (C n : Nat) (x : fx_CL) : Prop := x.1 ≤ 1 ∧ (x.1 = 0 → x.2.1 = 0) ∧ x.2.1 ≤ 8 ∧ (∀ b, b < x.2.1 → (1 ≤ x.2.2.1 b ∧ x.2.2.1 b ≤ 8) ∧ 1 ≤ x.2.2.2 b ∧ x.2.2.2 b ≤ C) ∧ rmF x.2.2.1 x.2.2.2 x.2.1 ≤ n
def okPL (tl C w h l : Nat) (x : fx_PL) : Prop := match x with
  | .inl e => e ≤ tl
  | .inr (p, cl) => p ≤ tl ∧ ∀ l', l' < l → okCl C (cellsN w h l') (cl l')
theorem pLn_ok {t : Nat → Nat} {tl C w h : Nat} (hC : 1 ≤ C) (hw : w ≤ 8) (hh : h ≤ 8) : ∀ l, okPL tl C w h l (pLn t tl C w h l)
  | 0 => ⟨(skB_le2 (by omega)).2, fun l' hl' => by omega⟩
  | l + 1 => by
    have ih := pLn_ok (t := t) (tl := tl) hC hw hh l
    unfold pLn
    split
    · rename_i e he
      rw [he] at ih
      exact ih
    · rename_i p cl he
      rw [he] at ih
      split
      · exact ih.1
      · rename_i hno
        have hp0 : (if 0 < l then skB t tl (p + 1) else p) ≤ tl := by
          split
          · have hby : byN t tl p = 59 := Classical.byContradiction fun z => hno ⟨by assumption, z⟩
            have := byN_lt (t := t) (tl := tl) (k := p) (by omega)
            exact (skB_le2 (by omega)).2
          · exact ih.1
        have hok := pClue_ok (t := t) (tl := tl) (C := C) (n := cellsN w h l) hC (cellsN_le hw hh) hp0
        split
        · rename_i e he2
          rw [he2] at hok
          exact hok
        · rename_i p' x he2
          rw [he2] at hok
          obtain ⟨x1, x2, x3, x4⟩ := x
          refine ⟨hok.1, fun l' hl' => ?_⟩
          by_cases h9 : l' = l
          · show okCl C (cellsN w h l') (if l' = l then _ else _)
            rw [if_pos h9, h9]
            exact hok.2
          · show okCl C (cellsN w h l') (if l' = l then _ else _)
            rw [if_neg h9]
            exact ih.2 l' (by omega)
/-- the same but for the places of reading, and the clues that were read -/
def frA (I I' : fx_MI) : Prop := ∀ q j, q ≠ 11 → (q ≠ 0 ∨ (j ≠ 20 ∧ j ≠ 21)) → I' q j = I q j
theorem frA_rfl {I : fx_MI} : frA I I := fun _ _ _ _ => rfl
theorem frA_trans {I I' I'' : fx_MI} (h : frA I I') (h' : frA I' I'') : frA I I'' := fun q j a b => by rw [h' q j a b, h q j a b]
theorem frR_A {l : Nat} {I I' : fx_MI} (h : frR l I I') : frA I I' := fun q j a b => h q j b (Or.inl a)
theorem frA_up {I I' : fx_MI} {x : Int32} (h : frA I I') : frA I (fx_up I' 0 20 x) := fun q j a b => by rw [up_ne (by omega)]; exact h q j a b
theorem frA_up1 {I I' : fx_MI} {x : Int32} (h : frA I I') : frA I (fx_up I' 0 21 x) := fun q j a b => by rw [up_ne (by omega)]; exact h q j a b
theorem frA_t {I I' : fx_MI} (h : frA I I') (ht : okt I) : okt I' ∧ txN I' = txN I ∧ tlN I' = tlN I := by
  refine ⟨⟨by rw [h 0 19 (by omega) (by omega)]; exact ht.1, fun k hk => by rw [h 10 k (by omega) (by omega)]; exact ht.2 k hk⟩, ?_, ?_⟩
  · funext k
    unfold txN
    rw [h 10 k (by omega) (by omega)]
  · unfold tlN
    rw [h 0 19 (by omega) (by omega)]
theorem frA_dim {I I' : fx_MI} (h : frA I I') : rW I' = rW I ∧ rH I' = rH I ∧ rC I' = rC I ∧ (dimM I → dimM I') := by
  have h2 := dim_row3 (I := I) (I' := I') (h 0 3 (by omega) (by omega)) (h 0 4 (by omega) (by omega)) (h 0 5 (by omega) (by omega))
  exact ⟨h2.2.1, h2.2.2.1, h2.2.2.2, fun hd => by rw [h2.1]; exact hd⟩
def clX (g : Nat → Int32) (l : Nat) (x : fx_CL) : Prop := clH g l x.1 x.2.1 x.2.2.1 x.2.2.2
def resA (w h : Nat) (I' : fx_MI) (x : Nat ⊕ (Nat → fx_CL)) : Prop := match x with
  | .inl e => I' 0 21 = nI e
  | .inr cl => I' 0 21 = -nI 1 ∧ ∀ l, l < h + w → clX (I' 11) l (cl l)
def Q_readsAll (I : fx_MI) (J : fx_MJ) (R : fx_MR) (r : Option Value) (I' : fx_MI) (J' : fx_MJ) (R' : fx_MR) : Prop :=
  r = none ∧ J' = J ∧ R' = R ∧ frA I I' ∧ resA (rW I) (rH I) I' (pAll (txN I) (tlN I) (rC I) (rW I) (rH I))
def inv_ra (I : fx_MI) (l : Nat) (I' : fx_MI) : Prop := frA I I' ∧ match pLn (txN I) (tlN I) (rC I) (rW I) (rH I) l with
  | .inl e => I' 0 21 = nI e
  | .inr (p, cl) => I' 0 21 = -nI 1 ∧ I' 0 20 = nI p ∧ ∀ l', l' < l → clX (I' 11) l' (cl l')
set_option maxHeartbeats 4000000 in
def p_M_readsAll : fx_Pr := fx_pr [(0, .aload_n 0, 0), (1, .iconst 0, 0), (2, .putfield 188, 0), (5, .aload_n 0, 0), (6, .iconst (-1), 0), (7, .putfield 194, 0), (10, .aload_n 0, 0), (11, .invokevirtual 203, 0), (14, .iconst 0, 0), (15, .istore_n 1, 0), (16, .iload_n 1, 0), (17, .aload_n 0, 0), (18, .invokevirtual 89, 0), (21, .if_icmp .ge 69, 90), (24, .aload_n 0, 0), (25, .getfield 194, 0), (28, .iconst (-1), 0), (29, .if_icmp .ne 61, 90), (32, .iload_n 1, 0), (33, .ifCond .le 38, 71), (36, .aload_n 0, 0), (37, .aload_n 0, 0), (38, .getfield 188, 0), (41, .invokevirtual 191, 0), (44, .bipush 59, 0), (46, .if_icmp .eq 11, 57), (49, .aload_n 0, 0), (50, .aload_n 0, 0), (51, .getfield 188, 0), (54, .invokevirtual 200, 0), (57, .aload_n 0, 0), (58, .dup, 0), (59, .getfield 188, 0), (62, .iconst 1, 0), (63, .iadd, 0), (64, .putfield 188, 0), (67, .aload_n 0, 0), (68, .invokevirtual 203, 0), (71, .aload_n 0, 0), (72, .getfield 194, 0), (75, .iconst (-1), 0), (76, .if_icmp .ne 8, 84), (79, .aload_n 0, 0), (80, .iload_n 1, 0), (81, .invokevirtual 215, 0), (84, .iinc 1 1, 0), (87, .goto (-71), 16), (90, .aload_n 0, 0), (91, .getfield 188, 0), (94, .aload_n 0, 0), (95, .getfield 185, 0), (98, .if_icmp .ge 11, 109), (101, .aload_n 0, 0), (102, .aload_n 0, 0), (103, .getfield 188, 0), (106, .invokevirtual 200, 0), (109, .return_, 0)]
theorem pk_M_readsAll : fx_prOK b_M_readsAll p_M_readsAll := fx_pr_ok (by decide +kernel)
theorem q_M_readsAll_0 {nL : Nat} {M : fx_M} {ev : fx_Env} {ret : Option FieldType} {P : fx_P} {stops : List (Nat × Nat)} {K : fx_K} {n : Nat} {L : List (Option Value)} {st : List Value} {I : fx_MI} {J : fx_MJ} {R : fx_MR} {X : Nat → fx_K} (hX : fx_isX nL M ev ret P p_M_readsAll stops K X) (hs : fx_stop stops 0 = none) : X (n + 1) 0 L st I J R = fx_S nL M ev ret P (.aload_n 0) 0 0 L st I J R (X n) := hX.1 _ _ _ _ _ _ _ _ _ rfl hs
theorem q_M_readsAll_1 {nL : Nat} {M : fx_M} {ev : fx_Env} {ret : Option FieldType} {P : fx_P} {stops : List (Nat × Nat)} {K : fx_K} {n : Nat} {L : List (Option Value)} {st : List Value} {I : fx_MI} {J : fx_MJ} {R : fx_MR} {X : Nat → fx_K} (hX : fx_isX nL M ev ret P p_M_readsAll stops K X) (hs : fx_stop stops 1 = none) : X (n + 1) 1 L st I J R = fx_S nL M ev ret P (.iconst 0) 0 1 L st I J R (X n) := hX.1 _ _ _ _ _ _ _ _ _ rfl hs
theorem q_M_readsAll_2 {nL : Nat} {M : fx_M} {ev : fx_Env} {ret : Option FieldType} {P : fx_P} {stops : List (Nat × Nat)} {K : fx_K} {n : Nat} {L : List (Option Value)} {st : List Value} {I : fx_MI} {J : fx_MJ} {R : fx_MR} {X : Nat → fx_K} (hX : fx_isX nL M ev ret P p_M_readsAll stops K X) (hs : fx_stop stops 2 = none) : X (n + 1) 2 L st I J R = fx_S nL M ev ret P (.putfield 188) 0 2 L st I J R (X n) := hX.1 _ _ _ _ _ _ _ _ _ rfl hs
theorem q_M_readsAll_5 {nL : Nat} {M : fx_M} {ev : fx_Env} {ret : Option FieldType} {P : fx_P} {stops : List (Nat × Nat)} {K : fx_K} {n : Nat} {L : List (Option Value)} {st : List Value} {I : fx_MI} {J : fx_MJ} {R : fx_MR} {X : Nat → fx_K} (hX : fx_isX nL M ev ret P p_M_readsAll stops K X) (hs : fx_stop stops 5 = none) : X (n + 1) 5 L st I J R = fx_S nL M ev ret P (.aload_n 0) 0 5 L st I J R (X n) := hX.1 _ _ _ _ _ _ _ _ _ rfl hs
theorem q_M_readsAll_6 {nL : Nat} {M : fx_M} {ev : fx_Env} {ret : Option FieldType} {P : fx_P} {stops : List (Nat × Nat)} {K : fx_K} {n : Nat} {L : List (Option Value)} {st : List Value} {I : fx_MI} {J : fx_MJ} {R : fx_MR} {X : Nat → fx_K} (hX : fx_isX nL M ev ret P p_M_readsAll stops K X) (hs : fx_stop stops 6 = none) : X (n + 1) 6 L st I J R = fx_S nL M ev ret P (.iconst (-1)) 0 6 L st I J R (X n) := hX.1 _ _ _ _ _ _ _ _ _ rfl hs
theorem q_M_readsAll_7 {nL : Nat} {M : fx_M} {ev : fx_Env} {ret : Option FieldType} {P : fx_P} {stops : List (Nat × Nat)} {K : fx_K} {n : Nat} {L : List (Option Value)} {st : List Value} {I : fx_MI} {J : fx_MJ} {R : fx_MR} {X : Nat → fx_K} (hX : fx_isX nL M ev ret P p_M_readsAll stops K X) (hs : fx_stop stops 7 = none) : X (n + 1) 7 L st I J R = fx_S nL M ev ret P (.putfield 194) 0 7 L st I J R (X n) := hX.1 _ _ _ _ _ _ _ _ _ rfl hs
theorem q_M_readsAll_10 {nL : Nat} {M : fx_M} {ev : fx_Env} {ret : Option FieldType} {P : fx_P} {stops : List (Nat × Nat)} {K : fx_K} {n : Nat} {L : List (Option Value)} {st : List Value} {I : fx_MI} {J : fx_MJ} {R : fx_MR} {X : Nat → fx_K} (hX : fx_isX nL M ev ret P p_M_readsAll stops K X) (hs : fx_stop stops 10 = none) : X (n + 1) 10 L st I J R = fx_S nL M ev ret P (.aload_n 0) 0 10 L st I J R (X n) := hX.1 _ _ _ _ _ _ _ _ _ rfl hs
theorem q_M_readsAll_11 {nL : Nat} {M : fx_M} {ev : fx_Env} {ret : Option FieldType} {P : fx_P} {stops : List (Nat × Nat)} {K : fx_K} {n : Nat} {L : List (Option Value)} {st : List Value} {I : fx_MI} {J : fx_MJ} {R : fx_MR} {X : Nat → fx_K} (hX : fx_isX nL M ev ret P p_M_readsAll stops K X) (hs : fx_stop stops 11 = none) : X (n + 1) 11 L st I J R = fx_S nL M ev ret P (.invokevirtual 203) 0 11 L st I J R (X n) := hX.1 _ _ _ _ _ _ _ _ _ rfl hs
theorem q_M_readsAll_14 {nL : Nat} {M : fx_M} {ev : fx_Env} {ret : Option FieldType} {P : fx_P} {stops : List (Nat × Nat)} {K : fx_K} {n : Nat} {L : List (Option Value)} {st : List Value} {I : fx_MI} {J : fx_MJ} {R : fx_MR} {X : Nat → fx_K} (hX : fx_isX nL M ev ret P p_M_readsAll stops K X) (hs : fx_stop stops 14 = none) : X (n + 1) 14 L st I J R = fx_S nL M ev ret P (.iconst 0) 0 14 L st I J R (X n) := hX.1 _ _ _ _ _ _ _ _ _ rfl hs
theorem q_M_readsAll_15 {nL : Nat} {M : fx_M} {ev : fx_Env} {ret : Option FieldType} {P : fx_P} {stops : List (Nat × Nat)} {K : fx_K} {n : Nat} {L : List (Option Value)} {st : List Value} {I : fx_MI} {J : fx_MJ} {R : fx_MR} {X : Nat → fx_K} (hX : fx_isX nL M ev ret P p_M_readsAll stops K X) (hs : fx_stop stops 15 = none) : X (n + 1) 15 L st I J R = fx_S nL M ev ret P (.istore_n 1) 0 15 L st I J R (X n) := hX.1 _ _ _ _ _ _ _ _ _ rfl hs
theorem q_M_readsAll_16 {nL : Nat} {M : fx_M} {ev : fx_Env} {ret : Option FieldType} {P : fx_P} {stops : List (Nat × Nat)} {K : fx_K} {n : Nat} {L : List (Option Value)} {st : List Value} {I : fx_MI} {J : fx_MJ} {R : fx_MR} {X : Nat → fx_K} (hX : fx_isX nL M ev ret P p_M_readsAll stops K X) (hs : fx_stop stops 16 = none) : X (n + 1) 16 L st I J R = fx_S nL M ev ret P (.iload_n 1) 0 16 L st I J R (X n) := hX.1 _ _ _ _ _ _ _ _ _ rfl hs
theorem h_M_readsAll_16 {nL : Nat} {M : fx_M} {ev : fx_Env} {ret : Option FieldType} {P : fx_P} {L : List (Option Value)} {st : List Value} {I : fx_MI} {J : fx_MJ} {R : fx_MR} {X : fx_K} : fx_go nL M ev ret P p_M_readsAll X 16 L st I J R = fx_S nL M ev ret P (.iload_n 1) 0 16 L st I J R X := fx_go_at rfl
theorem q_M_readsAll_17 {nL : Nat} {M : fx_M} {ev : fx_Env} {ret : Option FieldType} {P : fx_P} {stops : List (Nat × Nat)} {K : fx_K} {n : Nat} {L : List (Option Value)} {st : List Value} {I : fx_MI} {J : fx_MJ} {R : fx_MR} {X : Nat → fx_K} (hX : fx_isX nL M ev ret P p_M_readsAll stops K X) (hs : fx_stop stops 17 = none) : X (n + 1) 17 L st I J R = fx_S nL M ev ret P (.aload_n 0) 0 17 L st I J R (X n) := hX.1 _ _ _ _ _ _ _ _ _ rfl hs
theorem q_M_readsAll_18 {nL : Nat} {M : fx_M} {ev : fx_Env} {ret : Option FieldType} {P : fx_P} {stops : List (Nat × Nat)} {K : fx_K} {n : Nat} {L : List (Option Value)} {st : List Value} {I : fx_MI} {J : fx_MJ} {R : fx_MR} {X : Nat → fx_K} (hX : fx_isX nL M ev ret P p_M_readsAll stops K X) (hs : fx_stop stops 18 = none) : X (n + 1) 18 L st I J R = fx_S nL M ev ret P (.invokevirtual 89) 0 18 L st I J R (X n) := hX.1 _ _ _ _ _ _ _ _ _ rfl hs
theorem q_M_readsAll_21 {nL : Nat} {M : fx_M} {ev : fx_Env} {ret : Option FieldType} {P : fx_P} {stops : List (Nat × Nat)} {K : fx_K} {n : Nat} {L : List (Option Value)} {st : List Value} {I : fx_MI} {J : fx_MJ} {R : fx_MR} {x y : Int32} {X : Nat → fx_K} (hX : fx_isX nL M ev ret P p_M_readsAll stops K X) (hs : fx_stop stops 21 = none) : X (n + 1) 21 L (.int y :: .int x :: st) I J R = ((y ≤ x → X n 90 L st I J R) ∧ (¬ y ≤ x → X n 24 L st I J R)) := fx_q_icmp hX rfl hs rfl
theorem q_M_readsAll_24 {nL : Nat} {M : fx_M} {ev : fx_Env} {ret : Option FieldType} {P : fx_P} {stops : List (Nat × Nat)} {K : fx_K} {n : Nat} {L : List (Option Value)} {st : List Value} {I : fx_MI} {J : fx_MJ} {R : fx_MR} {X : Nat → fx_K} (hX : fx_isX nL M ev ret P p_M_readsAll stops K X) (hs : fx_stop stops 24 = none) : X (n + 1) 24 L st I J R = fx_S nL M ev ret P (.aload_n 0) 0 24 L st I J R (X n) := hX.1 _ _ _ _ _ _ _ _ _ rfl hs
theorem q_M_readsAll_25 {nL : Nat} {M : fx_M} {ev : fx_Env} {ret : Option FieldType} {P : fx_P} {stops : List (Nat × Nat)} {K : fx_K} {n : Nat} {L : List (Option Value)} {st : List Value} {I : fx_MI} {J : fx_MJ} {R : fx_MR} {X : Nat → fx_K} (hX : fx_isX nL M ev ret P p_M_readsAll stops K X) (hs : fx_stop stops 25 = none) : X (n + 1) 25 L st I J R = fx_S nL M ev ret P (.getfield 194) 0 25 L st I J R (X n) := hX.1 _ _ _ _ _ _ _ _ _ rfl hs
theorem q_M_readsAll_28 {nL : Nat} {M : fx_M} {ev : fx_Env} {ret : Option FieldType} {P : fx_P} {stops : List (Nat × Nat)} {K : fx_K} {n : Nat} {L : List (Option Value)} {st : List Value} {I : fx_MI} {J : fx_MJ} {R : fx_MR} {X : Nat → fx_K} (hX : fx_isX nL M ev ret P p_M_readsAll stops K X) (hs : fx_stop stops 28 = none) : X (n + 1) 28 L st I J R = fx_S nL M ev ret P (.iconst (-1)) 0 28 L st I J R (X n) := hX.1 _ _ _ _ _ _ _ _ _ rfl hs
theorem q_M_readsAll_29 {nL : Nat} {M : fx_M} {ev : fx_Env} {ret : Option FieldType} {P : fx_P} {stops : List (Nat × Nat)} {K : fx_K} {n : Nat} {L : List (Option Value)} {st : List Value} {I : fx_MI} {J : fx_MJ} {R : fx_MR} {x y : Int32} {X : Nat → fx_K} (hX : fx_isX nL M ev ret P p_M_readsAll stops K X) (hs : fx_stop stops 29 = none) : X (n + 1) 29 L (.int y :: .int x :: st) I J R = ((¬ x = y → X n 90 L st I J R) ∧ (x = y → X n 32 L st I J R)) := fx_q_icmpne hX rfl hs rfl
theorem q_M_readsAll_32 {nL : Nat} {M : fx_M} {ev : fx_Env} {ret : Option FieldType} {P : fx_P} {stops : List (Nat × Nat)} {K : fx_K} {n : Nat} {L : List (Option Value)} {st : List Value} {I : fx_MI} {J : fx_MJ} {R : fx_MR} {X : Nat → fx_K} (hX : fx_isX nL M ev ret P p_M_readsAll stops K X) (hs : fx_stop stops 32 = none) : X (n + 1) 32 L st I J R = fx_S nL M ev ret P (.iload_n 1) 0 32 L st I J R (X n) := hX.1 _ _ _ _ _ _ _ _ _ rfl hs
theorem q_M_readsAll_33 {nL : Nat} {M : fx_M} {ev : fx_Env} {ret : Option FieldType} {P : fx_P} {stops : List (Nat × Nat)} {K : fx_K} {n : Nat} {L : List (Option Value)} {st : List Value} {I : fx_MI} {J : fx_MJ} {R : fx_MR} {x : Int32} {X : Nat → fx_K} (hX : fx_isX nL M ev ret P p_M_readsAll stops K X) (hs : fx_stop stops 33 = none) : X (n + 1) 33 L (.int x :: st) I J R = ((x ≤ 0 → X n 71 L st I J R) ∧ (¬ x ≤ 0 → X n 36 L st I J R)) := fx_q_if hX rfl hs rfl
theorem q_M_readsAll_36 {nL : Nat} {M : fx_M} {ev : fx_Env} {ret : Option FieldType} {P : fx_P} {stops : List (Nat × Nat)} {K : fx_K} {n : Nat} {L : List (Option Value)} {st : List Value} {I : fx_MI} {J : fx_MJ} {R : fx_MR} {X : Nat → fx_K} (hX : fx_isX nL M ev ret P p_M_readsAll stops K X) (hs : fx_stop stops 36 = none) : X (n + 1) 36 L st I J R = fx_S nL M ev ret P (.aload_n 0) 0 36 L st I J R (X n) := hX.1 _ _ _ _ _ _ _ _ _ rfl hs
theorem q_M_readsAll_37 {nL : Nat} {M : fx_M} {ev : fx_Env} {ret : Option FieldType} {P : fx_P} {stops : List (Nat × Nat)} {K : fx_K} {n : Nat} {L : List (Option Value)} {st : List Value} {I : fx_MI} {J : fx_MJ} {R : fx_MR} {X : Nat → fx_K} (hX : fx_isX nL M ev ret P p_M_readsAll stops K X) (hs : fx_stop stops 37 = none) : X (n + 1) 37 L st I J R = fx_S nL M ev ret P (.aload_n 0) 0 37 L st I J R (X n) := hX.1 _ _ _ _ _ _ _ _ _ rfl hs
theorem q_M_readsAll_38 {nL : Nat} {M : fx_M} {ev : fx_Env} {ret : Option FieldType} {P : fx_P} {stops : List (Nat × Nat)} {K : fx_K} {n : Nat} {L : List (Option Value)} {st : List Value} {I : fx_MI} {J : fx_MJ} {R : fx_MR} {X : Nat → fx_K} (hX : fx_isX nL M ev ret P p_M_readsAll stops K X) (hs : fx_stop stops 38 = none) : X (n + 1) 38 L st I J R = fx_S nL M ev ret P (.getfield 188) 0 38 L st I J R (X n) := hX.1 _ _ _ _ _ _ _ _ _ rfl hs
theorem q_M_readsAll_41 {nL : Nat} {M : fx_M} {ev : fx_Env} {ret : Option FieldType} {P : fx_P} {stops : List (Nat × Nat)} {K : fx_K} {n : Nat} {L : List (Option Value)} {st : List Value} {I : fx_MI} {J : fx_MJ} {R : fx_MR} {X : Nat → fx_K} (hX : fx_isX nL M ev ret P p_M_readsAll stops K X) (hs : fx_stop stops 41 = none) : X (n + 1) 41 L st I J R = fx_S nL M ev ret P (.invokevirtual 191) 0 41 L st I J R (X n) := hX.1 _ _ _ _ _ _ _ _ _ rfl hs
theorem q_M_readsAll_44 {nL : Nat} {M : fx_M} {ev : fx_Env} {ret : Option FieldType} {P : fx_P} {stops : List (Nat × Nat)} {K : fx_K} {n : Nat} {L : List (Option Value)} {st : List Value} {I : fx_MI} {J : fx_MJ} {R : fx_MR} {X : Nat → fx_K} (hX : fx_isX nL M ev ret P p_M_readsAll stops K X) (hs : fx_stop stops 44 = none) : X (n + 1) 44 L st I J R = fx_S nL M ev ret P (.bipush 59) 0 44 L st I J R (X n) := hX.1 _ _ _ _ _ _ _ _ _ rfl hs
theorem q_M_readsAll_46 {nL : Nat} {M : fx_M} {ev : fx_Env} {ret : Option FieldType} {P : fx_P} {stops : List (Nat × Nat)} {K : fx_K} {n : Nat} {L : List (Option Value)} {st : List Value} {I : fx_MI} {J : fx_MJ} {R : fx_MR} {x y : Int32} {X : Nat → fx_K} (hX : fx_isX nL M ev ret P p_M_readsAll stops K X) (hs : fx_stop stops 46 = none) : X (n + 1) 46 L (.int y :: .int x :: st) I J R = ((x = y → X n 57 L st I J R) ∧ (¬ x = y → X n 49 L st I J R)) := fx_q_icmp hX rfl hs rfl
theorem q_M_readsAll_49 {nL : Nat} {M : fx_M} {ev : fx_Env} {ret : Option FieldType} {P : fx_P} {stops : List (Nat × Nat)} {K : fx_K} {n : Nat} {L : List (Option Value)} {st : List Value} {I : fx_MI} {J : fx_MJ} {R : fx_MR} {X : Nat → fx_K} (hX : fx_isX nL M ev ret P p_M_readsAll stops K X) (hs : fx_stop stops 49 = none) : X (n + 1) 49 L st I J R = fx_S nL M ev ret P (.aload_n 0) 0 49 L st I J R (X n) := hX.1 _ _ _ _ _ _ _ _ _ rfl hs
theorem q_M_readsAll_50 {nL : Nat} {M : fx_M} {ev : fx_Env} {ret : Option FieldType} {P : fx_P} {stops : List (Nat × Nat)} {K : fx_K} {n : Nat} {L : List (Option Value)} {st : List Value} {I : fx_MI} {J : fx_MJ} {R : fx_MR} {X : Nat → fx_K} (hX : fx_isX nL M ev ret P p_M_readsAll stops K X) (hs : fx_stop stops 50 = none) : X (n + 1) 50 L st I J R = fx_S nL M ev ret P (.aload_n 0) 0 50 L st I J R (X n) := hX.1 _ _ _ _ _ _ _ _ _ rfl hs
theorem q_M_readsAll_51 {nL : Nat} {M : fx_M} {ev : fx_Env} {ret : Option FieldType} {P : fx_P} {stops : List (Nat × Nat)} {K : fx_K} {n : Nat} {L : List (Option Value)} {st : List Value} {I : fx_MI} {J : fx_MJ} {R : fx_MR} {X : Nat → fx_K} (hX : fx_isX nL M ev ret P p_M_readsAll stops K X) (hs : fx_stop stops 51 = none) : X (n + 1) 51 L st I J R = fx_S nL M ev ret P (.getfield 188) 0 51 L st I J R (X n) := hX.1 _ _ _ _ _ _ _ _ _ rfl hs
theorem q_M_readsAll_54 {nL : Nat} {M : fx_M} {ev : fx_Env} {ret : Option FieldType} {P : fx_P} {stops : List (Nat × Nat)} {K : fx_K} {n : Nat} {L : List (Option Value)} {st : List Value} {I : fx_MI} {J : fx_MJ} {R : fx_MR} {X : Nat → fx_K} (hX : fx_isX nL M ev ret P p_M_readsAll stops K X) (hs : fx_stop stops 54 = none) : X (n + 1) 54 L st I J R = fx_S nL M ev ret P (.invokevirtual 200) 0 54 L st I J R (X n) := hX.1 _ _ _ _ _ _ _ _ _ rfl hs
theorem q_M_readsAll_57 {nL : Nat} {M : fx_M} {ev : fx_Env} {ret : Option FieldType} {P : fx_P} {stops : List (Nat × Nat)} {K : fx_K} {n : Nat} {L : List (Option Value)} {st : List Value} {I : fx_MI} {J : fx_MJ} {R : fx_MR} {X : Nat → fx_K} (hX : fx_isX nL M ev ret P p_M_readsAll stops K X) (hs : fx_stop stops 57 = none) : X (n + 1) 57 L st I J R = fx_S nL M ev ret P (.aload_n 0) 0 57 L st I J R (X n) := hX.1 _ _ _ _ _ _ _ _ _ rfl hs
theorem q_M_readsAll_58 {nL : Nat} {M : fx_M} {ev : fx_Env} {ret : Option FieldType} {P : fx_P} {stops : List (Nat × Nat)} {K : fx_K} {n : Nat} {L : List (Option Value)} {st : List Value} {I : fx_MI} {J : fx_MJ} {R : fx_MR} {X : Nat → fx_K} (hX : fx_isX nL M ev ret P p_M_readsAll stops K X) (hs : fx_stop stops 58 = none) : X (n + 1) 58 L st I J R = fx_S nL M ev ret P (.dup) 0 58 L st I J R (X n) := hX.1 _ _ _ _ _ _ _ _ _ rfl hs
theorem q_M_readsAll_59 {nL : Nat} {M : fx_M} {ev : fx_Env} {ret : Option FieldType} {P : fx_P} {stops : List (Nat × Nat)} {K : fx_K} {n : Nat} {L : List (Option Value)} {st : List Value} {I : fx_MI} {J : fx_MJ} {R : fx_MR} {X : Nat → fx_K} (hX : fx_isX nL M ev ret P p_M_readsAll stops K X) (hs : fx_stop stops 59 = none) : X (n + 1) 59 L st I J R = fx_S nL M ev ret P (.getfield 188) 0 59 L st I J R (X n) := hX.1 _ _ _ _ _ _ _ _ _ rfl hs
theorem q_M_readsAll_62 {nL : Nat} {M : fx_M} {ev : fx_Env} {ret : Option FieldType} {P : fx_P} {stops : List (Nat × Nat)} {K : fx_K} {n : Nat} {L : List (Option Value)} {st : List Value} {I : fx_MI} {J : fx_MJ} {R : fx_MR} {X : Nat → fx_K} (hX : fx_isX nL M ev ret P p_M_readsAll stops K X) (hs : fx_stop stops 62 = none) : X (n + 1) 62 L st I J R = fx_S nL M ev ret P (.iconst 1) 0 62 L st I J R (X n) := hX.1 _ _ _ _ _ _ _ _ _ rfl hs
theorem q_M_readsAll_63 {nL : Nat} {M : fx_M} {ev : fx_Env} {ret : Option FieldType} {P : fx_P} {stops : List (Nat × Nat)} {K : fx_K} {n : Nat} {L : List (Option Value)} {st : List Value} {I : fx_MI} {J : fx_MJ} {R : fx_MR} {X : Nat → fx_K} (hX : fx_isX nL M ev ret P p_M_readsAll stops K X) (hs : fx_stop stops 63 = none) : X (n + 1) 63 L st I J R = fx_S nL M ev ret P (.iadd) 0 63 L st I J R (X n) := hX.1 _ _ _ _ _ _ _ _ _ rfl hs
theorem q_M_readsAll_64 {nL : Nat} {M : fx_M} {ev : fx_Env} {ret : Option FieldType} {P : fx_P} {stops : List (Nat × Nat)} {K : fx_K} {n : Nat} {L : List (Option Value)} {st : List Value} {I : fx_MI} {J : fx_MJ} {R : fx_MR} {X : Nat → fx_K} (hX : fx_isX nL M ev ret P p_M_readsAll stops K X) (hs : fx_stop stops 64 = none) : X (n + 1) 64 L st I J R = fx_S nL M ev ret P (.putfield 188) 0 64 L st I J R (X n) := hX.1 _ _ _ _ _ _ _ _ _ rfl hs
theorem q_M_readsAll_67 {nL : Nat} {M : fx_M} {ev : fx_Env} {ret : Option FieldType} {P : fx_P} {stops : List (Nat × Nat)} {K : fx_K} {n : Nat} {L : List (Option Value)} {st : List Value} {I : fx_MI} {J : fx_MJ} {R : fx_MR} {X : Nat → fx_K} (hX : fx_isX nL M ev ret P p_M_readsAll stops K X) (hs : fx_stop stops 67 = none) : X (n + 1) 67 L st I J R = fx_S nL M ev ret P (.aload_n 0) 0 67 L st I J R (X n) := hX.1 _ _ _ _ _ _ _ _ _ rfl hs
theorem q_M_readsAll_68 {nL : Nat} {M : fx_M} {ev : fx_Env} {ret : Option FieldType} {P : fx_P} {stops : List (Nat × Nat)} {K : fx_K} {n : Nat} {L : List (Option Value)} {st : List Value} {I : fx_MI} {J : fx_MJ} {R : fx_MR} {X : Nat → fx_K} (hX : fx_isX nL M ev ret P p_M_readsAll stops K X) (hs : fx_stop stops 68 = none) : X (n + 1) 68 L st I J R = fx_S nL M ev ret P (.invokevirtual 203) 0 68 L st I J R (X n) := hX.1 _ _ _ _ _ _ _ _ _ rfl hs
theorem q_M_readsAll_71 {nL : Nat} {M : fx_M} {ev : fx_Env} {ret : Option FieldType} {P : fx_P} {stops : List (Nat × Nat)} {K : fx_K} {n : Nat} {L : List (Option Value)} {st : List Value} {I : fx_MI} {J : fx_MJ} {R : fx_MR} {X : Nat → fx_K} (hX : fx_isX nL M ev ret P p_M_readsAll stops K X) (hs : fx_stop stops 71 = none) : X (n + 1) 71 L st I J R = fx_S nL M ev ret P (.aload_n 0) 0 71 L st I J R (X n) := hX.1 _ _ _ _ _ _ _ _ _ rfl hs
theorem q_M_readsAll_72 {nL : Nat} {M : fx_M} {ev : fx_Env} {ret : Option FieldType} {P : fx_P} {stops : List (Nat × Nat)} {K : fx_K} {n : Nat} {L : List (Option Value)} {st : List Value} {I : fx_MI} {J : fx_MJ} {R : fx_MR} {X : Nat → fx_K} (hX : fx_isX nL M ev ret P p_M_readsAll stops K X) (hs : fx_stop stops 72 = none) : X (n + 1) 72 L st I J R = fx_S nL M ev ret P (.getfield 194) 0 72 L st I J R (X n) := hX.1 _ _ _ _ _ _ _ _ _ rfl hs
theorem q_M_readsAll_75 {nL : Nat} {M : fx_M} {ev : fx_Env} {ret : Option FieldType} {P : fx_P} {stops : List (Nat × Nat)} {K : fx_K} {n : Nat} {L : List (Option Value)} {st : List Value} {I : fx_MI} {J : fx_MJ} {R : fx_MR} {X : Nat → fx_K} (hX : fx_isX nL M ev ret P p_M_readsAll stops K X) (hs : fx_stop stops 75 = none) : X (n + 1) 75 L st I J R = fx_S nL M ev ret P (.iconst (-1)) 0 75 L st I J R (X n) := hX.1 _ _ _ _ _ _ _ _ _ rfl hs
theorem q_M_readsAll_76 {nL : Nat} {M : fx_M} {ev : fx_Env} {ret : Option FieldType} {P : fx_P} {stops : List (Nat × Nat)} {K : fx_K} {n : Nat} {L : List (Option Value)} {st : List Value} {I : fx_MI} {J : fx_MJ} {R : fx_MR} {x y : Int32} {X : Nat → fx_K} (hX : fx_isX nL M ev ret P p_M_readsAll stops K X) (hs : fx_stop stops 76 = none) : X (n + 1) 76 L (.int y :: .int x :: st) I J R = ((¬ x = y → X n 84 L st I J R) ∧ (x = y → X n 79 L st I J R)) := fx_q_icmpne hX rfl hs rfl
theorem q_M_readsAll_79 {nL : Nat} {M : fx_M} {ev : fx_Env} {ret : Option FieldType} {P : fx_P} {stops : List (Nat × Nat)} {K : fx_K} {n : Nat} {L : List (Option Value)} {st : List Value} {I : fx_MI} {J : fx_MJ} {R : fx_MR} {X : Nat → fx_K} (hX : fx_isX nL M ev ret P p_M_readsAll stops K X) (hs : fx_stop stops 79 = none) : X (n + 1) 79 L st I J R = fx_S nL M ev ret P (.aload_n 0) 0 79 L st I J R (X n) := hX.1 _ _ _ _ _ _ _ _ _ rfl hs
theorem q_M_readsAll_80 {nL : Nat} {M : fx_M} {ev : fx_Env} {ret : Option FieldType} {P : fx_P} {stops : List (Nat × Nat)} {K : fx_K} {n : Nat} {L : List (Option Value)} {st : List Value} {I : fx_MI} {J : fx_MJ} {R : fx_MR} {X : Nat → fx_K} (hX : fx_isX nL M ev ret P p_M_readsAll stops K X) (hs : fx_stop stops 80 = none) : X (n + 1) 80 L st I J R = fx_S nL M ev ret P (.iload_n 1) 0 80 L st I J R (X n) := hX.1 _ _ _ _ _ _ _ _ _ rfl hs
theorem q_M_readsAll_81 {nL : Nat} {M : fx_M} {ev : fx_Env} {ret : Option FieldType} {P : fx_P} {stops : List (Nat × Nat)} {K : fx_K} {n : Nat} {L : List (Option Value)} {st : List Value} {I : fx_MI} {J : fx_MJ} {R : fx_MR} {X : Nat → fx_K} (hX : fx_isX nL M ev ret P p_M_readsAll stops K X) (hs : fx_stop stops 81 = none) : X (n + 1) 81 L st I J R = fx_S nL M ev ret P (.invokevirtual 215) 0 81 L st I J R (X n) := hX.1 _ _ _ _ _ _ _ _ _ rfl hs
theorem q_M_readsAll_84 {nL : Nat} {M : fx_M} {ev : fx_Env} {ret : Option FieldType} {P : fx_P} {stops : List (Nat × Nat)} {K : fx_K} {n : Nat} {L : List (Option Value)} {st : List Value} {I : fx_MI} {J : fx_MJ} {R : fx_MR} {X : Nat → fx_K} (hX : fx_isX nL M ev ret P p_M_readsAll stops K X) (hs : fx_stop stops 84 = none) : X (n + 1) 84 L st I J R = fx_S nL M ev ret P (.iinc 1 1) 0 84 L st I J R (X n) := hX.1 _ _ _ _ _ _ _ _ _ rfl hs
theorem q_M_readsAll_87 {nL : Nat} {M : fx_M} {ev : fx_Env} {ret : Option FieldType} {P : fx_P} {stops : List (Nat × Nat)} {K : fx_K} {n : Nat} {L : List (Option Value)} {st : List Value} {I : fx_MI} {J : fx_MJ} {R : fx_MR} {X : Nat → fx_K} (hX : fx_isX nL M ev ret P p_M_readsAll stops K X) (hs : fx_stop stops 87 = none) : X (n + 1) 87 L st I J R = X n 16 L st I J R := fx_q_goto hX rfl hs rfl
theorem q_M_readsAll_90 {nL : Nat} {M : fx_M} {ev : fx_Env} {ret : Option FieldType} {P : fx_P} {stops : List (Nat × Nat)} {K : fx_K} {n : Nat} {L : List (Option Value)} {st : List Value} {I : fx_MI} {J : fx_MJ} {R : fx_MR} {X : Nat → fx_K} (hX : fx_isX nL M ev ret P p_M_readsAll stops K X) (hs : fx_stop stops 90 = none) : X (n + 1) 90 L st I J R = fx_S nL M ev ret P (.aload_n 0) 0 90 L st I J R (X n) := hX.1 _ _ _ _ _ _ _ _ _ rfl hs
theorem q_M_readsAll_91 {nL : Nat} {M : fx_M} {ev : fx_Env} {ret : Option FieldType} {P : fx_P} {stops : List (Nat × Nat)} {K : fx_K} {n : Nat} {L : List (Option Value)} {st : List Value} {I : fx_MI} {J : fx_MJ} {R : fx_MR} {X : Nat → fx_K} (hX : fx_isX nL M ev ret P p_M_readsAll stops K X) (hs : fx_stop stops 91 = none) : X (n + 1) 91 L st I J R = fx_S nL M ev ret P (.getfield 188) 0 91 L st I J R (X n) := hX.1 _ _ _ _ _ _ _ _ _ rfl hs
theorem q_M_readsAll_94 {nL : Nat} {M : fx_M} {ev : fx_Env} {ret : Option FieldType} {P : fx_P} {stops : List (Nat × Nat)} {K : fx_K} {n : Nat} {L : List (Option Value)} {st : List Value} {I : fx_MI} {J : fx_MJ} {R : fx_MR} {X : Nat → fx_K} (hX : fx_isX nL M ev ret P p_M_readsAll stops K X) (hs : fx_stop stops 94 = none) : X (n + 1) 94 L st I J R = fx_S nL M ev ret P (.aload_n 0) 0 94 L st I J R (X n) := hX.1 _ _ _ _ _ _ _ _ _ rfl hs
theorem q_M_readsAll_95 {nL : Nat} {M : fx_M} {ev : fx_Env} {ret : Option FieldType} {P : fx_P} {stops : List (Nat × Nat)} {K : fx_K} {n : Nat} {L : List (Option Value)} {st : List Value} {I : fx_MI} {J : fx_MJ} {R : fx_MR} {X : Nat → fx_K} (hX : fx_isX nL M ev ret P p_M_readsAll stops K X) (hs : fx_stop stops 95 = none) : X (n + 1) 95 L st I J R = fx_S nL M ev ret P (.getfield 185) 0 95 L st I J R (X n) := hX.1 _ _ _ _ _ _ _ _ _ rfl hs
theorem q_M_readsAll_98 {nL : Nat} {M : fx_M} {ev : fx_Env} {ret : Option FieldType} {P : fx_P} {stops : List (Nat × Nat)} {K : fx_K} {n : Nat} {L : List (Option Value)} {st : List Value} {I : fx_MI} {J : fx_MJ} {R : fx_MR} {x y : Int32} {X : Nat → fx_K} (hX : fx_isX nL M ev ret P p_M_readsAll stops K X) (hs : fx_stop stops 98 = none) : X (n + 1) 98 L (.int y :: .int x :: st) I J R = ((y ≤ x → X n 109 L st I J R) ∧ (¬ y ≤ x → X n 101 L st I J R)) := fx_q_icmp hX rfl hs rfl
theorem q_M_readsAll_101 {nL : Nat} {M : fx_M} {ev : fx_Env} {ret : Option FieldType} {P : fx_P} {stops : List (Nat × Nat)} {K : fx_K} {n : Nat} {L : List (Option Value)} {st : List Value} {I : fx_MI} {J : fx_MJ} {R : fx_MR} {X : Nat → fx_K} (hX : fx_isX nL M ev ret P p_M_readsAll stops K X) (hs : fx_stop stops 101 = none) : X (n + 1) 101 L st I J R = fx_S nL M ev ret P (.aload_n 0) 0 101 L st I J R (X n) := hX.1 _ _ _ _ _ _ _ _ _ rfl hs
theorem q_M_readsAll_102 {nL : Nat} {M : fx_M} {ev : fx_Env} {ret : Option FieldType} {P : fx_P} {stops : List (Nat × Nat)} {K : fx_K} {n : Nat} {L : List (Option Value)} {st : List Value} {I : fx_MI} {J : fx_MJ} {R : fx_MR} {X : Nat → fx_K} (hX : fx_isX nL M ev ret P p_M_readsAll stops K X) (hs : fx_stop stops 102 = none) : X (n + 1) 102 L st I J R = fx_S nL M ev ret P (.aload_n 0) 0 102 L st I J R (X n) := hX.1 _ _ _ _ _ _ _ _ _ rfl hs
theorem q_M_readsAll_103 {nL : Nat} {M : fx_M} {ev : fx_Env} {ret : Option FieldType} {P : fx_P} {stops : List (Nat × Nat)} {K : fx_K} {n : Nat} {L : List (Option Value)} {st : List Value} {I : fx_MI} {J : fx_MJ} {R : fx_MR} {X : Nat → fx_K} (hX : fx_isX nL M ev ret P p_M_readsAll stops K X) (hs : fx_stop stops 103 = none) : X (n + 1) 103 L st I J R = fx_S nL M ev ret P (.getfield 188) 0 103 L st I J R (X n) := hX.1 _ _ _ _ _ _ _ _ _ rfl hs
theorem q_M_readsAll_106 {nL : Nat} {M : fx_M} {ev : fx_Env} {ret : Option FieldType} {P : fx_P} {stops : List (Nat × Nat)} {K : fx_K} {n : Nat} {L : List (Option Value)} {st : List Value} {I : fx_MI} {J : fx_MJ} {R : fx_MR} {X : Nat → fx_K} (hX : fx_isX nL M ev ret P p_M_readsAll stops K X) (hs : fx_stop stops 106 = none) : X (n + 1) 106 L st I J R = fx_S nL M ev ret P (.invokevirtual 200) 0 106 L st I J R (X n) := hX.1 _ _ _ _ _ _ _ _ _ rfl hs
theorem q_M_readsAll_109 {nL : Nat} {M : fx_M} {ev : fx_Env} {ret : Option FieldType} {P : fx_P} {stops : List (Nat × Nat)} {K : fx_K} {n : Nat} {L : List (Option Value)} {st : List Value} {I : fx_MI} {J : fx_MJ} {R : fx_MR} {X : Nat → fx_K} (hX : fx_isX nL M ev ret P p_M_readsAll stops K X) (hs : fx_stop stops 109 = none) : X (n + 1) 109 L st I J R = fx_S nL M ev ret P (.return_) 0 109 L st I J R (X n) := hX.1 _ _ _ _ _ _ _ _ _ rfl hs
def pre_M_readsAll : fx_Pre := fun st I J R => R = R0_M ∧ (match st with
  | [.ref 0] => dimM I ∧ okt I
  | _ => False)
theorem pi_M_readsAll {st : List Value} {I : fx_MI} {J : fx_MJ} {R : fx_MR} (h : pre_M_readsAll st I J R) : R = R0_M ∧ st = [.ref 0] ∧ (dimM I ∧ okt I) := by
  unfold pre_M_readsAll at h
  obtain ⟨h0, h⟩ := h
  split at h
  · exact ⟨h0, rfl, h⟩
  · cases h
def post_M_readsAll : fx_Post := fun st I J R r I' J' R' => Q_readsAll I J R r I' J' R'
theorem pz_M_readsAll {st : List Value} {I : fx_MI} {J : fx_MJ} {R : fx_MR} (h : pre_M_readsAll st I J R) : ∃ q r, st = .ref q :: r ∧ MM.2.2.1 q = some (.inl 0) ∧ r.length = 0 := by
  obtain ⟨_, rfl, _⟩ := pi_M_readsAll h
  exact ⟨_, _, rfl, rfl, rfl⟩
def v_M_readsAll : fx_Env := [(.putfield 188, fx_tput MM 0 20), (.putfield 194, fx_tput MM 0 21), (.invokevirtual 203, fx_tcall 1 pre_M_skips post_M_skips), (.invokevirtual 89, fx_tcall 1 pre_M_lines post_M_lines), (.getfield 194, fx_tget MM 0 21), (.getfield 188, fx_tget MM 0 20), (.invokevirtual 191, fx_tcall 2 pre_M_byteAt post_M_byteAt), (.invokevirtual 200, fx_tcall 2 pre_M_fails post_M_fails), (.invokevirtual 215, fx_tcall 2 pre_M_readsClue post_M_readsClue), (.getfield 185, fx_tget MM 0 19)]
abbrev rm_M_readsAll : Room := { frames := 4, cells := 0, slots := 0, locals := 89 }
abbrev ws_M_readsAll : List Cond := Cond.code y_M_readsAll b_M_readsAll 2 none :: w_M
theorem vk_M_readsAll {l : Launch} : fx_EV l R_M ws_M_readsAll rm_M_readsAll MM 2 b_M_readsAll v_M_readsAll := (fx_EV_cons e_M_p188 (fx_EV_cons e_M_p194 (fx_EV_cons (e_M_skips (by decide)) (fx_EV_cons (e_M_lines (by decide)) (fx_EV_cons e_M_g194 (fx_EV_cons e_M_g188 (fx_EV_cons (e_M_byteAt (by decide)) (fx_EV_cons (e_M_fails (by decide)) (fx_EV_cons (e_M_readsClue (by decide)) (fx_EV_cons e_M_g185 fx_EV_nil))))))))))
theorem r_M_readsAll (st : List Value) (I : fx_MI) (J : fx_MJ) (R : fx_MR) (h : pre_M_readsAll st I J R) : fx_sz st ≤ 2 ∧ fx_R 2 MM v_M_readsAll none (post_M_readsAll st I J R) p_M_readsAll 0 (fx_en st) [] I J R := by
  obtain ⟨rfl, rfl, hp⟩ := pi_M_readsAll h
  clear h
  refine ⟨Nat.le_of_ble_eq_true rfl, ?_⟩
  obtain ⟨hd, ht⟩ := hp
  obtain ⟨hw, hh, hc, e1, e2, e3⟩ := dim_of hd
  have htl := okt_tl ht
  have hpost : ∀ r I' J' R', Q_readsAll I J R0_M r I' J' R' → post_M_readsAll [.ref 0] I J R0_M r I' J' R' := fun r I' J' R' h => h
  have hm1 : (-1 : Int32) = -nI 1 := rfl
  have hne : ∀ e, e ≤ 121 → (nI e = -nI 1) = False := fun e he => eq_false (fun h => by
    have := nI_pos (n := e) (by omega)
    rw [h] at this
    exact this (by decide +kernel))
  have hbyE : ∀ (I' : fx_MI) k, (if k < nv (I' 0 19) then I' 10 k else -nI 1) = byI I' k := fun _ k => rfl
  have hok := fun l => pLn_ok (t := txN I) (tl := tlN I) hc.1 hw.2 hh.2 l
  -- behind the loop, with a fault
  have hZ : ∀ (l e : Nat) (I1 : fx_MI), l ≤ rH I + rW I → frA I I1 → pLn (txN I) (tlN I) (rC I) (rW I) (rH I) l = .inl e → I1 0 21 = nI e → fx_R 2 MM v_M_readsAll none (post_M_readsAll [.ref 0] I J R0_M) p_M_readsAll 16 [some (.ref 0), some (.int (nI l))] [] I1 J R0_M := by
    intro l e I1 hl hfr hpl h21
    have hel : e ≤ tlN I := by
      have := hok l
      rw [hpl] at this
      exact this
    have f3 : I1 0 3 = nI (rW I) := by rw [hfr 0 3 (by omega) (by omega)]; exact e1
    have f4 : I1 0 4 = nI (rH I) := by rw [hfr 0 4 (by omega) (by omega)]; exact e2
    have hpa : pAll (txN I) (tlN I) (rC I) (rW I) (rH I) = .inl e := by
      have := pLn_inl hpl (rH I + rW I - l)
      rw [show l + (rH I + rW I - l) = rH I + rW I by omega] at this
      unfold pAll
      rw [this]
    have hfin : ∀ I', frA I I' → I' 0 21 = nI e → post_M_readsAll [.ref 0] I J R0_M none I' J R0_M := fun I' h1 h2 => hpost _ _ _ _ ⟨rfl, rfl, rfl, h1, by rw [hpa]; exact h2⟩
    refine fx_run1 (stops := [(16, 2)]) (K := fun _ _ _ _ _ _ => False) (fun _ _ _ _ _ _ h => h.elim) 60 fun X hX => ?_
    simp only [q_M_readsAll_0 hX rfl, q_M_readsAll_1 hX rfl, q_M_readsAll_2 hX rfl, q_M_readsAll_5 hX rfl, q_M_readsAll_6 hX rfl, q_M_readsAll_7 hX rfl, q_M_readsAll_10 hX rfl, q_M_readsAll_11 hX rfl, q_M_readsAll_14 hX rfl, q_M_readsAll_15 hX rfl, hX.2 _ 16 2 _ _ _ _ _ rfl, q_M_readsAll_17 hX rfl, q_M_readsAll_18 hX rfl, q_M_readsAll_21 hX rfl, q_M_readsAll_24 hX rfl, q_M_readsAll_25 hX rfl, q_M_readsAll_28 hX rfl, q_M_readsAll_29 hX rfl, q_M_readsAll_32 hX rfl, q_M_readsAll_33 hX rfl, q_M_readsAll_36 hX rfl, q_M_readsAll_37 hX rfl, q_M_readsAll_38 hX rfl, q_M_readsAll_41 hX rfl, q_M_readsAll_44 hX rfl, q_M_readsAll_46 hX rfl, q_M_readsAll_49 hX rfl, q_M_readsAll_50 hX rfl, q_M_readsAll_51 hX rfl, q_M_readsAll_54 hX rfl, q_M_readsAll_57 hX rfl, q_M_readsAll_58 hX rfl, q_M_readsAll_59 hX rfl, q_M_readsAll_62 hX rfl, q_M_readsAll_63 hX rfl, q_M_readsAll_64 hX rfl, q_M_readsAll_67 hX rfl, q_M_readsAll_68 hX rfl, q_M_readsAll_71 hX rfl, q_M_readsAll_72 hX rfl, q_M_readsAll_75 hX rfl, q_M_readsAll_76 hX rfl, q_M_readsAll_79 hX rfl, q_M_readsAll_80 hX rfl, q_M_readsAll_81 hX rfl, q_M_readsAll_84 hX rfl, q_M_readsAll_87 hX rfl, q_M_readsAll_90 hX rfl, q_M_readsAll_91 hX rfl, q_M_readsAll_94 hX rfl, q_M_readsAll_95 hX rfl, q_M_readsAll_98 hX rfl, q_M_readsAll_101 hX rfl, q_M_readsAll_102 hX rfl, q_M_readsAll_103 hX rfl, q_M_readsAll_106 hX rfl, q_M_readsAll_109 hX rfl, h_M_readsAll_16, fs_aload_n0, fs_aload_n1, fs_aload_n2, fs_aload_n3, fs_bipush, fs_dup, fs_getfield, fs_goto, fs_iadd, fs_iconst, fs_ifCond, fs_if_icmp, fs_iinc, fs_iload_n0, fs_iload_n1, fs_iload_n2, fs_iload_n3, fs_invokevirtual, fs_istore_n0, fs_istore_n1, fs_istore_n2, fs_istore_n3, fs_putfield, fs_return_, v_M_readsAll, ci_0, ci_m1, lt_1_2, cb_59, ci_1, pre_M_skips, post_M_skips, pre_M_lines, post_M_lines, pre_M_byteAt, post_M_byteAt, pre_M_fails, post_M_fails, pre_M_readsClue, post_M_readsClue, kd_M_21, kd_M_20, kd_M_19, pl_M_0, fx_oi_s, fx_ol_s, fx_or_s, fx_do_s, fx_lg_0, fx_lg_s, fx_ls_0, fx_ls_s, fx_ls_n0, fx_ls_ns, fx_en, fx_sz, Value.category, fx_nl, fx_lk, fx_tget, fx_tput, fx_tcall, fx_tldc, fx_fv, va_rf, fx_cat, fx_in, fx_cnd, fx_len, fx_narI, fx_narZ0, fx_narZ1, fx_narZb, zb_e, zb_ne, Option.some.injEq, Value.int.injEq, Value.long.injEq, Value.ref.injEq, List.cons.injEq, Nat.reduceAdd, Nat.reduceLeDiff, Nat.le_refl, List.take, List.drop, List.reverse_cons, List.reverse_nil, List.nil_append, List.cons_append, List.append_nil, List.map_cons, List.map_nil, List.sum_cons, List.sum_nil, List.length_cons, List.length_nil, Option.toList, fx_all4, forall_const, true_and, and_true, not_true_eq_false, not_false_eq_true, false_implies, true_implies, ne_eq, reduceCtorEq, Nat.reduceEqDiff, ite_true, ite_false, reduceIte, Instr.getfield.injEq, Instr.putfield.injEq, Instr.invokevirtual.injEq, Instr.invokestatic.injEq, Instr.ldc2_w.injEq]
    simp (disch := omega) only [lit, nI_add, nI_mul', nI_sub', nI_clamp, nI_lt', nI_le', nI_eq', nI_in', iinc1, zb_n0, nI_div', nI_rem2, true_and, and_true, Nat.reduceEqDiff, Nat.reduceLeDiff, Nat.one_ne_zero, Nat.zero_ne_one, not_false_eq_true, not_true_eq_false, false_implies, true_implies, forall_const, Nat.zero_add, Nat.add_zero, nv_nI, up_eq, up_ne, fill_ne, nI_clamp, nI_add, f3, f4, h21, hm1, hne, ite_false]
    have g1 := hfin I1 hfr h21
    have g2 := hfin (fx_up I1 0 21 (nI e)) (frA_up1 hfr) (by rw [up_eq])
    refine ⟨fun _ => ⟨fun _ => g1, fun _ => g2⟩, fun _ => ⟨fun _ => g1, fun _ => g2⟩⟩
  have hA : ∀ d l (I1 : fx_MI), l + d = rH I + rW I → inv_ra I l I1 → fx_R 2 MM v_M_readsAll none (post_M_readsAll [.ref 0] I J R0_M) p_M_readsAll 16 [some (.ref 0), some (.int (nI l))] [] I1 J R0_M := by
    intro d
    induction d with
    | zero =>
      intro l I1 hld hi
      obtain ⟨hfr, hx⟩ := hi
      cases hpl : pLn (txN I) (tlN I) (rC I) (rW I) (rH I) l with
      | inl e =>
        rw [hpl] at hx
        exact hZ l e I1 (by omega) hfr hpl hx
      | inr x =>
        obtain ⟨p, cl⟩ := x
        rw [hpl] at hx
        obtain ⟨h21, h20, hcl⟩ := hx
        have hpo := hok l
        rw [hpl] at hpo
        have hptl : p ≤ tlN I := hpo.1
        have f3 : I1 0 3 = nI (rW I) := by rw [hfr 0 3 (by omega) (by omega)]; exact e1
        have f4 : I1 0 4 = nI (rH I) := by rw [hfr 0 4 (by omega) (by omega)]; exact e2
        have f19 : I1 0 19 = nI (tlN I) := by rw [hfr 0 19 (by omega) (by omega)]; exact htl.1
        have hl : l = rH I + rW I := by omega
        subst hl
        refine fx_run1 (stops := [(16, 2)]) (K := fun _ _ _ _ _ _ => False) (fun _ _ _ _ _ _ h => h.elim) 60 fun X hX => ?_
        simp only [q_M_readsAll_0 hX rfl, q_M_readsAll_1 hX rfl, q_M_readsAll_2 hX rfl, q_M_readsAll_5 hX rfl, q_M_readsAll_6 hX rfl, q_M_readsAll_7 hX rfl, q_M_readsAll_10 hX rfl, q_M_readsAll_11 hX rfl, q_M_readsAll_14 hX rfl, q_M_readsAll_15 hX rfl, hX.2 _ 16 2 _ _ _ _ _ rfl, q_M_readsAll_17 hX rfl, q_M_readsAll_18 hX rfl, q_M_readsAll_21 hX rfl, q_M_readsAll_24 hX rfl, q_M_readsAll_25 hX rfl, q_M_readsAll_28 hX rfl, q_M_readsAll_29 hX rfl, q_M_readsAll_32 hX rfl, q_M_readsAll_33 hX rfl, q_M_readsAll_36 hX rfl, q_M_readsAll_37 hX rfl, q_M_readsAll_38 hX rfl, q_M_readsAll_41 hX rfl, q_M_readsAll_44 hX rfl, q_M_readsAll_46 hX rfl, q_M_readsAll_49 hX rfl, q_M_readsAll_50 hX rfl, q_M_readsAll_51 hX rfl, q_M_readsAll_54 hX rfl, q_M_readsAll_57 hX rfl, q_M_readsAll_58 hX rfl, q_M_readsAll_59 hX rfl, q_M_readsAll_62 hX rfl, q_M_readsAll_63 hX rfl, q_M_readsAll_64 hX rfl, q_M_readsAll_67 hX rfl, q_M_readsAll_68 hX rfl, q_M_readsAll_71 hX rfl, q_M_readsAll_72 hX rfl, q_M_readsAll_75 hX rfl, q_M_readsAll_76 hX rfl, q_M_readsAll_79 hX rfl, q_M_readsAll_80 hX rfl, q_M_readsAll_81 hX rfl, q_M_readsAll_84 hX rfl, q_M_readsAll_87 hX rfl, q_M_readsAll_90 hX rfl, q_M_readsAll_91 hX rfl, q_M_readsAll_94 hX rfl, q_M_readsAll_95 hX rfl, q_M_readsAll_98 hX rfl, q_M_readsAll_101 hX rfl, q_M_readsAll_102 hX rfl, q_M_readsAll_103 hX rfl, q_M_readsAll_106 hX rfl, q_M_readsAll_109 hX rfl, h_M_readsAll_16, fs_aload_n0, fs_aload_n1, fs_aload_n2, fs_aload_n3, fs_bipush, fs_dup, fs_getfield, fs_goto, fs_iadd, fs_iconst, fs_ifCond, fs_if_icmp, fs_iinc, fs_iload_n0, fs_iload_n1, fs_iload_n2, fs_iload_n3, fs_invokevirtual, fs_istore_n0, fs_istore_n1, fs_istore_n2, fs_istore_n3, fs_putfield, fs_return_, v_M_readsAll, ci_0, ci_m1, lt_1_2, cb_59, ci_1, pre_M_skips, post_M_skips, pre_M_lines, post_M_lines, pre_M_byteAt, post_M_byteAt, pre_M_fails, post_M_fails, pre_M_readsClue, post_M_readsClue, kd_M_21, kd_M_20, kd_M_19, pl_M_0, fx_oi_s, fx_ol_s, fx_or_s, fx_do_s, fx_lg_0, fx_lg_s, fx_ls_0, fx_ls_s, fx_ls_n0, fx_ls_ns, fx_en, fx_sz, Value.category, fx_nl, fx_lk, fx_tget, fx_tput, fx_tcall, fx_tldc, fx_fv, va_rf, fx_cat, fx_in, fx_cnd, fx_len, fx_narI, fx_narZ0, fx_narZ1, fx_narZb, zb_e, zb_ne, Option.some.injEq, Value.int.injEq, Value.long.injEq, Value.ref.injEq, List.cons.injEq, Nat.reduceAdd, Nat.reduceLeDiff, Nat.le_refl, List.take, List.drop, List.reverse_cons, List.reverse_nil, List.nil_append, List.cons_append, List.append_nil, List.map_cons, List.map_nil, List.sum_cons, List.sum_nil, List.length_cons, List.length_nil, Option.toList, fx_all4, forall_const, true_and, and_true, not_true_eq_false, not_false_eq_true, false_implies, true_implies, ne_eq, reduceCtorEq, Nat.reduceEqDiff, ite_true, ite_false, reduceIte, Instr.getfield.injEq, Instr.putfield.injEq, Instr.invokevirtual.injEq, Instr.invokestatic.injEq, Instr.ldc2_w.injEq]
        simp (disch := omega) only [lit, nI_add, nI_mul', nI_sub', nI_clamp, nI_lt', nI_le', nI_eq', nI_in', iinc1, zb_n0, nI_div', nI_rem2, true_and, and_true, Nat.reduceEqDiff, Nat.reduceLeDiff, Nat.one_ne_zero, Nat.zero_ne_one, not_false_eq_true, not_true_eq_false, false_implies, true_implies, forall_const, Nat.zero_add, Nat.add_zero, nv_nI, up_eq, up_ne, fill_ne, nI_clamp, nI_add, f3, f4, h21, hm1, h20, f19, ite_true]
        refine ⟨fun _ => ⟨fun h1 => hpost _ _ _ _ ⟨rfl, rfl, rfl, hfr, ?_⟩, fun h1 => hpost _ _ _ _ ⟨rfl, rfl, rfl, frA_up1 hfr, ?_⟩⟩, fun h => absurd (Nat.le_refl _) h⟩
        · unfold pAll
          rw [hpl]
          show resA _ _ _ (if p < tlN I then _ else _)
          rw [if_neg (by omega)]
          exact ⟨h21, hcl⟩
        · unfold pAll
          rw [hpl]
          show resA _ _ _ (if p < tlN I then _ else _)
          rw [if_pos (by omega)]
          show _ = _
          rw [up_eq]
    | succ d ih =>
      intro l I1 hld hi
      obtain ⟨hfr, hx⟩ := hi
      cases hpl : pLn (txN I) (tlN I) (rC I) (rW I) (rH I) l with
      | inl e =>
        rw [hpl] at hx
        exact hZ l e I1 (by omega) hfr hpl hx
      | inr x =>
        obtain ⟨p, cl⟩ := x
        rw [hpl] at hx
        obtain ⟨h21, h20, hcl⟩ := hx
        have hpo := hok l
        rw [hpl] at hpo
        have hptl : p ≤ tlN I := hpo.1
        obtain ⟨t1, t2, t3⟩ := frA_t hfr ht
        obtain ⟨d1, d2, d3, d4⟩ := frA_dim hfr
        have f3 : I1 0 3 = nI (rW I) := by rw [hfr 0 3 (by omega) (by omega)]; exact e1
        have f4 : I1 0 4 = nI (rH I) := by rw [hfr 0 4 (by omega) (by omega)]; exact e2
        have hstep : pLn (txN I) (tlN I) (rC I) (rW I) (rH I) (l + 1) = if 0 < l ∧ ¬ byN (txN I) (tlN I) p = 59 then .inl p else match pClue (txN I) (tlN I) (rC I) (cellsN (rW I) (rH I) l) (if 0 < l then skB (txN I) (tlN I) (p + 1) else p) with
            | .inl e => .inl e
            | .inr (p', x) => .inr (p', fun l' => if l' = l then x else cl l') := by
          rw [pLn, hpl]
        -- the clue itself, from a place p1
        have hclue : ∀ (p1 : Nat) (I2 : fx_MI) (r : Option Value) (I3 : fx_MI) (J3 : fx_MJ) (R3 : fx_MR), frA I I2 → I2 11 = I1 11 → Q_readsClue I2 J R0_M l p1 r I3 J3 R3 → ¬ (0 < l ∧ ¬ byN (txN I) (tlN I) p = 59) → p1 = (if 0 < l then skB (txN I) (tlN I) (p + 1) else p) → r = none ∧ J3 = J ∧ R3 = R0_M ∧ inv_ra I (l + 1) I3 := by
          intro p1 I2 r I3 J3 R3 hfr2 h11 hq hno hp1
          obtain ⟨u1, u2, u3⟩ := frA_t hfr2 ht
          obtain ⟨v1, v2, v3, v4⟩ := frA_dim hfr2
          obtain ⟨hr, hJ, hR, hfr3, hres⟩ := hq
          rw [u2, u3, v1, v2, v3] at hres
          have hokc := pClue_ok (t := txN I) (tl := tlN I) (C := rC I) (n := cellsN (rW I) (rH I) l) hc.1 (cellsN_le hw.2 hh.2) (p := p1) (by
            rw [hp1]
            split
            · have hby : byN (txN I) (tlN I) p = 59 := Classical.byContradiction fun z => hno ⟨by assumption, z⟩
              have := byN_lt (t := txN I) (tl := tlN I) (k := p) (by omega)
              exact (skB_le2 (by omega)).2
            · exact hptl)
          refine ⟨hr, hJ, hR, frA_trans hfr2 (frR_A hfr3), ?_⟩
          rw [hstep, if_neg hno, ← hp1]
          cases hpc : pClue (txN I) (tlN I) (rC I) (cellsN (rW I) (rH I) l) p1 with
          | inl e =>
            rw [hpc] at hres
            exact hres
          | inr y =>
            obtain ⟨p', x1, x2, x3, x4⟩ := y
            rw [hpc] at hres hokc
            refine ⟨hres.1, hres.2.1, fun l' hl' => ?_⟩
            by_cases h9 : l' = l
            · subst h9
              show clX (I3 11) l' (if l' = l' then _ else _)
              rw [if_pos rfl]
              exact hres.2.2
            · show clX (I3 11) l' (if l' = l then _ else _)
              rw [if_neg h9]
              have h8 := hcl l' (by omega)
              have hokl := (hpo.2 l' (by omega)).2.2.1
              refine ⟨?_, ?_, fun b hb => ⟨?_, ?_⟩⟩
              · rw [hfr3 11 _ (by omega) (by omega), h11]; exact h8.1
              · rw [hfr3 11 _ (by omega) (by omega), h11]; exact h8.2.1
              · rw [hfr3 11 _ (by omega) (by omega), h11]; exact (h8.2.2 b hb).1
              · rw [hfr3 11 _ (by omega) (by omega), h11]; exact (h8.2.2 b hb).2
        refine fx_run1 (stops := [(16, 2)]) (K := fx_at 16 (fun L st I' J' R' => inv_ra I (l + 1) I' ∧ L = [some (.ref 0), some (.int (nI (l + 1)))] ∧ st = [] ∧ J' = J ∧ R' = R0_M)) ?_ 90 fun X hX => ?_
        · rintro pc L st I' J' R' ⟨rfl, k0, hL, k1, k2, k3⟩
          rw [hL, k1, k2, k3]
          exact ih (l + 1) I' (by omega) k0
        · simp only [q_M_readsAll_0 hX rfl, q_M_readsAll_1 hX rfl, q_M_readsAll_2 hX rfl, q_M_readsAll_5 hX rfl, q_M_readsAll_6 hX rfl, q_M_readsAll_7 hX rfl, q_M_readsAll_10 hX rfl, q_M_readsAll_11 hX rfl, q_M_readsAll_14 hX rfl, q_M_readsAll_15 hX rfl, hX.2 _ 16 2 _ _ _ _ _ rfl, q_M_readsAll_17 hX rfl, q_M_readsAll_18 hX rfl, q_M_readsAll_21 hX rfl, q_M_readsAll_24 hX rfl, q_M_readsAll_25 hX rfl, q_M_readsAll_28 hX rfl, q_M_readsAll_29 hX rfl, q_M_readsAll_32 hX rfl, q_M_readsAll_33 hX rfl, q_M_readsAll_36 hX rfl, q_M_readsAll_37 hX rfl, q_M_readsAll_38 hX rfl, q_M_readsAll_41 hX rfl, q_M_readsAll_44 hX rfl, q_M_readsAll_46 hX rfl, q_M_readsAll_49 hX rfl, q_M_readsAll_50 hX rfl, q_M_readsAll_51 hX rfl, q_M_readsAll_54 hX rfl, q_M_readsAll_57 hX rfl, q_M_readsAll_58 hX rfl, q_M_readsAll_59 hX rfl, q_M_readsAll_62 hX rfl, q_M_readsAll_63 hX rfl, q_M_readsAll_64 hX rfl, q_M_readsAll_67 hX rfl, q_M_readsAll_68 hX rfl, q_M_readsAll_71 hX rfl, q_M_readsAll_72 hX rfl, q_M_readsAll_75 hX rfl, q_M_readsAll_76 hX rfl, q_M_readsAll_79 hX rfl, q_M_readsAll_80 hX rfl, q_M_readsAll_81 hX rfl, q_M_readsAll_84 hX rfl, q_M_readsAll_87 hX rfl, q_M_readsAll_90 hX rfl, q_M_readsAll_91 hX rfl, q_M_readsAll_94 hX rfl, q_M_readsAll_95 hX rfl, q_M_readsAll_98 hX rfl, q_M_readsAll_101 hX rfl, q_M_readsAll_102 hX rfl, q_M_readsAll_103 hX rfl, q_M_readsAll_106 hX rfl, q_M_readsAll_109 hX rfl, h_M_readsAll_16, fs_aload_n0, fs_aload_n1, fs_aload_n2, fs_aload_n3, fs_bipush, fs_dup, fs_getfield, fs_goto, fs_iadd, fs_iconst, fs_ifCond, fs_if_icmp, fs_iinc, fs_iload_n0, fs_iload_n1, fs_iload_n2, fs_iload_n3, fs_invokevirtual, fs_istore_n0, fs_istore_n1, fs_istore_n2, fs_istore_n3, fs_putfield, fs_return_, v_M_readsAll, ci_0, ci_m1, lt_1_2, cb_59, ci_1, pre_M_skips, post_M_skips, pre_M_lines, post_M_lines, pre_M_byteAt, post_M_byteAt, pre_M_fails, post_M_fails, pre_M_readsClue, post_M_readsClue, kd_M_21, kd_M_20, kd_M_19, pl_M_0, fx_oi_s, fx_ol_s, fx_or_s, fx_do_s, fx_lg_0, fx_lg_s, fx_ls_0, fx_ls_s, fx_ls_n0, fx_ls_ns, fx_en, fx_sz, Value.category, fx_nl, fx_lk, fx_tget, fx_tput, fx_tcall, fx_tldc, fx_fv, va_rf, fx_cat, fx_in, fx_cnd, fx_len, fx_narI, fx_narZ0, fx_narZ1, fx_narZb, zb_e, zb_ne, Option.some.injEq, Value.int.injEq, Value.long.injEq, Value.ref.injEq, List.cons.injEq, Nat.reduceAdd, Nat.reduceLeDiff, Nat.le_refl, List.take, List.drop, List.reverse_cons, List.reverse_nil, List.nil_append, List.cons_append, List.append_nil, List.map_cons, List.map_nil, List.sum_cons, List.sum_nil, List.length_cons, List.length_nil, Option.toList, fx_all4, forall_const, true_and, and_true, not_true_eq_false, not_false_eq_true, false_implies, true_implies, ne_eq, reduceCtorEq, Nat.reduceEqDiff, ite_true, ite_false, reduceIte, Instr.getfield.injEq, Instr.putfield.injEq, Instr.invokevirtual.injEq, Instr.invokestatic.injEq, Instr.ldc2_w.injEq]
          have hby := byI_eq t1 p (c := 59) (by omega)
          rw [t2, t3] at hby
          have w1 := fun x => okt_up (x := x) t1
          simp (disch := omega) only [lit, nI_add, nI_mul', nI_sub', nI_clamp, nI_lt', nI_le', nI_eq', nI_in', iinc1, zb_n0, nI_div', nI_rem2, true_and, and_true, Nat.reduceEqDiff, Nat.reduceLeDiff, Nat.one_ne_zero, Nat.zero_ne_one, not_false_eq_true, not_true_eq_false, false_implies, true_implies, forall_const, Nat.zero_add, Nat.add_zero, nv_nI, up_eq, up_ne, fill_ne, nI_clamp, nI_add, f3, f4, h21, hm1, h20, t1.1, rg_nI, hbyE, hby, (w1 _).1, (w1 _).2.1, (w1 _).2.2, t2, t3, up_up, ite_true]
          refine ⟨fun h => absurd h (by omega), fun _ => ⟨fun h0 => ⟨⟨d4 hd, t1, ⟨l, by rw [d1, d2]; omega, rfl⟩, hptl⟩, fun r I' J' R' hq => ?_⟩, fun h0 => ⟨fun h1 => ?_, fun h1 => ⟨?_, fun _ => ?_, fun z => absurd z (by rw [hne p (by omega)]; exact fun z => z)⟩⟩⟩⟩
          · obtain ⟨hr, hJ, hR, hinv⟩ := hclue p I1 r I' J' R' hfr rfl hq (fun z => by omega) (by rw [if_neg (by omega)])
            subst hr
            rw [hJ, hR]
            exact fx_at_i ⟨hinv, rfl, rfl, rfl, rfl⟩
          · have hlt := byN_lt (t := txN I) (tl := tlN I) (k := p) (by omega)
            have hsk := skB_le2 (t := txN I) (tl := tlN I) (p := p + 1) (by omega)
            have hfr2 : frA I (fx_up I1 0 20 (nI (skB (txN I) (tlN I) (p + 1)))) := frA_up hfr
            obtain ⟨v1, v2, v3, v4⟩ := frA_dim hfr2
            refine ⟨⟨v4 hd, ⟨l, by rw [v1, v2]; omega, rfl⟩, ⟨_, by omega, rfl⟩, by rw [nv_nI (by omega)]; omega⟩, fun r I' J' R' hq => ?_⟩
            rw [nv_nI (by omega)] at hq
            obtain ⟨hr, hJ, hR, hinv⟩ := hclue _ _ r I' J' R' hfr2 (up_row (by omega)) hq (fun z => z.2 h1) (by rw [if_pos (by omega)])
            subst hr
            rw [hJ, hR]
            exact fx_at_i ⟨hinv, rfl, rfl, rfl, rfl⟩
          · exact (frA_t (frA_up (frA_up1 hfr)) ht).1
          · refine fx_at_i ⟨⟨frA_up (frA_up1 hfr), ?_⟩, rfl, rfl, rfl, rfl⟩
            rw [hstep, if_pos ⟨by omega, h1⟩]
            show _ = _
            rw [up_ne (by omega), up_eq]
  have hsk0 := skB_le2 (t := txN I) (tl := tlN I) (p := 0) (by omega)
  have hfr0 : frA I (fx_up (fx_up I 0 20 (nI 0)) 0 21 (-nI 1)) := frA_up1 (frA_up frA_rfl)
  obtain ⟨t1, t2, t3⟩ := frA_t hfr0 ht
  refine fx_run (stops := [(16, 2)]) (K := fx_at 16 (fun L st I' J' R' => inv_ra I 0 I' ∧ L = [some (.ref 0), some (.int (nI 0))] ∧ st = [] ∧ J' = J ∧ R' = R0_M)) ?_ 90 fun X hX => ?_
  · rintro pc L st I' J' R' ⟨rfl, k0, hL, k1, k2, k3⟩
    rw [hL, k1, k2, k3]
    exact hA (rH I + rW I) 0 I' (by omega) k0
  · simp only [q_M_readsAll_0 hX rfl, q_M_readsAll_1 hX rfl, q_M_readsAll_2 hX rfl, q_M_readsAll_5 hX rfl, q_M_readsAll_6 hX rfl, q_M_readsAll_7 hX rfl, q_M_readsAll_10 hX rfl, q_M_readsAll_11 hX rfl, q_M_readsAll_14 hX rfl, q_M_readsAll_15 hX rfl, hX.2 _ 16 2 _ _ _ _ _ rfl, q_M_readsAll_17 hX rfl, q_M_readsAll_18 hX rfl, q_M_readsAll_21 hX rfl, q_M_readsAll_24 hX rfl, q_M_readsAll_25 hX rfl, q_M_readsAll_28 hX rfl, q_M_readsAll_29 hX rfl, q_M_readsAll_32 hX rfl, q_M_readsAll_33 hX rfl, q_M_readsAll_36 hX rfl, q_M_readsAll_37 hX rfl, q_M_readsAll_38 hX rfl, q_M_readsAll_41 hX rfl, q_M_readsAll_44 hX rfl, q_M_readsAll_46 hX rfl, q_M_readsAll_49 hX rfl, q_M_readsAll_50 hX rfl, q_M_readsAll_51 hX rfl, q_M_readsAll_54 hX rfl, q_M_readsAll_57 hX rfl, q_M_readsAll_58 hX rfl, q_M_readsAll_59 hX rfl, q_M_readsAll_62 hX rfl, q_M_readsAll_63 hX rfl, q_M_readsAll_64 hX rfl, q_M_readsAll_67 hX rfl, q_M_readsAll_68 hX rfl, q_M_readsAll_71 hX rfl, q_M_readsAll_72 hX rfl, q_M_readsAll_75 hX rfl, q_M_readsAll_76 hX rfl, q_M_readsAll_79 hX rfl, q_M_readsAll_80 hX rfl, q_M_readsAll_81 hX rfl, q_M_readsAll_84 hX rfl, q_M_readsAll_87 hX rfl, q_M_readsAll_90 hX rfl, q_M_readsAll_91 hX rfl, q_M_readsAll_94 hX rfl, q_M_readsAll_95 hX rfl, q_M_readsAll_98 hX rfl, q_M_readsAll_101 hX rfl, q_M_readsAll_102 hX rfl, q_M_readsAll_103 hX rfl, q_M_readsAll_106 hX rfl, q_M_readsAll_109 hX rfl, h_M_readsAll_16, fs_aload_n0, fs_aload_n1, fs_aload_n2, fs_aload_n3, fs_bipush, fs_dup, fs_getfield, fs_goto, fs_iadd, fs_iconst, fs_ifCond, fs_if_icmp, fs_iinc, fs_iload_n0, fs_iload_n1, fs_iload_n2, fs_iload_n3, fs_invokevirtual, fs_istore_n0, fs_istore_n1, fs_istore_n2, fs_istore_n3, fs_putfield, fs_return_, v_M_readsAll, ci_0, ci_m1, lt_1_2, cb_59, ci_1, pre_M_skips, post_M_skips, pre_M_lines, post_M_lines, pre_M_byteAt, post_M_byteAt, pre_M_fails, post_M_fails, pre_M_readsClue, post_M_readsClue, kd_M_21, kd_M_20, kd_M_19, pl_M_0, fx_oi_s, fx_ol_s, fx_or_s, fx_do_s, fx_lg_0, fx_lg_s, fx_ls_0, fx_ls_s, fx_ls_n0, fx_ls_ns, fx_en, fx_sz, Value.category, fx_nl, fx_lk, fx_tget, fx_tput, fx_tcall, fx_tldc, fx_fv, va_rf, fx_cat, fx_in, fx_cnd, fx_len, fx_narI, fx_narZ0, fx_narZ1, fx_narZb, zb_e, zb_ne, Option.some.injEq, Value.int.injEq, Value.long.injEq, Value.ref.injEq, List.cons.injEq, Nat.reduceAdd, Nat.reduceLeDiff, Nat.le_refl, List.take, List.drop, List.reverse_cons, List.reverse_nil, List.nil_append, List.cons_append, List.append_nil, List.map_cons, List.map_nil, List.sum_cons, List.sum_nil, List.length_cons, List.length_nil, Option.toList, fx_all4, forall_const, true_and, and_true, not_true_eq_false, not_false_eq_true, false_implies, true_implies, ne_eq, reduceCtorEq, Nat.reduceEqDiff, ite_true, ite_false, reduceIte, Instr.getfield.injEq, Instr.putfield.injEq, Instr.invokevirtual.injEq, Instr.invokestatic.injEq, Instr.ldc2_w.injEq]
    simp (disch := omega) only [lit, nI_add, nI_mul', nI_sub', nI_clamp, nI_lt', nI_le', nI_eq', nI_in', iinc1, zb_n0, nI_div', nI_rem2, true_and, and_true, Nat.reduceEqDiff, Nat.reduceLeDiff, Nat.one_ne_zero, Nat.zero_ne_one, not_false_eq_true, not_true_eq_false, false_implies, true_implies, forall_const, Nat.zero_add, Nat.add_zero, nv_nI, up_eq, up_ne, fill_ne, nI_clamp, nI_add, hm1, t1, t2, t3, rg_nI]
    refine fx_at_i ⟨⟨frA_up hfr0, ?_, ?_, fun l' hl' => by omega⟩, rfl, rfl, rfl, rfl⟩
    · rw [up_ne (by omega), up_eq]
    · rw [up_eq]
theorem c_M_readsAll (l : Launch) : fx_Met l y_M_readsAll ws_M_readsAll rm_M_readsAll MM pre_M_readsAll post_M_readsAll := fx_met MM_ok MM_tys (by decide) rfl pk_M_readsAll vk_M_readsAll (fun st I J R h => r_M_readsAll st I J R h)
theorem e_M_readsAll {l : Launch} {c0 : Cond} {rm : Room} {nL : Nat} {cc : ByteArray} (hR : rm_M_readsAll.frames + 1 ≤ rm.frames ∧ 8 + (2 + 11) + rm_M_readsAll.locals ≤ rm.locals) : fx_E1 l R_M (c0 :: w_M) rm MM nL cc (.invokevirtual 218) (fx_tcall 1 pre_M_readsAll post_M_readsAll) := fx_callV (ci := 0) (C := R_M) rfl (c_M_readsAll l) (w_M_G (w_M_has 200 rfl) (w_M_has 201 rfl) (w_M_has 202 rfl) (w_M_has 7 rfl) (w_M_has 199 rfl)) rfl ⟨rfl, rfl⟩ (by decide) hR (fun st I J R h => pz_M_readsAll h) MM_ok

