/-! the class: narrow (own work) -/
/-- no clued line goes through a cell: its color is free -/
theorem good_free {w h lev : Nat} {f : Nat → Int32} {u v : Nat → Nat} {k : Nat} (hk : k < w * h) (hr : f (k / w) = nI 0) (hc : f (h + k % w) = nI 0) (he : ∀ j, j ≠ k → v j = u j) (hg : good w h f lev u) : good w h f lev v := by
  have hnk : ∀ l, l < h + w → ¬ f l = nI 0 → ∀ i, i < cellsN w h l → atN w h l i ≠ k := fun l hl hn i hi z => by
    unfold cellsN at hi
    unfold atN at z
    by_cases hlh : l < h
    · rw [if_pos hlh] at hi z
      have e := (dm_ (w := w) (l := l) hi).1
      rw [z] at e
      rw [← e] at hn
      exact hn hr
    · rw [if_neg hlh] at hi z
      have e := (dm_ (w := w) (l := i) (i := l - h) (by omega)).2
      rw [show w * i + (l - h) = k by omega] at e
      rw [show l = h + k % w by omega] at hn
      exact hn hc
  intro l hl hn
  have he2 : ∀ i, i < cellsN w h l → u (atN w h l i) = v (atN w h l i) := fun i hi => (he _ (hnk l hl hn i hi)).symm
  obtain ⟨⟨s, hs⟩, g2⟩ := hg l hl hn
  refine ⟨⟨s, (PF_ul he2).mp hs⟩, fun i hi => ?_⟩
  rw [← he2 i hi]
  exact (BT_ul hi he2).mp (g2 i hi)
theorem TT_ne {w h c : Nat} {f : Nat → Int32} {u v : Nat → Nat} (hok : ∀ l, l < 16 → okl 3 f l) (hw : w ≤ 8) (hh : h ≤ 8) (hN : TTc w h c f u v) (hv : ∀ k, k < w * h → v k < 16) (hu : ∀ k, k < w * h → u k < 16) (hne : ∀ k, k < w * h → ∃ c, c < 4 ∧ u k / 2 ^ c % 2 = 1) {k : Nat} (hk : k < w * h) : ∃ c, c < 4 ∧ v k / 2 ^ c % 2 = 1 := by
  obtain ⟨hm, hd⟩ := k_dm hk
  by_cases hr : f (k / w) = nI 0
  · by_cases hc : f (h + k % w) = nI 0
    · refine Classical.byContradiction fun hno => ?_
      have hz : ∀ x, sub (v k) x := fun x d hd hb => absurd ⟨d, hd, hb⟩ hno
      obtain ⟨d, d1, d2⟩ := hne k hk
      obtain ⟨r, hrk, hro⟩ : ∃ r : Nat → Nat, r k = u k ∧ ∀ j, j ≠ k → r j = v j := ⟨fun j => if j = k then u k else v j, if_pos rfl, fun j hj => if_neg hj⟩
      have hvr : ∀ j, sub (v j) (r j) := fun j => by
        by_cases h2 : j = k
        · rw [h2]
          exact hz _
        · rw [hro j h2]
          exact sub_rfl
      have hsub : ∀ k' y j, sub (updM v k' y j) (updM r k' y j) := fun k' y j => by
        unfold updM
        by_cases h1 : j = k'
        · rw [if_pos h1, if_pos h1]
          exact sub_rfl
        · rw [if_neg h1, if_neg h1]
          exact hvr j
      have := hN.2.2 r (fun j hj => ?_) (fun j hj => ?_) ⟨good_free hk hr hc hro hN.2.1.1, fun k' c' h1 h2 h3 => ?_⟩ k hk d d1 (by rw [hrk]; exact d2)
      · exact hno ⟨d, d1, this⟩
      · by_cases hjk : j = k
        · rw [hjk, hrk]
          exact sub_rfl
        · rw [hro j hjk]
          exact hN.1 j hj
      · by_cases hjk : j = k
        · rw [hjk, hrk]
          exact hu k hk
        · rw [hro j hjk]
          exact hv j hj
      · by_cases h4 : k' = k
        · subst h4
          refine h3.2 v (fun j => ?_) hN.2.1.1
          unfold updM
          by_cases h5 : j = k'
          · rw [h5]
            exact hz _
          · rw [if_neg h5]
            exact hvr j
        · refine hN.2.1.2 k' c' h1 h2 ⟨?_, fun r' hr' hg => h3.2 r' (fun j => sub_trans (hr' j) (hsub k' _ j)) hg⟩
          have h5 := h3.1
          unfold opn at h5 ⊢
          rw [hro k' h4] at h5
          exact h5
    · obtain ⟨⟨s, hs⟩, -⟩ := hN.2.1.1 (h + k % w) (by omega) hc
      have := hs.2 (k / w) (by unfold cellsN; rw [if_neg (by omega)]; exact hd)
      rw [at_col] at this
      exact ⟨_, pcN_lt (hok _ (by omega)) (Nat.le_refl _), this⟩
  · obtain ⟨⟨s, hs⟩, -⟩ := hN.2.1.1 (k / w) (by omega) hr
    have := hs.2 (k % w) (by unfold cellsN; rw [if_pos hd]; exact hm)
    rw [at_row hk] at this
    exact ⟨_, pcN_lt (hok _ (by omega)) (Nat.le_refl _), this⟩
theorem NL_ne {w h c lev : Nat} {f : Nat → Int32} {u v : Nat → Nat} (hok : ∀ l, l < 16 → okl 3 f l) (hw : w ≤ 8) (hh : h ≤ 8) (hN : NLc w h c f lev u v) (hu : ∀ k, k < w * h → u k < 16) (hne : ∀ k, k < w * h → ∃ c, c < 4 ∧ u k / 2 ^ c % 2 = 1) {k : Nat} (hk : k < w * h) : ∃ c, c < 4 ∧ v k / 2 ^ c % 2 = 1 := by
  by_cases h3 : lev = 3
  · exact TT_ne hok hw hh (hN.2.1 h3) hN.1 hu hne hk
  · exact NT_ne hok hw hh (hN.2.2 h3) hne hk
theorem NL_sub {w h c lev : Nat} {f : Nat → Int32} {u v : Nat → Nat} (hN : NLc w h c f lev u v) {k : Nat} (hk : k < w * h) : sub (v k) (u k) := by
  by_cases h3 : lev = 3
  · exact (hN.2.1 h3).1 k hk
  · exact (hN.2.2 h3).1 k hk
theorem NTl_out {w h c lev : Nat} {f : Nat → Int32} {u v : Nat → Nat} (hN : NTl w h c f lev u v) {k : Nat} (hk : w * h ≤ k) : v k = u k := by
  unfold NTl at hN
  split at hN
  · exact hN.2.2.2 k hk
  · exact hN.2.2.2 k hk
theorem bit_pos : ∀ x, x < 16 → (∃ c, c < 4 ∧ x / 2 ^ c % 2 = 1) → 1 ≤ x := by decide +kernel
/-- narrowing of now's marks in the narrower has ended -/
def nwK (I : fx_MI) (J : fx_MJ) (lev : Nat) (s : Bool) (I' : fx_MI) (J' : fx_MJ) : Prop := frZ I I' ∧ (∀ q d, q ≠ 114 → q ≠ 116 → J' q d = J q d) ∧ lyO (cW I) (cH I) J' 113 ∧ ((s = true ∧ NLc (cW I) (cH I) (cC I) (cf I 3) lev (cu (cW I) J 8) (cu (cW I) J' 113)) ∨ (s = false ∧ NGc (cW I) (cH I) (cC I) (cf I 3) lev (cu (cW I) J 8)))
theorem sm_cut {f : Nat → Nat} {m n : Nat} (hm : m ≤ n) (h : ∀ k, m ≤ k → k < n → f k = 0) : sm f n = sm f m := by
  induction n with
  | zero => rw [show m = 0 by omega]
  | succ n ih =>
    by_cases hx : m = n + 1
    · rw [hx]
    · show sm f n + f n = _
      rw [ih (by omega) (fun k h1 h2 => h k h1 (by omega)), h n (by omega) (by omega), Nat.add_zero]
def p_Out_narrow : fx_Pr := fx_pr [(0, .iload_n 1, 0), (1, .iconst 1, 0), (2, .iconst 3, 0), (3, .invokestatic 87, 0), (6, .ifCond .ne 6, 12), (9, .bipush (-2), 0), (11, .ireturn, 0), (12, .aload_n 0, 0), (13, .getfield 61, 0), (16, .getfield 238, 0), (19, .aload_n 0, 0), (20, .getfield 19, 0), (23, .getfield 132, 0), (26, .invokevirtual 239, 0), (29, .iload_n 1, 0), (30, .iconst 3, 0), (31, .if_icmp .ne 13, 44), (34, .aload_n 0, 0), (35, .getfield 61, 0), (38, .invokevirtual 250, 0), (41, .goto 30, 71), (44, .aload_n 0, 0), (45, .getfield 61, 0), (48, .aload_n 0, 0), (49, .getfield 19, 0), (52, .getfield 46, 0), (55, .getfield 254, 0), (58, .iload_n 1, 0), (59, .iconst 1, 0), (60, .if_icmp .ne 7, 67), (63, .iconst 1, 0), (64, .goto 4, 68), (67, .iconst 0, 0), (68, .invokevirtual 257, 0), (71, .istore_n 2, 0), (72, .iload_n 2, 0), (73, .ifCond .ne 6, 79), (76, .bipush (-4), 0), (78, .ireturn, 0), (79, .aload_n 0, 0), (80, .getfield 26, 0), (83, .aload_n 0, 0), (84, .getfield 19, 0), (87, .invokevirtual 111, 0), (90, .aload_n 0, 0), (91, .getfield 19, 0), (94, .getfield 132, 0), (97, .aload_n 0, 0), (98, .getfield 61, 0), (101, .getfield 238, 0), (104, .invokevirtual 246, 0), (107, .invokestatic 197, 0), (110, .istore_n 3, 0), (111, .aload_n 0, 0), (112, .getfield 19, 0), (115, .getfield 132, 0), (118, .aload_n 0, 0), (119, .getfield 61, 0), (122, .getfield 238, 0), (125, .invokevirtual 239, 0), (128, .iload_n 3, 0), (129, .ireturn, 0)]
theorem pk_Out_narrow : fx_prOK b_Out_narrow p_Out_narrow := fx_pr_ok (by decide +kernel)
theorem q_Out_narrow_0 {nL : Nat} {M : fx_M} {ev : fx_Env} {ret : Option FieldType} {P : fx_P} {stops : List (Nat × Nat)} {K : fx_K} {n : Nat} {L : List (Option Value)} {st : List Value} {I : fx_MI} {J : fx_MJ} {R : fx_MR} {X : Nat → fx_K} (hX : fx_isX nL M ev ret P p_Out_narrow stops K X) (hs : fx_stop stops 0 = none) : X (n + 1) 0 L st I J R = fx_S nL M ev ret P (.iload_n 1) 0 0 L st I J R (X n) := hX.1 _ _ _ _ _ _ _ _ _ rfl hs
theorem q_Out_narrow_1 {nL : Nat} {M : fx_M} {ev : fx_Env} {ret : Option FieldType} {P : fx_P} {stops : List (Nat × Nat)} {K : fx_K} {n : Nat} {L : List (Option Value)} {st : List Value} {I : fx_MI} {J : fx_MJ} {R : fx_MR} {X : Nat → fx_K} (hX : fx_isX nL M ev ret P p_Out_narrow stops K X) (hs : fx_stop stops 1 = none) : X (n + 1) 1 L st I J R = fx_S nL M ev ret P (.iconst 1) 0 1 L st I J R (X n) := hX.1 _ _ _ _ _ _ _ _ _ rfl hs
theorem q_Out_narrow_2 {nL : Nat} {M : fx_M} {ev : fx_Env} {ret : Option FieldType} {P : fx_P} {stops : List (Nat × Nat)} {K : fx_K} {n : Nat} {L : List (Option Value)} {st : List Value} {I : fx_MI} {J : fx_MJ} {R : fx_MR} {X : Nat → fx_K} (hX : fx_isX nL M ev ret P p_Out_narrow stops K X) (hs : fx_stop stops 2 = none) : X (n + 1) 2 L st I J R = fx_S nL M ev ret P (.iconst 3) 0 2 L st I J R (X n) := hX.1 _ _ _ _ _ _ _ _ _ rfl hs
theorem q_Out_narrow_3 {nL : Nat} {M : fx_M} {ev : fx_Env} {ret : Option FieldType} {P : fx_P} {stops : List (Nat × Nat)} {K : fx_K} {n : Nat} {L : List (Option Value)} {st : List Value} {I : fx_MI} {J : fx_MJ} {R : fx_MR} {X : Nat → fx_K} (hX : fx_isX nL M ev ret P p_Out_narrow stops K X) (hs : fx_stop stops 3 = none) : X (n + 1) 3 L st I J R = fx_S nL M ev ret P (.invokestatic 87) 0 3 L st I J R (X n) := hX.1 _ _ _ _ _ _ _ _ _ rfl hs
theorem q_Out_narrow_6 {nL : Nat} {M : fx_M} {ev : fx_Env} {ret : Option FieldType} {P : fx_P} {stops : List (Nat × Nat)} {K : fx_K} {n : Nat} {L : List (Option Value)} {st : List Value} {I : fx_MI} {J : fx_MJ} {R : fx_MR} {x : Int32} {X : Nat → fx_K} (hX : fx_isX nL M ev ret P p_Out_narrow stops K X) (hs : fx_stop stops 6 = none) : X (n + 1) 6 L (.int x :: st) I J R = ((¬ x = 0 → X n 12 L st I J R) ∧ (x = 0 → X n 9 L st I J R)) := fx_q_ifne hX rfl hs rfl
theorem q_Out_narrow_9 {nL : Nat} {M : fx_M} {ev : fx_Env} {ret : Option FieldType} {P : fx_P} {stops : List (Nat × Nat)} {K : fx_K} {n : Nat} {L : List (Option Value)} {st : List Value} {I : fx_MI} {J : fx_MJ} {R : fx_MR} {X : Nat → fx_K} (hX : fx_isX nL M ev ret P p_Out_narrow stops K X) (hs : fx_stop stops 9 = none) : X (n + 1) 9 L st I J R = fx_S nL M ev ret P (.bipush (-2)) 0 9 L st I J R (X n) := hX.1 _ _ _ _ _ _ _ _ _ rfl hs
theorem q_Out_narrow_11 {nL : Nat} {M : fx_M} {ev : fx_Env} {ret : Option FieldType} {P : fx_P} {stops : List (Nat × Nat)} {K : fx_K} {n : Nat} {L : List (Option Value)} {st : List Value} {I : fx_MI} {J : fx_MJ} {R : fx_MR} {X : Nat → fx_K} (hX : fx_isX nL M ev ret P p_Out_narrow stops K X) (hs : fx_stop stops 11 = none) : X (n + 1) 11 L st I J R = fx_S nL M ev ret P (.ireturn) 0 11 L st I J R (X n) := hX.1 _ _ _ _ _ _ _ _ _ rfl hs
theorem q_Out_narrow_12 {nL : Nat} {M : fx_M} {ev : fx_Env} {ret : Option FieldType} {P : fx_P} {stops : List (Nat × Nat)} {K : fx_K} {n : Nat} {L : List (Option Value)} {st : List Value} {I : fx_MI} {J : fx_MJ} {R : fx_MR} {X : Nat → fx_K} (hX : fx_isX nL M ev ret P p_Out_narrow stops K X) (hs : fx_stop stops 12 = none) : X (n + 1) 12 L st I J R = fx_S nL M ev ret P (.aload_n 0) 0 12 L st I J R (X n) := hX.1 _ _ _ _ _ _ _ _ _ rfl hs
theorem q_Out_narrow_13 {nL : Nat} {M : fx_M} {ev : fx_Env} {ret : Option FieldType} {P : fx_P} {stops : List (Nat × Nat)} {K : fx_K} {n : Nat} {L : List (Option Value)} {st : List Value} {I : fx_MI} {J : fx_MJ} {R : fx_MR} {X : Nat → fx_K} (hX : fx_isX nL M ev ret P p_Out_narrow stops K X) (hs : fx_stop stops 13 = none) : X (n + 1) 13 L st I J R = fx_S nL M ev ret P (.getfield 61) 0 13 L st I J R (X n) := hX.1 _ _ _ _ _ _ _ _ _ rfl hs
theorem q_Out_narrow_16 {nL : Nat} {M : fx_M} {ev : fx_Env} {ret : Option FieldType} {P : fx_P} {stops : List (Nat × Nat)} {K : fx_K} {n : Nat} {L : List (Option Value)} {st : List Value} {I : fx_MI} {J : fx_MJ} {R : fx_MR} {X : Nat → fx_K} (hX : fx_isX nL M ev ret P p_Out_narrow stops K X) (hs : fx_stop stops 16 = none) : X (n + 1) 16 L st I J R = fx_S nL M ev ret P (.getfield 238) 0 16 L st I J R (X n) := hX.1 _ _ _ _ _ _ _ _ _ rfl hs
theorem q_Out_narrow_19 {nL : Nat} {M : fx_M} {ev : fx_Env} {ret : Option FieldType} {P : fx_P} {stops : List (Nat × Nat)} {K : fx_K} {n : Nat} {L : List (Option Value)} {st : List Value} {I : fx_MI} {J : fx_MJ} {R : fx_MR} {X : Nat → fx_K} (hX : fx_isX nL M ev ret P p_Out_narrow stops K X) (hs : fx_stop stops 19 = none) : X (n + 1) 19 L st I J R = fx_S nL M ev ret P (.aload_n 0) 0 19 L st I J R (X n) := hX.1 _ _ _ _ _ _ _ _ _ rfl hs
theorem q_Out_narrow_20 {nL : Nat} {M : fx_M} {ev : fx_Env} {ret : Option FieldType} {P : fx_P} {stops : List (Nat × Nat)} {K : fx_K} {n : Nat} {L : List (Option Value)} {st : List Value} {I : fx_MI} {J : fx_MJ} {R : fx_MR} {X : Nat → fx_K} (hX : fx_isX nL M ev ret P p_Out_narrow stops K X) (hs : fx_stop stops 20 = none) : X (n + 1) 20 L st I J R = fx_S nL M ev ret P (.getfield 19) 0 20 L st I J R (X n) := hX.1 _ _ _ _ _ _ _ _ _ rfl hs
theorem q_Out_narrow_23 {nL : Nat} {M : fx_M} {ev : fx_Env} {ret : Option FieldType} {P : fx_P} {stops : List (Nat × Nat)} {K : fx_K} {n : Nat} {L : List (Option Value)} {st : List Value} {I : fx_MI} {J : fx_MJ} {R : fx_MR} {X : Nat → fx_K} (hX : fx_isX nL M ev ret P p_Out_narrow stops K X) (hs : fx_stop stops 23 = none) : X (n + 1) 23 L st I J R = fx_S nL M ev ret P (.getfield 132) 0 23 L st I J R (X n) := hX.1 _ _ _ _ _ _ _ _ _ rfl hs
theorem q_Out_narrow_26 {nL : Nat} {M : fx_M} {ev : fx_Env} {ret : Option FieldType} {P : fx_P} {stops : List (Nat × Nat)} {K : fx_K} {n : Nat} {L : List (Option Value)} {st : List Value} {I : fx_MI} {J : fx_MJ} {R : fx_MR} {X : Nat → fx_K} (hX : fx_isX nL M ev ret P p_Out_narrow stops K X) (hs : fx_stop stops 26 = none) : X (n + 1) 26 L st I J R = fx_S nL M ev ret P (.invokevirtual 239) 0 26 L st I J R (X n) := hX.1 _ _ _ _ _ _ _ _ _ rfl hs
theorem q_Out_narrow_29 {nL : Nat} {M : fx_M} {ev : fx_Env} {ret : Option FieldType} {P : fx_P} {stops : List (Nat × Nat)} {K : fx_K} {n : Nat} {L : List (Option Value)} {st : List Value} {I : fx_MI} {J : fx_MJ} {R : fx_MR} {X : Nat → fx_K} (hX : fx_isX nL M ev ret P p_Out_narrow stops K X) (hs : fx_stop stops 29 = none) : X (n + 1) 29 L st I J R = fx_S nL M ev ret P (.iload_n 1) 0 29 L st I J R (X n) := hX.1 _ _ _ _ _ _ _ _ _ rfl hs
theorem q_Out_narrow_30 {nL : Nat} {M : fx_M} {ev : fx_Env} {ret : Option FieldType} {P : fx_P} {stops : List (Nat × Nat)} {K : fx_K} {n : Nat} {L : List (Option Value)} {st : List Value} {I : fx_MI} {J : fx_MJ} {R : fx_MR} {X : Nat → fx_K} (hX : fx_isX nL M ev ret P p_Out_narrow stops K X) (hs : fx_stop stops 30 = none) : X (n + 1) 30 L st I J R = fx_S nL M ev ret P (.iconst 3) 0 30 L st I J R (X n) := hX.1 _ _ _ _ _ _ _ _ _ rfl hs
theorem q_Out_narrow_31 {nL : Nat} {M : fx_M} {ev : fx_Env} {ret : Option FieldType} {P : fx_P} {stops : List (Nat × Nat)} {K : fx_K} {n : Nat} {L : List (Option Value)} {st : List Value} {I : fx_MI} {J : fx_MJ} {R : fx_MR} {x y : Int32} {X : Nat → fx_K} (hX : fx_isX nL M ev ret P p_Out_narrow stops K X) (hs : fx_stop stops 31 = none) : X (n + 1) 31 L (.int y :: .int x :: st) I J R = ((¬ x = y → X n 44 L st I J R) ∧ (x = y → X n 34 L st I J R)) := fx_q_icmpne hX rfl hs rfl
theorem q_Out_narrow_34 {nL : Nat} {M : fx_M} {ev : fx_Env} {ret : Option FieldType} {P : fx_P} {stops : List (Nat × Nat)} {K : fx_K} {n : Nat} {L : List (Option Value)} {st : List Value} {I : fx_MI} {J : fx_MJ} {R : fx_MR} {X : Nat → fx_K} (hX : fx_isX nL M ev ret P p_Out_narrow stops K X) (hs : fx_stop stops 34 = none) : X (n + 1) 34 L st I J R = fx_S nL M ev ret P (.aload_n 0) 0 34 L st I J R (X n) := hX.1 _ _ _ _ _ _ _ _ _ rfl hs
theorem q_Out_narrow_35 {nL : Nat} {M : fx_M} {ev : fx_Env} {ret : Option FieldType} {P : fx_P} {stops : List (Nat × Nat)} {K : fx_K} {n : Nat} {L : List (Option Value)} {st : List Value} {I : fx_MI} {J : fx_MJ} {R : fx_MR} {X : Nat → fx_K} (hX : fx_isX nL M ev ret P p_Out_narrow stops K X) (hs : fx_stop stops 35 = none) : X (n + 1) 35 L st I J R = fx_S nL M ev ret P (.getfield 61) 0 35 L st I J R (X n) := hX.1 _ _ _ _ _ _ _ _ _ rfl hs
theorem q_Out_narrow_38 {nL : Nat} {M : fx_M} {ev : fx_Env} {ret : Option FieldType} {P : fx_P} {stops : List (Nat × Nat)} {K : fx_K} {n : Nat} {L : List (Option Value)} {st : List Value} {I : fx_MI} {J : fx_MJ} {R : fx_MR} {X : Nat → fx_K} (hX : fx_isX nL M ev ret P p_Out_narrow stops K X) (hs : fx_stop stops 38 = none) : X (n + 1) 38 L st I J R = fx_S nL M ev ret P (.invokevirtual 250) 0 38 L st I J R (X n) := hX.1 _ _ _ _ _ _ _ _ _ rfl hs
theorem q_Out_narrow_41 {nL : Nat} {M : fx_M} {ev : fx_Env} {ret : Option FieldType} {P : fx_P} {stops : List (Nat × Nat)} {K : fx_K} {n : Nat} {L : List (Option Value)} {st : List Value} {I : fx_MI} {J : fx_MJ} {R : fx_MR} {X : Nat → fx_K} (hX : fx_isX nL M ev ret P p_Out_narrow stops K X) (hs : fx_stop stops 41 = none) : X (n + 1) 41 L st I J R = X n 71 L st I J R := fx_q_goto hX rfl hs rfl
theorem q_Out_narrow_44 {nL : Nat} {M : fx_M} {ev : fx_Env} {ret : Option FieldType} {P : fx_P} {stops : List (Nat × Nat)} {K : fx_K} {n : Nat} {L : List (Option Value)} {st : List Value} {I : fx_MI} {J : fx_MJ} {R : fx_MR} {X : Nat → fx_K} (hX : fx_isX nL M ev ret P p_Out_narrow stops K X) (hs : fx_stop stops 44 = none) : X (n + 1) 44 L st I J R = fx_S nL M ev ret P (.aload_n 0) 0 44 L st I J R (X n) := hX.1 _ _ _ _ _ _ _ _ _ rfl hs
theorem q_Out_narrow_45 {nL : Nat} {M : fx_M} {ev : fx_Env} {ret : Option FieldType} {P : fx_P} {stops : List (Nat × Nat)} {K : fx_K} {n : Nat} {L : List (Option Value)} {st : List Value} {I : fx_MI} {J : fx_MJ} {R : fx_MR} {X : Nat → fx_K} (hX : fx_isX nL M ev ret P p_Out_narrow stops K X) (hs : fx_stop stops 45 = none) : X (n + 1) 45 L st I J R = fx_S nL M ev ret P (.getfield 61) 0 45 L st I J R (X n) := hX.1 _ _ _ _ _ _ _ _ _ rfl hs
theorem q_Out_narrow_48 {nL : Nat} {M : fx_M} {ev : fx_Env} {ret : Option FieldType} {P : fx_P} {stops : List (Nat × Nat)} {K : fx_K} {n : Nat} {L : List (Option Value)} {st : List Value} {I : fx_MI} {J : fx_MJ} {R : fx_MR} {X : Nat → fx_K} (hX : fx_isX nL M ev ret P p_Out_narrow stops K X) (hs : fx_stop stops 48 = none) : X (n + 1) 48 L st I J R = fx_S nL M ev ret P (.aload_n 0) 0 48 L st I J R (X n) := hX.1 _ _ _ _ _ _ _ _ _ rfl hs
theorem q_Out_narrow_49 {nL : Nat} {M : fx_M} {ev : fx_Env} {ret : Option FieldType} {P : fx_P} {stops : List (Nat × Nat)} {K : fx_K} {n : Nat} {L : List (Option Value)} {st : List Value} {I : fx_MI} {J : fx_MJ} {R : fx_MR} {X : Nat → fx_K} (hX : fx_isX nL M ev ret P p_Out_narrow stops K X) (hs : fx_stop stops 49 = none) : X (n + 1) 49 L st I J R = fx_S nL M ev ret P (.getfield 19) 0 49 L st I J R (X n) := hX.1 _ _ _ _ _ _ _ _ _ rfl hs
theorem q_Out_narrow_52 {nL : Nat} {M : fx_M} {ev : fx_Env} {ret : Option FieldType} {P : fx_P} {stops : List (Nat × Nat)} {K : fx_K} {n : Nat} {L : List (Option Value)} {st : List Value} {I : fx_MI} {J : fx_MJ} {R : fx_MR} {X : Nat → fx_K} (hX : fx_isX nL M ev ret P p_Out_narrow stops K X) (hs : fx_stop stops 52 = none) : X (n + 1) 52 L st I J R = fx_S nL M ev ret P (.getfield 46) 0 52 L st I J R (X n) := hX.1 _ _ _ _ _ _ _ _ _ rfl hs
theorem q_Out_narrow_55 {nL : Nat} {M : fx_M} {ev : fx_Env} {ret : Option FieldType} {P : fx_P} {stops : List (Nat × Nat)} {K : fx_K} {n : Nat} {L : List (Option Value)} {st : List Value} {I : fx_MI} {J : fx_MJ} {R : fx_MR} {X : Nat → fx_K} (hX : fx_isX nL M ev ret P p_Out_narrow stops K X) (hs : fx_stop stops 55 = none) : X (n + 1) 55 L st I J R = fx_S nL M ev ret P (.getfield 254) 0 55 L st I J R (X n) := hX.1 _ _ _ _ _ _ _ _ _ rfl hs
theorem q_Out_narrow_58 {nL : Nat} {M : fx_M} {ev : fx_Env} {ret : Option FieldType} {P : fx_P} {stops : List (Nat × Nat)} {K : fx_K} {n : Nat} {L : List (Option Value)} {st : List Value} {I : fx_MI} {J : fx_MJ} {R : fx_MR} {X : Nat → fx_K} (hX : fx_isX nL M ev ret P p_Out_narrow stops K X) (hs : fx_stop stops 58 = none) : X (n + 1) 58 L st I J R = fx_S nL M ev ret P (.iload_n 1) 0 58 L st I J R (X n) := hX.1 _ _ _ _ _ _ _ _ _ rfl hs
theorem q_Out_narrow_59 {nL : Nat} {M : fx_M} {ev : fx_Env} {ret : Option FieldType} {P : fx_P} {stops : List (Nat × Nat)} {K : fx_K} {n : Nat} {L : List (Option Value)} {st : List Value} {I : fx_MI} {J : fx_MJ} {R : fx_MR} {X : Nat → fx_K} (hX : fx_isX nL M ev ret P p_Out_narrow stops K X) (hs : fx_stop stops 59 = none) : X (n + 1) 59 L st I J R = fx_S nL M ev ret P (.iconst 1) 0 59 L st I J R (X n) := hX.1 _ _ _ _ _ _ _ _ _ rfl hs
theorem q_Out_narrow_60 {nL : Nat} {M : fx_M} {ev : fx_Env} {ret : Option FieldType} {P : fx_P} {stops : List (Nat × Nat)} {K : fx_K} {n : Nat} {L : List (Option Value)} {st : List Value} {I : fx_MI} {J : fx_MJ} {R : fx_MR} {x y : Int32} {X : Nat → fx_K} (hX : fx_isX nL M ev ret P p_Out_narrow stops K X) (hs : fx_stop stops 60 = none) : X (n + 1) 60 L (.int y :: .int x :: st) I J R = ((¬ x = y → X n 67 L st I J R) ∧ (x = y → X n 63 L st I J R)) := fx_q_icmpne hX rfl hs rfl
theorem q_Out_narrow_63 {nL : Nat} {M : fx_M} {ev : fx_Env} {ret : Option FieldType} {P : fx_P} {stops : List (Nat × Nat)} {K : fx_K} {n : Nat} {L : List (Option Value)} {st : List Value} {I : fx_MI} {J : fx_MJ} {R : fx_MR} {X : Nat → fx_K} (hX : fx_isX nL M ev ret P p_Out_narrow stops K X) (hs : fx_stop stops 63 = none) : X (n + 1) 63 L st I J R = fx_S nL M ev ret P (.iconst 1) 0 63 L st I J R (X n) := hX.1 _ _ _ _ _ _ _ _ _ rfl hs
theorem q_Out_narrow_64 {nL : Nat} {M : fx_M} {ev : fx_Env} {ret : Option FieldType} {P : fx_P} {stops : List (Nat × Nat)} {K : fx_K} {n : Nat} {L : List (Option Value)} {st : List Value} {I : fx_MI} {J : fx_MJ} {R : fx_MR} {X : Nat → fx_K} (hX : fx_isX nL M ev ret P p_Out_narrow stops K X) (hs : fx_stop stops 64 = none) : X (n + 1) 64 L st I J R = X n 68 L st I J R := fx_q_goto hX rfl hs rfl
theorem q_Out_narrow_67 {nL : Nat} {M : fx_M} {ev : fx_Env} {ret : Option FieldType} {P : fx_P} {stops : List (Nat × Nat)} {K : fx_K} {n : Nat} {L : List (Option Value)} {st : List Value} {I : fx_MI} {J : fx_MJ} {R : fx_MR} {X : Nat → fx_K} (hX : fx_isX nL M ev ret P p_Out_narrow stops K X) (hs : fx_stop stops 67 = none) : X (n + 1) 67 L st I J R = fx_S nL M ev ret P (.iconst 0) 0 67 L st I J R (X n) := hX.1 _ _ _ _ _ _ _ _ _ rfl hs
theorem q_Out_narrow_68 {nL : Nat} {M : fx_M} {ev : fx_Env} {ret : Option FieldType} {P : fx_P} {stops : List (Nat × Nat)} {K : fx_K} {n : Nat} {L : List (Option Value)} {st : List Value} {I : fx_MI} {J : fx_MJ} {R : fx_MR} {X : Nat → fx_K} (hX : fx_isX nL M ev ret P p_Out_narrow stops K X) (hs : fx_stop stops 68 = none) : X (n + 1) 68 L st I J R = fx_S nL M ev ret P (.invokevirtual 257) 0 68 L st I J R (X n) := hX.1 _ _ _ _ _ _ _ _ _ rfl hs
theorem q_Out_narrow_71 {nL : Nat} {M : fx_M} {ev : fx_Env} {ret : Option FieldType} {P : fx_P} {stops : List (Nat × Nat)} {K : fx_K} {n : Nat} {L : List (Option Value)} {st : List Value} {I : fx_MI} {J : fx_MJ} {R : fx_MR} {X : Nat → fx_K} (hX : fx_isX nL M ev ret P p_Out_narrow stops K X) (hs : fx_stop stops 71 = none) : X (n + 1) 71 L st I J R = fx_S nL M ev ret P (.istore_n 2) 0 71 L st I J R (X n) := hX.1 _ _ _ _ _ _ _ _ _ rfl hs
theorem q_Out_narrow_72 {nL : Nat} {M : fx_M} {ev : fx_Env} {ret : Option FieldType} {P : fx_P} {stops : List (Nat × Nat)} {K : fx_K} {n : Nat} {L : List (Option Value)} {st : List Value} {I : fx_MI} {J : fx_MJ} {R : fx_MR} {X : Nat → fx_K} (hX : fx_isX nL M ev ret P p_Out_narrow stops K X) (hs : fx_stop stops 72 = none) : X (n + 1) 72 L st I J R = fx_S nL M ev ret P (.iload_n 2) 0 72 L st I J R (X n) := hX.1 _ _ _ _ _ _ _ _ _ rfl hs
theorem q_Out_narrow_73 {nL : Nat} {M : fx_M} {ev : fx_Env} {ret : Option FieldType} {P : fx_P} {stops : List (Nat × Nat)} {K : fx_K} {n : Nat} {L : List (Option Value)} {st : List Value} {I : fx_MI} {J : fx_MJ} {R : fx_MR} {x : Int32} {X : Nat → fx_K} (hX : fx_isX nL M ev ret P p_Out_narrow stops K X) (hs : fx_stop stops 73 = none) : X (n + 1) 73 L (.int x :: st) I J R = ((¬ x = 0 → X n 79 L st I J R) ∧ (x = 0 → X n 76 L st I J R)) := fx_q_ifne hX rfl hs rfl
theorem q_Out_narrow_76 {nL : Nat} {M : fx_M} {ev : fx_Env} {ret : Option FieldType} {P : fx_P} {stops : List (Nat × Nat)} {K : fx_K} {n : Nat} {L : List (Option Value)} {st : List Value} {I : fx_MI} {J : fx_MJ} {R : fx_MR} {X : Nat → fx_K} (hX : fx_isX nL M ev ret P p_Out_narrow stops K X) (hs : fx_stop stops 76 = none) : X (n + 1) 76 L st I J R = fx_S nL M ev ret P (.bipush (-4)) 0 76 L st I J R (X n) := hX.1 _ _ _ _ _ _ _ _ _ rfl hs
theorem q_Out_narrow_78 {nL : Nat} {M : fx_M} {ev : fx_Env} {ret : Option FieldType} {P : fx_P} {stops : List (Nat × Nat)} {K : fx_K} {n : Nat} {L : List (Option Value)} {st : List Value} {I : fx_MI} {J : fx_MJ} {R : fx_MR} {X : Nat → fx_K} (hX : fx_isX nL M ev ret P p_Out_narrow stops K X) (hs : fx_stop stops 78 = none) : X (n + 1) 78 L st I J R = fx_S nL M ev ret P (.ireturn) 0 78 L st I J R (X n) := hX.1 _ _ _ _ _ _ _ _ _ rfl hs
theorem q_Out_narrow_79 {nL : Nat} {M : fx_M} {ev : fx_Env} {ret : Option FieldType} {P : fx_P} {stops : List (Nat × Nat)} {K : fx_K} {n : Nat} {L : List (Option Value)} {st : List Value} {I : fx_MI} {J : fx_MJ} {R : fx_MR} {X : Nat → fx_K} (hX : fx_isX nL M ev ret P p_Out_narrow stops K X) (hs : fx_stop stops 79 = none) : X (n + 1) 79 L st I J R = fx_S nL M ev ret P (.aload_n 0) 0 79 L st I J R (X n) := hX.1 _ _ _ _ _ _ _ _ _ rfl hs
theorem q_Out_narrow_80 {nL : Nat} {M : fx_M} {ev : fx_Env} {ret : Option FieldType} {P : fx_P} {stops : List (Nat × Nat)} {K : fx_K} {n : Nat} {L : List (Option Value)} {st : List Value} {I : fx_MI} {J : fx_MJ} {R : fx_MR} {X : Nat → fx_K} (hX : fx_isX nL M ev ret P p_Out_narrow stops K X) (hs : fx_stop stops 80 = none) : X (n + 1) 80 L st I J R = fx_S nL M ev ret P (.getfield 26) 0 80 L st I J R (X n) := hX.1 _ _ _ _ _ _ _ _ _ rfl hs
theorem q_Out_narrow_83 {nL : Nat} {M : fx_M} {ev : fx_Env} {ret : Option FieldType} {P : fx_P} {stops : List (Nat × Nat)} {K : fx_K} {n : Nat} {L : List (Option Value)} {st : List Value} {I : fx_MI} {J : fx_MJ} {R : fx_MR} {X : Nat → fx_K} (hX : fx_isX nL M ev ret P p_Out_narrow stops K X) (hs : fx_stop stops 83 = none) : X (n + 1) 83 L st I J R = fx_S nL M ev ret P (.aload_n 0) 0 83 L st I J R (X n) := hX.1 _ _ _ _ _ _ _ _ _ rfl hs
theorem q_Out_narrow_84 {nL : Nat} {M : fx_M} {ev : fx_Env} {ret : Option FieldType} {P : fx_P} {stops : List (Nat × Nat)} {K : fx_K} {n : Nat} {L : List (Option Value)} {st : List Value} {I : fx_MI} {J : fx_MJ} {R : fx_MR} {X : Nat → fx_K} (hX : fx_isX nL M ev ret P p_Out_narrow stops K X) (hs : fx_stop stops 84 = none) : X (n + 1) 84 L st I J R = fx_S nL M ev ret P (.getfield 19) 0 84 L st I J R (X n) := hX.1 _ _ _ _ _ _ _ _ _ rfl hs
theorem q_Out_narrow_87 {nL : Nat} {M : fx_M} {ev : fx_Env} {ret : Option FieldType} {P : fx_P} {stops : List (Nat × Nat)} {K : fx_K} {n : Nat} {L : List (Option Value)} {st : List Value} {I : fx_MI} {J : fx_MJ} {R : fx_MR} {X : Nat → fx_K} (hX : fx_isX nL M ev ret P p_Out_narrow stops K X) (hs : fx_stop stops 87 = none) : X (n + 1) 87 L st I J R = fx_S nL M ev ret P (.invokevirtual 111) 0 87 L st I J R (X n) := hX.1 _ _ _ _ _ _ _ _ _ rfl hs
theorem q_Out_narrow_90 {nL : Nat} {M : fx_M} {ev : fx_Env} {ret : Option FieldType} {P : fx_P} {stops : List (Nat × Nat)} {K : fx_K} {n : Nat} {L : List (Option Value)} {st : List Value} {I : fx_MI} {J : fx_MJ} {R : fx_MR} {X : Nat → fx_K} (hX : fx_isX nL M ev ret P p_Out_narrow stops K X) (hs : fx_stop stops 90 = none) : X (n + 1) 90 L st I J R = fx_S nL M ev ret P (.aload_n 0) 0 90 L st I J R (X n) := hX.1 _ _ _ _ _ _ _ _ _ rfl hs
theorem q_Out_narrow_91 {nL : Nat} {M : fx_M} {ev : fx_Env} {ret : Option FieldType} {P : fx_P} {stops : List (Nat × Nat)} {K : fx_K} {n : Nat} {L : List (Option Value)} {st : List Value} {I : fx_MI} {J : fx_MJ} {R : fx_MR} {X : Nat → fx_K} (hX : fx_isX nL M ev ret P p_Out_narrow stops K X) (hs : fx_stop stops 91 = none) : X (n + 1) 91 L st I J R = fx_S nL M ev ret P (.getfield 19) 0 91 L st I J R (X n) := hX.1 _ _ _ _ _ _ _ _ _ rfl hs
theorem q_Out_narrow_94 {nL : Nat} {M : fx_M} {ev : fx_Env} {ret : Option FieldType} {P : fx_P} {stops : List (Nat × Nat)} {K : fx_K} {n : Nat} {L : List (Option Value)} {st : List Value} {I : fx_MI} {J : fx_MJ} {R : fx_MR} {X : Nat → fx_K} (hX : fx_isX nL M ev ret P p_Out_narrow stops K X) (hs : fx_stop stops 94 = none) : X (n + 1) 94 L st I J R = fx_S nL M ev ret P (.getfield 132) 0 94 L st I J R (X n) := hX.1 _ _ _ _ _ _ _ _ _ rfl hs
theorem q_Out_narrow_97 {nL : Nat} {M : fx_M} {ev : fx_Env} {ret : Option FieldType} {P : fx_P} {stops : List (Nat × Nat)} {K : fx_K} {n : Nat} {L : List (Option Value)} {st : List Value} {I : fx_MI} {J : fx_MJ} {R : fx_MR} {X : Nat → fx_K} (hX : fx_isX nL M ev ret P p_Out_narrow stops K X) (hs : fx_stop stops 97 = none) : X (n + 1) 97 L st I J R = fx_S nL M ev ret P (.aload_n 0) 0 97 L st I J R (X n) := hX.1 _ _ _ _ _ _ _ _ _ rfl hs
theorem q_Out_narrow_98 {nL : Nat} {M : fx_M} {ev : fx_Env} {ret : Option FieldType} {P : fx_P} {stops : List (Nat × Nat)} {K : fx_K} {n : Nat} {L : List (Option Value)} {st : List Value} {I : fx_MI} {J : fx_MJ} {R : fx_MR} {X : Nat → fx_K} (hX : fx_isX nL M ev ret P p_Out_narrow stops K X) (hs : fx_stop stops 98 = none) : X (n + 1) 98 L st I J R = fx_S nL M ev ret P (.getfield 61) 0 98 L st I J R (X n) := hX.1 _ _ _ _ _ _ _ _ _ rfl hs
theorem q_Out_narrow_101 {nL : Nat} {M : fx_M} {ev : fx_Env} {ret : Option FieldType} {P : fx_P} {stops : List (Nat × Nat)} {K : fx_K} {n : Nat} {L : List (Option Value)} {st : List Value} {I : fx_MI} {J : fx_MJ} {R : fx_MR} {X : Nat → fx_K} (hX : fx_isX nL M ev ret P p_Out_narrow stops K X) (hs : fx_stop stops 101 = none) : X (n + 1) 101 L st I J R = fx_S nL M ev ret P (.getfield 238) 0 101 L st I J R (X n) := hX.1 _ _ _ _ _ _ _ _ _ rfl hs
theorem q_Out_narrow_104 {nL : Nat} {M : fx_M} {ev : fx_Env} {ret : Option FieldType} {P : fx_P} {stops : List (Nat × Nat)} {K : fx_K} {n : Nat} {L : List (Option Value)} {st : List Value} {I : fx_MI} {J : fx_MJ} {R : fx_MR} {X : Nat → fx_K} (hX : fx_isX nL M ev ret P p_Out_narrow stops K X) (hs : fx_stop stops 104 = none) : X (n + 1) 104 L st I J R = fx_S nL M ev ret P (.invokevirtual 246) 0 104 L st I J R (X n) := hX.1 _ _ _ _ _ _ _ _ _ rfl hs
theorem q_Out_narrow_107 {nL : Nat} {M : fx_M} {ev : fx_Env} {ret : Option FieldType} {P : fx_P} {stops : List (Nat × Nat)} {K : fx_K} {n : Nat} {L : List (Option Value)} {st : List Value} {I : fx_MI} {J : fx_MJ} {R : fx_MR} {X : Nat → fx_K} (hX : fx_isX nL M ev ret P p_Out_narrow stops K X) (hs : fx_stop stops 107 = none) : X (n + 1) 107 L st I J R = fx_S nL M ev ret P (.invokestatic 197) 0 107 L st I J R (X n) := hX.1 _ _ _ _ _ _ _ _ _ rfl hs
theorem q_Out_narrow_110 {nL : Nat} {M : fx_M} {ev : fx_Env} {ret : Option FieldType} {P : fx_P} {stops : List (Nat × Nat)} {K : fx_K} {n : Nat} {L : List (Option Value)} {st : List Value} {I : fx_MI} {J : fx_MJ} {R : fx_MR} {X : Nat → fx_K} (hX : fx_isX nL M ev ret P p_Out_narrow stops K X) (hs : fx_stop stops 110 = none) : X (n + 1) 110 L st I J R = fx_S nL M ev ret P (.istore_n 3) 0 110 L st I J R (X n) := hX.1 _ _ _ _ _ _ _ _ _ rfl hs
theorem q_Out_narrow_111 {nL : Nat} {M : fx_M} {ev : fx_Env} {ret : Option FieldType} {P : fx_P} {stops : List (Nat × Nat)} {K : fx_K} {n : Nat} {L : List (Option Value)} {st : List Value} {I : fx_MI} {J : fx_MJ} {R : fx_MR} {X : Nat → fx_K} (hX : fx_isX nL M ev ret P p_Out_narrow stops K X) (hs : fx_stop stops 111 = none) : X (n + 1) 111 L st I J R = fx_S nL M ev ret P (.aload_n 0) 0 111 L st I J R (X n) := hX.1 _ _ _ _ _ _ _ _ _ rfl hs
theorem q_Out_narrow_112 {nL : Nat} {M : fx_M} {ev : fx_Env} {ret : Option FieldType} {P : fx_P} {stops : List (Nat × Nat)} {K : fx_K} {n : Nat} {L : List (Option Value)} {st : List Value} {I : fx_MI} {J : fx_MJ} {R : fx_MR} {X : Nat → fx_K} (hX : fx_isX nL M ev ret P p_Out_narrow stops K X) (hs : fx_stop stops 112 = none) : X (n + 1) 112 L st I J R = fx_S nL M ev ret P (.getfield 19) 0 112 L st I J R (X n) := hX.1 _ _ _ _ _ _ _ _ _ rfl hs
theorem q_Out_narrow_115 {nL : Nat} {M : fx_M} {ev : fx_Env} {ret : Option FieldType} {P : fx_P} {stops : List (Nat × Nat)} {K : fx_K} {n : Nat} {L : List (Option Value)} {st : List Value} {I : fx_MI} {J : fx_MJ} {R : fx_MR} {X : Nat → fx_K} (hX : fx_isX nL M ev ret P p_Out_narrow stops K X) (hs : fx_stop stops 115 = none) : X (n + 1) 115 L st I J R = fx_S nL M ev ret P (.getfield 132) 0 115 L st I J R (X n) := hX.1 _ _ _ _ _ _ _ _ _ rfl hs
theorem q_Out_narrow_118 {nL : Nat} {M : fx_M} {ev : fx_Env} {ret : Option FieldType} {P : fx_P} {stops : List (Nat × Nat)} {K : fx_K} {n : Nat} {L : List (Option Value)} {st : List Value} {I : fx_MI} {J : fx_MJ} {R : fx_MR} {X : Nat → fx_K} (hX : fx_isX nL M ev ret P p_Out_narrow stops K X) (hs : fx_stop stops 118 = none) : X (n + 1) 118 L st I J R = fx_S nL M ev ret P (.aload_n 0) 0 118 L st I J R (X n) := hX.1 _ _ _ _ _ _ _ _ _ rfl hs
theorem q_Out_narrow_119 {nL : Nat} {M : fx_M} {ev : fx_Env} {ret : Option FieldType} {P : fx_P} {stops : List (Nat × Nat)} {K : fx_K} {n : Nat} {L : List (Option Value)} {st : List Value} {I : fx_MI} {J : fx_MJ} {R : fx_MR} {X : Nat → fx_K} (hX : fx_isX nL M ev ret P p_Out_narrow stops K X) (hs : fx_stop stops 119 = none) : X (n + 1) 119 L st I J R = fx_S nL M ev ret P (.getfield 61) 0 119 L st I J R (X n) := hX.1 _ _ _ _ _ _ _ _ _ rfl hs
theorem q_Out_narrow_122 {nL : Nat} {M : fx_M} {ev : fx_Env} {ret : Option FieldType} {P : fx_P} {stops : List (Nat × Nat)} {K : fx_K} {n : Nat} {L : List (Option Value)} {st : List Value} {I : fx_MI} {J : fx_MJ} {R : fx_MR} {X : Nat → fx_K} (hX : fx_isX nL M ev ret P p_Out_narrow stops K X) (hs : fx_stop stops 122 = none) : X (n + 1) 122 L st I J R = fx_S nL M ev ret P (.getfield 238) 0 122 L st I J R (X n) := hX.1 _ _ _ _ _ _ _ _ _ rfl hs
theorem q_Out_narrow_125 {nL : Nat} {M : fx_M} {ev : fx_Env} {ret : Option FieldType} {P : fx_P} {stops : List (Nat × Nat)} {K : fx_K} {n : Nat} {L : List (Option Value)} {st : List Value} {I : fx_MI} {J : fx_MJ} {R : fx_MR} {X : Nat → fx_K} (hX : fx_isX nL M ev ret P p_Out_narrow stops K X) (hs : fx_stop stops 125 = none) : X (n + 1) 125 L st I J R = fx_S nL M ev ret P (.invokevirtual 239) 0 125 L st I J R (X n) := hX.1 _ _ _ _ _ _ _ _ _ rfl hs
theorem q_Out_narrow_128 {nL : Nat} {M : fx_M} {ev : fx_Env} {ret : Option FieldType} {P : fx_P} {stops : List (Nat × Nat)} {K : fx_K} {n : Nat} {L : List (Option Value)} {st : List Value} {I : fx_MI} {J : fx_MJ} {R : fx_MR} {X : Nat → fx_K} (hX : fx_isX nL M ev ret P p_Out_narrow stops K X) (hs : fx_stop stops 128 = none) : X (n + 1) 128 L st I J R = fx_S nL M ev ret P (.iload_n 3) 0 128 L st I J R (X n) := hX.1 _ _ _ _ _ _ _ _ _ rfl hs
theorem q_Out_narrow_129 {nL : Nat} {M : fx_M} {ev : fx_Env} {ret : Option FieldType} {P : fx_P} {stops : List (Nat × Nat)} {K : fx_K} {n : Nat} {L : List (Option Value)} {st : List Value} {I : fx_MI} {J : fx_MJ} {R : fx_MR} {X : Nat → fx_K} (hX : fx_isX nL M ev ret P p_Out_narrow stops K X) (hs : fx_stop stops 129 = none) : X (n + 1) 129 L st I J R = fx_S nL M ev ret P (.ireturn) 0 129 L st I J R (X n) := hX.1 _ _ _ _ _ _ _ _ _ rfl hs
def pre_Out_narrow (n : Nat) : fx_Pre := fun st I J R => (∃ b, R = R0C b) ∧ (match st with
  | [.ref 0, .int v] => relE I J
  | _ => False)
theorem pi_Out_narrow {n : Nat} {st : List Value} {I : fx_MI} {J : fx_MJ} {R : fx_MR} (h : pre_Out_narrow n st I J R) : (∃ b, R = R0C b) ∧ ∃ v, st = [.ref 0, .int v] ∧ (relE I J) := by
  unfold pre_Out_narrow at h
  obtain ⟨h0, h⟩ := h
  split at h
  · exact ⟨h0, _, rfl, h⟩
  · cases h
def post_Out_narrow (n : Nat) : fx_Post := fun st I J R r I' J' R' => match st with
  | [_, .int v] => simP (post_M_narrow [.ref 0, .int v]) I J r I' J' R'
  | _ => True
theorem pz_Out_narrow {st : List Value} {I : fx_MI} {J : fx_MJ} {R : fx_MR} (n : Nat) (h : pre_Out_narrow n st I J R) : ∃ q r, st = .ref q :: r ∧ (MC n).2.2.1 q = some (.inl 0) ∧ r.length = 1 := by
  obtain ⟨_, _, rfl, _⟩ := pi_Out_narrow h
  exact ⟨_, _, rfl, rfl, rfl⟩
def v_Out_narrow (n : Nat) : fx_Env := [(.invokestatic 87, fx_tcall 3 (pre_Out_isWithin n) (post_Out_isWithin n)), (.getfield 61, fx_tget (MC n) 0 6), (.getfield 238, fx_tget (MC n) 8 3), (.getfield 19, fx_tget (MC n) 0 1), (.getfield 132, fx_tget (MC n) 2 1), (.invokevirtual 239, fx_tcall 2 (pre_Layer_copyFrom n) (post_Layer_copyFrom n)), (.invokevirtual 250, fx_tcall 1 (pre_Narrower_settleByTrials n) (post_Narrower_settleByTrials n)), (.getfield 46, fx_tget (MC n) 2 0), (.getfield 254, fx_tget (MC n) 3 0), (.invokevirtual 257, fx_tcall 3 (pre_Narrower_settle n) (post_Narrower_settle n)), (.getfield 26, fx_tget (MC n) 0 2), (.invokevirtual 111, fx_tcall 2 (pre_History_record n) (post_History_record n)), (.invokevirtual 246, fx_tcall 2 (pre_Layer_difference n) (post_Layer_difference n)), (.invokestatic 197, fx_tcall 1 (pre_J13_bitCount_95d88 n) (post_J13_bitCount_95d88 n))]
abbrev rm_Out_narrow : Room := { frames := 7, cells := 0, slots := 0, locals := 161 }
abbrev ws_Out_narrow : List Cond := Cond.code y_Out_narrow b_Out_narrow 4 (some .int) :: w_C
theorem e_Out_c250 {l : Launch} {c0 : Cond} {rm : Room} {n nL : Nat} {cc : ByteArray} (hR : rm_Narrower_settleByTrials.frames + 1 ≤ rm.frames ∧ 8 + (5 + 11) + rm_Narrower_settleByTrials.locals ≤ rm.locals) : fx_E1 l R_Out (c0 :: w_C) rm (MC n) nL cc (.invokevirtual 250) (fx_tcall 1 (pre_Narrower_settleByTrials n) (post_Narrower_settleByTrials n)) := fx_callV (ci := 8) (C := R_Narrower) rfl (c_Narrower_settleByTrials l n) (w_C_G (w_C_h11 35 rfl) (w_C_h11 36 rfl) (w_C_h11 37 rfl) (w_C_h4 2 rfl) (w_C_h7 15 rfl)) rfl ⟨rfl, rfl⟩ (by decide) hR (fun st I J R h => pz_Narrower_settleByTrials n h) (MC_ok n)
theorem e_Out_c257 {l : Launch} {c0 : Cond} {rm : Room} {n nL : Nat} {cc : ByteArray} (hR : rm_Narrower_settle.frames + 1 ≤ rm.frames ∧ 8 + (7 + 11) + rm_Narrower_settle.locals ≤ rm.locals) : fx_E1 l R_Out (c0 :: w_C) rm (MC n) nL cc (.invokevirtual 257) (fx_tcall 3 (pre_Narrower_settle n) (post_Narrower_settle n)) := fx_callV (ci := 8) (C := R_Narrower) rfl (c_Narrower_settle l n) (w_C_G (w_C_h11 38 rfl) (w_C_h4 0 rfl) (w_C_h4 1 rfl) (w_C_h4 2 rfl) (w_C_h3 48 rfl)) rfl ⟨rfl, rfl⟩ (by decide) hR (fun st I J R h => pz_Narrower_settle n h) (MC_ok n)
theorem vk_Out_narrow {l : Launch} {n : Nat} : fx_EV l R_Out ws_Out_narrow rm_Out_narrow (MC n) 4 b_Out_narrow (v_Out_narrow n) := (fx_EV_cons (e_Out_c87 (by decide)) (fx_EV_cons e_Out_g61 (fx_EV_cons e_Out_g238 (fx_EV_cons e_Out_g19 (fx_EV_cons e_Out_g132 (fx_EV_cons (e_Out_c239 (by decide)) (fx_EV_cons (e_Out_c250 (by decide)) (fx_EV_cons e_Out_g46 (fx_EV_cons e_Out_g254 (fx_EV_cons (e_Out_c257 (by decide)) (fx_EV_cons e_Out_g26 (fx_EV_cons (e_Out_c111 (by decide)) (fx_EV_cons (e_Out_c246 (by decide)) (fx_EV_cons (e_Out_c197 (by decide)) fx_EV_nil))))))))))))))
theorem r_Out_narrow (n : Nat) (st : List Value) (I : fx_MI) (J : fx_MJ) (R : fx_MR) (h : pre_Out_narrow n st I J R) : fx_sz st ≤ 4 ∧ fx_R 4 (MC n) (v_Out_narrow n) (some .int) (post_Out_narrow n st I J R) p_Out_narrow 0 (fx_en st) [] I J R := by
  obtain ⟨⟨b, rfl⟩, v, rfl, hp⟩ := pi_Out_narrow h
  clear h
  refine ⟨Nat.le_of_ble_eq_true rfl, ?_⟩
  obtain ⟨Ir0, hr0⟩ := hp
  have hh := REL_his hr0
  obtain ⟨hw, hh2, hc, e0, e1, e2⟩ := dimC_of hr0.1.1.1
  have hwh := wh_le hw.2 hh2.2
  have hle4 : 2 ^ (cC I + 1) ≤ 2 ^ 4 := Nat.pow_le_pow_right (by omega) (by omega)
  have hno : in_M v (nI 1) (nI 3) = false → post_Out_narrow n [.ref 0, .int v] I J (R0C b) (some (.int (-nI 2))) I J (R0C b) := fun z => by
    refine ⟨⟨b, rfl⟩, fun Ir hr Jr r2 Ir2 Jr2 Rr2 hq => ?_⟩
    obtain ⟨rfl, rfl, ⟨k1, rfl, k2⟩ | ⟨k1, -⟩⟩ := hq
    · exact ⟨rfl, rfl, REL_q hr (fun _ _ _ => rfl) (fun _ _ _ => rfl) hr.1.2.2 k2⟩
    · exact absurd (z.symm.trans k1) (by decide)
  by_cases hin : in_M v (nI 1) (nI 3) = true
  rotate_left
  · have hin' := bnt hin
    refine fx_run (stops := [(71, 2)]) (K := fun _ _ _ _ _ _ => False) (fun _ _ _ _ _ _ h => h.elim) 60 fun X hX => ?_
    simp only [q_Out_narrow_0 hX rfl, q_Out_narrow_1 hX rfl, q_Out_narrow_2 hX rfl, q_Out_narrow_3 hX rfl, q_Out_narrow_6 hX rfl, q_Out_narrow_9 hX rfl, q_Out_narrow_11 hX rfl, q_Out_narrow_12 hX rfl, q_Out_narrow_13 hX rfl, q_Out_narrow_16 hX rfl, q_Out_narrow_19 hX rfl, q_Out_narrow_20 hX rfl, q_Out_narrow_23 hX rfl, q_Out_narrow_26 hX rfl, q_Out_narrow_29 hX rfl, q_Out_narrow_30 hX rfl, q_Out_narrow_31 hX rfl, q_Out_narrow_34 hX rfl, q_Out_narrow_35 hX rfl, q_Out_narrow_38 hX rfl, q_Out_narrow_41 hX rfl, q_Out_narrow_44 hX rfl, q_Out_narrow_45 hX rfl, q_Out_narrow_48 hX rfl, q_Out_narrow_49 hX rfl, q_Out_narrow_52 hX rfl, q_Out_narrow_55 hX rfl, q_Out_narrow_58 hX rfl, q_Out_narrow_59 hX rfl, q_Out_narrow_60 hX rfl, q_Out_narrow_63 hX rfl, q_Out_narrow_64 hX rfl, q_Out_narrow_67 hX rfl, q_Out_narrow_68 hX rfl, hX.2 _ 71 2 _ _ _ _ _ rfl, q_Out_narrow_72 hX rfl, q_Out_narrow_73 hX rfl, q_Out_narrow_76 hX rfl, q_Out_narrow_78 hX rfl, q_Out_narrow_79 hX rfl, q_Out_narrow_80 hX rfl, q_Out_narrow_83 hX rfl, q_Out_narrow_84 hX rfl, q_Out_narrow_87 hX rfl, q_Out_narrow_90 hX rfl, q_Out_narrow_91 hX rfl, q_Out_narrow_94 hX rfl, q_Out_narrow_97 hX rfl, q_Out_narrow_98 hX rfl, q_Out_narrow_101 hX rfl, q_Out_narrow_104 hX rfl, q_Out_narrow_107 hX rfl, q_Out_narrow_110 hX rfl, q_Out_narrow_111 hX rfl, q_Out_narrow_112 hX rfl, q_Out_narrow_115 hX rfl, q_Out_narrow_118 hX rfl, q_Out_narrow_119 hX rfl, q_Out_narrow_122 hX rfl, q_Out_narrow_125 hX rfl, q_Out_narrow_128 hX rfl, q_Out_narrow_129 hX rfl, fs_aload_n0, fs_aload_n1, fs_aload_n2, fs_aload_n3, fs_bipush, fs_getfield, fs_goto, fs_iconst, fs_ifCond, fs_if_icmp, fs_iload_n0, fs_iload_n1, fs_iload_n2, fs_iload_n3, fs_invokestatic, fs_invokevirtual, fs_ireturn, fs_istore_n0, fs_istore_n1, fs_istore_n2, fs_istore_n3, v_Out_narrow, ci_1, ci_3, cb_m2, ci_0, lt_2_4, cb_m4, lt_3_4, pre_Out_isWithin, post_Out_isWithin, pre_Layer_copyFrom, post_Layer_copyFrom, pre_Narrower_settleByTrials, post_Narrower_settleByTrials, pre_Narrower_settle, post_Narrower_settle, pre_History_record, post_History_record, pre_Layer_difference, post_Layer_difference, pre_J13_bitCount_95d88, post_J13_bitCount_95d88, kd_C_0_6, pl_C_0, R0C_0_6, pl_C_112, kd_C_8_3, R0C_112_3, pl_C_113, kd_C_0_1, R0C_0_1, pl_C_2, kd_C_2_1, R0C_2_1, pl_C_8, kd_C_2_0, R0C_2_0, pl_C_3, kd_C_3_0, pl_C_96, kd_C_0_2, R0C_0_2, pl_C_12, fx_oi_s, fx_ol_s, fx_or_s, fx_do_s, fx_lg_0, fx_lg_s, fx_ls_0, fx_ls_s, fx_ls_n0, fx_ls_ns, fx_en, fx_sz, Value.category, fx_nl, fx_lk, fx_tget, fx_tput, fx_tcall, fx_tldc, fx_fv, va_rf, fx_cat, fx_in, fx_cnd, fx_len, fx_narI, fx_narZ0, fx_narZ1, fx_narZb, zb_e, zb_ne, Option.some.injEq, Value.int.injEq, Value.long.injEq, Value.ref.injEq, List.cons.injEq, Nat.reduceAdd, Nat.reduceLeDiff, Nat.le_refl, List.take, List.drop, List.reverse_cons, List.reverse_nil, List.nil_append, List.cons_append, List.append_nil, List.map_cons, List.map_nil, List.sum_cons, List.sum_nil, List.length_cons, List.length_nil, Option.toList, fx_all4, forall_const, true_and, and_true, not_true_eq_false, not_false_eq_true, false_implies, true_implies, ne_eq, reduceCtorEq, Nat.reduceEqDiff, ite_true, ite_false, reduceIte, Instr.getfield.injEq, Instr.putfield.injEq, Instr.invokevirtual.injEq, Instr.invokestatic.injEq, Instr.ldc2_w.injEq, fx_tcopy, Instr.ldc.injEq, Instr.ldc_w.injEq, exists_eq_left, exists_prop, R0C_ex]
    exact ⟨fun z => absurd hin' z, fun _ => hno hin'⟩
  obtain ⟨hz, hrm, hne, hck, -, -⟩ := sR_pre hr0.1.1.1 hr0.2.1
  have j9 : ∀ d, d < 4 → fillL J 114 0 4 (fun c => J 9 c) 114 d = J 9 d := fun d hd => by rw [fillL_in (Nat.zero_le _) (by omega), Nat.sub_zero]
  have jo : ∀ q d, q ≠ 114 → fillL J 114 0 4 (fun c => J 9 c) q d = J q d := fun q d hq => by rw [fillL_row hq]
  generalize hJ1 : fillL J 114 0 4 (fun c => J 9 c) = J1 at j9 jo
  have hcu1 : cu (cW I) J1 113 = cu (cW I) J 8 := funext fun k => by
    unfold cu
    exact mskF_c fun d hd => by rw [j9 d hd]
  have hly1 : lyO (cW I) (cH I) J1 113 := fun d hd i hi hb => hz.2.2.2 d hd i hi (by rw [← j9 d hd]; exact hb)
  have hz1 : preZ I J1 113 := ⟨hz.1, hz.2.1, hz.2.2.1, hly1⟩
  have hck1 : ckO (cC I) J1 113 := fun d h2 h3 i hi => by rw [j9 d h3]; exact hck d h2 h3 i hi
  refine fx_run (stops := [(71, 2)]) (K := fx_at 71 (fun L st I' J' R' => ∃ s, nwK I J (lv3 v) s I' J' ∧ L = [some (.ref 0), some (.int v)] ∧ st = [.int (zb s)] ∧ R' = R0C b)) ?_ 60 fun X hX => ?_
  · rintro pc L st I2 J2 R2 ⟨rfl, s, ⟨hI2, hJ2, hly2, hres⟩, rfl, rfl, rfl⟩
    have hc2 := frZ_c hI2
    obtain ⟨w1, w2, w3, -, -⟩ := cfr_d hc2
    have hj2 : jfr J J2 := fun q d hq => hJ2 q d (by omega) (by omega)
    have hrel2 : ∀ Ir Ir2, REL I J Ir → eqS Ir Ir2 → REL I2 J2 Ir2 := fun Ir Ir2 hr he => REL_q hr hc2 hj2 hly2 he
    have hh' := REL_his (hrel2 Ir0 Ir0 hr0 eqS_rfl)
    have href : ∀ Ir (g : Nat → Nat), REL I J Ir → (∀ k, k < cW I * cH I → g k < 16) → NTl (rW Ir) (rH Ir) (rC Ir) (Ir 1) (lv3 v) (mkN (Ir 1)) g → NLc (cW I) (cH I) (cC I) (cf I 3) (lv3 v) (cu (cW I) J 8) g := fun Ir g hr h16 hN => by
      obtain ⟨⟨f1, f2, f3⟩, -⟩ := REL_ref hr
      obtain ⟨-, -, -, -, hmu, hcq⟩ := sR_pre hr.1.1.1 hr.2.1
      rw [f1, f2, f3] at hN
      exact NLc_uc hw.2 hh2.2 hmu (fun _ _ => rfl) ((cq_NLc hcq (by omega)).mpr (NLc_of hw.2 hh2.2 h16 hN))
    rcases hres with ⟨rfl, hN⟩ | ⟨rfl, hN⟩
    · refine fx_run0 90 fun X hX => ?_
      simp only [q_Out_narrow_0 hX rfl, q_Out_narrow_1 hX rfl, q_Out_narrow_2 hX rfl, q_Out_narrow_3 hX rfl, q_Out_narrow_6 hX rfl, q_Out_narrow_9 hX rfl, q_Out_narrow_11 hX rfl, q_Out_narrow_12 hX rfl, q_Out_narrow_13 hX rfl, q_Out_narrow_16 hX rfl, q_Out_narrow_19 hX rfl, q_Out_narrow_20 hX rfl, q_Out_narrow_23 hX rfl, q_Out_narrow_26 hX rfl, q_Out_narrow_29 hX rfl, q_Out_narrow_30 hX rfl, q_Out_narrow_31 hX rfl, q_Out_narrow_34 hX rfl, q_Out_narrow_35 hX rfl, q_Out_narrow_38 hX rfl, q_Out_narrow_41 hX rfl, q_Out_narrow_44 hX rfl, q_Out_narrow_45 hX rfl, q_Out_narrow_48 hX rfl, q_Out_narrow_49 hX rfl, q_Out_narrow_52 hX rfl, q_Out_narrow_55 hX rfl, q_Out_narrow_58 hX rfl, q_Out_narrow_59 hX rfl, q_Out_narrow_60 hX rfl, q_Out_narrow_63 hX rfl, q_Out_narrow_64 hX rfl, q_Out_narrow_67 hX rfl, q_Out_narrow_68 hX rfl, q_Out_narrow_71 hX rfl, q_Out_narrow_72 hX rfl, q_Out_narrow_73 hX rfl, q_Out_narrow_76 hX rfl, q_Out_narrow_78 hX rfl, q_Out_narrow_79 hX rfl, q_Out_narrow_80 hX rfl, q_Out_narrow_83 hX rfl, q_Out_narrow_84 hX rfl, q_Out_narrow_87 hX rfl, q_Out_narrow_90 hX rfl, q_Out_narrow_91 hX rfl, q_Out_narrow_94 hX rfl, q_Out_narrow_97 hX rfl, q_Out_narrow_98 hX rfl, q_Out_narrow_101 hX rfl, q_Out_narrow_104 hX rfl, q_Out_narrow_107 hX rfl, q_Out_narrow_110 hX rfl, q_Out_narrow_111 hX rfl, q_Out_narrow_112 hX rfl, q_Out_narrow_115 hX rfl, q_Out_narrow_118 hX rfl, q_Out_narrow_119 hX rfl, q_Out_narrow_122 hX rfl, q_Out_narrow_125 hX rfl, q_Out_narrow_128 hX rfl, q_Out_narrow_129 hX rfl, fs_aload_n0, fs_aload_n1, fs_aload_n2, fs_aload_n3, fs_bipush, fs_getfield, fs_goto, fs_iconst, fs_ifCond, fs_if_icmp, fs_iload_n0, fs_iload_n1, fs_iload_n2, fs_iload_n3, fs_invokestatic, fs_invokevirtual, fs_ireturn, fs_istore_n0, fs_istore_n1, fs_istore_n2, fs_istore_n3, v_Out_narrow, ci_1, ci_3, cb_m2, ci_0, lt_2_4, cb_m4, lt_3_4, pre_Out_isWithin, post_Out_isWithin, pre_Layer_copyFrom, post_Layer_copyFrom, pre_Narrower_settleByTrials, post_Narrower_settleByTrials, pre_Narrower_settle, post_Narrower_settle, pre_History_record, post_History_record, pre_Layer_difference, post_Layer_difference, pre_J13_bitCount_95d88, post_J13_bitCount_95d88, kd_C_0_6, pl_C_0, R0C_0_6, pl_C_112, kd_C_8_3, R0C_112_3, pl_C_113, kd_C_0_1, R0C_0_1, pl_C_2, kd_C_2_1, R0C_2_1, pl_C_8, kd_C_2_0, R0C_2_0, pl_C_3, kd_C_3_0, pl_C_96, kd_C_0_2, R0C_0_2, pl_C_12, fx_oi_s, fx_ol_s, fx_or_s, fx_do_s, fx_lg_0, fx_lg_s, fx_ls_0, fx_ls_s, fx_ls_n0, fx_ls_ns, fx_en, fx_sz, Value.category, fx_nl, fx_lk, fx_tget, fx_tput, fx_tcall, fx_tldc, fx_fv, va_rf, fx_cat, fx_in, fx_cnd, fx_len, fx_narI, fx_narZ0, fx_narZ1, fx_narZb, zb_e, zb_ne, Option.some.injEq, Value.int.injEq, Value.long.injEq, Value.ref.injEq, List.cons.injEq, Nat.reduceAdd, Nat.reduceLeDiff, Nat.le_refl, List.take, List.drop, List.reverse_cons, List.reverse_nil, List.nil_append, List.cons_append, List.append_nil, List.map_cons, List.map_nil, List.sum_cons, List.sum_nil, List.length_cons, List.length_nil, Option.toList, fx_all4, forall_const, true_and, and_true, not_true_eq_false, not_false_eq_true, false_implies, true_implies, ne_eq, reduceCtorEq, Nat.reduceEqDiff, ite_true, ite_false, reduceIte, Instr.getfield.injEq, Instr.putfield.injEq, Instr.invokevirtual.injEq, Instr.invokestatic.injEq, Instr.ldc2_w.injEq, fx_tcopy, Instr.ldc.injEq, Instr.ldc_w.injEq, exists_eq_left, exists_prop, R0C_ex]
      have eJ : ∀ q d, (q < 12 ∨ 94 ≤ q) → recJ I2 J2 2 q d = J2 q d := fun q d hq => recJ_ne hq hh'
      have f9 : recJ I2 J2 2 9 = J 9 := funext fun d => (eJ 9 d (by omega)).trans (hJ2 9 d (by omega) (by omega))
      have f114 : recJ I2 J2 2 114 = J2 114 := funext fun d => eJ 114 d (by omega)
      rw [f9, f114]
      refine ⟨⟨rfl, hh'⟩, ⟨rfl, rfl⟩, ⟨rfl, rfl⟩, ⟨b, rfl⟩, fun Ir hr Jr r2 Ir2 Jr2 Rr2 hq => ?_⟩
      obtain ⟨⟨q1, q2, q3⟩, -⟩ := REL_ref hr
      have hmk := hr.2.1.2.1
      have hu8 : ∀ k, k < cW I * cH I → Ir 1 (288 + k) = nI (cu (cW I) J 8 k) := fun k hk => hmk.2.2 k hk
      have hokp := fun k (hk : k < 64) => okp_16 (show cC I ≤ 3 by omega) hr.2.1.2.2.2 hk
      obtain ⟨rfl, rfl, ⟨k1, -⟩ | ⟨-, ⟨k1, -⟩ | ⟨g, g1, g2, rfl, k3⟩⟩⟩ := hq
      · exact absurd (hin.symm.trans k1) (by decide)
      · rw [q1, q2, q3] at k1
        obtain ⟨-, -, -, -, hmu, hcq⟩ := sR_pre hr.1.1.1 hr.2.1
        have := NGc_uc hmu (NGc_of hw.2 hh2.2 k1)
        exact absurd ((cq_NGc hcq (by omega)).mpr this) (NLc_NGc hN)
      · have hgv : ∀ k, k < 64 → mkN (markd Ir g 1) k = nv (g k) := fun k hk => by
          unfold mkN markd
          rw [fill_in (by omega) (by omega), Nat.add_sub_cancel_left]
        have hg16 : ∀ k, k < 64 → g k = nI (nv (g k)) ∧ nv (g k) < 16 := fun k hk => rg_eq (g1 k hk) (by omega)
        have hRN := href Ir _ hr (fun k hk => by rw [hgv k (by omega)]; exact (hg16 k (by omega)).2) g2
        have hone := NLc_one hN hRN
        have hgk : ∀ k, k < cW I * cH I → g k = nI (cu (cW I) J2 113 k) := fun k hk => by
          rw [hone k hk, hgv k (by omega)]
          exact (hg16 k (by omega)).1
        have hgo : ∀ k, k < 64 → cW I * cH I ≤ k → g k = Ir 1 (288 + k) := fun k hk hle => by
          have := NTl_out g2 (k := k) (by rw [q1, q2]; exact hle)
          rw [hgv k hk] at this
          have h5 := rg_eq (hokp k hk).1 (by omega)
          rw [(hg16 k hk).1, this]
          exact h5.1.symm
        have hpop := dif_pop (J := J) (J' := J2) (o := 8) (q := 113) (g := fun k => df1 (Ir 1 (288 + k)) (g k)) hw hh2.2 hmk.1 hly2 (fun k hk => by
          have hx := cu_16 (w := cW I) (J := J) (o := 8) (k := k)
          have hy := cu_16 (w := cW I) (J := J2) (o := 113) (k := k)
          rw [hu8 k hk, hgk k hk]
          unfold df1
          by_cases h5 : cu (cW I) J 8 k = cu (cW I) J2 113 k
          · rw [if_pos h5, if_pos (by rw [h5])]
          · rw [if_neg h5, if_neg (fun z => h5 (by
              have := congrArg nv z
              rw [nv_nI (by omega), nv_nI (by omega)] at this
              exact this))])
        have hsum : dfN (fun i => Ir 1 (288 + i)) g 64 = sm (fun k => df1 (Ir 1 (288 + k)) (g k)) (cW I * cH I) := sm_cut hwh fun k h5 h6 => by
          rw [hgo k h6 h5]
          exact if_pos rfl
        refine ⟨rfl, ?_, ?_⟩
        · rw [show pop 64 (lb (difL (J 9) (J2 114) 4)) = _ from hpop, hsum]
        · have hr2 := hrel2 Ir Ir hr eqS_rfl
          have hin2 : ∀ k, k < 64 → Ir2 1 (288 + k) = g k := fun k hk => by
            rw [k3.1]
            unfold markd
            rw [fill_in (by omega) (by omega), Nat.add_sub_cancel_left]
          have hJ9 : ∀ d, d < 4 → fillL (recJ I2 J2 2) 9 0 4 (fun c => J2 114 c) 9 d = J2 114 d := fun d hd => by rw [fillL_in (Nat.zero_le _) (by omega), Nat.sub_zero]
          have hcu9 : ∀ k, cu (cW I) (fillL (recJ I2 J2 2) 9 0 4 (fun c => J2 114 c)) 8 k = cu (cW I) J2 113 k := fun k => by
            unfold cu
            exact mskF_c fun d hd => by rw [hJ9 d hd]
          have hlt : ∀ k, k < cW I * cH I → cu (cW I) J2 113 k < 2 ^ (cC I + 1) ∧ 1 ≤ cu (cW I) J2 113 k := fun k hk => by
            have hx := cu_16 (w := cW I) (J := J) (o := 8) (k := k)
            have hy := cu_16 (w := cW I) (J := J2) (o := 113) (k := k)
            have h5 := sub_le hy hx (NL_sub hN hk)
            have h6 := (rg_eq (hr.2.1.2.2.2 k (by omega)).1.1 (by omega)).2
            rw [hu8 k hk, nv_nI (by omega)] at h6
            exact ⟨by omega, bit_pos _ hy (NL_ne hz.2.1 hw.2 hh2.2 hN (fun _ _ => cu_16) hne hk)⟩
          have hfill : ∀ q j, (q ≠ 1 ∨ j < 288 ∨ 352 ≤ j) → markd (keepsM Ir) g q j = keepsM Ir q j := fun q j hq => by
            unfold markd
            exact if_neg (by omega)
          refine REL_nowL hr2 (fun q j h9 _ => by rw [fillL_row h9]) ?_ (fun j hj => by rw [k3.1, hfill 1 j (Or.inr hj), keepsM_row]) (fun j => (k3.2.1 j).trans (hfill 2 j (by omega))) (fun j => (k3.2.2.1 j).trans (hfill 10 j (by omega))) (fun j h5 h6 h7 => (k3.2.2.2 j h5 h6 h7).trans (hfill 0 j (by omega))) ?_ (fun k hk => ?_)
          · rw [w1, w2]
            exact fun d hd i hi hb => hly2 d hd i hi (by
              rw [fillL_row (by omega), f114] at hb
              exact hb)
          · rw [w1, w2, w3]
            refine ⟨fun d hd i hi hb => hly2 d hd i hi (by rw [← hJ9 d hd]; exact hb), fun d h2 h3 i hi => ?_, fun k hk => by rw [hin2 k (by omega), hgk k hk, hcu9]⟩
            rw [hJ9 d h3]
            refine bnt fun hb => ?_
            obtain ⟨k4, k5⟩ := hly2 d h3 i hi hb
            have hin3 := cell_in k4 k5
            have e9 := dm_ (w := cW I) (l := i / 8) k4
            have hb2 := (cu_bit (w := cW I) (J := J2) (o := 113) (k := cW I * (i / 8) + i % 8) h3).mpr (by
              rw [e9.1, e9.2, show 8 * (i / 8) + i % 8 = i by omega]
              exact hb)
            have hb3 := (cu_bit (w := cW I) (J := J) (o := 8) (k := cW I * (i / 8) + i % 8) h3).mp (NL_sub hN hin3 d h3 hb2)
            rw [e9.1, e9.2, show 8 * (i / 8) + i % 8 = i by omega, hck d h2 h3 i hi] at hb3
            exact absurd hb3 (by decide)
          · rw [w3, hin2 k hk]
            by_cases h5 : k < cW I * cH I
            · obtain ⟨y1, y2⟩ := hlt k h5
              have hy := cu_16 (w := cW I) (J := J2) (o := 113) (k := k)
              rw [hgk k h5, nv_nI (by omega)]
              exact ⟨⟨_, y1, rfl⟩, y2⟩
            · rw [hgo k hk (by omega)]
              exact (hr.2.1.2.2.2 k hk).1
    · refine fx_run0 90 fun X hX => ?_
      simp only [q_Out_narrow_0 hX rfl, q_Out_narrow_1 hX rfl, q_Out_narrow_2 hX rfl, q_Out_narrow_3 hX rfl, q_Out_narrow_6 hX rfl, q_Out_narrow_9 hX rfl, q_Out_narrow_11 hX rfl, q_Out_narrow_12 hX rfl, q_Out_narrow_13 hX rfl, q_Out_narrow_16 hX rfl, q_Out_narrow_19 hX rfl, q_Out_narrow_20 hX rfl, q_Out_narrow_23 hX rfl, q_Out_narrow_26 hX rfl, q_Out_narrow_29 hX rfl, q_Out_narrow_30 hX rfl, q_Out_narrow_31 hX rfl, q_Out_narrow_34 hX rfl, q_Out_narrow_35 hX rfl, q_Out_narrow_38 hX rfl, q_Out_narrow_41 hX rfl, q_Out_narrow_44 hX rfl, q_Out_narrow_45 hX rfl, q_Out_narrow_48 hX rfl, q_Out_narrow_49 hX rfl, q_Out_narrow_52 hX rfl, q_Out_narrow_55 hX rfl, q_Out_narrow_58 hX rfl, q_Out_narrow_59 hX rfl, q_Out_narrow_60 hX rfl, q_Out_narrow_63 hX rfl, q_Out_narrow_64 hX rfl, q_Out_narrow_67 hX rfl, q_Out_narrow_68 hX rfl, q_Out_narrow_71 hX rfl, q_Out_narrow_72 hX rfl, q_Out_narrow_73 hX rfl, q_Out_narrow_76 hX rfl, q_Out_narrow_78 hX rfl, q_Out_narrow_79 hX rfl, q_Out_narrow_80 hX rfl, q_Out_narrow_83 hX rfl, q_Out_narrow_84 hX rfl, q_Out_narrow_87 hX rfl, q_Out_narrow_90 hX rfl, q_Out_narrow_91 hX rfl, q_Out_narrow_94 hX rfl, q_Out_narrow_97 hX rfl, q_Out_narrow_98 hX rfl, q_Out_narrow_101 hX rfl, q_Out_narrow_104 hX rfl, q_Out_narrow_107 hX rfl, q_Out_narrow_110 hX rfl, q_Out_narrow_111 hX rfl, q_Out_narrow_112 hX rfl, q_Out_narrow_115 hX rfl, q_Out_narrow_118 hX rfl, q_Out_narrow_119 hX rfl, q_Out_narrow_122 hX rfl, q_Out_narrow_125 hX rfl, q_Out_narrow_128 hX rfl, q_Out_narrow_129 hX rfl, fs_aload_n0, fs_aload_n1, fs_aload_n2, fs_aload_n3, fs_bipush, fs_getfield, fs_goto, fs_iconst, fs_ifCond, fs_if_icmp, fs_iload_n0, fs_iload_n1, fs_iload_n2, fs_iload_n3, fs_invokestatic, fs_invokevirtual, fs_ireturn, fs_istore_n0, fs_istore_n1, fs_istore_n2, fs_istore_n3, v_Out_narrow, ci_1, ci_3, cb_m2, ci_0, lt_2_4, cb_m4, lt_3_4, pre_Out_isWithin, post_Out_isWithin, pre_Layer_copyFrom, post_Layer_copyFrom, pre_Narrower_settleByTrials, post_Narrower_settleByTrials, pre_Narrower_settle, post_Narrower_settle, pre_History_record, post_History_record, pre_Layer_difference, post_Layer_difference, pre_J13_bitCount_95d88, post_J13_bitCount_95d88, kd_C_0_6, pl_C_0, R0C_0_6, pl_C_112, kd_C_8_3, R0C_112_3, pl_C_113, kd_C_0_1, R0C_0_1, pl_C_2, kd_C_2_1, R0C_2_1, pl_C_8, kd_C_2_0, R0C_2_0, pl_C_3, kd_C_3_0, pl_C_96, kd_C_0_2, R0C_0_2, pl_C_12, fx_oi_s, fx_ol_s, fx_or_s, fx_do_s, fx_lg_0, fx_lg_s, fx_ls_0, fx_ls_s, fx_ls_n0, fx_ls_ns, fx_en, fx_sz, Value.category, fx_nl, fx_lk, fx_tget, fx_tput, fx_tcall, fx_tldc, fx_fv, va_rf, fx_cat, fx_in, fx_cnd, fx_len, fx_narI, fx_narZ0, fx_narZ1, fx_narZb, zb_e, zb_ne, Option.some.injEq, Value.int.injEq, Value.long.injEq, Value.ref.injEq, List.cons.injEq, Nat.reduceAdd, Nat.reduceLeDiff, Nat.le_refl, List.take, List.drop, List.reverse_cons, List.reverse_nil, List.nil_append, List.cons_append, List.append_nil, List.map_cons, List.map_nil, List.sum_cons, List.sum_nil, List.length_cons, List.length_nil, Option.toList, fx_all4, forall_const, true_and, and_true, not_true_eq_false, not_false_eq_true, false_implies, true_implies, ne_eq, reduceCtorEq, Nat.reduceEqDiff, ite_true, ite_false, reduceIte, Instr.getfield.injEq, Instr.putfield.injEq, Instr.invokevirtual.injEq, Instr.invokestatic.injEq, Instr.ldc2_w.injEq, fx_tcopy, Instr.ldc.injEq, Instr.ldc_w.injEq, exists_eq_left, exists_prop, R0C_ex]
      refine ⟨⟨b, rfl⟩, fun Ir hr Jr r2 Ir2 Jr2 Rr2 hq => ?_⟩
      obtain ⟨rfl, rfl, ⟨k1, -⟩ | ⟨-, ⟨k1, rfl, k3⟩ | ⟨g, g1, g2, -⟩⟩⟩ := hq
      · exact absurd (hin.symm.trans k1) (by decide)
      · exact ⟨rfl, rfl, hrel2 Ir Ir2 hr k3⟩
      · refine absurd hN (NLc_NGc (href Ir _ hr (fun k hk => ?_) g2))
        unfold mkN markd
        rw [fill_in (by omega) (by omega)]
        rw [Nat.add_sub_cancel_left]
        exact (rg_eq (g1 k (by omega)) (by omega)).2
  · simp only [q_Out_narrow_0 hX rfl, q_Out_narrow_1 hX rfl, q_Out_narrow_2 hX rfl, q_Out_narrow_3 hX rfl, q_Out_narrow_6 hX rfl, q_Out_narrow_9 hX rfl, q_Out_narrow_11 hX rfl, q_Out_narrow_12 hX rfl, q_Out_narrow_13 hX rfl, q_Out_narrow_16 hX rfl, q_Out_narrow_19 hX rfl, q_Out_narrow_20 hX rfl, q_Out_narrow_23 hX rfl, q_Out_narrow_26 hX rfl, q_Out_narrow_29 hX rfl, q_Out_narrow_30 hX rfl, q_Out_narrow_31 hX rfl, q_Out_narrow_34 hX rfl, q_Out_narrow_35 hX rfl, q_Out_narrow_38 hX rfl, q_Out_narrow_41 hX rfl, q_Out_narrow_44 hX rfl, q_Out_narrow_45 hX rfl, q_Out_narrow_48 hX rfl, q_Out_narrow_49 hX rfl, q_Out_narrow_52 hX rfl, q_Out_narrow_55 hX rfl, q_Out_narrow_58 hX rfl, q_Out_narrow_59 hX rfl, q_Out_narrow_60 hX rfl, q_Out_narrow_63 hX rfl, q_Out_narrow_64 hX rfl, q_Out_narrow_67 hX rfl, q_Out_narrow_68 hX rfl, hX.2 _ 71 2 _ _ _ _ _ rfl, q_Out_narrow_72 hX rfl, q_Out_narrow_73 hX rfl, q_Out_narrow_76 hX rfl, q_Out_narrow_78 hX rfl, q_Out_narrow_79 hX rfl, q_Out_narrow_80 hX rfl, q_Out_narrow_83 hX rfl, q_Out_narrow_84 hX rfl, q_Out_narrow_87 hX rfl, q_Out_narrow_90 hX rfl, q_Out_narrow_91 hX rfl, q_Out_narrow_94 hX rfl, q_Out_narrow_97 hX rfl, q_Out_narrow_98 hX rfl, q_Out_narrow_101 hX rfl, q_Out_narrow_104 hX rfl, q_Out_narrow_107 hX rfl, q_Out_narrow_110 hX rfl, q_Out_narrow_111 hX rfl, q_Out_narrow_112 hX rfl, q_Out_narrow_115 hX rfl, q_Out_narrow_118 hX rfl, q_Out_narrow_119 hX rfl, q_Out_narrow_122 hX rfl, q_Out_narrow_125 hX rfl, q_Out_narrow_128 hX rfl, q_Out_narrow_129 hX rfl, fs_aload_n0, fs_aload_n1, fs_aload_n2, fs_aload_n3, fs_bipush, fs_getfield, fs_goto, fs_iconst, fs_ifCond, fs_if_icmp, fs_iload_n0, fs_iload_n1, fs_iload_n2, fs_iload_n3, fs_invokestatic, fs_invokevirtual, fs_ireturn, fs_istore_n0, fs_istore_n1, fs_istore_n2, fs_istore_n3, v_Out_narrow, ci_1, ci_3, cb_m2, ci_0, lt_2_4, cb_m4, lt_3_4, pre_Out_isWithin, post_Out_isWithin, pre_Layer_copyFrom, post_Layer_copyFrom, pre_Narrower_settleByTrials, post_Narrower_settleByTrials, pre_Narrower_settle, post_Narrower_settle, pre_History_record, post_History_record, pre_Layer_difference, post_Layer_difference, pre_J13_bitCount_95d88, post_J13_bitCount_95d88, kd_C_0_6, pl_C_0, R0C_0_6, pl_C_112, kd_C_8_3, R0C_112_3, pl_C_113, kd_C_0_1, R0C_0_1, pl_C_2, kd_C_2_1, R0C_2_1, pl_C_8, kd_C_2_0, R0C_2_0, pl_C_3, kd_C_3_0, pl_C_96, kd_C_0_2, R0C_0_2, pl_C_12, fx_oi_s, fx_ol_s, fx_or_s, fx_do_s, fx_lg_0, fx_lg_s, fx_ls_0, fx_ls_s, fx_ls_n0, fx_ls_ns, fx_en, fx_sz, Value.category, fx_nl, fx_lk, fx_tget, fx_tput, fx_tcall, fx_tldc, fx_fv, va_rf, fx_cat, fx_in, fx_cnd, fx_len, fx_narI, fx_narZ0, fx_narZ1, fx_narZb, zb_e, zb_ne, Option.some.injEq, Value.int.injEq, Value.long.injEq, Value.ref.injEq, List.cons.injEq, Nat.reduceAdd, Nat.reduceLeDiff, Nat.le_refl, List.take, List.drop, List.reverse_cons, List.reverse_nil, List.nil_append, List.cons_append, List.append_nil, List.map_cons, List.map_nil, List.sum_cons, List.sum_nil, List.length_cons, List.length_nil, Option.toList, fx_all4, forall_const, true_and, and_true, not_true_eq_false, not_false_eq_true, false_implies, true_implies, ne_eq, reduceCtorEq, Nat.reduceEqDiff, ite_true, ite_false, reduceIte, Instr.getfield.injEq, Instr.putfield.injEq, Instr.invokevirtual.injEq, Instr.invokestatic.injEq, Instr.ldc2_w.injEq, fx_tcopy, Instr.ldc.injEq, Instr.ldc_w.injEq, exists_eq_left, exists_prop, R0C_ex]
    simp (disch := omega) only [lit, nI_add, nI_mul', nI_sub', nI_clamp, nI_lt', nI_le', nI_eq', nI_in', iinc1, zb_n0, nI_div', nI_rem2, true_and, and_true, Nat.reduceEqDiff, Nat.reduceLeDiff, Nat.one_ne_zero, Nat.zero_ne_one, not_false_eq_true, not_true_eq_false, false_implies, true_implies, forall_const, Nat.zero_add, Nat.add_zero, nv_nI, up_eq, up_ne, fill_ne, nI_clamp, nI_add]
    rw [hJ1]
    refine ⟨fun _ => ⟨⟨rfl, rfl⟩, fun h2 => ⟨fun h3 => ⟨⟨hz1, ⟨0, by omega, rfl⟩, fun l _ h5 h6 => absurd (h5.symm.trans h6) (by decide)⟩, fun r I' J' R' hq => ?_⟩, fun h3 => ⟨⟨hz1, ⟨1, by omega, rfl⟩, fun l _ h5 h6 => absurd (h5.symm.trans h6) (by decide)⟩, fun r I' J' R' hq => ?_⟩⟩, fun h2 => ⟨⟨hz1, hck1⟩, fun r I' J' R' hq => ?_⟩⟩, fun z => absurd (hin.symm.trans z) (by decide)⟩
    · obtain ⟨hR, hf, hM, hly, h9⟩ := hq
      have hl : lv3 v = 2 := by
        unfold lv3 lvN
        rw [if_neg h2, if_neg h3]
      rw [hcu1] at h9
      refine ⟨rfl, ?_⟩
      rcases h9 with ⟨rfl, hN⟩ | ⟨rfl, hN⟩
      · exact ⟨true, ⟨hf, fun q d g1 _ => (hM q d g1).trans (jo q d g1), hly, Or.inl ⟨rfl, by rw [hl]; exact ⟨fun k _ => cu_16, fun z => absurd z (by decide), fun _ => hN⟩⟩⟩, rfl, rfl, hR⟩
      · exact ⟨false, ⟨hf, fun q d g1 _ => (hM q d g1).trans (jo q d g1), hly, Or.inr ⟨rfl, by rw [hl]; exact ⟨fun z => absurd z (by decide), fun _ => hN⟩⟩⟩, rfl, rfl, hR⟩
    · obtain ⟨hR, hf, hM, hly, h9⟩ := hq
      have hl : lv3 v = 1 := by
        unfold lv3 lvN
        rw [if_neg h2, if_pos h3]
      rw [hcu1] at h9
      refine ⟨rfl, ?_⟩
      rcases h9 with ⟨rfl, hN⟩ | ⟨rfl, hN⟩
      · exact ⟨true, ⟨hf, fun q d g1 _ => (hM q d g1).trans (jo q d g1), hly, Or.inl ⟨rfl, by rw [hl]; exact ⟨fun k _ => cu_16, fun z => absurd z (by decide), fun _ => hN⟩⟩⟩, rfl, rfl, hR⟩
      · exact ⟨false, ⟨hf, fun q d g1 _ => (hM q d g1).trans (jo q d g1), hly, Or.inr ⟨rfl, by rw [hl]; exact ⟨fun z => absurd z (by decide), fun _ => hN⟩⟩⟩, rfl, rfl, hR⟩
    · obtain ⟨hR, hf, hM, hly, h9⟩ := hq
      have hl : lv3 v = 3 := by
        unfold lv3
        rw [if_pos h2]
      rw [hcu1] at h9
      refine ⟨rfl, ?_⟩
      rcases h9 with ⟨rfl, hN⟩ | ⟨rfl, hN⟩
      · exact ⟨true, ⟨hf, fun q d g1 g2 => (hM q d g1 g2).trans (jo q d g1), hly, Or.inl ⟨rfl, by rw [hl]; exact ⟨fun k _ => cu_16, fun _ => hN, fun z => absurd rfl z⟩⟩⟩, rfl, rfl, hR⟩
      · exact ⟨false, ⟨hf, fun q d g1 g2 => (hM q d g1 g2).trans (jo q d g1), hly, Or.inr ⟨rfl, by rw [hl]; exact ⟨fun _ => hN, fun z => absurd rfl z⟩⟩⟩, rfl, rfl, hR⟩
theorem c_Out_narrow (l : Launch) (n : Nat) : fx_Met l y_Out_narrow ws_Out_narrow rm_Out_narrow (MC n) (pre_Out_narrow n) (post_Out_narrow n) := fx_met (MC_ok n) (MC_tys n) (by decide) rfl pk_Out_narrow vk_Out_narrow (fun st I J R h => r_Out_narrow n st I J R h)

