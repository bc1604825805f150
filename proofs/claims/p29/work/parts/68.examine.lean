/-! the class: examining a line (own work) -/
def frZ (I I' : fx_MI) : Prop := ∀ q j, (q < 101 ∨ 111 < q) → I' q j = I q j
theorem frZ_rfl {I : fx_MI} : frZ I I := fun _ _ _ => rfl
theorem frZ_trans {I I' I'' : fx_MI} (h : frZ I I') (h' : frZ I' I'') : frZ I I'' := fun q j hq => by rw [h' q j hq, h q j hq]
theorem frZ_d {I I' : fx_MI} (h : frZ I I') : cW I' = cW I ∧ cH I' = cH I ∧ cC I' = cC I ∧ cf I' 3 = cf I 3 ∧ (dimC I → dimC I') := by
  refine ⟨by unfold cW; rw [h 1 0 (by omega)], by unfold cH; rw [h 1 1 (by omega)], by unfold cC; rw [h 1 2 (by omega)], cf_fr (h _ _ (by omega)) (fun j => h _ _ (by omega)) (fun j => h _ _ (by omega)) (fun j => h _ _ (by omega)), fun hd => ?_⟩
  unfold dimC at hd ⊢
  rw [h 1 0 (by omega), h 1 1 (by omega), h 1 2 (by omega)]
  exact hd
theorem lkI_fr {I : fx_MI} {J : fx_MJ} {o l : Nat} : frZ I (lkI I J o l) := fun q j hq => inv_lk_o (k := manyN (cf I 3) l) (by omega)
/-- what a line that was looked at has -/
def lkR (w h : Nat) (f : Nat → Int32) (u : Nat → Nat) (l : Nat) (I : fx_MI) : Prop := I 101 2 = nI l ∧ I 101 3 = nI (manyN f l) ∧ I 101 4 = nI (cellsN w h l) ∧ (∀ c, c < 4 → I 102 c = nI (cnM w h u l c)) ∧ ∀ b, b < manyN f l → I 103 b = nI (lenN f l b) ∧ I 104 b = nI (colN f l b) ∧ I 105 b = nI (gapN f l b)
theorem lkR_cn {w h : Nat} {f : Nat → Int32} {u : Nat → Nat} {l : Nat} {I : fx_MI} (hn : cellsN w h l ≤ 8) (hk : lkR w h f u l I) : cnOK w h u l (I 102) := fun c hc i => by
  rw [hk.2.2.2.1 c hc]
  exact cnM_bt hn
theorem lkI_R {I : fx_MI} {J : fx_MJ} {o l : Nat} : lkR (cW I) (cH I) (cf I 3) (cu (cW I) J o) l (lkI I J o l) := by
  unfold lkI
  refine ⟨?_, ?_, ?_, fun c hc => ?_, fun b hb => ⟨?_, ?_, ?_⟩⟩
  · rw [fillD_out (by omega), fillD_out (by omega), fillD_out (by omega), fillD_out (by omega), up_ne (by omega), up_ne (by omega), up_eq]
  · rw [fillD_out (by omega), fillD_out (by omega), fillD_out (by omega), fillD_out (by omega), up_ne (by omega), up_eq]
  · rw [fillD_out (by omega), fillD_out (by omega), fillD_out (by omega), fillD_out (by omega), up_eq]
  · rw [fillD_out (by omega), fillD_out (by omega), fillD_out (by omega), fillD_in (by omega) hc]
  · rw [fillD_out (by omega), fillD_out (by omega), fillD_in (by omega) hb]
  · rw [fillD_out (by omega), fillD_in (by omega) hb]
  · rw [fillD_in (by omega) hb]
theorem ldS_of {I I' : fx_MI} {w h l : Nat} {u : Nat → Nat} (hfr : frZ I I') (hl : l < 16) (hok : okl 3 (cf I 3) l) (hn : cellsN (cW I) (cH I) l ≤ 8) (hk : lkR (cW I) (cH I) (cf I 3) u l I') : ldS I' := by
  obtain ⟨h1, h2, h3, h4, h5⟩ := frZ_d hfr
  refine ⟨l, hl, ?_⟩
  rw [h4, h1, h2]
  exact ⟨hok, hn, hk.1, hk.2.1, hk.2.2.1, hk.2.2.2.2⟩
/-- what a line that was examined has -/
def exR (w h : Nat) (f : Nat → Int32) (u : Nat → Nat) (l : Nat) (I : fx_MI) : Prop := lkR w h f u l I ∧ (∀ b, b ≤ manyN f l → ∀ i, i < 32 → (bt (I 106 b) i = true ↔ FR w h f u l b i)) ∧ (∀ b, b ≤ manyN f l → ∀ i, bt (I 107 b) i = true ↔ BK w h f u l b i) ∧ ∀ b, b < manyN f l → ∀ a, bt (I 108 b) a = true ↔ SB w h f u l b a
def Q_examine (I : fx_MI) (J : fx_MJ) (R : fx_MR) (o l : Nat) (r : Option Value) (I' : fx_MI) (J' : fx_MJ) (R' : fx_MR) : Prop :=
  J' = J ∧ R' = R ∧ frZ I I' ∧ ∃ v, r = some (.int (zb v)) ∧ (v = true ↔ ∃ s, PF (cW I) (cH I) (cf I 3) (cu (cW I) J o) l s) ∧ (v = true → exR (cW I) (cH I) (cf I 3) (cu (cW I) J o) l I')
def p_Fillings_examine : fx_Pr := fx_pr [(0, .aload_n 0, 0), (1, .aload_n 1, 0), (2, .iload_n 2, 0), (3, .invokevirtual 50, 0), (6, .aload_n 0, 0), (7, .invokevirtual 54, 0), (10, .aload_n 0, 0), (11, .getfield 24, 0), (14, .aload_n 0, 0), (15, .getfield 57, 0), (18, .iaload, 0), (19, .aload_n 0, 0), (20, .getfield 61, 0), (23, .iushr, 0), (24, .iconst 1, 0), (25, .iand, 0), (26, .ifCond .ne 5, 31), (29, .iconst 0, 0), (30, .ireturn, 0), (31, .aload_n 0, 0), (32, .invokevirtual 64, 0), (35, .iconst 1, 0), (36, .ireturn, 0)]
theorem pk_Fillings_examine : fx_prOK b_Fillings_examine p_Fillings_examine := fx_pr_ok (by decide +kernel)
theorem q_Fillings_examine_0 {nL : Nat} {M : fx_M} {ev : fx_Env} {ret : Option FieldType} {P : fx_P} {stops : List (Nat × Nat)} {K : fx_K} {n : Nat} {L : List (Option Value)} {st : List Value} {I : fx_MI} {J : fx_MJ} {R : fx_MR} {X : Nat → fx_K} (hX : fx_isX nL M ev ret P p_Fillings_examine stops K X) (hs : fx_stop stops 0 = none) : X (n + 1) 0 L st I J R = fx_S nL M ev ret P (.aload_n 0) 0 0 L st I J R (X n) := hX.1 _ _ _ _ _ _ _ _ _ rfl hs
theorem q_Fillings_examine_1 {nL : Nat} {M : fx_M} {ev : fx_Env} {ret : Option FieldType} {P : fx_P} {stops : List (Nat × Nat)} {K : fx_K} {n : Nat} {L : List (Option Value)} {st : List Value} {I : fx_MI} {J : fx_MJ} {R : fx_MR} {X : Nat → fx_K} (hX : fx_isX nL M ev ret P p_Fillings_examine stops K X) (hs : fx_stop stops 1 = none) : X (n + 1) 1 L st I J R = fx_S nL M ev ret P (.aload_n 1) 0 1 L st I J R (X n) := hX.1 _ _ _ _ _ _ _ _ _ rfl hs
theorem q_Fillings_examine_2 {nL : Nat} {M : fx_M} {ev : fx_Env} {ret : Option FieldType} {P : fx_P} {stops : List (Nat × Nat)} {K : fx_K} {n : Nat} {L : List (Option Value)} {st : List Value} {I : fx_MI} {J : fx_MJ} {R : fx_MR} {X : Nat → fx_K} (hX : fx_isX nL M ev ret P p_Fillings_examine stops K X) (hs : fx_stop stops 2 = none) : X (n + 1) 2 L st I J R = fx_S nL M ev ret P (.iload_n 2) 0 2 L st I J R (X n) := hX.1 _ _ _ _ _ _ _ _ _ rfl hs
theorem q_Fillings_examine_3 {nL : Nat} {M : fx_M} {ev : fx_Env} {ret : Option FieldType} {P : fx_P} {stops : List (Nat × Nat)} {K : fx_K} {n : Nat} {L : List (Option Value)} {st : List Value} {I : fx_MI} {J : fx_MJ} {R : fx_MR} {X : Nat → fx_K} (hX : fx_isX nL M ev ret P p_Fillings_examine stops K X) (hs : fx_stop stops 3 = none) : X (n + 1) 3 L st I J R = fx_S nL M ev ret P (.invokevirtual 50) 0 3 L st I J R (X n) := hX.1 _ _ _ _ _ _ _ _ _ rfl hs
theorem q_Fillings_examine_6 {nL : Nat} {M : fx_M} {ev : fx_Env} {ret : Option FieldType} {P : fx_P} {stops : List (Nat × Nat)} {K : fx_K} {n : Nat} {L : List (Option Value)} {st : List Value} {I : fx_MI} {J : fx_MJ} {R : fx_MR} {X : Nat → fx_K} (hX : fx_isX nL M ev ret P p_Fillings_examine stops K X) (hs : fx_stop stops 6 = none) : X (n + 1) 6 L st I J R = fx_S nL M ev ret P (.aload_n 0) 0 6 L st I J R (X n) := hX.1 _ _ _ _ _ _ _ _ _ rfl hs
theorem q_Fillings_examine_7 {nL : Nat} {M : fx_M} {ev : fx_Env} {ret : Option FieldType} {P : fx_P} {stops : List (Nat × Nat)} {K : fx_K} {n : Nat} {L : List (Option Value)} {st : List Value} {I : fx_MI} {J : fx_MJ} {R : fx_MR} {X : Nat → fx_K} (hX : fx_isX nL M ev ret P p_Fillings_examine stops K X) (hs : fx_stop stops 7 = none) : X (n + 1) 7 L st I J R = fx_S nL M ev ret P (.invokevirtual 54) 0 7 L st I J R (X n) := hX.1 _ _ _ _ _ _ _ _ _ rfl hs
theorem q_Fillings_examine_10 {nL : Nat} {M : fx_M} {ev : fx_Env} {ret : Option FieldType} {P : fx_P} {stops : List (Nat × Nat)} {K : fx_K} {n : Nat} {L : List (Option Value)} {st : List Value} {I : fx_MI} {J : fx_MJ} {R : fx_MR} {X : Nat → fx_K} (hX : fx_isX nL M ev ret P p_Fillings_examine stops K X) (hs : fx_stop stops 10 = none) : X (n + 1) 10 L st I J R = fx_S nL M ev ret P (.aload_n 0) 0 10 L st I J R (X n) := hX.1 _ _ _ _ _ _ _ _ _ rfl hs
theorem q_Fillings_examine_11 {nL : Nat} {M : fx_M} {ev : fx_Env} {ret : Option FieldType} {P : fx_P} {stops : List (Nat × Nat)} {K : fx_K} {n : Nat} {L : List (Option Value)} {st : List Value} {I : fx_MI} {J : fx_MJ} {R : fx_MR} {X : Nat → fx_K} (hX : fx_isX nL M ev ret P p_Fillings_examine stops K X) (hs : fx_stop stops 11 = none) : X (n + 1) 11 L st I J R = fx_S nL M ev ret P (.getfield 24) 0 11 L st I J R (X n) := hX.1 _ _ _ _ _ _ _ _ _ rfl hs
theorem q_Fillings_examine_14 {nL : Nat} {M : fx_M} {ev : fx_Env} {ret : Option FieldType} {P : fx_P} {stops : List (Nat × Nat)} {K : fx_K} {n : Nat} {L : List (Option Value)} {st : List Value} {I : fx_MI} {J : fx_MJ} {R : fx_MR} {X : Nat → fx_K} (hX : fx_isX nL M ev ret P p_Fillings_examine stops K X) (hs : fx_stop stops 14 = none) : X (n + 1) 14 L st I J R = fx_S nL M ev ret P (.aload_n 0) 0 14 L st I J R (X n) := hX.1 _ _ _ _ _ _ _ _ _ rfl hs
theorem q_Fillings_examine_15 {nL : Nat} {M : fx_M} {ev : fx_Env} {ret : Option FieldType} {P : fx_P} {stops : List (Nat × Nat)} {K : fx_K} {n : Nat} {L : List (Option Value)} {st : List Value} {I : fx_MI} {J : fx_MJ} {R : fx_MR} {X : Nat → fx_K} (hX : fx_isX nL M ev ret P p_Fillings_examine stops K X) (hs : fx_stop stops 15 = none) : X (n + 1) 15 L st I J R = fx_S nL M ev ret P (.getfield 57) 0 15 L st I J R (X n) := hX.1 _ _ _ _ _ _ _ _ _ rfl hs
theorem q_Fillings_examine_18 {nL : Nat} {M : fx_M} {ev : fx_Env} {ret : Option FieldType} {P : fx_P} {stops : List (Nat × Nat)} {K : fx_K} {n : Nat} {L : List (Option Value)} {st : List Value} {I : fx_MI} {J : fx_MJ} {R : fx_MR} {X : Nat → fx_K} (hX : fx_isX nL M ev ret P p_Fillings_examine stops K X) (hs : fx_stop stops 18 = none) : X (n + 1) 18 L st I J R = fx_S nL M ev ret P (.iaload) 0 18 L st I J R (X n) := hX.1 _ _ _ _ _ _ _ _ _ rfl hs
theorem q_Fillings_examine_19 {nL : Nat} {M : fx_M} {ev : fx_Env} {ret : Option FieldType} {P : fx_P} {stops : List (Nat × Nat)} {K : fx_K} {n : Nat} {L : List (Option Value)} {st : List Value} {I : fx_MI} {J : fx_MJ} {R : fx_MR} {X : Nat → fx_K} (hX : fx_isX nL M ev ret P p_Fillings_examine stops K X) (hs : fx_stop stops 19 = none) : X (n + 1) 19 L st I J R = fx_S nL M ev ret P (.aload_n 0) 0 19 L st I J R (X n) := hX.1 _ _ _ _ _ _ _ _ _ rfl hs
theorem q_Fillings_examine_20 {nL : Nat} {M : fx_M} {ev : fx_Env} {ret : Option FieldType} {P : fx_P} {stops : List (Nat × Nat)} {K : fx_K} {n : Nat} {L : List (Option Value)} {st : List Value} {I : fx_MI} {J : fx_MJ} {R : fx_MR} {X : Nat → fx_K} (hX : fx_isX nL M ev ret P p_Fillings_examine stops K X) (hs : fx_stop stops 20 = none) : X (n + 1) 20 L st I J R = fx_S nL M ev ret P (.getfield 61) 0 20 L st I J R (X n) := hX.1 _ _ _ _ _ _ _ _ _ rfl hs
theorem q_Fillings_examine_23 {nL : Nat} {M : fx_M} {ev : fx_Env} {ret : Option FieldType} {P : fx_P} {stops : List (Nat × Nat)} {K : fx_K} {n : Nat} {L : List (Option Value)} {st : List Value} {I : fx_MI} {J : fx_MJ} {R : fx_MR} {X : Nat → fx_K} (hX : fx_isX nL M ev ret P p_Fillings_examine stops K X) (hs : fx_stop stops 23 = none) : X (n + 1) 23 L st I J R = fx_S nL M ev ret P (.iushr) 0 23 L st I J R (X n) := hX.1 _ _ _ _ _ _ _ _ _ rfl hs
theorem q_Fillings_examine_24 {nL : Nat} {M : fx_M} {ev : fx_Env} {ret : Option FieldType} {P : fx_P} {stops : List (Nat × Nat)} {K : fx_K} {n : Nat} {L : List (Option Value)} {st : List Value} {I : fx_MI} {J : fx_MJ} {R : fx_MR} {X : Nat → fx_K} (hX : fx_isX nL M ev ret P p_Fillings_examine stops K X) (hs : fx_stop stops 24 = none) : X (n + 1) 24 L st I J R = fx_S nL M ev ret P (.iconst 1) 0 24 L st I J R (X n) := hX.1 _ _ _ _ _ _ _ _ _ rfl hs
theorem q_Fillings_examine_25 {nL : Nat} {M : fx_M} {ev : fx_Env} {ret : Option FieldType} {P : fx_P} {stops : List (Nat × Nat)} {K : fx_K} {n : Nat} {L : List (Option Value)} {st : List Value} {I : fx_MI} {J : fx_MJ} {R : fx_MR} {X : Nat → fx_K} (hX : fx_isX nL M ev ret P p_Fillings_examine stops K X) (hs : fx_stop stops 25 = none) : X (n + 1) 25 L st I J R = fx_S nL M ev ret P (.iand) 0 25 L st I J R (X n) := hX.1 _ _ _ _ _ _ _ _ _ rfl hs
theorem q_Fillings_examine_26 {nL : Nat} {M : fx_M} {ev : fx_Env} {ret : Option FieldType} {P : fx_P} {stops : List (Nat × Nat)} {K : fx_K} {n : Nat} {L : List (Option Value)} {st : List Value} {I : fx_MI} {J : fx_MJ} {R : fx_MR} {x : Int32} {X : Nat → fx_K} (hX : fx_isX nL M ev ret P p_Fillings_examine stops K X) (hs : fx_stop stops 26 = none) : X (n + 1) 26 L (.int x :: st) I J R = ((¬ x = 0 → X n 31 L st I J R) ∧ (x = 0 → X n 29 L st I J R)) := fx_q_ifne hX rfl hs rfl
theorem q_Fillings_examine_29 {nL : Nat} {M : fx_M} {ev : fx_Env} {ret : Option FieldType} {P : fx_P} {stops : List (Nat × Nat)} {K : fx_K} {n : Nat} {L : List (Option Value)} {st : List Value} {I : fx_MI} {J : fx_MJ} {R : fx_MR} {X : Nat → fx_K} (hX : fx_isX nL M ev ret P p_Fillings_examine stops K X) (hs : fx_stop stops 29 = none) : X (n + 1) 29 L st I J R = fx_S nL M ev ret P (.iconst 0) 0 29 L st I J R (X n) := hX.1 _ _ _ _ _ _ _ _ _ rfl hs
theorem q_Fillings_examine_30 {nL : Nat} {M : fx_M} {ev : fx_Env} {ret : Option FieldType} {P : fx_P} {stops : List (Nat × Nat)} {K : fx_K} {n : Nat} {L : List (Option Value)} {st : List Value} {I : fx_MI} {J : fx_MJ} {R : fx_MR} {X : Nat → fx_K} (hX : fx_isX nL M ev ret P p_Fillings_examine stops K X) (hs : fx_stop stops 30 = none) : X (n + 1) 30 L st I J R = fx_S nL M ev ret P (.ireturn) 0 30 L st I J R (X n) := hX.1 _ _ _ _ _ _ _ _ _ rfl hs
theorem q_Fillings_examine_31 {nL : Nat} {M : fx_M} {ev : fx_Env} {ret : Option FieldType} {P : fx_P} {stops : List (Nat × Nat)} {K : fx_K} {n : Nat} {L : List (Option Value)} {st : List Value} {I : fx_MI} {J : fx_MJ} {R : fx_MR} {X : Nat → fx_K} (hX : fx_isX nL M ev ret P p_Fillings_examine stops K X) (hs : fx_stop stops 31 = none) : X (n + 1) 31 L st I J R = fx_S nL M ev ret P (.aload_n 0) 0 31 L st I J R (X n) := hX.1 _ _ _ _ _ _ _ _ _ rfl hs
theorem q_Fillings_examine_32 {nL : Nat} {M : fx_M} {ev : fx_Env} {ret : Option FieldType} {P : fx_P} {stops : List (Nat × Nat)} {K : fx_K} {n : Nat} {L : List (Option Value)} {st : List Value} {I : fx_MI} {J : fx_MJ} {R : fx_MR} {X : Nat → fx_K} (hX : fx_isX nL M ev ret P p_Fillings_examine stops K X) (hs : fx_stop stops 32 = none) : X (n + 1) 32 L st I J R = fx_S nL M ev ret P (.invokevirtual 64) 0 32 L st I J R (X n) := hX.1 _ _ _ _ _ _ _ _ _ rfl hs
theorem q_Fillings_examine_35 {nL : Nat} {M : fx_M} {ev : fx_Env} {ret : Option FieldType} {P : fx_P} {stops : List (Nat × Nat)} {K : fx_K} {n : Nat} {L : List (Option Value)} {st : List Value} {I : fx_MI} {J : fx_MJ} {R : fx_MR} {X : Nat → fx_K} (hX : fx_isX nL M ev ret P p_Fillings_examine stops K X) (hs : fx_stop stops 35 = none) : X (n + 1) 35 L st I J R = fx_S nL M ev ret P (.iconst 1) 0 35 L st I J R (X n) := hX.1 _ _ _ _ _ _ _ _ _ rfl hs
theorem q_Fillings_examine_36 {nL : Nat} {M : fx_M} {ev : fx_Env} {ret : Option FieldType} {P : fx_P} {stops : List (Nat × Nat)} {K : fx_K} {n : Nat} {L : List (Option Value)} {st : List Value} {I : fx_MI} {J : fx_MJ} {R : fx_MR} {X : Nat → fx_K} (hX : fx_isX nL M ev ret P p_Fillings_examine stops K X) (hs : fx_stop stops 36 = none) : X (n + 1) 36 L st I J R = fx_S nL M ev ret P (.ireturn) 0 36 L st I J R (X n) := hX.1 _ _ _ _ _ _ _ _ _ rfl hs
def pre_Fillings_examine (n : Nat) : fx_Pre := fun st I J R => (∃ b, R = R0C b) ∧ (match st with
  | [.ref 101, .ref o, .int v] => isK 4 o ∧ ∃ l, v = nI l ∧ prL I J o l
  | _ => False)
theorem pi_Fillings_examine {n : Nat} {st : List Value} {I : fx_MI} {J : fx_MJ} {R : fx_MR} (h : pre_Fillings_examine n st I J R) : (∃ b, R = R0C b) ∧ ∃ o, ∃ v, st = [.ref 101, .ref o, .int v] ∧ (isK 4 o ∧ ∃ l, v = nI l ∧ prL I J o l) := by
  unfold pre_Fillings_examine at h
  obtain ⟨h0, h⟩ := h
  split at h
  · exact ⟨h0, _, _, rfl, h⟩
  · cases h
def post_Fillings_examine (n : Nat) : fx_Post := fun st I J R r I' J' R' => match st with
  | [_, .ref o, .int v] => Q_examine I J R o (nv v) r I' J' R'
  | _ => True
theorem pz_Fillings_examine {st : List Value} {I : fx_MI} {J : fx_MJ} {R : fx_MR} (n : Nat) (h : pre_Fillings_examine n st I J R) : ∃ q r, st = .ref q :: r ∧ (MC n).2.2.1 q = some (.inl 7) ∧ r.length = 2 := by
  obtain ⟨_, _, _, rfl, _⟩ := pi_Fillings_examine h
  exact ⟨_, _, rfl, rfl, rfl⟩
def v_Fillings_examine (n : Nat) : fx_Env := [(.invokevirtual 50, fx_tcall 3 (pre_Fillings_look n) (post_Fillings_look n)), (.invokevirtual 54, fx_tcall 1 (pre_Fillings_placeFromFront n) (post_Fillings_placeFromFront n)), (.getfield 24, fx_tget (MC n) 7 9), (.getfield 57, fx_tget (MC n) 7 3), (.getfield 61, fx_tget (MC n) 7 4), (.invokevirtual 64, fx_tcall 1 (pre_Fillings_placeFromBack n) (post_Fillings_placeFromBack n))]
abbrev rm_Fillings_examine : Room := { frames := 2, cells := 0, slots := 0, locals := 48 }
abbrev ws_Fillings_examine : List Cond := Cond.code y_Fillings_examine b_Fillings_examine 3 (some .boolean) :: w_C
theorem e_Fillings_c50 {l : Launch} {c0 : Cond} {rm : Room} {n nL : Nat} {cc : ByteArray} (hR : rm_Fillings_look.frames + 1 ≤ rm.frames ∧ 8 + (4 + 11) + rm_Fillings_look.locals ≤ rm.locals) : fx_E1 l R_Fillings (c0 :: w_C) rm (MC n) nL cc (.invokevirtual 50) (fx_tcall 3 (pre_Fillings_look n) (post_Fillings_look n)) := fx_callV (ci := 7) (C := R_Fillings) rfl (c_Fillings_look l n) (w_C_G (w_C_h1 39 rfl) (w_C_h1 40 rfl) (w_C_h1 41 rfl) (w_C_h1 30 rfl) (w_C_h1 23 rfl)) rfl ⟨rfl, rfl⟩ (by decide) hR (fun st I J R h => pz_Fillings_look n h) (MC_ok n)
theorem e_Fillings_c54 {l : Launch} {c0 : Cond} {rm : Room} {n nL : Nat} {cc : ByteArray} (hR : rm_Fillings_placeFromFront.frames + 1 ≤ rm.frames ∧ 8 + (3 + 11) + rm_Fillings_placeFromFront.locals ≤ rm.locals) : fx_E1 l R_Fillings (c0 :: w_C) rm (MC n) nL cc (.invokevirtual 54) (fx_tcall 1 (pre_Fillings_placeFromFront n) (post_Fillings_placeFromFront n)) := fx_callV (ci := 7) (C := R_Fillings) rfl (c_Fillings_placeFromFront l n) (w_C_G (w_C_h1 42 rfl) (w_C_h1 43 rfl) (w_C_h1 44 rfl) (w_C_h1 30 rfl) (w_C_h1 26 rfl)) rfl ⟨rfl, rfl⟩ (by decide) hR (fun st I J R h => pz_Fillings_placeFromFront n h) (MC_ok n)
theorem e_Fillings_c64 {l : Launch} {c0 : Cond} {rm : Room} {n nL : Nat} {cc : ByteArray} (hR : rm_Fillings_placeFromBack.frames + 1 ≤ rm.frames ∧ 8 + (4 + 11) + rm_Fillings_placeFromBack.locals ≤ rm.locals) : fx_E1 l R_Fillings (c0 :: w_C) rm (MC n) nL cc (.invokevirtual 64) (fx_tcall 1 (pre_Fillings_placeFromBack n) (post_Fillings_placeFromBack n)) := fx_callV (ci := 7) (C := R_Fillings) rfl (c_Fillings_placeFromBack l n) (w_C_G (w_C_h1 45 rfl) (w_C_h1 46 rfl) (w_C_h1 47 rfl) (w_C_h1 30 rfl) (w_C_h1 35 rfl)) rfl ⟨rfl, rfl⟩ (by decide) hR (fun st I J R h => pz_Fillings_placeFromBack n h) (MC_ok n)
theorem vk_Fillings_examine {l : Launch} {n : Nat} : fx_EV l R_Fillings ws_Fillings_examine rm_Fillings_examine (MC n) 3 b_Fillings_examine (v_Fillings_examine n) := (fx_EV_cons (e_Fillings_c50 (by decide)) (fx_EV_cons (e_Fillings_c54 (by decide)) (fx_EV_cons e_Fillings_g24 (fx_EV_cons e_Fillings_g57 (fx_EV_cons e_Fillings_g61 (fx_EV_cons (e_Fillings_c64 (by decide)) fx_EV_nil))))))
theorem r_Fillings_examine (n : Nat) (st : List Value) (I : fx_MI) (J : fx_MJ) (R : fx_MR) (h : pre_Fillings_examine n st I J R) : fx_sz st ≤ 3 ∧ fx_R 3 (MC n) (v_Fillings_examine n) (some .boolean) (post_Fillings_examine n st I J R) p_Fillings_examine 0 (fx_en st) [] I J R := by
  obtain ⟨⟨b, rfl⟩, o, v, rfl, hp⟩ := pi_Fillings_examine h
  clear h
  refine ⟨Nat.le_of_ble_eq_true rfl, ?_⟩
  obtain ⟨hko, l, rfl, hpl⟩ := hp
  obtain ⟨hd, hl, hok, hz⟩ := hpl
  obtain ⟨hw, hh, -, e1, e2, -⟩ := dimC_of hd
  have hm := (many_eq hok).2
  have hcl := cellsN_le (l := l) hw.2 hh.2
  have hpost : ∀ r I' J' R', Q_examine I J (R0C b) o l r I' J' R' → post_Fillings_examine n [.ref 101, .ref o, .int (nI l)] I J (R0C b) r I' J' R' := fun r I' J' R' h => by
    simp (disch := omega) only [post_Fillings_examine, nv_nI]
    exact h
  have hk := lkI_R (I := I) (J := J) (o := o) (l := l)
  have hfr := lkI_fr (I := I) (J := J) (o := o) (l := l)
  obtain ⟨h1, h2, h3, h4, h5⟩ := frZ_d hfr
  have hld := ldS_of (w := 0) (h := 0) hfr (by omega) hok hcl hk
  have hcn := lkR_cn hcl hk
  generalize hI1 : lkI I J o l = I1 at *
  have hFR := frI_b hok hcl hcn (Nat.le_refl (manyN (cf I 3) l)) (cellsN (cW I) (cH I) l) (by omega)
  have hrow : frS I1 l (manyN (cf I 3) l) 102 = I1 102 := by
    funext j
    exact frS_o (by omega)
  have hfr2 : frZ I (frS I1 l (manyN (cf I 3) l)) := fun q j hq => by rw [frS_o (by omega), hfr q j hq]
  have hcf : cf (frS I1 l (manyN (cf I 3) l)) 3 = cf I1 3 := by rw [(frZ_d hfr2).2.2.2.1, h4]
  have hlk2 : lkR (cW I) (cH I) (cf I 3) (cu (cW I) J o) l (frS I1 l (manyN (cf I 3) l)) := by
    obtain ⟨k1, k2, k3, k4, k5⟩ := hk
    refine ⟨by rw [frS_o (by omega)]; exact k1, by rw [frS_o (by omega)]; exact k2, by rw [frS_o (by omega)]; exact k3, fun c hc => by rw [hrow]; exact k4 c hc, fun b hb => ?_⟩
    rw [frS_o (by omega), frS_o (by omega), frS_o (by omega)]
    exact k5 b hb
  have hld2 := ldS_of (w := 0) (h := 0) hfr2 (by omega) hok hcl hlk2
  have g3 : frS I1 l (manyN (cf I 3) l) 101 3 = nI (manyN (cf I 3) l) := hlk2.2.1
  have g4 : frS I1 l (manyN (cf I 3) l) 101 4 = nI (cellsN (cW I) (cH I) l) := hlk2.2.2.1
  have g2 : frS I1 l (manyN (cf I 3) l) 101 2 = nI l := hlk2.1
  have hst : ∀ b, b < manyN (cf I 3) l → frS I1 l (manyN (cf I 3) l) 108 b = stI (frS I1 l (manyN (cf I 3) l) 102) (cf (frS I1 l (manyN (cf I 3) l)) 3) l b := fun b hb => by
    rw [frS_s hb, hrow, hcf]
  have g106 : frS I1 l (manyN (cf I 3) l) 106 (manyN (cf I 3) l) = frI (I1 102) (cf I 3) l (manyN (cf I 3) l) := by rw [frS_f (Nat.le_refl _), h4]
  have hM : manyN (cf (frS I1 l (manyN (cf I 3) l)) 3) l = manyN (cf I 3) l := by rw [hcf, h4]
  refine fx_run0 120 fun X hX => ?_
  simp only [q_Fillings_examine_0 hX rfl, q_Fillings_examine_1 hX rfl, q_Fillings_examine_2 hX rfl, q_Fillings_examine_3 hX rfl, q_Fillings_examine_6 hX rfl, q_Fillings_examine_7 hX rfl, q_Fillings_examine_10 hX rfl, q_Fillings_examine_11 hX rfl, q_Fillings_examine_14 hX rfl, q_Fillings_examine_15 hX rfl, q_Fillings_examine_18 hX rfl, q_Fillings_examine_19 hX rfl, q_Fillings_examine_20 hX rfl, q_Fillings_examine_23 hX rfl, q_Fillings_examine_24 hX rfl, q_Fillings_examine_25 hX rfl, q_Fillings_examine_26 hX rfl, q_Fillings_examine_29 hX rfl, q_Fillings_examine_30 hX rfl, q_Fillings_examine_31 hX rfl, q_Fillings_examine_32 hX rfl, q_Fillings_examine_35 hX rfl, q_Fillings_examine_36 hX rfl, fs_aload_n0, fs_aload_n1, fs_aload_n2, fs_aload_n3, fs_getfield, fs_iaload, fs_iand, fs_iconst, fs_ifCond, fs_iload_n0, fs_iload_n1, fs_iload_n2, fs_iload_n3, fs_invokevirtual, fs_ireturn, fs_iushr, v_Fillings_examine, ci_1, ci_0, pre_Fillings_look, post_Fillings_look, pre_Fillings_placeFromFront, post_Fillings_placeFromFront, pre_Fillings_placeFromBack, post_Fillings_placeFromBack, kd_C_7_9, pl_C_101, R0C_101_9, pl_C_106, kd_C_7_3, kd_C_7_4, fx_oi_s, fx_ol_s, fx_or_s, fx_do_s, fx_lg_0, fx_lg_s, fx_ls_0, fx_ls_s, fx_ls_n0, fx_ls_ns, fx_en, fx_sz, Value.category, fx_nl, fx_lk, fx_tget, fx_tput, fx_tcall, fx_tldc, fx_fv, va_rf, fx_cat, fx_in, fx_cnd, fx_len, fx_narI, fx_narZ0, fx_narZ1, fx_narZb, zb_e, zb_ne, Option.some.injEq, Value.int.injEq, Value.long.injEq, Value.ref.injEq, List.cons.injEq, Nat.reduceAdd, Nat.reduceLeDiff, Nat.le_refl, List.take, List.drop, List.reverse_cons, List.reverse_nil, List.nil_append, List.cons_append, List.append_nil, List.map_cons, List.map_nil, List.sum_cons, List.sum_nil, List.length_cons, List.length_nil, Option.toList, fx_all4, forall_const, true_and, and_true, not_true_eq_false, not_false_eq_true, false_implies, true_implies, ne_eq, reduceCtorEq, Nat.reduceEqDiff, ite_true, ite_false, reduceIte, Instr.getfield.injEq, Instr.putfield.injEq, Instr.invokevirtual.injEq, Instr.invokestatic.injEq, Instr.ldc2_w.injEq, fx_tcopy, Instr.ldc.injEq, Instr.ldc_w.injEq, exists_eq_left, exists_prop, R0C_ex]
  simp (disch := omega) only [lit, nI_add, nI_mul', nI_sub', nI_clamp, nI_lt', nI_le', nI_eq', nI_in', iinc1, zb_n0, nI_div', nI_rem2, true_and, and_true, Nat.reduceEqDiff, Nat.reduceLeDiff, Nat.one_ne_zero, Nat.zero_ne_one, not_false_eq_true, not_true_eq_false, false_implies, true_implies, forall_const, Nat.zero_add, Nat.add_zero, nv_nI, up_eq, up_ne, fill_ne, nI_clamp, nI_add, hI1, hk.1, hk.2.1, hk.2.2.1, g2, g3, g4, nI_in', g106, bt_odd]
  refine ⟨⟨hko, l, rfl, hd, hl, hok, hz⟩, hld, fun hb => ⟨⟨hld2, hst⟩, hpost _ _ _ _ ⟨rfl, rfl, ?_, true, rfl, ?_, fun _ => ?_⟩⟩, fun hb => hpost _ _ _ _ ⟨rfl, rfl, hfr2, false, rfl, ?_, fun h => by cases h⟩⟩
  · intro q j hq
    rw [bkS_o (by omega), hfr2 q j hq]
  · rw [← FR_all, ← hFR]
    exact ⟨fun _ => bnf hb, fun _ => rfl⟩
  · have hcn2 : cnOK (cW I) (cH I) (cu (cW I) J o) l (frS I1 l (manyN (cf I 3) l) 102) := by
      rw [hrow]
      exact hcn
    refine ⟨?_, fun b hb i hi => ?_, fun b hb i => ?_, fun b hb a => ?_⟩
    · obtain ⟨k1, k2, k3, k4, k5⟩ := hlk2
      refine ⟨by rw [bkS_o (by omega)]; exact k1, by rw [bkS_o (by omega)]; exact k2, by rw [bkS_o (by omega)]; exact k3, fun c hc => by rw [bkS_o (by omega)]; exact k4 c hc, fun b hb => ?_⟩
      rw [bkS_o (by omega), bkS_o (by omega), bkS_o (by omega)]
      exact k5 b hb
    · have e : bkS (frS I1 l (manyN (cf I 3) l)) l (cellsN (cW I) (cH I) l) (manyN (cf I 3) l) 106 b = frI (I1 102) (cf I 3) l b := by rw [bkS_o (by omega), frS_f hb, h4]
      rw [e]
      exact frI_b hok hcl hcn hb i hi
    · rw [bkS_b (by omega) (by rw [hM]; exact hb), hcf, h4]
      exact bkI_b hok hcl hcn2 hb i
    · have e : bkS (frS I1 l (manyN (cf I 3) l)) l (cellsN (cW I) (cH I) l) (manyN (cf I 3) l) 108 b = s2I (frS I1 l (manyN (cf I 3) l) 102) (cf I 3) l (cellsN (cW I) (cH I) l) b := by
        unfold bkS
        rw [fillD_in (by omega) (by rw [hM]; exact hb), hcf, h4]
      rw [e]
      exact s2I_b hok hcl hcn2 hb a
  · rw [← FR_all, ← hFR, hb]
theorem c_Fillings_examine (l : Launch) (n : Nat) : fx_Met l y_Fillings_examine ws_Fillings_examine rm_Fillings_examine (MC n) (pre_Fillings_examine n) (post_Fillings_examine n) := fx_met (MC_ok n) (MC_tys n) (by decide) rfl pk_Fillings_examine vk_Fillings_examine (fun st I J R h => r_Fillings_examine n st I J R h)
