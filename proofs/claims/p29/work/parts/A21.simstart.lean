/-! the relation gives what the reference asks (own work) -/
theorem REL_ref {I : fx_MI} {J : fx_MJ} {Ir : fx_MI} (h1 : REL I J Ir) : (rW Ir = cW I ∧ rH Ir = cH I ∧ rC Ir = cC I) ∧ dimM Ir ∧ okI Ir ∧ preC Ir ∧ okc (rW Ir) (rH Ir) (rC Ir) (Ir 1) ∧ rg (Ir 0 2) 9 ∧ okt Ir ∧ rg (Ir 0 7) 64 ∧ rg (Ir 0 6) 4 := by
  obtain ⟨⟨⟨d1, d2, d3, d4⟩, hall, hl0⟩, h2, ⟨nx, u, n1, n2, n3, n4, n5, n6⟩, ⟨t1, t2, t3⟩, m1, m2, m3, m4⟩ := h1
  obtain ⟨hw, hh, hc, e0, e1, e2⟩ := dimC_of d1
  have hwh := wh_le hw.2 hh.2
  have r3 : Ir 0 3 = nI (cW I) := d2.symm.trans e0
  have r4 : Ir 0 4 = nI (cH I) := d3.symm.trans e1
  have r5 : Ir 0 5 = nI (cC I) := d4.symm.trans e2
  have eW : rW Ir = cW I := by unfold rW; rw [r3, nv_nI (by omega)]
  have eH : rH Ir = cH I := by unfold rH; rw [r4, nv_nI (by omega)]
  have eC : rC Ir = cC I := by unfold rC; rw [r5, nv_nI (by omega)]
  have hdm : dimM Ir := ⟨⟨⟨cW I, by omega, r3⟩, ⟨cH I, by omega, r4⟩, ⟨cC I, by omega, r5⟩⟩, by unfold rW at eW; omega, by unfold rH at eH; omega, by unfold rC at eC; omega⟩
  have h16 := fun k (hk : k < 64) => okp_16 (show cC I ≤ 3 by omega) h2.2.2.2 hk
  have hpn : preN Ir := ⟨hdm, fun k hk => (h16 k hk).1, fun l hl => okl_3c (by omega) (h2.1.1 l hl).1⟩
  refine ⟨⟨eW, eH, eC⟩, hdm, ⟨hpn, fun k hk => ?_⟩, ⟨hpn, fun k hk => (h16 k hk).2.2⟩, ⟨fun l hl => by rw [eC]; exact (h2.1.1 l hl).1, fun l hl => ?_⟩, ⟨u, by omega, n5⟩, t1, m3, m2⟩
  · rw [eW, eH] at hk
    rw [eC]
    have := h2.2.2.2 k (by omega)
    exact ⟨this.1.2, (rg_eq this.1.1 (by
      have hle : 2 ^ (cC I + 1) ≤ 2 ^ 4 := Nat.pow_le_pow_right (by omega) (by omega)
      omega)).2⟩
  · rw [eW, eH]
    exact (h2.1.2.2 l (by omega)).2
/-- a call of the class answers as the same call of the reference, and both memories stay alike -/
def simP (pm : fx_MI → fx_MJ → fx_MR → Option Value → fx_MI → fx_MJ → fx_MR → Prop) (I : fx_MI) (J : fx_MJ) (r : Option Value) (I' : fx_MI) (J' : fx_MJ) (R' : fx_MR) : Prop :=
  (∃ b', R' = R0C b') ∧ ∀ Ir, REL I J Ir → ∀ Jr r2 Ir2 Jr2 Rr2, pm Ir Jr R0_M r2 Ir2 Jr2 Rr2 → Rr2 = R0_M ∧ r = r2 ∧ REL I' J' Ir2
def relE (I : fx_MI) (J : fx_MJ) : Prop := ∃ Ir, REL I J Ir
theorem relE_c {I : fx_MI} {J : fx_MJ} (h : relE I J) : cpre I J := by
  obtain ⟨Ir, h⟩ := h
  exact ⟨h.1.1.1, h.1.2.1, Ir 1, h.2.1⟩
/-! a beginning -/
theorem full_m : ∀ c, c < 4 → mskF 4 (fun d => decide (d ≤ c)) = 2 ^ (c + 1) - 1 := by decide +kernel
section RB_
variable {I Ir : fx_MI} {J : fx_MJ} {w h c : Nat}
theorem bgI_o {a b y : Int32} {q j : Nat} (h1 : q ≠ 1) (h3 : q ≠ 3) (h4 : q ≠ 4) (h5 : q ≠ 5) (h12 : q ≠ 12 ∨ j ≠ 1) (h138 : q ≠ 138 ∨ j ≠ 5) : bgI I a b y q j = I q j := by
  unfold bgI bgI1
  rw [up_ne h138, up_ne h12, fill_ne h5, fill_ne h4, up_ne (Or.inl h3), up_ne (Or.inl h1), up_ne (Or.inl h1), up_ne (Or.inl h1)]
theorem bgI_v {a b y : Int32} : bgI I a b y 1 0 = a ∧ bgI I a b y 1 1 = b ∧ bgI I a b y 1 2 = y ∧ bgI I a b y 3 0 = 0 ∧ (∀ l, l < 16 → bgI I a b y 4 l = 0) ∧ (∀ l, l < 16 → bgI I a b y 5 l = 0) ∧ bgI I a b y 12 1 = 0 ∧ bgI I a b y 138 5 = 0 := by
  unfold bgI bgI1
  refine ⟨?_, ?_, ?_, ?_, fun l hl => ?_, fun l hl => ?_, ?_, ?_⟩
  · rw [up_ne (by omega), up_ne (by omega), fill_ne (by omega), fill_ne (by omega), up_ne (by omega), up_ne (by omega), up_ne (by omega), up_eq]
  · rw [up_ne (by omega), up_ne (by omega), fill_ne (by omega), fill_ne (by omega), up_ne (by omega), up_ne (by omega), up_eq]
  · rw [up_ne (by omega), up_ne (by omega), fill_ne (by omega), fill_ne (by omega), up_ne (by omega), up_eq]
  · rw [up_ne (by omega), up_ne (by omega), fill_ne (by omega), fill_ne (by omega), up_eq]
  · rw [up_ne (by omega), up_ne (by omega), fill_ne (by omega)]
    exact if_pos ⟨rfl, Nat.zero_le _, by omega⟩
  · rw [up_ne (by omega), up_ne (by omega)]
    exact if_pos ⟨rfl, Nat.zero_le _, by omega⟩
  · rw [up_ne (by omega), up_eq]
  · rw [up_eq]
theorem REL_begin (hw : 1 ≤ w ∧ w ≤ 8) (hh : 1 ≤ h ∧ h ≤ 8) (hc : 1 ≤ c ∧ c ≤ 3) (ht : relT I Ir) (h7 : rg (Ir 0 7) 64) (hn : rg (I 12 2) 8) : REL (bgI I (nI w) (nI h) (nI c)) (bgJ J w h (nI c)) (beginsM Ir (nI w) (nI h) (nI c)) := by
  obtain ⟨v0, v1, v2, v3, v4, v5, v6, v7⟩ := bgI_v (I := I) (a := nI w) (b := nI h) (y := nI c)
  have hwh := wh_le hw.2 hh.2
  have eW : cW (bgI I (nI w) (nI h) (nI c)) = w := by unfold cW; rw [v0, nv_nI (by omega)]
  have eH : cH (bgI I (nI w) (nI h) (nI c)) = h := by unfold cH; rw [v1, nv_nI (by omega)]
  have eC : cC (bgI I (nI w) (nI h) (nI c)) = c := by unfold cC; rw [v2, nv_nI (by omega)]
  have f0 : ∀ k, k < 288 → beginsM Ir (nI w) (nI h) (nI c) 1 k = 0 := fun k hk => by
    unfold beginsM
    rw [fill_out (by omega), up_ne (by omega), up_ne (by omega), up_ne (by omega), up_ne (by omega), up_ne (by omega)]
    exact if_pos ⟨rfl, by omega, by omega⟩
  have f1 : ∀ k, k < 64 → beginsM Ir (nI w) (nI h) (nI c) 1 (288 + k) = nI (2 ^ (c + 1) - 1) := fun k hk => by
    unfold beginsM
    rw [← full_v c (by omega)]
    exact if_pos ⟨rfl, by omega, by omega⟩
  have f2 : ∀ k, k < 64 → beginsM Ir (nI w) (nI h) (nI c) 1 (352 + k) = 0 := fun k hk => by
    unfold beginsM
    rw [fill_out (by omega), up_ne (by omega), up_ne (by omega), up_ne (by omega), up_ne (by omega), up_ne (by omega)]
    exact if_pos ⟨rfl, by omega, by omega⟩
  have g0 : ∀ q j, q ≠ 0 → q ≠ 1 → beginsM Ir (nI w) (nI h) (nI c) q j = Ir q j := fun q j h0 h1 => by
    unfold beginsM
    rw [fill_ne h1, up_ne (Or.inl h0), up_ne (Or.inl h0), up_ne (Or.inl h0), up_ne (Or.inl h0), up_ne (Or.inl h0), fill_ne h1]
  have g1 : ∀ j, j ≠ 2 → j ≠ 3 → j ≠ 4 → j ≠ 5 → j ≠ 6 → beginsM Ir (nI w) (nI h) (nI c) 0 j = Ir 0 j := fun j h2 h3 h4 h5 h6 => by
    unfold beginsM
    rw [fill_ne (by omega), up_ne (Or.inr h6), up_ne (Or.inr h2), up_ne (Or.inr h5), up_ne (Or.inr h4), up_ne (Or.inr h3), fill_ne (by omega)]
  have g2 : beginsM Ir (nI w) (nI h) (nI c) 0 2 = 0 := by
    unfold beginsM
    rw [fill_ne (by omega), up_ne (by omega), up_eq]
  have g5 : beginsM Ir (nI w) (nI h) (nI c) 0 5 = nI c := by
    unfold beginsM
    rw [fill_ne (by omega), up_ne (by omega), up_ne (by omega), up_eq]
  have g6 : beginsM Ir (nI w) (nI h) (nI c) 0 6 = 0 := by
    unfold beginsM
    rw [fill_ne (by omega), up_eq]
  have hm0 : ∀ l, l < 16 → manyN (beginsM Ir (nI w) (nI h) (nI c) 1) l = 0 := fun l hl => by
    unfold manyN
    rw [f0 _ (by omega)]
    rfl
  have j9 : ∀ d, bgJ J w h (nI c) 9 d = bg5 J w h (nI c) 9 d := fun d => by unfold bgJ; rw [fillL_row (by omega)]
  have j11 : ∀ d, bgJ J w h (nI c) 11 d = bg5 J w h (nI c) 11 d := fun d => by unfold bgJ; rw [fillL_row (by omega)]
  have j114 : ∀ d, d < 4 → bgJ J w h (nI c) 114 d = bg5 J w h (nI c) 9 d := fun d hd => by
    unfold bgJ
    rw [fillL_in (Nat.zero_le _) (by omega), Nat.sub_zero]
  have j1 : bgJ J w h (nI c) 1 3 = bgA w h := by
    unfold bgJ bg5
    rw [fillL_row (by omega), putF_ne (by omega), putF_ne (by omega), putF_ne (by omega), putF_ne (by omega), upJ_eq]
  have hin : ∀ i, i < 64 → ((decide (i % 8 < w) && decide (i / 8 < h)) = true ↔ i % 8 < w ∧ i / 8 < h) := fun i _ => by rw [Bool.and_eq_true, decide_eq_true_eq, decide_eq_true_eq]
  have hp4 : 1 ≤ 2 ^ (c + 1) - 1 ∧ 2 ^ (c + 1) ≤ 16 := by
    have hle : 2 ^ (c + 1) ≤ 2 ^ 4 := Nat.pow_le_pow_right (by omega) (by omega)
    have hge : 2 ^ 1 ≤ 2 ^ (c + 1) := Nat.pow_le_pow_right (by omega) (by omega)
    omega
  unfold REL relD relH relT relN allC
  rw [eW, eH, eC, v0, v1, v2, v6, v7, g2, g6, beginsM_3, beginsM_4, g5, j1]
  refine ⟨⟨⟨⟨w, h, c, hw, hh, hc, v0, v1, v2⟩, rfl, rfl, rfl⟩, fun i hi => ?_, fun d hd i hi hb => ?_⟩, ⟨⟨fun l hl => ?_, fun l hl => ?_, fun l hl => ?_⟩, ⟨fun d hd i hi hb => ?_, fun d h2 h3 i hi => ?_, fun k hk => ?_⟩, fun d i hd hi => ?_, fun k hk => ?_⟩, ?_, ?_, ?_⟩
  · unfold bgA
    rw [LB_b _ hi]
    exact hin i hi
  · rw [j114 d hd, bg5_9 (by omega) hd hi, Bool.and_eq_true] at hb
    exact (hin i hi).mp hb.2
  · have hz : beginsM Ir (nI w) (nI h) (nI c) 1 l = 0 := f0 _ (by omega)
    refine ⟨⟨by rw [hz]; exact ⟨0, by omega, rfl⟩, by rw [f0 _ (by omega)]; exact ⟨0, by omega, rfl⟩, fun _ => f0 _ (by omega), fun b hb => ?_⟩, ?_, ?_, fun b hb => ?_⟩
    · rw [hm0 l hl] at hb
      omega
    · rw [cf_has hl, v3, hz, show (0 : Int32) = nI 0 from rfl, b_00]
      rfl
    · rw [cf_sz hl, v4 l hl, f0 _ (by omega)]
    · rw [hm0 l hl] at hb
      omega
  · rw [v3, show (0 : Int32) = nI 0 from rfl, b_00] at hl
    exact absurd hl (by decide)
  · rw [v5 l (by omega), hm0 l (by omega)]
    exact ⟨rfl, Nat.zero_le _⟩
  · rw [j9, bg5_9 (by omega) hd hi, Bool.and_eq_true] at hb
    exact (hin i hi).mp hb.2
  · rw [j9, bg5_9 (by omega) h3 hi, decide_eq_false (by omega), Bool.false_and]
  · rw [f1 k (by omega)]
    congr 1
    rw [← full_m c (by omega)]
    unfold cu
    obtain ⟨hm, hd⟩ := k_dm hk
    refine (mskF_c fun d hd4 => ?_).symm
    rw [j9, bg5_9 (by omega) hd4 (by omega)]
    simp [show (8 * (k / w) + k % w) % 8 = k % w by omega, show (8 * (k / w) + k % w) / 8 = k / w by omega, hm, hd]
  · rw [j11, bg5_11 hd hi, Bool.and_eq_true, hin i hi, decide_eq_true_eq]
    constructor
    · rintro ⟨rfl, k1, k2⟩
      refine ⟨w * (i / 8) + i % 8, cell_in k1 k2, ?_, ?_⟩
      · rw [idx_at k1]
        omega
      · have := cell_in k1 k2
        unfold picN
        rw [f2 _ (by omega)]
        rfl
    · rintro ⟨k, k1, k2, k3⟩
      have e := idx_dm (k := k) hw
      obtain ⟨hm, hd⟩ := k_dm k1
      unfold picN at k3
      rw [f2 _ (by omega)] at k3
      rw [k2] at e
      exact ⟨k3.symm, by rw [e.2]; exact hm, by rw [e.1]; exact hd⟩
  · rw [f1 k hk, f2 k hk, nv_nI (by omega)]
    exact ⟨⟨⟨_, by omega, rfl⟩, hp4.1⟩, 0, by omega, rfl⟩
  · obtain ⟨nx, n1, n2⟩ := hn
    exact ⟨nx, 0, n1, by omega, by rw [bgI_o (by omega) (by omega) (by omega) (by omega) (by omega) (by omega)]; exact n2, rfl, rfl, fun t ht => by omega⟩
  · obtain ⟨t1, t2, t3⟩ := ht
    unfold okt tlN
    rw [g1 19 (by omega) (by omega) (by omega) (by omega) (by omega), bgI_o (by omega) (by omega) (by omega) (by omega) (by omega) (by omega)]
    refine ⟨⟨t1.1, fun k hk => by rw [g0 10 k (by omega) (by omega)]; exact t1.2 k hk⟩, t2, fun k hk => ?_⟩
    rw [bgI_o (by omega) (by omega) (by omega) (by omega) (by omega) (by omega), g0 10 k (by omega) (by omega)]
    exact t3 k hk
  · rw [g1 7 (by omega) (by omega) (by omega) (by omega) (by omega)]
    exact ⟨rfl, ⟨0, by omega, rfl⟩, h7, fun z => absurd rfl z⟩
end RB_
def p_Out_start : fx_Pr := fx_pr [(0, .iload_n 1, 0), (1, .iconst 1, 0), (2, .bipush 8, 0), (4, .invokestatic 87, 0), (7, .ifCond .eq 22, 29), (10, .iload_n 2, 0), (11, .iconst 1, 0), (12, .bipush 8, 0), (14, .invokestatic 87, 0), (17, .ifCond .eq 12, 29), (20, .iload_n 3, 0), (21, .iconst 1, 0), (22, .iconst 3, 0), (23, .invokestatic 87, 0), (26, .ifCond .ne 6, 32), (29, .bipush (-2), 0), (31, .ireturn, 0), (32, .aload_n 0, 0), (33, .iload_n 1, 0), (34, .iload_n 2, 0), (35, .iload_n 3, 0), (36, .invokevirtual 83, 0), (39, .aload_n 0, 0), (40, .getfield 12, 0), (43, .invokevirtual 91, 0), (46, .ireturn, 0)]
theorem pk_Out_start : fx_prOK b_Out_start p_Out_start := fx_pr_ok (by decide +kernel)
theorem q_Out_start_0 {nL : Nat} {M : fx_M} {ev : fx_Env} {ret : Option FieldType} {P : fx_P} {stops : List (Nat × Nat)} {K : fx_K} {n : Nat} {L : List (Option Value)} {st : List Value} {I : fx_MI} {J : fx_MJ} {R : fx_MR} {X : Nat → fx_K} (hX : fx_isX nL M ev ret P p_Out_start stops K X) (hs : fx_stop stops 0 = none) : X (n + 1) 0 L st I J R = fx_S nL M ev ret P (.iload_n 1) 0 0 L st I J R (X n) := hX.1 _ _ _ _ _ _ _ _ _ rfl hs
theorem q_Out_start_1 {nL : Nat} {M : fx_M} {ev : fx_Env} {ret : Option FieldType} {P : fx_P} {stops : List (Nat × Nat)} {K : fx_K} {n : Nat} {L : List (Option Value)} {st : List Value} {I : fx_MI} {J : fx_MJ} {R : fx_MR} {X : Nat → fx_K} (hX : fx_isX nL M ev ret P p_Out_start stops K X) (hs : fx_stop stops 1 = none) : X (n + 1) 1 L st I J R = fx_S nL M ev ret P (.iconst 1) 0 1 L st I J R (X n) := hX.1 _ _ _ _ _ _ _ _ _ rfl hs
theorem q_Out_start_2 {nL : Nat} {M : fx_M} {ev : fx_Env} {ret : Option FieldType} {P : fx_P} {stops : List (Nat × Nat)} {K : fx_K} {n : Nat} {L : List (Option Value)} {st : List Value} {I : fx_MI} {J : fx_MJ} {R : fx_MR} {X : Nat → fx_K} (hX : fx_isX nL M ev ret P p_Out_start stops K X) (hs : fx_stop stops 2 = none) : X (n + 1) 2 L st I J R = fx_S nL M ev ret P (.bipush 8) 0 2 L st I J R (X n) := hX.1 _ _ _ _ _ _ _ _ _ rfl hs
theorem q_Out_start_4 {nL : Nat} {M : fx_M} {ev : fx_Env} {ret : Option FieldType} {P : fx_P} {stops : List (Nat × Nat)} {K : fx_K} {n : Nat} {L : List (Option Value)} {st : List Value} {I : fx_MI} {J : fx_MJ} {R : fx_MR} {X : Nat → fx_K} (hX : fx_isX nL M ev ret P p_Out_start stops K X) (hs : fx_stop stops 4 = none) : X (n + 1) 4 L st I J R = fx_S nL M ev ret P (.invokestatic 87) 0 4 L st I J R (X n) := hX.1 _ _ _ _ _ _ _ _ _ rfl hs
theorem q_Out_start_7 {nL : Nat} {M : fx_M} {ev : fx_Env} {ret : Option FieldType} {P : fx_P} {stops : List (Nat × Nat)} {K : fx_K} {n : Nat} {L : List (Option Value)} {st : List Value} {I : fx_MI} {J : fx_MJ} {R : fx_MR} {x : Int32} {X : Nat → fx_K} (hX : fx_isX nL M ev ret P p_Out_start stops K X) (hs : fx_stop stops 7 = none) : X (n + 1) 7 L (.int x :: st) I J R = ((x = 0 → X n 29 L st I J R) ∧ (¬ x = 0 → X n 10 L st I J R)) := fx_q_if hX rfl hs rfl
theorem q_Out_start_10 {nL : Nat} {M : fx_M} {ev : fx_Env} {ret : Option FieldType} {P : fx_P} {stops : List (Nat × Nat)} {K : fx_K} {n : Nat} {L : List (Option Value)} {st : List Value} {I : fx_MI} {J : fx_MJ} {R : fx_MR} {X : Nat → fx_K} (hX : fx_isX nL M ev ret P p_Out_start stops K X) (hs : fx_stop stops 10 = none) : X (n + 1) 10 L st I J R = fx_S nL M ev ret P (.iload_n 2) 0 10 L st I J R (X n) := hX.1 _ _ _ _ _ _ _ _ _ rfl hs
theorem q_Out_start_11 {nL : Nat} {M : fx_M} {ev : fx_Env} {ret : Option FieldType} {P : fx_P} {stops : List (Nat × Nat)} {K : fx_K} {n : Nat} {L : List (Option Value)} {st : List Value} {I : fx_MI} {J : fx_MJ} {R : fx_MR} {X : Nat → fx_K} (hX : fx_isX nL M ev ret P p_Out_start stops K X) (hs : fx_stop stops 11 = none) : X (n + 1) 11 L st I J R = fx_S nL M ev ret P (.iconst 1) 0 11 L st I J R (X n) := hX.1 _ _ _ _ _ _ _ _ _ rfl hs
theorem q_Out_start_12 {nL : Nat} {M : fx_M} {ev : fx_Env} {ret : Option FieldType} {P : fx_P} {stops : List (Nat × Nat)} {K : fx_K} {n : Nat} {L : List (Option Value)} {st : List Value} {I : fx_MI} {J : fx_MJ} {R : fx_MR} {X : Nat → fx_K} (hX : fx_isX nL M ev ret P p_Out_start stops K X) (hs : fx_stop stops 12 = none) : X (n + 1) 12 L st I J R = fx_S nL M ev ret P (.bipush 8) 0 12 L st I J R (X n) := hX.1 _ _ _ _ _ _ _ _ _ rfl hs
theorem q_Out_start_14 {nL : Nat} {M : fx_M} {ev : fx_Env} {ret : Option FieldType} {P : fx_P} {stops : List (Nat × Nat)} {K : fx_K} {n : Nat} {L : List (Option Value)} {st : List Value} {I : fx_MI} {J : fx_MJ} {R : fx_MR} {X : Nat → fx_K} (hX : fx_isX nL M ev ret P p_Out_start stops K X) (hs : fx_stop stops 14 = none) : X (n + 1) 14 L st I J R = fx_S nL M ev ret P (.invokestatic 87) 0 14 L st I J R (X n) := hX.1 _ _ _ _ _ _ _ _ _ rfl hs
theorem q_Out_start_17 {nL : Nat} {M : fx_M} {ev : fx_Env} {ret : Option FieldType} {P : fx_P} {stops : List (Nat × Nat)} {K : fx_K} {n : Nat} {L : List (Option Value)} {st : List Value} {I : fx_MI} {J : fx_MJ} {R : fx_MR} {x : Int32} {X : Nat → fx_K} (hX : fx_isX nL M ev ret P p_Out_start stops K X) (hs : fx_stop stops 17 = none) : X (n + 1) 17 L (.int x :: st) I J R = ((x = 0 → X n 29 L st I J R) ∧ (¬ x = 0 → X n 20 L st I J R)) := fx_q_if hX rfl hs rfl
theorem q_Out_start_20 {nL : Nat} {M : fx_M} {ev : fx_Env} {ret : Option FieldType} {P : fx_P} {stops : List (Nat × Nat)} {K : fx_K} {n : Nat} {L : List (Option Value)} {st : List Value} {I : fx_MI} {J : fx_MJ} {R : fx_MR} {X : Nat → fx_K} (hX : fx_isX nL M ev ret P p_Out_start stops K X) (hs : fx_stop stops 20 = none) : X (n + 1) 20 L st I J R = fx_S nL M ev ret P (.iload_n 3) 0 20 L st I J R (X n) := hX.1 _ _ _ _ _ _ _ _ _ rfl hs
theorem q_Out_start_21 {nL : Nat} {M : fx_M} {ev : fx_Env} {ret : Option FieldType} {P : fx_P} {stops : List (Nat × Nat)} {K : fx_K} {n : Nat} {L : List (Option Value)} {st : List Value} {I : fx_MI} {J : fx_MJ} {R : fx_MR} {X : Nat → fx_K} (hX : fx_isX nL M ev ret P p_Out_start stops K X) (hs : fx_stop stops 21 = none) : X (n + 1) 21 L st I J R = fx_S nL M ev ret P (.iconst 1) 0 21 L st I J R (X n) := hX.1 _ _ _ _ _ _ _ _ _ rfl hs
theorem q_Out_start_22 {nL : Nat} {M : fx_M} {ev : fx_Env} {ret : Option FieldType} {P : fx_P} {stops : List (Nat × Nat)} {K : fx_K} {n : Nat} {L : List (Option Value)} {st : List Value} {I : fx_MI} {J : fx_MJ} {R : fx_MR} {X : Nat → fx_K} (hX : fx_isX nL M ev ret P p_Out_start stops K X) (hs : fx_stop stops 22 = none) : X (n + 1) 22 L st I J R = fx_S nL M ev ret P (.iconst 3) 0 22 L st I J R (X n) := hX.1 _ _ _ _ _ _ _ _ _ rfl hs
theorem q_Out_start_23 {nL : Nat} {M : fx_M} {ev : fx_Env} {ret : Option FieldType} {P : fx_P} {stops : List (Nat × Nat)} {K : fx_K} {n : Nat} {L : List (Option Value)} {st : List Value} {I : fx_MI} {J : fx_MJ} {R : fx_MR} {X : Nat → fx_K} (hX : fx_isX nL M ev ret P p_Out_start stops K X) (hs : fx_stop stops 23 = none) : X (n + 1) 23 L st I J R = fx_S nL M ev ret P (.invokestatic 87) 0 23 L st I J R (X n) := hX.1 _ _ _ _ _ _ _ _ _ rfl hs
theorem q_Out_start_26 {nL : Nat} {M : fx_M} {ev : fx_Env} {ret : Option FieldType} {P : fx_P} {stops : List (Nat × Nat)} {K : fx_K} {n : Nat} {L : List (Option Value)} {st : List Value} {I : fx_MI} {J : fx_MJ} {R : fx_MR} {x : Int32} {X : Nat → fx_K} (hX : fx_isX nL M ev ret P p_Out_start stops K X) (hs : fx_stop stops 26 = none) : X (n + 1) 26 L (.int x :: st) I J R = ((¬ x = 0 → X n 32 L st I J R) ∧ (x = 0 → X n 29 L st I J R)) := fx_q_ifne hX rfl hs rfl
theorem q_Out_start_29 {nL : Nat} {M : fx_M} {ev : fx_Env} {ret : Option FieldType} {P : fx_P} {stops : List (Nat × Nat)} {K : fx_K} {n : Nat} {L : List (Option Value)} {st : List Value} {I : fx_MI} {J : fx_MJ} {R : fx_MR} {X : Nat → fx_K} (hX : fx_isX nL M ev ret P p_Out_start stops K X) (hs : fx_stop stops 29 = none) : X (n + 1) 29 L st I J R = fx_S nL M ev ret P (.bipush (-2)) 0 29 L st I J R (X n) := hX.1 _ _ _ _ _ _ _ _ _ rfl hs
theorem q_Out_start_31 {nL : Nat} {M : fx_M} {ev : fx_Env} {ret : Option FieldType} {P : fx_P} {stops : List (Nat × Nat)} {K : fx_K} {n : Nat} {L : List (Option Value)} {st : List Value} {I : fx_MI} {J : fx_MJ} {R : fx_MR} {X : Nat → fx_K} (hX : fx_isX nL M ev ret P p_Out_start stops K X) (hs : fx_stop stops 31 = none) : X (n + 1) 31 L st I J R = fx_S nL M ev ret P (.ireturn) 0 31 L st I J R (X n) := hX.1 _ _ _ _ _ _ _ _ _ rfl hs
theorem q_Out_start_32 {nL : Nat} {M : fx_M} {ev : fx_Env} {ret : Option FieldType} {P : fx_P} {stops : List (Nat × Nat)} {K : fx_K} {n : Nat} {L : List (Option Value)} {st : List Value} {I : fx_MI} {J : fx_MJ} {R : fx_MR} {X : Nat → fx_K} (hX : fx_isX nL M ev ret P p_Out_start stops K X) (hs : fx_stop stops 32 = none) : X (n + 1) 32 L st I J R = fx_S nL M ev ret P (.aload_n 0) 0 32 L st I J R (X n) := hX.1 _ _ _ _ _ _ _ _ _ rfl hs
theorem q_Out_start_33 {nL : Nat} {M : fx_M} {ev : fx_Env} {ret : Option FieldType} {P : fx_P} {stops : List (Nat × Nat)} {K : fx_K} {n : Nat} {L : List (Option Value)} {st : List Value} {I : fx_MI} {J : fx_MJ} {R : fx_MR} {X : Nat → fx_K} (hX : fx_isX nL M ev ret P p_Out_start stops K X) (hs : fx_stop stops 33 = none) : X (n + 1) 33 L st I J R = fx_S nL M ev ret P (.iload_n 1) 0 33 L st I J R (X n) := hX.1 _ _ _ _ _ _ _ _ _ rfl hs
theorem q_Out_start_34 {nL : Nat} {M : fx_M} {ev : fx_Env} {ret : Option FieldType} {P : fx_P} {stops : List (Nat × Nat)} {K : fx_K} {n : Nat} {L : List (Option Value)} {st : List Value} {I : fx_MI} {J : fx_MJ} {R : fx_MR} {X : Nat → fx_K} (hX : fx_isX nL M ev ret P p_Out_start stops K X) (hs : fx_stop stops 34 = none) : X (n + 1) 34 L st I J R = fx_S nL M ev ret P (.iload_n 2) 0 34 L st I J R (X n) := hX.1 _ _ _ _ _ _ _ _ _ rfl hs
theorem q_Out_start_35 {nL : Nat} {M : fx_M} {ev : fx_Env} {ret : Option FieldType} {P : fx_P} {stops : List (Nat × Nat)} {K : fx_K} {n : Nat} {L : List (Option Value)} {st : List Value} {I : fx_MI} {J : fx_MJ} {R : fx_MR} {X : Nat → fx_K} (hX : fx_isX nL M ev ret P p_Out_start stops K X) (hs : fx_stop stops 35 = none) : X (n + 1) 35 L st I J R = fx_S nL M ev ret P (.iload_n 3) 0 35 L st I J R (X n) := hX.1 _ _ _ _ _ _ _ _ _ rfl hs
theorem q_Out_start_36 {nL : Nat} {M : fx_M} {ev : fx_Env} {ret : Option FieldType} {P : fx_P} {stops : List (Nat × Nat)} {K : fx_K} {n : Nat} {L : List (Option Value)} {st : List Value} {I : fx_MI} {J : fx_MJ} {R : fx_MR} {X : Nat → fx_K} (hX : fx_isX nL M ev ret P p_Out_start stops K X) (hs : fx_stop stops 36 = none) : X (n + 1) 36 L st I J R = fx_S nL M ev ret P (.invokevirtual 83) 0 36 L st I J R (X n) := hX.1 _ _ _ _ _ _ _ _ _ rfl hs
theorem q_Out_start_39 {nL : Nat} {M : fx_M} {ev : fx_Env} {ret : Option FieldType} {P : fx_P} {stops : List (Nat × Nat)} {K : fx_K} {n : Nat} {L : List (Option Value)} {st : List Value} {I : fx_MI} {J : fx_MJ} {R : fx_MR} {X : Nat → fx_K} (hX : fx_isX nL M ev ret P p_Out_start stops K X) (hs : fx_stop stops 39 = none) : X (n + 1) 39 L st I J R = fx_S nL M ev ret P (.aload_n 0) 0 39 L st I J R (X n) := hX.1 _ _ _ _ _ _ _ _ _ rfl hs
theorem q_Out_start_40 {nL : Nat} {M : fx_M} {ev : fx_Env} {ret : Option FieldType} {P : fx_P} {stops : List (Nat × Nat)} {K : fx_K} {n : Nat} {L : List (Option Value)} {st : List Value} {I : fx_MI} {J : fx_MJ} {R : fx_MR} {X : Nat → fx_K} (hX : fx_isX nL M ev ret P p_Out_start stops K X) (hs : fx_stop stops 40 = none) : X (n + 1) 40 L st I J R = fx_S nL M ev ret P (.getfield 12) 0 40 L st I J R (X n) := hX.1 _ _ _ _ _ _ _ _ _ rfl hs
theorem q_Out_start_43 {nL : Nat} {M : fx_M} {ev : fx_Env} {ret : Option FieldType} {P : fx_P} {stops : List (Nat × Nat)} {K : fx_K} {n : Nat} {L : List (Option Value)} {st : List Value} {I : fx_MI} {J : fx_MJ} {R : fx_MR} {X : Nat → fx_K} (hX : fx_isX nL M ev ret P p_Out_start stops K X) (hs : fx_stop stops 43 = none) : X (n + 1) 43 L st I J R = fx_S nL M ev ret P (.invokevirtual 91) 0 43 L st I J R (X n) := hX.1 _ _ _ _ _ _ _ _ _ rfl hs
theorem q_Out_start_46 {nL : Nat} {M : fx_M} {ev : fx_Env} {ret : Option FieldType} {P : fx_P} {stops : List (Nat × Nat)} {K : fx_K} {n : Nat} {L : List (Option Value)} {st : List Value} {I : fx_MI} {J : fx_MJ} {R : fx_MR} {X : Nat → fx_K} (hX : fx_isX nL M ev ret P p_Out_start stops K X) (hs : fx_stop stops 46 = none) : X (n + 1) 46 L st I J R = fx_S nL M ev ret P (.ireturn) 0 46 L st I J R (X n) := hX.1 _ _ _ _ _ _ _ _ _ rfl hs
def pre_Out_start (n : Nat) : fx_Pre := fun st I J R => (∃ b, R = R0C b) ∧ (match st with
  | [.ref 0, .int v, .int w, .int y] => relE I J
  | _ => False)
theorem pi_Out_start {n : Nat} {st : List Value} {I : fx_MI} {J : fx_MJ} {R : fx_MR} (h : pre_Out_start n st I J R) : (∃ b, R = R0C b) ∧ ∃ v, ∃ w, ∃ y, st = [.ref 0, .int v, .int w, .int y] ∧ (relE I J) := by
  unfold pre_Out_start at h
  obtain ⟨h0, h⟩ := h
  split at h
  · exact ⟨h0, _, _, _, rfl, h⟩
  · cases h
def post_Out_start (n : Nat) : fx_Post := fun st I J R r I' J' R' => match st with
  | [_, .int v, .int w, .int y] => simP (post_M_start [.ref 0, .int v, .int w, .int y]) I J r I' J' R'
  | _ => True
theorem pz_Out_start {st : List Value} {I : fx_MI} {J : fx_MJ} {R : fx_MR} (n : Nat) (h : pre_Out_start n st I J R) : ∃ q r, st = .ref q :: r ∧ (MC n).2.2.1 q = some (.inl 0) ∧ r.length = 3 := by
  obtain ⟨_, _, _, _, rfl, _⟩ := pi_Out_start h
  exact ⟨_, _, rfl, rfl, rfl⟩
def v_Out_start (n : Nat) : fx_Env := [(.invokestatic 87, fx_tcall 3 (pre_Out_isWithin n) (post_Out_isWithin n)), (.invokevirtual 83, fx_tcall 4 (pre_Out_begin n) (post_Out_begin n)), (.getfield 12, fx_tget (MC n) 0 0), (.invokevirtual 91, fx_tcall 1 (pre_Grid_lines n) (post_Grid_lines n))]
abbrev rm_Out_start : Room := { frames := 3, cells := 0, slots := 0, locals := 67 }
abbrev ws_Out_start : List Cond := Cond.code y_Out_start b_Out_start 4 (some .int) :: w_C
theorem e_Out_c83 {l : Launch} {c0 : Cond} {rm : Room} {n nL : Nat} {cc : ByteArray} (hR : rm_Out_begin.frames + 1 ≤ rm.frames ∧ 8 + (4 + 11) + rm_Out_begin.locals ≤ rm.locals) : fx_E1 l R_Out (c0 :: w_C) rm (MC n) nL cc (.invokevirtual 83) (fx_tcall 4 (pre_Out_begin n) (post_Out_begin n)) := fx_callV (ci := 0) (C := R_Out) rfl (c_Out_begin l n) (w_C_G (w_C_h5 14 rfl) (w_C_h5 15 rfl) (w_C_h5 16 rfl) (w_C_h1 59 rfl) (w_C_h4 35 rfl)) rfl ⟨rfl, rfl⟩ (by decide) hR (fun st I J R h => pz_Out_begin n h) (MC_ok n)
theorem vk_Out_start {l : Launch} {n : Nat} : fx_EV l R_Out ws_Out_start rm_Out_start (MC n) 4 b_Out_start (v_Out_start n) := (fx_EV_cons (e_Out_c87 (by decide)) (fx_EV_cons (e_Out_c83 (by decide)) (fx_EV_cons e_Out_g12 (fx_EV_cons (e_Out_c91 (by decide)) fx_EV_nil))))
theorem r_Out_start (n : Nat) (st : List Value) (I : fx_MI) (J : fx_MJ) (R : fx_MR) (h : pre_Out_start n st I J R) : fx_sz st ≤ 4 ∧ fx_R 4 (MC n) (v_Out_start n) (some .int) (post_Out_start n st I J R) p_Out_start 0 (fx_en st) [] I J R := by
  obtain ⟨⟨b, rfl⟩, v, w, y, rfl, hp⟩ := pi_Out_start h
  clear h
  refine ⟨Nat.le_of_ble_eq_true rfl, ?_⟩
  have hno : (in_M v 1 8 && in_M w 1 8 && in_M y 1 3) = false → post_Out_start n [.ref 0, .int v, .int w, .int y] I J (R0C b) (some (.int (-nI 2))) I J (R0C b) := fun z => by
    refine ⟨⟨b, rfl⟩, fun Ir hr Jr r2 Ir2 Jr2 Rr2 hq => ?_⟩
    rcases hq with ⟨h1, rfl, rfl, rfl, rfl⟩ | ⟨h1, h2, h3, h4, h5⟩
    · exact ⟨rfl, rfl, hr⟩
    · exact absurd (z.symm.trans h1) (by decide)
  refine fx_run0 120 fun X hX => ?_
  simp only [q_Out_start_0 hX rfl, q_Out_start_1 hX rfl, q_Out_start_2 hX rfl, q_Out_start_4 hX rfl, q_Out_start_7 hX rfl, q_Out_start_10 hX rfl, q_Out_start_11 hX rfl, q_Out_start_12 hX rfl, q_Out_start_14 hX rfl, q_Out_start_17 hX rfl, q_Out_start_20 hX rfl, q_Out_start_21 hX rfl, q_Out_start_22 hX rfl, q_Out_start_23 hX rfl, q_Out_start_26 hX rfl, q_Out_start_29 hX rfl, q_Out_start_31 hX rfl, q_Out_start_32 hX rfl, q_Out_start_33 hX rfl, q_Out_start_34 hX rfl, q_Out_start_35 hX rfl, q_Out_start_36 hX rfl, q_Out_start_39 hX rfl, q_Out_start_40 hX rfl, q_Out_start_43 hX rfl, q_Out_start_46 hX rfl, fs_aload_n0, fs_aload_n1, fs_aload_n2, fs_aload_n3, fs_bipush, fs_getfield, fs_iconst, fs_ifCond, fs_iload_n0, fs_iload_n1, fs_iload_n2, fs_iload_n3, fs_invokestatic, fs_invokevirtual, fs_ireturn, v_Out_start, ci_1, cb_8, ci_3, cb_m2, pre_Out_isWithin, post_Out_isWithin, pre_Out_begin, post_Out_begin, pre_Grid_lines, post_Grid_lines, kd_C_0_0, pl_C_0, R0C_0_0, pl_C_1, fx_oi_s, fx_ol_s, fx_or_s, fx_do_s, fx_lg_0, fx_lg_s, fx_ls_0, fx_ls_s, fx_ls_n0, fx_ls_ns, fx_en, fx_sz, Value.category, fx_nl, fx_lk, fx_tget, fx_tput, fx_tcall, fx_tldc, fx_fv, va_rf, fx_cat, fx_in, fx_cnd, fx_len, fx_narI, fx_narZ0, fx_narZ1, fx_narZb, zb_e, zb_ne, Option.some.injEq, Value.int.injEq, Value.long.injEq, Value.ref.injEq, List.cons.injEq, Nat.reduceAdd, Nat.reduceLeDiff, Nat.le_refl, List.take, List.drop, List.reverse_cons, List.reverse_nil, List.nil_append, List.cons_append, List.append_nil, List.map_cons, List.map_nil, List.sum_cons, List.sum_nil, List.length_cons, List.length_nil, Option.toList, fx_all4, forall_const, true_and, and_true, not_true_eq_false, not_false_eq_true, false_implies, true_implies, ne_eq, reduceCtorEq, Nat.reduceEqDiff, ite_true, ite_false, reduceIte, Instr.getfield.injEq, Instr.putfield.injEq, Instr.invokevirtual.injEq, Instr.invokestatic.injEq, Instr.ldc2_w.injEq, fx_tcopy, Instr.ldc.injEq, Instr.ldc_w.injEq, exists_eq_left, exists_prop, R0C_ex]
  simp (disch := omega) only [lit, nI_add, nI_mul', nI_sub', nI_clamp, nI_lt', nI_le', nI_eq', nI_in', iinc1, zb_n0, nI_div', nI_rem2, true_and, and_true, Nat.reduceEqDiff, Nat.reduceLeDiff, Nat.one_ne_zero, Nat.zero_ne_one, not_false_eq_true, not_true_eq_false, false_implies, true_implies, forall_const, Nat.zero_add, Nat.add_zero, nv_nI, up_eq, up_ne, fill_ne, nI_clamp, nI_add]
  refine ⟨fun z => hno ?_, fun h1 => ⟨fun z => hno ?_, fun h2 => ⟨fun h3 => ?_, fun z => hno ?_⟩⟩⟩
  · simp only [lit, z, Bool.false_and]
  · simp only [lit, z, Bool.false_and, Bool.and_false]
  · obtain ⟨w1, a1, a2, rfl⟩ := in_t (a := 1) (b := 8) (by omega) (by omega) (bnf h1)
    obtain ⟨w2, a3, a4, rfl⟩ := in_t (a := 1) (b := 8) (by omega) (by omega) (bnf h2)
    obtain ⟨c, a5, a6, rfl⟩ := in_t (a := 1) (b := 3) (by omega) (by omega) (bnf h3)
    refine ⟨⟨w1, w2, by omega, by omega, by omega, rfl, rfl⟩, ⟨b, rfl⟩, fun Ir hr Jr r2 Ir2 Jr2 Rr2 hq => ?_⟩
    rcases hq with ⟨h4, -⟩ | ⟨h4, rfl, rfl, rfl, rfl⟩
    · simp only [lit, bnf h1, bnf h2, bnf h3] at h4
      exact absurd h4 (by decide)
    · refine ⟨rfl, ?_, ?_⟩
      · rw [bgI_v.2.1, bgI_v.1]
      · rw [nv_nI (by omega), nv_nI (by omega)]
        obtain ⟨nx, u, n1, n2, n3, -⟩ := hr.2.2.1
        exact REL_begin ⟨a1, a2⟩ ⟨a3, a4⟩ ⟨a5, a6⟩ hr.2.2.2.1 hr.2.2.2.2.2.2.1 ⟨nx, n1, n3⟩
  · simp only [lit, z, Bool.false_and, Bool.and_false]
theorem c_Out_start (l : Launch) (n : Nat) : fx_Met l y_Out_start ws_Out_start rm_Out_start (MC n) (pre_Out_start n) (post_Out_start n) := fx_met (MC_ok n) (MC_tys n) (by decide) rfl pk_Out_start vk_Out_start (fun st I J R h => r_Out_start n st I J R h)
