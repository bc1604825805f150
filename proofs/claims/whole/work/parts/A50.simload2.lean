/-! the class: load against the reference's (own work) -/
theorem load_sim {I I1 : fx_MI} {J Jr : fx_MJ} {Ir : fx_MI} {x : Int32} (hr : REL I J Ir) (hf : txL I I1) (hA : resAC I I1 x (pAll (txN Ir) (tlN Ir) (rC Ir) (rW Ir) (rH Ir))) :
    (∃ e, e ≤ 120 ∧ x = nI e ∧ ∀ r2 Ir2 Jr2 Rr2, Q_load Ir Jr R0_M r2 Ir2 Jr2 Rr2 → Rr2 = R0_M ∧ r2 = some (.int (-nI 2000 - nI e)) ∧ REL I1 J Ir2) ∨
    (x = -nI 1 ∧ hisI I1 ∧ (∀ i, i < 16 → ∃ s, s ≤ 8 ∧ I1 97 i = nI s) ∧ ∀ r2 Ir2 Jr2 Rr2, Q_load Ir Jr R0_M r2 Ir2 Jr2 Rr2 → Rr2 = R0_M ∧ r2 = some (.int (nI (smN 16 (fun i => nv (I1 97 i))))) ∧ REL (fx_up (cpC (recI I1 2) 3 96) 94 1 0) (recJ I1 J 2) Ir2) := by
  obtain ⟨⟨f1, f2, f3⟩, hdm, -⟩ := REL_ref hr
  obtain ⟨hw, hh, hc, -⟩ := dimC_of hr.1.1.1
  have htl := okt_tl hr.2.2.2.1.1
  have hok := pAll_ok (t := txN Ir) (tl := tlN Ir) hc.1 hw.2 hh.2
  have hr1 : REL I1 J Ir := REL_read hr hf frA_rfl
  rw [f1, f2, f3] at hA
  unfold Q_load
  rw [f1, f2, f3]
  cases hpa : pAll (txN Ir) (tlN Ir) (cC I) (cW I) (cH I) with
  | inl e =>
    rw [hpa] at hA hok
    have he : e ≤ tlN Ir := hok
    refine Or.inl ⟨e, by omega, hA, ?_⟩
    rintro r2 Ir2 Jr2 Rr2 ⟨-, hR, hr2, hfr⟩
    exact ⟨hR, hr2, REL_read hr hf hfr⟩
  | inr cl =>
    rw [hpa] at hA hok
    have hok : ∀ l, l < cH I + cW I → okCl (cC I) (cellsN (cW I) (cH I) l) (cl l) := hok
    obtain ⟨hx, hcl, hclx, hz⟩ := hA
    have h97 : ∀ i, i < 16 → I1 97 i = nI (if i < cH I + cW I then (cl i).2.1 else 0) := fun i hi => by
      have e : cf I1 96 (16 + i) = I1 97 i := cf_sz hi
      rw [← e]
      split
      · rename_i h
        exact (hclx i h).2.1
      · rename_i h
        exact (hz i (by omega) hi).2
    have h8 : ∀ i, i < cH I + cW I → (cl i).2.1 ≤ 8 := fun i hi => (hok i hi).2.2.1
    refine Or.inr ⟨hx, REL_his hr1, fun i hi => ⟨_, ?_, h97 i hi⟩, ?_⟩
    · split
      · rename_i h
        exact h8 i h
      · omega
    rintro r2 Ir2 Jr2 Rr2 ⟨-, hR, hr2, h019, hcx, hfl⟩
    refine ⟨hR, ?_, ?_⟩
    · obtain ⟨d, hd⟩ : ∃ d, 16 = (cH I + cW I) + d := ⟨16 - (cH I + cW I), by omega⟩
      have hs := sm_z (f := fun i => nv (I1 97 i)) (n := cH I + cW I) (d := d) (fun k h1 h2 => by
        show nv (I1 97 k) = 0
        rw [h97 k (by omega), if_neg (by omega), nv_nI (by omega)])
      rw [← hd] at hs
      rw [hr2, smN_sm, hs]
      congr 3
      refine sm_cong fun k hk => ?_
      show (cl k).2.1 = nv (I1 97 k)
      rw [h97 k (by omega), if_pos hk, nv_nI (by have := h8 k hk; omega)]
    · have hrec := REL_rec hr1
      have hh1 := REL_his hr1
      obtain ⟨d1, d2, d3, d4⟩ := txL_d hf
      have eW : cW (recI I1 2) = cW I := by unfold cW; rw [recI_ne (by omega) hh1]; exact d1
      have eH : cH (recI I1 2) = cH I := by unfold cH; rw [recI_ne (by omega) hh1]; exact d2
      have eC : cC (recI I1 2) = cC I := by unfold cC; rw [recI_ne (by omega) hh1]; exact d3
      have eq : ∀ q j, (q < 3 ∨ 7 < q) → (q ≠ 94 ∨ j ≠ 1) → fx_up (cpC (recI I1 2) 3 96) 94 1 0 q j = recI I1 2 q j := fun q j h1 h2 => by
        rw [up_ne (by omega), cpC_ne (by omega)]
      have er : ∀ j, 288 ≤ j → Ir2 1 j = Ir 1 j := fun j hj => by
        rw [hfl 1 j (by omega) (by omega) (Or.inr fun l hl => by omega), keepsM_row]
      have hs0 := hr1.2.1
      rw [d1, d2, d3] at hs0
      refine REL_gen hrec (fun q j hq => eq q j (by omega) (by omega)) (fun _ _ _ => rfl) hrec.1.2.2 (fun j => hfl 2 j (by omega) (by omega) (by omega)) (fun j _ h2 h3 h4 => hfl 0 j (by omega) (by omega) (by omega)) ⟨⟨⟨0, by omega, h019⟩, fun k hk => ?_⟩, by rw [up_eq, h019]; rfl, fun k hk => ?_⟩ ?_
      · rw [hfl 10 k (by omega) (by omega) (by omega), keepsM_ne (by omega) (by omega)]
        exact hr.2.2.2.1.1.2 k hk
      · unfold tlN at hk
        rw [h019, nv_nI (by omega)] at hk
        omega
      · rw [eW, eH, eC]
        have hold : sR (cW I) (cH I) (cC I) (recI I1 2) (recJ I1 J 2) 2 (Ir 1) := sR_fr (fun p j h1 h2 => recI_ne (by omega) hh1) (fun p j h1 h2 => recJ_ne (by omega) hh1) hs0
        refine ⟨?_, ⟨hold.2.1.1, hold.2.1.2.1, fun k hk => by rw [er _ (by omega)]; exact hold.2.1.2.2 k hk⟩, fun d i hd hi => ?_, fun k hk => by rw [er _ (by omega), er _ (by omega)]; exact hold.2.2.2 k hk⟩
        · obtain ⟨c0, c1, c2, c3, c4⟩ := cpC_at (I := recI I1 2) (q := 3) (o := 96) (by omega)
          have hrow : clR (cW I) (cH I) (cC I) I1 96 (Ir2 1) := by
            refine clR_row (cl := cl) (by omega) (clW_at hf hcl) hclx hcx hz (fun l h1 h2 => ?_) h8
            have e1 : Ir2 1 l = Ir 1 l := by rw [hfl 1 l (by omega) (by omega) (Or.inr fun l' hl' => by omega), keepsM_row]
            have e2 : Ir2 1 (16 + l) = Ir 1 (16 + l) := by rw [hfl 1 (16 + l) (by omega) (by omega) (Or.inr fun l' hl' => by omega), keepsM_row]
            obtain ⟨o1, o2, -, -⟩ := hr.2.1.1.1 l h2
            have hb : bt (I 3 0) l = false := Bool.eq_false_iff.mpr fun z => by
              have := hr.2.1.1.2.1 l z
              omega
            have z1 : Ir 1 l = nI 0 := by
              rw [← o2, cf_has h2, hb]
              rfl
            exact ⟨e1.trans z1, e2.trans (o1.2.2.1 z1)⟩
          refine clR_cp (o := 96) (I := recI I1 2) (by omega) ?_ (fun j hj => ?_) (fun j hj => ?_) (fun j hj => ?_) (fun j hj => ?_) (clR_fr (fun p j h1 h2 => recI_ne (by omega) hh1) hrow)
          · rw [up_ne (by omega)]; exact c0
          · rw [up_ne (by omega)]; exact c1 j hj
          · rw [up_ne (by omega)]; exact c2 j hj
          · rw [up_ne (by omega)]; exact c3 j hj
          · rw [up_ne (by omega)]; exact c4 j hj
        · rw [hold.2.2.1 d i hd hi]
          have hp : ∀ k, picN (Ir2 1) k = picN (Ir 1) k := fun k => by
            unfold picN
            rw [er _ (by omega)]
          simp only [hp]
set_option maxHeartbeats 4000000 in
def p_Out_load : fx_Pr := fx_pr [(0, .aload_n 0, 0), (1, .getfield 33, 0), (4, .aload_n 0, 0), (5, .getfield 40, 0), (8, .aload_n 0, 0), (9, .getfield 12, 0), (12, .invokevirtual 221, 0), (15, .istore_n 1, 0), (16, .iload_n 1, 0), (17, .iconst (-1), 0), (18, .if_icmp .eq 9, 27), (21, .sipush (-2000), 0), (24, .iload_n 1, 0), (25, .isub, 0), (26, .ireturn, 0), (27, .aload_n 0, 0), (28, .getfield 26, 0), (31, .aload_n 0, 0), (32, .getfield 19, 0), (35, .invokevirtual 111, 0), (38, .aload_n 0, 0), (39, .getfield 19, 0), (42, .getfield 46, 0), (45, .aload_n 0, 0), (46, .getfield 40, 0), (49, .invokevirtual 225, 0), (52, .aload_n 0, 0), (53, .getfield 33, 0), (56, .iconst 0, 0), (57, .putfield 216, 0), (60, .aload_n 0, 0), (61, .getfield 19, 0), (64, .getfield 46, 0), (67, .invokevirtual 229, 0), (70, .ireturn, 0)]
theorem pk_Out_load : fx_prOK b_Out_load p_Out_load := fx_pr_ok (by decide +kernel)
theorem q_Out_load_0 {nL : Nat} {M : fx_M} {ev : fx_Env} {ret : Option FieldType} {P : fx_P} {stops : List (Nat × Nat)} {K : fx_K} {n : Nat} {L : List (Option Value)} {st : List Value} {I : fx_MI} {J : fx_MJ} {R : fx_MR} {X : Nat → fx_K} (hX : fx_isX nL M ev ret P p_Out_load stops K X) (hs : fx_stop stops 0 = none) : X (n + 1) 0 L st I J R = fx_S nL M ev ret P (.aload_n 0) 0 0 L st I J R (X n) := hX.1 _ _ _ _ _ _ _ _ _ rfl hs
theorem q_Out_load_1 {nL : Nat} {M : fx_M} {ev : fx_Env} {ret : Option FieldType} {P : fx_P} {stops : List (Nat × Nat)} {K : fx_K} {n : Nat} {L : List (Option Value)} {st : List Value} {I : fx_MI} {J : fx_MJ} {R : fx_MR} {X : Nat → fx_K} (hX : fx_isX nL M ev ret P p_Out_load stops K X) (hs : fx_stop stops 1 = none) : X (n + 1) 1 L st I J R = fx_S nL M ev ret P (.getfield 33) 0 1 L st I J R (X n) := hX.1 _ _ _ _ _ _ _ _ _ rfl hs
theorem q_Out_load_4 {nL : Nat} {M : fx_M} {ev : fx_Env} {ret : Option FieldType} {P : fx_P} {stops : List (Nat × Nat)} {K : fx_K} {n : Nat} {L : List (Option Value)} {st : List Value} {I : fx_MI} {J : fx_MJ} {R : fx_MR} {X : Nat → fx_K} (hX : fx_isX nL M ev ret P p_Out_load stops K X) (hs : fx_stop stops 4 = none) : X (n + 1) 4 L st I J R = fx_S nL M ev ret P (.aload_n 0) 0 4 L st I J R (X n) := hX.1 _ _ _ _ _ _ _ _ _ rfl hs
theorem q_Out_load_5 {nL : Nat} {M : fx_M} {ev : fx_Env} {ret : Option FieldType} {P : fx_P} {stops : List (Nat × Nat)} {K : fx_K} {n : Nat} {L : List (Option Value)} {st : List Value} {I : fx_MI} {J : fx_MJ} {R : fx_MR} {X : Nat → fx_K} (hX : fx_isX nL M ev ret P p_Out_load stops K X) (hs : fx_stop stops 5 = none) : X (n + 1) 5 L st I J R = fx_S nL M ev ret P (.getfield 40) 0 5 L st I J R (X n) := hX.1 _ _ _ _ _ _ _ _ _ rfl hs
theorem q_Out_load_8 {nL : Nat} {M : fx_M} {ev : fx_Env} {ret : Option FieldType} {P : fx_P} {stops : List (Nat × Nat)} {K : fx_K} {n : Nat} {L : List (Option Value)} {st : List Value} {I : fx_MI} {J : fx_MJ} {R : fx_MR} {X : Nat → fx_K} (hX : fx_isX nL M ev ret P p_Out_load stops K X) (hs : fx_stop stops 8 = none) : X (n + 1) 8 L st I J R = fx_S nL M ev ret P (.aload_n 0) 0 8 L st I J R (X n) := hX.1 _ _ _ _ _ _ _ _ _ rfl hs
theorem q_Out_load_9 {nL : Nat} {M : fx_M} {ev : fx_Env} {ret : Option FieldType} {P : fx_P} {stops : List (Nat × Nat)} {K : fx_K} {n : Nat} {L : List (Option Value)} {st : List Value} {I : fx_MI} {J : fx_MJ} {R : fx_MR} {X : Nat → fx_K} (hX : fx_isX nL M ev ret P p_Out_load stops K X) (hs : fx_stop stops 9 = none) : X (n + 1) 9 L st I J R = fx_S nL M ev ret P (.getfield 12) 0 9 L st I J R (X n) := hX.1 _ _ _ _ _ _ _ _ _ rfl hs
theorem q_Out_load_12 {nL : Nat} {M : fx_M} {ev : fx_Env} {ret : Option FieldType} {P : fx_P} {stops : List (Nat × Nat)} {K : fx_K} {n : Nat} {L : List (Option Value)} {st : List Value} {I : fx_MI} {J : fx_MJ} {R : fx_MR} {X : Nat → fx_K} (hX : fx_isX nL M ev ret P p_Out_load stops K X) (hs : fx_stop stops 12 = none) : X (n + 1) 12 L st I J R = fx_S nL M ev ret P (.invokevirtual 221) 0 12 L st I J R (X n) := hX.1 _ _ _ _ _ _ _ _ _ rfl hs
theorem q_Out_load_15 {nL : Nat} {M : fx_M} {ev : fx_Env} {ret : Option FieldType} {P : fx_P} {stops : List (Nat × Nat)} {K : fx_K} {n : Nat} {L : List (Option Value)} {st : List Value} {I : fx_MI} {J : fx_MJ} {R : fx_MR} {X : Nat → fx_K} (hX : fx_isX nL M ev ret P p_Out_load stops K X) (hs : fx_stop stops 15 = none) : X (n + 1) 15 L st I J R = fx_S nL M ev ret P (.istore_n 1) 0 15 L st I J R (X n) := hX.1 _ _ _ _ _ _ _ _ _ rfl hs
theorem q_Out_load_16 {nL : Nat} {M : fx_M} {ev : fx_Env} {ret : Option FieldType} {P : fx_P} {stops : List (Nat × Nat)} {K : fx_K} {n : Nat} {L : List (Option Value)} {st : List Value} {I : fx_MI} {J : fx_MJ} {R : fx_MR} {X : Nat → fx_K} (hX : fx_isX nL M ev ret P p_Out_load stops K X) (hs : fx_stop stops 16 = none) : X (n + 1) 16 L st I J R = fx_S nL M ev ret P (.iload_n 1) 0 16 L st I J R (X n) := hX.1 _ _ _ _ _ _ _ _ _ rfl hs
theorem q_Out_load_17 {nL : Nat} {M : fx_M} {ev : fx_Env} {ret : Option FieldType} {P : fx_P} {stops : List (Nat × Nat)} {K : fx_K} {n : Nat} {L : List (Option Value)} {st : List Value} {I : fx_MI} {J : fx_MJ} {R : fx_MR} {X : Nat → fx_K} (hX : fx_isX nL M ev ret P p_Out_load stops K X) (hs : fx_stop stops 17 = none) : X (n + 1) 17 L st I J R = fx_S nL M ev ret P (.iconst (-1)) 0 17 L st I J R (X n) := hX.1 _ _ _ _ _ _ _ _ _ rfl hs
theorem q_Out_load_18 {nL : Nat} {M : fx_M} {ev : fx_Env} {ret : Option FieldType} {P : fx_P} {stops : List (Nat × Nat)} {K : fx_K} {n : Nat} {L : List (Option Value)} {st : List Value} {I : fx_MI} {J : fx_MJ} {R : fx_MR} {x y : Int32} {X : Nat → fx_K} (hX : fx_isX nL M ev ret P p_Out_load stops K X) (hs : fx_stop stops 18 = none) : X (n + 1) 18 L (.int y :: .int x :: st) I J R = ((x = y → X n 27 L st I J R) ∧ (¬ x = y → X n 21 L st I J R)) := fx_q_icmp hX rfl hs rfl
theorem q_Out_load_21 {nL : Nat} {M : fx_M} {ev : fx_Env} {ret : Option FieldType} {P : fx_P} {stops : List (Nat × Nat)} {K : fx_K} {n : Nat} {L : List (Option Value)} {st : List Value} {I : fx_MI} {J : fx_MJ} {R : fx_MR} {X : Nat → fx_K} (hX : fx_isX nL M ev ret P p_Out_load stops K X) (hs : fx_stop stops 21 = none) : X (n + 1) 21 L st I J R = fx_S nL M ev ret P (.sipush (-2000)) 0 21 L st I J R (X n) := hX.1 _ _ _ _ _ _ _ _ _ rfl hs
theorem q_Out_load_24 {nL : Nat} {M : fx_M} {ev : fx_Env} {ret : Option FieldType} {P : fx_P} {stops : List (Nat × Nat)} {K : fx_K} {n : Nat} {L : List (Option Value)} {st : List Value} {I : fx_MI} {J : fx_MJ} {R : fx_MR} {X : Nat → fx_K} (hX : fx_isX nL M ev ret P p_Out_load stops K X) (hs : fx_stop stops 24 = none) : X (n + 1) 24 L st I J R = fx_S nL M ev ret P (.iload_n 1) 0 24 L st I J R (X n) := hX.1 _ _ _ _ _ _ _ _ _ rfl hs
theorem q_Out_load_25 {nL : Nat} {M : fx_M} {ev : fx_Env} {ret : Option FieldType} {P : fx_P} {stops : List (Nat × Nat)} {K : fx_K} {n : Nat} {L : List (Option Value)} {st : List Value} {I : fx_MI} {J : fx_MJ} {R : fx_MR} {X : Nat → fx_K} (hX : fx_isX nL M ev ret P p_Out_load stops K X) (hs : fx_stop stops 25 = none) : X (n + 1) 25 L st I J R = fx_S nL M ev ret P (.isub) 0 25 L st I J R (X n) := hX.1 _ _ _ _ _ _ _ _ _ rfl hs
theorem q_Out_load_26 {nL : Nat} {M : fx_M} {ev : fx_Env} {ret : Option FieldType} {P : fx_P} {stops : List (Nat × Nat)} {K : fx_K} {n : Nat} {L : List (Option Value)} {st : List Value} {I : fx_MI} {J : fx_MJ} {R : fx_MR} {X : Nat → fx_K} (hX : fx_isX nL M ev ret P p_Out_load stops K X) (hs : fx_stop stops 26 = none) : X (n + 1) 26 L st I J R = fx_S nL M ev ret P (.ireturn) 0 26 L st I J R (X n) := hX.1 _ _ _ _ _ _ _ _ _ rfl hs
theorem q_Out_load_27 {nL : Nat} {M : fx_M} {ev : fx_Env} {ret : Option FieldType} {P : fx_P} {stops : List (Nat × Nat)} {K : fx_K} {n : Nat} {L : List (Option Value)} {st : List Value} {I : fx_MI} {J : fx_MJ} {R : fx_MR} {X : Nat → fx_K} (hX : fx_isX nL M ev ret P p_Out_load stops K X) (hs : fx_stop stops 27 = none) : X (n + 1) 27 L st I J R = fx_S nL M ev ret P (.aload_n 0) 0 27 L st I J R (X n) := hX.1 _ _ _ _ _ _ _ _ _ rfl hs
theorem q_Out_load_28 {nL : Nat} {M : fx_M} {ev : fx_Env} {ret : Option FieldType} {P : fx_P} {stops : List (Nat × Nat)} {K : fx_K} {n : Nat} {L : List (Option Value)} {st : List Value} {I : fx_MI} {J : fx_MJ} {R : fx_MR} {X : Nat → fx_K} (hX : fx_isX nL M ev ret P p_Out_load stops K X) (hs : fx_stop stops 28 = none) : X (n + 1) 28 L st I J R = fx_S nL M ev ret P (.getfield 26) 0 28 L st I J R (X n) := hX.1 _ _ _ _ _ _ _ _ _ rfl hs
theorem q_Out_load_31 {nL : Nat} {M : fx_M} {ev : fx_Env} {ret : Option FieldType} {P : fx_P} {stops : List (Nat × Nat)} {K : fx_K} {n : Nat} {L : List (Option Value)} {st : List Value} {I : fx_MI} {J : fx_MJ} {R : fx_MR} {X : Nat → fx_K} (hX : fx_isX nL M ev ret P p_Out_load stops K X) (hs : fx_stop stops 31 = none) : X (n + 1) 31 L st I J R = fx_S nL M ev ret P (.aload_n 0) 0 31 L st I J R (X n) := hX.1 _ _ _ _ _ _ _ _ _ rfl hs
theorem q_Out_load_32 {nL : Nat} {M : fx_M} {ev : fx_Env} {ret : Option FieldType} {P : fx_P} {stops : List (Nat × Nat)} {K : fx_K} {n : Nat} {L : List (Option Value)} {st : List Value} {I : fx_MI} {J : fx_MJ} {R : fx_MR} {X : Nat → fx_K} (hX : fx_isX nL M ev ret P p_Out_load stops K X) (hs : fx_stop stops 32 = none) : X (n + 1) 32 L st I J R = fx_S nL M ev ret P (.getfield 19) 0 32 L st I J R (X n) := hX.1 _ _ _ _ _ _ _ _ _ rfl hs
theorem q_Out_load_35 {nL : Nat} {M : fx_M} {ev : fx_Env} {ret : Option FieldType} {P : fx_P} {stops : List (Nat × Nat)} {K : fx_K} {n : Nat} {L : List (Option Value)} {st : List Value} {I : fx_MI} {J : fx_MJ} {R : fx_MR} {X : Nat → fx_K} (hX : fx_isX nL M ev ret P p_Out_load stops K X) (hs : fx_stop stops 35 = none) : X (n + 1) 35 L st I J R = fx_S nL M ev ret P (.invokevirtual 111) 0 35 L st I J R (X n) := hX.1 _ _ _ _ _ _ _ _ _ rfl hs
theorem q_Out_load_38 {nL : Nat} {M : fx_M} {ev : fx_Env} {ret : Option FieldType} {P : fx_P} {stops : List (Nat × Nat)} {K : fx_K} {n : Nat} {L : List (Option Value)} {st : List Value} {I : fx_MI} {J : fx_MJ} {R : fx_MR} {X : Nat → fx_K} (hX : fx_isX nL M ev ret P p_Out_load stops K X) (hs : fx_stop stops 38 = none) : X (n + 1) 38 L st I J R = fx_S nL M ev ret P (.aload_n 0) 0 38 L st I J R (X n) := hX.1 _ _ _ _ _ _ _ _ _ rfl hs
theorem q_Out_load_39 {nL : Nat} {M : fx_M} {ev : fx_Env} {ret : Option FieldType} {P : fx_P} {stops : List (Nat × Nat)} {K : fx_K} {n : Nat} {L : List (Option Value)} {st : List Value} {I : fx_MI} {J : fx_MJ} {R : fx_MR} {X : Nat → fx_K} (hX : fx_isX nL M ev ret P p_Out_load stops K X) (hs : fx_stop stops 39 = none) : X (n + 1) 39 L st I J R = fx_S nL M ev ret P (.getfield 19) 0 39 L st I J R (X n) := hX.1 _ _ _ _ _ _ _ _ _ rfl hs
theorem q_Out_load_42 {nL : Nat} {M : fx_M} {ev : fx_Env} {ret : Option FieldType} {P : fx_P} {stops : List (Nat × Nat)} {K : fx_K} {n : Nat} {L : List (Option Value)} {st : List Value} {I : fx_MI} {J : fx_MJ} {R : fx_MR} {X : Nat → fx_K} (hX : fx_isX nL M ev ret P p_Out_load stops K X) (hs : fx_stop stops 42 = none) : X (n + 1) 42 L st I J R = fx_S nL M ev ret P (.getfield 46) 0 42 L st I J R (X n) := hX.1 _ _ _ _ _ _ _ _ _ rfl hs
theorem q_Out_load_45 {nL : Nat} {M : fx_M} {ev : fx_Env} {ret : Option FieldType} {P : fx_P} {stops : List (Nat × Nat)} {K : fx_K} {n : Nat} {L : List (Option Value)} {st : List Value} {I : fx_MI} {J : fx_MJ} {R : fx_MR} {X : Nat → fx_K} (hX : fx_isX nL M ev ret P p_Out_load stops K X) (hs : fx_stop stops 45 = none) : X (n + 1) 45 L st I J R = fx_S nL M ev ret P (.aload_n 0) 0 45 L st I J R (X n) := hX.1 _ _ _ _ _ _ _ _ _ rfl hs
theorem q_Out_load_46 {nL : Nat} {M : fx_M} {ev : fx_Env} {ret : Option FieldType} {P : fx_P} {stops : List (Nat × Nat)} {K : fx_K} {n : Nat} {L : List (Option Value)} {st : List Value} {I : fx_MI} {J : fx_MJ} {R : fx_MR} {X : Nat → fx_K} (hX : fx_isX nL M ev ret P p_Out_load stops K X) (hs : fx_stop stops 46 = none) : X (n + 1) 46 L st I J R = fx_S nL M ev ret P (.getfield 40) 0 46 L st I J R (X n) := hX.1 _ _ _ _ _ _ _ _ _ rfl hs
theorem q_Out_load_49 {nL : Nat} {M : fx_M} {ev : fx_Env} {ret : Option FieldType} {P : fx_P} {stops : List (Nat × Nat)} {K : fx_K} {n : Nat} {L : List (Option Value)} {st : List Value} {I : fx_MI} {J : fx_MJ} {R : fx_MR} {X : Nat → fx_K} (hX : fx_isX nL M ev ret P p_Out_load stops K X) (hs : fx_stop stops 49 = none) : X (n + 1) 49 L st I J R = fx_S nL M ev ret P (.invokevirtual 225) 0 49 L st I J R (X n) := hX.1 _ _ _ _ _ _ _ _ _ rfl hs
theorem q_Out_load_52 {nL : Nat} {M : fx_M} {ev : fx_Env} {ret : Option FieldType} {P : fx_P} {stops : List (Nat × Nat)} {K : fx_K} {n : Nat} {L : List (Option Value)} {st : List Value} {I : fx_MI} {J : fx_MJ} {R : fx_MR} {X : Nat → fx_K} (hX : fx_isX nL M ev ret P p_Out_load stops K X) (hs : fx_stop stops 52 = none) : X (n + 1) 52 L st I J R = fx_S nL M ev ret P (.aload_n 0) 0 52 L st I J R (X n) := hX.1 _ _ _ _ _ _ _ _ _ rfl hs
theorem q_Out_load_53 {nL : Nat} {M : fx_M} {ev : fx_Env} {ret : Option FieldType} {P : fx_P} {stops : List (Nat × Nat)} {K : fx_K} {n : Nat} {L : List (Option Value)} {st : List Value} {I : fx_MI} {J : fx_MJ} {R : fx_MR} {X : Nat → fx_K} (hX : fx_isX nL M ev ret P p_Out_load stops K X) (hs : fx_stop stops 53 = none) : X (n + 1) 53 L st I J R = fx_S nL M ev ret P (.getfield 33) 0 53 L st I J R (X n) := hX.1 _ _ _ _ _ _ _ _ _ rfl hs
theorem q_Out_load_56 {nL : Nat} {M : fx_M} {ev : fx_Env} {ret : Option FieldType} {P : fx_P} {stops : List (Nat × Nat)} {K : fx_K} {n : Nat} {L : List (Option Value)} {st : List Value} {I : fx_MI} {J : fx_MJ} {R : fx_MR} {X : Nat → fx_K} (hX : fx_isX nL M ev ret P p_Out_load stops K X) (hs : fx_stop stops 56 = none) : X (n + 1) 56 L st I J R = fx_S nL M ev ret P (.iconst 0) 0 56 L st I J R (X n) := hX.1 _ _ _ _ _ _ _ _ _ rfl hs
theorem q_Out_load_57 {nL : Nat} {M : fx_M} {ev : fx_Env} {ret : Option FieldType} {P : fx_P} {stops : List (Nat × Nat)} {K : fx_K} {n : Nat} {L : List (Option Value)} {st : List Value} {I : fx_MI} {J : fx_MJ} {R : fx_MR} {X : Nat → fx_K} (hX : fx_isX nL M ev ret P p_Out_load stops K X) (hs : fx_stop stops 57 = none) : X (n + 1) 57 L st I J R = fx_S nL M ev ret P (.putfield 216) 0 57 L st I J R (X n) := hX.1 _ _ _ _ _ _ _ _ _ rfl hs
theorem q_Out_load_60 {nL : Nat} {M : fx_M} {ev : fx_Env} {ret : Option FieldType} {P : fx_P} {stops : List (Nat × Nat)} {K : fx_K} {n : Nat} {L : List (Option Value)} {st : List Value} {I : fx_MI} {J : fx_MJ} {R : fx_MR} {X : Nat → fx_K} (hX : fx_isX nL M ev ret P p_Out_load stops K X) (hs : fx_stop stops 60 = none) : X (n + 1) 60 L st I J R = fx_S nL M ev ret P (.aload_n 0) 0 60 L st I J R (X n) := hX.1 _ _ _ _ _ _ _ _ _ rfl hs
theorem q_Out_load_61 {nL : Nat} {M : fx_M} {ev : fx_Env} {ret : Option FieldType} {P : fx_P} {stops : List (Nat × Nat)} {K : fx_K} {n : Nat} {L : List (Option Value)} {st : List Value} {I : fx_MI} {J : fx_MJ} {R : fx_MR} {X : Nat → fx_K} (hX : fx_isX nL M ev ret P p_Out_load stops K X) (hs : fx_stop stops 61 = none) : X (n + 1) 61 L st I J R = fx_S nL M ev ret P (.getfield 19) 0 61 L st I J R (X n) := hX.1 _ _ _ _ _ _ _ _ _ rfl hs
theorem q_Out_load_64 {nL : Nat} {M : fx_M} {ev : fx_Env} {ret : Option FieldType} {P : fx_P} {stops : List (Nat × Nat)} {K : fx_K} {n : Nat} {L : List (Option Value)} {st : List Value} {I : fx_MI} {J : fx_MJ} {R : fx_MR} {X : Nat → fx_K} (hX : fx_isX nL M ev ret P p_Out_load stops K X) (hs : fx_stop stops 64 = none) : X (n + 1) 64 L st I J R = fx_S nL M ev ret P (.getfield 46) 0 64 L st I J R (X n) := hX.1 _ _ _ _ _ _ _ _ _ rfl hs
theorem q_Out_load_67 {nL : Nat} {M : fx_M} {ev : fx_Env} {ret : Option FieldType} {P : fx_P} {stops : List (Nat × Nat)} {K : fx_K} {n : Nat} {L : List (Option Value)} {st : List Value} {I : fx_MI} {J : fx_MJ} {R : fx_MR} {X : Nat → fx_K} (hX : fx_isX nL M ev ret P p_Out_load stops K X) (hs : fx_stop stops 67 = none) : X (n + 1) 67 L st I J R = fx_S nL M ev ret P (.invokevirtual 229) 0 67 L st I J R (X n) := hX.1 _ _ _ _ _ _ _ _ _ rfl hs
theorem q_Out_load_70 {nL : Nat} {M : fx_M} {ev : fx_Env} {ret : Option FieldType} {P : fx_P} {stops : List (Nat × Nat)} {K : fx_K} {n : Nat} {L : List (Option Value)} {st : List Value} {I : fx_MI} {J : fx_MJ} {R : fx_MR} {X : Nat → fx_K} (hX : fx_isX nL M ev ret P p_Out_load stops K X) (hs : fx_stop stops 70 = none) : X (n + 1) 70 L st I J R = fx_S nL M ev ret P (.ireturn) 0 70 L st I J R (X n) := hX.1 _ _ _ _ _ _ _ _ _ rfl hs
def pre_Out_load (n : Nat) : fx_Pre := fun st I J R => (∃ b, R = R0C b) ∧ (match st with
  | [.ref 0] => relE I J
  | _ => False)
theorem pi_Out_load {n : Nat} {st : List Value} {I : fx_MI} {J : fx_MJ} {R : fx_MR} (h : pre_Out_load n st I J R) : (∃ b, R = R0C b) ∧ st = [.ref 0] ∧ (relE I J) := by
  unfold pre_Out_load at h
  obtain ⟨h0, h⟩ := h
  split at h
  · exact ⟨h0, rfl, h⟩
  · cases h
def post_Out_load (n : Nat) : fx_Post := fun st I J R r I' J' R' => simP (post_M_load [.ref 0]) I J r I' J' R'
theorem pz_Out_load {st : List Value} {I : fx_MI} {J : fx_MJ} {R : fx_MR} (n : Nat) (h : pre_Out_load n st I J R) : ∃ q r, st = .ref q :: r ∧ (MC n).2.2.1 q = some (.inl 0) ∧ r.length = 0 := by
  obtain ⟨_, rfl, _⟩ := pi_Out_load h
  exact ⟨_, _, rfl, rfl, rfl⟩
def v_Out_load (n : Nat) : fx_Env := [(.getfield 33, fx_tget (MC n) 0 3), (.getfield 40, fx_tget (MC n) 0 4), (.getfield 12, fx_tget (MC n) 0 0), (.invokevirtual 221, fx_tcall 3 (pre_ClueText_read n) (post_ClueText_read n)), (.getfield 26, fx_tget (MC n) 0 2), (.getfield 19, fx_tget (MC n) 0 1), (.invokevirtual 111, fx_tcall 2 (pre_History_record n) (post_History_record n)), (.getfield 46, fx_tget (MC n) 2 0), (.invokevirtual 225, fx_tcall 2 (pre_Clues_copyFrom n) (post_Clues_copyFrom n)), (.putfield 216, fx_tput (MC n) 6 1), (.invokevirtual 229, fx_tcall 1 (pre_Clues_blocks n) (post_Clues_blocks n))]
abbrev rm_Out_load : Room := { frames := 8, cells := 0, slots := 0, locals := 181 }
abbrev ws_Out_load : List Cond := Cond.code y_Out_load b_Out_load 2 (some .int) :: w_C
theorem e_Out_c221 {l : Launch} {c0 : Cond} {rm : Room} {n nL : Nat} {cc : ByteArray} (hR : rm_ClueText_read.frames + 1 ≤ rm.frames ∧ 8 + (5 + 11) + rm_ClueText_read.locals ≤ rm.locals) : fx_E1S l R_Out (c0 :: w_C) rm (MC n) nL cc (.invokevirtual 221) (fx_tcall 3 (pre_ClueText_read n) (post_ClueText_read n)) := fx_callVS (ci := 6) (C := R_ClueText) rfl (c_ClueText_read l n) (w_C_G (w_C_h11 20 rfl) (w_C_h11 21 rfl) (w_C_h11 22 rfl) (w_C_h5 24 rfl) (w_C_h6 7 rfl)) rfl ⟨rfl, rfl⟩ (by decide) hR (fun st I J R h => pz_ClueText_read n h) (MC_ok n)
theorem e_Out_c225 {l : Launch} {c0 : Cond} {rm : Room} {n nL : Nat} {cc : ByteArray} (hR : rm_Clues_copyFrom.frames + 1 ≤ rm.frames ∧ 8 + (2 + 11) + rm_Clues_copyFrom.locals ≤ rm.locals) : fx_E1 l R_Out (c0 :: w_C) rm (MC n) nL cc (.invokevirtual 225) (fx_tcall 2 (pre_Clues_copyFrom n) (post_Clues_copyFrom n)) := fx_callV (ci := 3) (C := R_Clues) rfl (c_Clues_copyFrom l n) (w_C_G (w_C_h11 23 rfl) (w_C_h6 52 rfl) (w_C_h6 53 rfl) (w_C_h0 44 rfl) (w_C_h6 10 rfl)) rfl ⟨rfl, rfl⟩ (by decide) hR (fun st I J R h => pz_Clues_copyFrom n h) (MC_ok n)
theorem vk_Out_load {l : Launch} {n : Nat} : fx_EVS l R_Out ws_Out_load rm_Out_load (MC n) 2 b_Out_load (v_Out_load n) := (fx_EVS_cons (fx_E1.S e_Out_g33) (fx_EVS_cons (fx_E1.S e_Out_g40) (fx_EVS_cons (fx_E1.S e_Out_g12) (fx_EVS_cons (e_Out_c221 (by decide)) (fx_EVS_cons (fx_E1.S e_Out_g26) (fx_EVS_cons (fx_E1.S e_Out_g19) (fx_EVS_cons (fx_E1.S (e_Out_c111 (by decide))) (fx_EVS_cons (fx_E1.S e_Out_g46) (fx_EVS_cons (fx_E1.S (e_Out_c225 (by decide))) (fx_EVS_cons (fx_E1.S e_Out_p216) (fx_EVS_cons (fx_E1.S (e_Out_c229 (by decide))) fx_EVS_nil)))))))))))
theorem r_Out_load (n : Nat) (st : List Value) (I : fx_MI) (J : fx_MJ) (R : fx_MR) (h : pre_Out_load n st I J R) : fx_sz st ≤ 2 ∧ fx_R 2 (MC n) (v_Out_load n) (some .int) (post_Out_load n st I J R) p_Out_load 0 (fx_en st) [] I J R := by
  obtain ⟨⟨b, rfl⟩, rfl, hp⟩ := pi_Out_load h
  clear h
  refine ⟨Nat.le_of_ble_eq_true rfl, ?_⟩
  obtain ⟨Ir0, hr0⟩ := hp
  have hm1 : (-1 : Int32) = -nI 1 := rfl
  have hk96 : isK 3 96 = True := eq_true rfl
  refine fx_run0 120 fun X hX => ?_
  simp only [q_Out_load_0 hX rfl, q_Out_load_1 hX rfl, q_Out_load_4 hX rfl, q_Out_load_5 hX rfl, q_Out_load_8 hX rfl, q_Out_load_9 hX rfl, q_Out_load_12 hX rfl, q_Out_load_15 hX rfl, q_Out_load_16 hX rfl, q_Out_load_17 hX rfl, q_Out_load_18 hX rfl, q_Out_load_21 hX rfl, q_Out_load_24 hX rfl, q_Out_load_25 hX rfl, q_Out_load_26 hX rfl, q_Out_load_27 hX rfl, q_Out_load_28 hX rfl, q_Out_load_31 hX rfl, q_Out_load_32 hX rfl, q_Out_load_35 hX rfl, q_Out_load_38 hX rfl, q_Out_load_39 hX rfl, q_Out_load_42 hX rfl, q_Out_load_45 hX rfl, q_Out_load_46 hX rfl, q_Out_load_49 hX rfl, q_Out_load_52 hX rfl, q_Out_load_53 hX rfl, q_Out_load_56 hX rfl, q_Out_load_57 hX rfl, q_Out_load_60 hX rfl, q_Out_load_61 hX rfl, q_Out_load_64 hX rfl, q_Out_load_67 hX rfl, q_Out_load_70 hX rfl, fs_aload_n0, fs_aload_n1, fs_aload_n2, fs_aload_n3, fs_getfield, fs_iconst, fs_if_icmp, fs_iload_n0, fs_iload_n1, fs_iload_n2, fs_iload_n3, fs_invokevirtual, fs_ireturn, fs_istore_n0, fs_istore_n1, fs_istore_n2, fs_istore_n3, fs_isub, fs_putfield, fs_sipush, v_Out_load, lt_1_2, ci_m1, cs_m2000, ci_0, pre_ClueText_read, post_ClueText_read, pre_History_record, post_History_record, pre_Clues_copyFrom, post_Clues_copyFrom, pre_Clues_blocks, post_Clues_blocks, kd_C_0_3, pl_C_0, R0C_0_3, pl_C_94, kd_C_0_4, R0C_0_4, pl_C_96, kd_C_0_0, R0C_0_0, pl_C_1, kd_C_0_2, R0C_0_2, pl_C_12, kd_C_0_1, R0C_0_1, pl_C_2, kd_C_2_0, R0C_2_0, pl_C_3, kd_C_6_1, fx_oi_s, fx_ol_s, fx_or_s, fx_do_s, fx_lg_0, fx_lg_s, fx_ls_0, fx_ls_s, fx_ls_n0, fx_ls_ns, fx_en, fx_sz, Value.category, fx_nl, fx_lk, fx_tget, fx_tput, fx_tcall, fx_tldc, fx_fv, va_rf, fx_cat, fx_in, fx_cnd, fx_len, fx_narI, fx_narZ0, fx_narZ1, fx_narZb, zb_e, zb_ne, Option.some.injEq, Value.int.injEq, Value.long.injEq, Value.ref.injEq, List.cons.injEq, Nat.reduceAdd, Nat.reduceLeDiff, Nat.le_refl, List.take, List.drop, List.reverse_cons, List.reverse_nil, List.nil_append, List.cons_append, List.append_nil, List.map_cons, List.map_nil, List.sum_cons, List.sum_nil, List.length_cons, List.length_nil, Option.toList, fx_all4, forall_const, true_and, and_true, not_true_eq_false, not_false_eq_true, false_implies, true_implies, ne_eq, reduceCtorEq, Nat.reduceEqDiff, ite_true, ite_false, reduceIte, Instr.getfield.injEq, Instr.putfield.injEq, Instr.invokevirtual.injEq, Instr.invokestatic.injEq, Instr.ldc2_w.injEq, fx_tcopy, Instr.ldc.injEq, Instr.ldc_w.injEq, exists_eq_left, exists_prop, R0C_ex, hk96]
  refine ⟨⟨hr0.1.1.1, (relT_by hr0.2.2.2.1).2.2⟩, ?_⟩
  rintro r I1 J1 R1 ⟨x, rfl, rfl, rfl, hf, hA⟩
  have hAll : ∀ Ir, REL I J1 Ir → resAC I I1 x (pAll (txN Ir) (tlN Ir) (rC Ir) (rW Ir) (rH Ir)) := fun Ir hr => by
    obtain ⟨⟨f1, f2, f3⟩, -⟩ := REL_ref hr
    obtain ⟨u1, u2, -⟩ := relT_by hr.2.2.2.1
    rw [f1, f2, f3, ← u1]
    rw [← u1] at u2
    rw [← pAll_c u2]
    exact hA
  simp only [q_Out_load_0 hX rfl, q_Out_load_1 hX rfl, q_Out_load_4 hX rfl, q_Out_load_5 hX rfl, q_Out_load_8 hX rfl, q_Out_load_9 hX rfl, q_Out_load_12 hX rfl, q_Out_load_15 hX rfl, q_Out_load_16 hX rfl, q_Out_load_17 hX rfl, q_Out_load_18 hX rfl, q_Out_load_21 hX rfl, q_Out_load_24 hX rfl, q_Out_load_25 hX rfl, q_Out_load_26 hX rfl, q_Out_load_27 hX rfl, q_Out_load_28 hX rfl, q_Out_load_31 hX rfl, q_Out_load_32 hX rfl, q_Out_load_35 hX rfl, q_Out_load_38 hX rfl, q_Out_load_39 hX rfl, q_Out_load_42 hX rfl, q_Out_load_45 hX rfl, q_Out_load_46 hX rfl, q_Out_load_49 hX rfl, q_Out_load_52 hX rfl, q_Out_load_53 hX rfl, q_Out_load_56 hX rfl, q_Out_load_57 hX rfl, q_Out_load_60 hX rfl, q_Out_load_61 hX rfl, q_Out_load_64 hX rfl, q_Out_load_67 hX rfl, q_Out_load_70 hX rfl, fs_aload_n0, fs_aload_n1, fs_aload_n2, fs_aload_n3, fs_getfield, fs_iconst, fs_if_icmp, fs_iload_n0, fs_iload_n1, fs_iload_n2, fs_iload_n3, fs_invokevirtual, fs_ireturn, fs_istore_n0, fs_istore_n1, fs_istore_n2, fs_istore_n3, fs_isub, fs_putfield, fs_sipush, v_Out_load, lt_1_2, ci_m1, cs_m2000, ci_0, pre_ClueText_read, post_ClueText_read, pre_History_record, post_History_record, pre_Clues_copyFrom, post_Clues_copyFrom, pre_Clues_blocks, post_Clues_blocks, kd_C_0_3, pl_C_0, R0C_0_3, pl_C_94, kd_C_0_4, R0C_0_4, pl_C_96, kd_C_0_0, R0C_0_0, pl_C_1, kd_C_0_2, R0C_0_2, pl_C_12, kd_C_0_1, R0C_0_1, pl_C_2, kd_C_2_0, R0C_2_0, pl_C_3, kd_C_6_1, fx_oi_s, fx_ol_s, fx_or_s, fx_do_s, fx_lg_0, fx_lg_s, fx_ls_0, fx_ls_s, fx_ls_n0, fx_ls_ns, fx_en, fx_sz, Value.category, fx_nl, fx_lk, fx_tget, fx_tput, fx_tcall, fx_tldc, fx_fv, va_rf, fx_cat, fx_in, fx_cnd, fx_len, fx_narI, fx_narZ0, fx_narZ1, fx_narZb, zb_e, zb_ne, Option.some.injEq, Value.int.injEq, Value.long.injEq, Value.ref.injEq, List.cons.injEq, Nat.reduceAdd, Nat.reduceLeDiff, Nat.le_refl, List.take, List.drop, List.reverse_cons, List.reverse_nil, List.nil_append, List.cons_append, List.append_nil, List.map_cons, List.map_nil, List.sum_cons, List.sum_nil, List.length_cons, List.length_nil, Option.toList, fx_all4, forall_const, true_and, and_true, not_true_eq_false, not_false_eq_true, false_implies, true_implies, ne_eq, reduceCtorEq, Nat.reduceEqDiff, ite_true, ite_false, reduceIte, Instr.getfield.injEq, Instr.putfield.injEq, Instr.invokevirtual.injEq, Instr.invokestatic.injEq, Instr.ldc2_w.injEq, fx_tcopy, Instr.ldc.injEq, Instr.ldc_w.injEq, exists_eq_left, exists_prop, R0C_ex, hk96]
  have e4 : ∀ i, i < 16 → fx_up (cpC (recI I1 2) 3 96) 94 1 0 4 i = recI I1 2 97 i := fun i hi => by
    rw [up_ne (by omega)]
    exact (cpC_at (I := recI I1 2) (q := 3) (o := 96) (by omega)).2.1 i hi
  rcases load_sim (Jr := J1) hr0 hf (hAll Ir0 hr0) with ⟨e, he, hx, -⟩ | ⟨hx, hh1, h97, -⟩
  · rw [hx]
    refine ⟨fun z => ?_, fun _ => ⟨⟨b, rfl⟩, fun Ir hr Jr r2 Ir2 Jr2 Rr2 hq => ?_⟩⟩
    · rw [hm1] at z
      rw [ne_m1 (by omega)] at z
      exact z.elim
    · rcases load_sim (Jr := Jr) hr hf (hAll Ir hr) with ⟨e', he', hx', h9⟩ | ⟨hx', -⟩
      · obtain ⟨h1, h2, h3⟩ := h9 _ _ _ _ hq
        refine ⟨h1, ?_, h3⟩
        rw [h2, ← hx', hx]
        rfl
      · exact ((ne_m1 (e := e) (by omega)).mp (hx.symm.trans hx')).elim
  · rw [hx]
    have e97 : ∀ i, i < 16 → fx_up (cpC (recI I1 2) 3 96) 94 1 0 4 i = I1 97 i := fun i hi => (e4 i hi).trans (recI_ne (by omega) hh1)
    have hsum : smN 16 (fun i => nv (fx_up (cpC (recI I1 2) 3 96) 94 1 0 4 i)) = smN 16 (fun i => nv (I1 97 i)) := by
      rw [smN_sm, smN_sm]
      exact sm_cong fun k hk => congrArg nv (e97 k hk)
    refine ⟨fun _ => ⟨⟨rfl, hh1⟩, rfl, ⟨rfl, fun i hi => by rw [e97 i hi]; exact h97 i hi⟩, ⟨b, rfl⟩, fun Ir hr Jr r2 Ir2 Jr2 Rr2 hq => ?_⟩, fun z => absurd rfl z⟩
    rcases load_sim (Jr := Jr) hr hf (hAll Ir hr) with ⟨e', he', hx', -⟩ | ⟨-, -, -, h9⟩
    · rw [hx'] at hx
      exact ((ne_m1 (e := e') (by omega)).mp hx).elim
    · obtain ⟨h1, h2, h3⟩ := h9 _ _ _ _ hq
      refine ⟨h1, ?_, h3⟩
      rw [h2, hsum]
theorem c_Out_load (l : Launch) (n : Nat) : fx_MetS l y_Out_load ws_Out_load rm_Out_load (MC n) (pre_Out_load n) (post_Out_load n) := fx_metS (MC_ok n) (MC_tys n) (by decide) rfl pk_Out_load vk_Out_load (fun st I J R h => r_Out_load n st I J R h)

