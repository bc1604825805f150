/-! the class: marks changed on both sides (own work) -/
theorem bt_m : ∀ m, m < 16 → ∀ d, d < 4 → (bt (nI m) d = true ↔ m / 2 ^ d % 2 = 1) := by decide +kernel
theorem mskF_m : ∀ m, m < 16 → mskF 4 (fun d => bt (nI m) d) = m := by decide +kernel
section NM_
variable {w h c : Nat} {J : fx_MJ}
/-- marks put at some cells -/
theorem cu_putm {o m : Nat} {a : Int64} (hm : m < 16) (hw : w ≤ 8) (hh : h ≤ 8) {k : Nat} (hk : k < w * h) : cu w (putF J (o + 1) a (nI m)) o k = if lb a (8 * (k / w) + k % w) = true then m else cu w J o k := by
  obtain ⟨hkm, hkd⟩ := k_dm hk
  have hp : 8 * (k / w) + k % w < 64 := by omega
  unfold cu
  by_cases h1 : lb a (8 * (k / w) + k % w) = true
  · rw [if_pos h1]
    refine Eq.trans (mskF_c fun d hd => ?_) (mskF_m m hm)
    rw [putF_b hd hp, h1]
    cases bt (nI m) d <;> simp
  · rw [if_neg h1]
    refine mskF_c fun d hd => ?_
    rw [putF_b hd hp, bnt h1]
    cases bt (nI m) d <;> simp
theorem ly_putm {o : Nat} {a : Int64} {s : Int32} (h1 : lyO w h J o) (ha : ∀ i, i < 64 → lb a i = true → i % 8 < w ∧ i / 8 < h) : lyO w h (putF J (o + 1) a s) o := fun d hd i hi hb => by
  rw [putF_b hd hi] at hb
  split at hb
  · rw [Bool.or_eq_true] at hb
    rcases hb with hb | hb
    · exact h1 d hd i hi hb
    · exact ha i hi hb
  · rw [Bool.and_eq_true] at hb
    exact h1 d hd i hi hb.1
theorem ck_putm {o m : Nat} {a : Int64} (hm : m < 2 ^ (c + 1)) (hc : c ≤ 3) (h1 : ckO c J o) : ckO c (putF J (o + 1) a (nI m)) o := fun d h2 h3 i hi => by
  have hz : bt (nI m) d = false := bnt fun z => by
    have hle : 2 ^ (c + 1) ≤ 2 ^ d := Nat.pow_le_pow_right (by omega) (by omega)
    have hle4 : 2 ^ (c + 1) ≤ 2 ^ 4 := Nat.pow_le_pow_right (by omega) (by omega)
    rw [bt_m m (by omega) d h3, Nat.div_eq_of_lt (by omega)] at z
    omega
  rw [putF_b h3 hi, hz, if_neg Bool.false_ne_true, h1 d h2 h3 i hi, Bool.false_and]
end NM_
/-- only the marks of now change -/
theorem REL_nowL {I : fx_MI} {J J' : fx_MJ} {Ir Ir' : fx_MI} (h1 : REL I J Ir) (hJ : ∀ q j, q ≠ 9 → (q < 101) → J' q j = recJ I J 2 q j) (hly : lyO (cW I) (cH I) J' 113) (hr1 : ∀ j, (j < 288 ∨ 352 ≤ j) → Ir' 1 j = Ir 1 j) (hr2 : ∀ j, Ir' 2 j = keepsM Ir 2 j) (hr10 : ∀ j, Ir' 10 j = keepsM Ir 10 j) (hr0 : ∀ j, j ≠ 13 → j ≠ 20 → j ≠ 21 → Ir' 0 j = keepsM Ir 0 j) (hs : mkR (cW I) (cH I) (cC I) J' 8 (Ir' 1)) (ho : ∀ k, k < 64 → rg (Ir' 1 (288 + k)) (2 ^ (cC I + 1)) ∧ 1 ≤ nv (Ir' 1 (288 + k))) : REL (recI I 2) J' Ir' := by
  have hh := REL_his h1
  obtain ⟨hw, hh2, hc, -⟩ := dimC_of h1.1.1.1
  have hwh := wh_le hw.2 hh2.2
  have ef := hr1
  have hs0 := h1.2.1
  have eJ : ∀ q d, q < 12 → q ≠ 9 → J' q d = J q d := fun q d hq h9 => (hJ q d h9 (by omega)).trans (recJ_ne (Or.inl hq) hh)
  have hcl : clR (cW I) (cH I) (cC I) (recI I 2) 3 (Ir' 1) := by
    refine ⟨fun l hl => ?_, (clR_rec h1).2.1, fun l hl => ?_⟩
    · obtain ⟨g1, g2, g3, g4⟩ := (clR_rec h1).1 l hl
      have h8 := many8 g1
      have hmm : manyN (Ir' 1) l = manyN (Ir 1) l := by unfold manyN; rw [ef _ (by omega)]
      refine ⟨⟨by rw [ef _ (by omega)]; exact g1.1, by rw [ef _ (by omega)]; exact g1.2.1, by rw [ef _ (by omega), ef _ (by omega)]; exact g1.2.2.1, fun b hb => ?_⟩, by rw [ef _ (by omega)]; exact g2, by rw [ef _ (by omega)]; exact g3, fun b hb => ?_⟩
      · rw [hmm] at hb
        have := g1.2.2.2 b hb
        unfold lenN colN at this ⊢
        rw [ef _ (by omega), ef _ (by omega)]
        exact this
      · rw [hmm] at hb
        rw [ef _ (by omega), ef _ (by omega)]
        exact g4 b hb
    · have hmm : manyN (Ir' 1) l = manyN (Ir 1) l := by unfold manyN; rw [ef _ (by omega)]
      have h8 := many8 ((clR_rec h1).1 l (by omega)).1
      have hroom : roomN (Ir' 1) l (manyN (Ir 1) l) = roomN (Ir 1) l (manyN (Ir 1) l) := by
        unfold roomN
        refine sm_cong fun b hb => ?_
        unfold lenN gapN
        rw [ef _ (by omega), ef _ (by omega), ef _ (by omega)]
      rw [hmm, hroom]
      exact (clR_rec h1).2.2 l hl
  refine REL_now h1 (fun q j hq => rfl) (fun q j hq => hJ q j (by omega) (by omega)) hly hr2 hr10 hr0 ⟨hcl, hs, pcR_fr (fun d => eJ _ _ (by omega) (by omega)) (fun d i hd hi => ?_), fun k hk => ⟨ho k hk, by rw [ef _ (by omega)]; exact (hs0.2.2.2 k hk).2⟩⟩
  rw [hs0.2.2.1 d i hd hi]
  have hp : ∀ k, picN (Ir' 1) k = picN (Ir 1) k := fun k => by
    unfold picN
    rw [ef _ (by omega)]
  simp only [hp]
theorem REL_nowM {I : fx_MI} {J J' : fx_MJ} {Ir Ir' : fx_MI} (h1 : REL I J Ir) (hJ : ∀ q j, q ≠ 9 → (q < 101) → J' q j = recJ I J 2 q j) (hly : lyO (cW I) (cH I) J' 113) (hr : ∀ q j, (q ≠ 1 ∨ j < 288 ∨ 352 ≤ j) → q ≠ 3 → Ir' q j = keepsM Ir q j) (hs : mkR (cW I) (cH I) (cC I) J' 8 (Ir' 1)) (ho : ∀ k, k < 64 → rg (Ir' 1 (288 + k)) (2 ^ (cC I + 1)) ∧ 1 ≤ nv (Ir' 1 (288 + k))) : REL (recI I 2) J' Ir' :=
  REL_nowL h1 hJ hly (fun k hk => by rw [hr 1 k (Or.inr hk) (by omega), keepsM_row]) (fun j => hr 2 j (by omega) (by omega)) (fun j => hr 10 j (by omega) (by omega)) (fun j _ _ _ => hr 0 j (by omega) (by omega)) hs ho
theorem inC_e {I : fx_MI} {J : fx_MJ} {Ir : fx_MI} (h1 : REL I J Ir) (x y : Int32) : inC Ir x y = hasC (cW I) (cH I) x y := by
  obtain ⟨hw, hh, hc, -⟩ := dimC_of h1.1.1.1
  obtain ⟨g1, g2, -⟩ := REL_d h1
  unfold inC hasC
  rw [g1, g2, lit, lit, nI_sub' (by omega), nI_sub' (by omega)]
theorem lb_cell {p : Nat} {i : Nat} (hi : i < 64) : lb (LB (fun j => j == p)) i = decide (i = p) := by
  rw [LB_b _ hi]
  rfl
/-- one cell's marks change -/
theorem REL_cell {I : fx_MI} {J : fx_MJ} {Ir : fx_MI} {x y m : Nat} {a : Int64} (h1 : REL I J Ir) (hx : x < cW I) (hy : y < cH I) (hm1 : 1 ≤ m) (hm : m < 2 ^ (cC I + 1)) (ha : ∀ i, i < 64 → lb a i = decide (i = 8 * y + x)) : REL (recI I 2) (putF (recJ I J 2) 9 a (nI m)) (fx_up (keepsM Ir) 1 (288 + (cW I * y + x)) (nI m)) := by
  have hh := REL_his h1
  obtain ⟨hw, hh2, hc, -⟩ := dimC_of h1.1.1.1
  have hwh := wh_le hw.2 hh2.2
  have hle4 : 2 ^ (cC I + 1) ≤ 2 ^ 4 := Nat.pow_le_pow_right (by omega) (by omega)
  have hin := cell_in hx hy
  have hs0 := h1.2.1.2.1
  have hrm : mkR (cW I) (cH I) (cC I) (recJ I J 2) 8 (Ir 1) := mkR_fr (fun d => recJ_ne (by omega) hh) hs0
  refine REL_nowM h1 (fun q j hq _ => by rw [putF_ne hq]) (REL_ly h1 fun d => by rw [putF_ne (by omega)]; exact recJ_ne (by omega) hh) (fun q j hq _ => up_ne (by omega)) ⟨ly_putm hrm.1 (fun i hi hb => ?_), ck_putm hm (by omega) hrm.2.1, fun k hk => ?_⟩ (fun k hk => ?_)
  · rw [ha i hi] at hb
    have := of_decide_eq_true hb
    omega
  · obtain ⟨hkm, hkd⟩ := k_dm hk
    rw [cu_putm (h := cH I) (by omega) hw.2 hh2.2 hk, ha _ (by omega)]
    by_cases h5 : k = cW I * y + x
    · rw [if_pos (decide_eq_true ((cell_at hw.2 hx hk).mpr h5)), h5, up_eq]
    · rw [if_neg (fun z => h5 ((cell_at hw.2 hx hk).mp (of_decide_eq_true z))), up_ne (by omega), keepsM_row]
      exact hrm.2.2 k hk
  · by_cases h5 : k = cW I * y + x
    · rw [h5, up_eq, nv_nI (by omega)]
      exact ⟨⟨m, hm, rfl⟩, hm1⟩
    · rw [up_ne (by omega), keepsM_row]
      exact (h1.2.1.2.2.2 k hk).1
theorem full1 : ∀ c, c < 4 → nI 1 <<< (nI (c + 1) &&& nI 31) - nI 1 = nI (2 ^ (c + 1) - 1) := by decide +kernel
def p_Out_setMark : fx_Pr := fx_pr [(0, .aload_n 0, 0), (1, .getfield 12, 0), (4, .iload_n 1, 0), (5, .iload_n 2, 0), (6, .invokevirtual 171, 0), (9, .ifCond .eq 18, 27), (12, .iload_n 3, 0), (13, .iconst 1, 0), (14, .aload_n 0, 0), (15, .getfield 12, 0), (18, .invokevirtual 232, 0), (21, .invokestatic 87, 0), (24, .ifCond .ne 6, 30), (27, .bipush (-2), 0), (29, .ireturn, 0), (30, .iload_n 1, 0), (31, .iload_n 2, 0), (32, .invokestatic 210, 0), (35, .lstore 4, 0), (37, .aload_n 0, 0), (38, .getfield 19, 0), (41, .getfield 132, 0), (44, .lload 4, 0), (46, .invokevirtual 235, 0), (49, .istore 6, 0), (51, .aload_n 0, 0), (52, .getfield 26, 0), (55, .aload_n 0, 0), (56, .getfield 19, 0), (59, .invokevirtual 111, 0), (62, .aload_n 0, 0), (63, .getfield 19, 0), (66, .getfield 132, 0), (69, .lload 4, 0), (71, .iload_n 3, 0), (72, .invokevirtual 202, 0), (75, .iload 6, 0), (77, .ireturn, 0)]
theorem pk_Out_setMark : fx_prOK b_Out_setMark p_Out_setMark := fx_pr_ok (by decide +kernel)
theorem q_Out_setMark_0 {nL : Nat} {M : fx_M} {ev : fx_Env} {ret : Option FieldType} {P : fx_P} {stops : List (Nat × Nat)} {K : fx_K} {n : Nat} {L : List (Option Value)} {st : List Value} {I : fx_MI} {J : fx_MJ} {R : fx_MR} {X : Nat → fx_K} (hX : fx_isX nL M ev ret P p_Out_setMark stops K X) (hs : fx_stop stops 0 = none) : X (n + 1) 0 L st I J R = fx_S nL M ev ret P (.aload_n 0) 0 0 L st I J R (X n) := hX.1 _ _ _ _ _ _ _ _ _ rfl hs
theorem q_Out_setMark_1 {nL : Nat} {M : fx_M} {ev : fx_Env} {ret : Option FieldType} {P : fx_P} {stops : List (Nat × Nat)} {K : fx_K} {n : Nat} {L : List (Option Value)} {st : List Value} {I : fx_MI} {J : fx_MJ} {R : fx_MR} {X : Nat → fx_K} (hX : fx_isX nL M ev ret P p_Out_setMark stops K X) (hs : fx_stop stops 1 = none) : X (n + 1) 1 L st I J R = fx_S nL M ev ret P (.getfield 12) 0 1 L st I J R (X n) := hX.1 _ _ _ _ _ _ _ _ _ rfl hs
theorem q_Out_setMark_4 {nL : Nat} {M : fx_M} {ev : fx_Env} {ret : Option FieldType} {P : fx_P} {stops : List (Nat × Nat)} {K : fx_K} {n : Nat} {L : List (Option Value)} {st : List Value} {I : fx_MI} {J : fx_MJ} {R : fx_MR} {X : Nat → fx_K} (hX : fx_isX nL M ev ret P p_Out_setMark stops K X) (hs : fx_stop stops 4 = none) : X (n + 1) 4 L st I J R = fx_S nL M ev ret P (.iload_n 1) 0 4 L st I J R (X n) := hX.1 _ _ _ _ _ _ _ _ _ rfl hs
theorem q_Out_setMark_5 {nL : Nat} {M : fx_M} {ev : fx_Env} {ret : Option FieldType} {P : fx_P} {stops : List (Nat × Nat)} {K : fx_K} {n : Nat} {L : List (Option Value)} {st : List Value} {I : fx_MI} {J : fx_MJ} {R : fx_MR} {X : Nat → fx_K} (hX : fx_isX nL M ev ret P p_Out_setMark stops K X) (hs : fx_stop stops 5 = none) : X (n + 1) 5 L st I J R = fx_S nL M ev ret P (.iload_n 2) 0 5 L st I J R (X n) := hX.1 _ _ _ _ _ _ _ _ _ rfl hs
theorem q_Out_setMark_6 {nL : Nat} {M : fx_M} {ev : fx_Env} {ret : Option FieldType} {P : fx_P} {stops : List (Nat × Nat)} {K : fx_K} {n : Nat} {L : List (Option Value)} {st : List Value} {I : fx_MI} {J : fx_MJ} {R : fx_MR} {X : Nat → fx_K} (hX : fx_isX nL M ev ret P p_Out_setMark stops K X) (hs : fx_stop stops 6 = none) : X (n + 1) 6 L st I J R = fx_S nL M ev ret P (.invokevirtual 171) 0 6 L st I J R (X n) := hX.1 _ _ _ _ _ _ _ _ _ rfl hs
theorem q_Out_setMark_9 {nL : Nat} {M : fx_M} {ev : fx_Env} {ret : Option FieldType} {P : fx_P} {stops : List (Nat × Nat)} {K : fx_K} {n : Nat} {L : List (Option Value)} {st : List Value} {I : fx_MI} {J : fx_MJ} {R : fx_MR} {x : Int32} {X : Nat → fx_K} (hX : fx_isX nL M ev ret P p_Out_setMark stops K X) (hs : fx_stop stops 9 = none) : X (n + 1) 9 L (.int x :: st) I J R = ((x = 0 → X n 27 L st I J R) ∧ (¬ x = 0 → X n 12 L st I J R)) := fx_q_if hX rfl hs rfl
theorem q_Out_setMark_12 {nL : Nat} {M : fx_M} {ev : fx_Env} {ret : Option FieldType} {P : fx_P} {stops : List (Nat × Nat)} {K : fx_K} {n : Nat} {L : List (Option Value)} {st : List Value} {I : fx_MI} {J : fx_MJ} {R : fx_MR} {X : Nat → fx_K} (hX : fx_isX nL M ev ret P p_Out_setMark stops K X) (hs : fx_stop stops 12 = none) : X (n + 1) 12 L st I J R = fx_S nL M ev ret P (.iload_n 3) 0 12 L st I J R (X n) := hX.1 _ _ _ _ _ _ _ _ _ rfl hs
theorem q_Out_setMark_13 {nL : Nat} {M : fx_M} {ev : fx_Env} {ret : Option FieldType} {P : fx_P} {stops : List (Nat × Nat)} {K : fx_K} {n : Nat} {L : List (Option Value)} {st : List Value} {I : fx_MI} {J : fx_MJ} {R : fx_MR} {X : Nat → fx_K} (hX : fx_isX nL M ev ret P p_Out_setMark stops K X) (hs : fx_stop stops 13 = none) : X (n + 1) 13 L st I J R = fx_S nL M ev ret P (.iconst 1) 0 13 L st I J R (X n) := hX.1 _ _ _ _ _ _ _ _ _ rfl hs
theorem q_Out_setMark_14 {nL : Nat} {M : fx_M} {ev : fx_Env} {ret : Option FieldType} {P : fx_P} {stops : List (Nat × Nat)} {K : fx_K} {n : Nat} {L : List (Option Value)} {st : List Value} {I : fx_MI} {J : fx_MJ} {R : fx_MR} {X : Nat → fx_K} (hX : fx_isX nL M ev ret P p_Out_setMark stops K X) (hs : fx_stop stops 14 = none) : X (n + 1) 14 L st I J R = fx_S nL M ev ret P (.aload_n 0) 0 14 L st I J R (X n) := hX.1 _ _ _ _ _ _ _ _ _ rfl hs
theorem q_Out_setMark_15 {nL : Nat} {M : fx_M} {ev : fx_Env} {ret : Option FieldType} {P : fx_P} {stops : List (Nat × Nat)} {K : fx_K} {n : Nat} {L : List (Option Value)} {st : List Value} {I : fx_MI} {J : fx_MJ} {R : fx_MR} {X : Nat → fx_K} (hX : fx_isX nL M ev ret P p_Out_setMark stops K X) (hs : fx_stop stops 15 = none) : X (n + 1) 15 L st I J R = fx_S nL M ev ret P (.getfield 12) 0 15 L st I J R (X n) := hX.1 _ _ _ _ _ _ _ _ _ rfl hs
theorem q_Out_setMark_18 {nL : Nat} {M : fx_M} {ev : fx_Env} {ret : Option FieldType} {P : fx_P} {stops : List (Nat × Nat)} {K : fx_K} {n : Nat} {L : List (Option Value)} {st : List Value} {I : fx_MI} {J : fx_MJ} {R : fx_MR} {X : Nat → fx_K} (hX : fx_isX nL M ev ret P p_Out_setMark stops K X) (hs : fx_stop stops 18 = none) : X (n + 1) 18 L st I J R = fx_S nL M ev ret P (.invokevirtual 232) 0 18 L st I J R (X n) := hX.1 _ _ _ _ _ _ _ _ _ rfl hs
theorem q_Out_setMark_21 {nL : Nat} {M : fx_M} {ev : fx_Env} {ret : Option FieldType} {P : fx_P} {stops : List (Nat × Nat)} {K : fx_K} {n : Nat} {L : List (Option Value)} {st : List Value} {I : fx_MI} {J : fx_MJ} {R : fx_MR} {X : Nat → fx_K} (hX : fx_isX nL M ev ret P p_Out_setMark stops K X) (hs : fx_stop stops 21 = none) : X (n + 1) 21 L st I J R = fx_S nL M ev ret P (.invokestatic 87) 0 21 L st I J R (X n) := hX.1 _ _ _ _ _ _ _ _ _ rfl hs
theorem q_Out_setMark_24 {nL : Nat} {M : fx_M} {ev : fx_Env} {ret : Option FieldType} {P : fx_P} {stops : List (Nat × Nat)} {K : fx_K} {n : Nat} {L : List (Option Value)} {st : List Value} {I : fx_MI} {J : fx_MJ} {R : fx_MR} {x : Int32} {X : Nat → fx_K} (hX : fx_isX nL M ev ret P p_Out_setMark stops K X) (hs : fx_stop stops 24 = none) : X (n + 1) 24 L (.int x :: st) I J R = ((¬ x = 0 → X n 30 L st I J R) ∧ (x = 0 → X n 27 L st I J R)) := fx_q_ifne hX rfl hs rfl
theorem q_Out_setMark_27 {nL : Nat} {M : fx_M} {ev : fx_Env} {ret : Option FieldType} {P : fx_P} {stops : List (Nat × Nat)} {K : fx_K} {n : Nat} {L : List (Option Value)} {st : List Value} {I : fx_MI} {J : fx_MJ} {R : fx_MR} {X : Nat → fx_K} (hX : fx_isX nL M ev ret P p_Out_setMark stops K X) (hs : fx_stop stops 27 = none) : X (n + 1) 27 L st I J R = fx_S nL M ev ret P (.bipush (-2)) 0 27 L st I J R (X n) := hX.1 _ _ _ _ _ _ _ _ _ rfl hs
theorem q_Out_setMark_29 {nL : Nat} {M : fx_M} {ev : fx_Env} {ret : Option FieldType} {P : fx_P} {stops : List (Nat × Nat)} {K : fx_K} {n : Nat} {L : List (Option Value)} {st : List Value} {I : fx_MI} {J : fx_MJ} {R : fx_MR} {X : Nat → fx_K} (hX : fx_isX nL M ev ret P p_Out_setMark stops K X) (hs : fx_stop stops 29 = none) : X (n + 1) 29 L st I J R = fx_S nL M ev ret P (.ireturn) 0 29 L st I J R (X n) := hX.1 _ _ _ _ _ _ _ _ _ rfl hs
theorem q_Out_setMark_30 {nL : Nat} {M : fx_M} {ev : fx_Env} {ret : Option FieldType} {P : fx_P} {stops : List (Nat × Nat)} {K : fx_K} {n : Nat} {L : List (Option Value)} {st : List Value} {I : fx_MI} {J : fx_MJ} {R : fx_MR} {X : Nat → fx_K} (hX : fx_isX nL M ev ret P p_Out_setMark stops K X) (hs : fx_stop stops 30 = none) : X (n + 1) 30 L st I J R = fx_S nL M ev ret P (.iload_n 1) 0 30 L st I J R (X n) := hX.1 _ _ _ _ _ _ _ _ _ rfl hs
theorem q_Out_setMark_31 {nL : Nat} {M : fx_M} {ev : fx_Env} {ret : Option FieldType} {P : fx_P} {stops : List (Nat × Nat)} {K : fx_K} {n : Nat} {L : List (Option Value)} {st : List Value} {I : fx_MI} {J : fx_MJ} {R : fx_MR} {X : Nat → fx_K} (hX : fx_isX nL M ev ret P p_Out_setMark stops K X) (hs : fx_stop stops 31 = none) : X (n + 1) 31 L st I J R = fx_S nL M ev ret P (.iload_n 2) 0 31 L st I J R (X n) := hX.1 _ _ _ _ _ _ _ _ _ rfl hs
theorem q_Out_setMark_32 {nL : Nat} {M : fx_M} {ev : fx_Env} {ret : Option FieldType} {P : fx_P} {stops : List (Nat × Nat)} {K : fx_K} {n : Nat} {L : List (Option Value)} {st : List Value} {I : fx_MI} {J : fx_MJ} {R : fx_MR} {X : Nat → fx_K} (hX : fx_isX nL M ev ret P p_Out_setMark stops K X) (hs : fx_stop stops 32 = none) : X (n + 1) 32 L st I J R = fx_S nL M ev ret P (.invokestatic 210) 0 32 L st I J R (X n) := hX.1 _ _ _ _ _ _ _ _ _ rfl hs
theorem q_Out_setMark_35 {nL : Nat} {M : fx_M} {ev : fx_Env} {ret : Option FieldType} {P : fx_P} {stops : List (Nat × Nat)} {K : fx_K} {n : Nat} {L : List (Option Value)} {st : List Value} {I : fx_MI} {J : fx_MJ} {R : fx_MR} {X : Nat → fx_K} (hX : fx_isX nL M ev ret P p_Out_setMark stops K X) (hs : fx_stop stops 35 = none) : X (n + 1) 35 L st I J R = fx_S nL M ev ret P (.lstore 4) 0 35 L st I J R (X n) := hX.1 _ _ _ _ _ _ _ _ _ rfl hs
theorem q_Out_setMark_37 {nL : Nat} {M : fx_M} {ev : fx_Env} {ret : Option FieldType} {P : fx_P} {stops : List (Nat × Nat)} {K : fx_K} {n : Nat} {L : List (Option Value)} {st : List Value} {I : fx_MI} {J : fx_MJ} {R : fx_MR} {X : Nat → fx_K} (hX : fx_isX nL M ev ret P p_Out_setMark stops K X) (hs : fx_stop stops 37 = none) : X (n + 1) 37 L st I J R = fx_S nL M ev ret P (.aload_n 0) 0 37 L st I J R (X n) := hX.1 _ _ _ _ _ _ _ _ _ rfl hs
theorem q_Out_setMark_38 {nL : Nat} {M : fx_M} {ev : fx_Env} {ret : Option FieldType} {P : fx_P} {stops : List (Nat × Nat)} {K : fx_K} {n : Nat} {L : List (Option Value)} {st : List Value} {I : fx_MI} {J : fx_MJ} {R : fx_MR} {X : Nat → fx_K} (hX : fx_isX nL M ev ret P p_Out_setMark stops K X) (hs : fx_stop stops 38 = none) : X (n + 1) 38 L st I J R = fx_S nL M ev ret P (.getfield 19) 0 38 L st I J R (X n) := hX.1 _ _ _ _ _ _ _ _ _ rfl hs
theorem q_Out_setMark_41 {nL : Nat} {M : fx_M} {ev : fx_Env} {ret : Option FieldType} {P : fx_P} {stops : List (Nat × Nat)} {K : fx_K} {n : Nat} {L : List (Option Value)} {st : List Value} {I : fx_MI} {J : fx_MJ} {R : fx_MR} {X : Nat → fx_K} (hX : fx_isX nL M ev ret P p_Out_setMark stops K X) (hs : fx_stop stops 41 = none) : X (n + 1) 41 L st I J R = fx_S nL M ev ret P (.getfield 132) 0 41 L st I J R (X n) := hX.1 _ _ _ _ _ _ _ _ _ rfl hs
theorem q_Out_setMark_44 {nL : Nat} {M : fx_M} {ev : fx_Env} {ret : Option FieldType} {P : fx_P} {stops : List (Nat × Nat)} {K : fx_K} {n : Nat} {L : List (Option Value)} {st : List Value} {I : fx_MI} {J : fx_MJ} {R : fx_MR} {X : Nat → fx_K} (hX : fx_isX nL M ev ret P p_Out_setMark stops K X) (hs : fx_stop stops 44 = none) : X (n + 1) 44 L st I J R = fx_S nL M ev ret P (.lload 4) 0 44 L st I J R (X n) := hX.1 _ _ _ _ _ _ _ _ _ rfl hs
theorem q_Out_setMark_46 {nL : Nat} {M : fx_M} {ev : fx_Env} {ret : Option FieldType} {P : fx_P} {stops : List (Nat × Nat)} {K : fx_K} {n : Nat} {L : List (Option Value)} {st : List Value} {I : fx_MI} {J : fx_MJ} {R : fx_MR} {X : Nat → fx_K} (hX : fx_isX nL M ev ret P p_Out_setMark stops K X) (hs : fx_stop stops 46 = none) : X (n + 1) 46 L st I J R = fx_S nL M ev ret P (.invokevirtual 235) 0 46 L st I J R (X n) := hX.1 _ _ _ _ _ _ _ _ _ rfl hs
theorem q_Out_setMark_49 {nL : Nat} {M : fx_M} {ev : fx_Env} {ret : Option FieldType} {P : fx_P} {stops : List (Nat × Nat)} {K : fx_K} {n : Nat} {L : List (Option Value)} {st : List Value} {I : fx_MI} {J : fx_MJ} {R : fx_MR} {X : Nat → fx_K} (hX : fx_isX nL M ev ret P p_Out_setMark stops K X) (hs : fx_stop stops 49 = none) : X (n + 1) 49 L st I J R = fx_S nL M ev ret P (.istore 6) 0 49 L st I J R (X n) := hX.1 _ _ _ _ _ _ _ _ _ rfl hs
theorem q_Out_setMark_51 {nL : Nat} {M : fx_M} {ev : fx_Env} {ret : Option FieldType} {P : fx_P} {stops : List (Nat × Nat)} {K : fx_K} {n : Nat} {L : List (Option Value)} {st : List Value} {I : fx_MI} {J : fx_MJ} {R : fx_MR} {X : Nat → fx_K} (hX : fx_isX nL M ev ret P p_Out_setMark stops K X) (hs : fx_stop stops 51 = none) : X (n + 1) 51 L st I J R = fx_S nL M ev ret P (.aload_n 0) 0 51 L st I J R (X n) := hX.1 _ _ _ _ _ _ _ _ _ rfl hs
theorem q_Out_setMark_52 {nL : Nat} {M : fx_M} {ev : fx_Env} {ret : Option FieldType} {P : fx_P} {stops : List (Nat × Nat)} {K : fx_K} {n : Nat} {L : List (Option Value)} {st : List Value} {I : fx_MI} {J : fx_MJ} {R : fx_MR} {X : Nat → fx_K} (hX : fx_isX nL M ev ret P p_Out_setMark stops K X) (hs : fx_stop stops 52 = none) : X (n + 1) 52 L st I J R = fx_S nL M ev ret P (.getfield 26) 0 52 L st I J R (X n) := hX.1 _ _ _ _ _ _ _ _ _ rfl hs
theorem q_Out_setMark_55 {nL : Nat} {M : fx_M} {ev : fx_Env} {ret : Option FieldType} {P : fx_P} {stops : List (Nat × Nat)} {K : fx_K} {n : Nat} {L : List (Option Value)} {st : List Value} {I : fx_MI} {J : fx_MJ} {R : fx_MR} {X : Nat → fx_K} (hX : fx_isX nL M ev ret P p_Out_setMark stops K X) (hs : fx_stop stops 55 = none) : X (n + 1) 55 L st I J R = fx_S nL M ev ret P (.aload_n 0) 0 55 L st I J R (X n) := hX.1 _ _ _ _ _ _ _ _ _ rfl hs
theorem q_Out_setMark_56 {nL : Nat} {M : fx_M} {ev : fx_Env} {ret : Option FieldType} {P : fx_P} {stops : List (Nat × Nat)} {K : fx_K} {n : Nat} {L : List (Option Value)} {st : List Value} {I : fx_MI} {J : fx_MJ} {R : fx_MR} {X : Nat → fx_K} (hX : fx_isX nL M ev ret P p_Out_setMark stops K X) (hs : fx_stop stops 56 = none) : X (n + 1) 56 L st I J R = fx_S nL M ev ret P (.getfield 19) 0 56 L st I J R (X n) := hX.1 _ _ _ _ _ _ _ _ _ rfl hs
theorem q_Out_setMark_59 {nL : Nat} {M : fx_M} {ev : fx_Env} {ret : Option FieldType} {P : fx_P} {stops : List (Nat × Nat)} {K : fx_K} {n : Nat} {L : List (Option Value)} {st : List Value} {I : fx_MI} {J : fx_MJ} {R : fx_MR} {X : Nat → fx_K} (hX : fx_isX nL M ev ret P p_Out_setMark stops K X) (hs : fx_stop stops 59 = none) : X (n + 1) 59 L st I J R = fx_S nL M ev ret P (.invokevirtual 111) 0 59 L st I J R (X n) := hX.1 _ _ _ _ _ _ _ _ _ rfl hs
theorem q_Out_setMark_62 {nL : Nat} {M : fx_M} {ev : fx_Env} {ret : Option FieldType} {P : fx_P} {stops : List (Nat × Nat)} {K : fx_K} {n : Nat} {L : List (Option Value)} {st : List Value} {I : fx_MI} {J : fx_MJ} {R : fx_MR} {X : Nat → fx_K} (hX : fx_isX nL M ev ret P p_Out_setMark stops K X) (hs : fx_stop stops 62 = none) : X (n + 1) 62 L st I J R = fx_S nL M ev ret P (.aload_n 0) 0 62 L st I J R (X n) := hX.1 _ _ _ _ _ _ _ _ _ rfl hs
theorem q_Out_setMark_63 {nL : Nat} {M : fx_M} {ev : fx_Env} {ret : Option FieldType} {P : fx_P} {stops : List (Nat × Nat)} {K : fx_K} {n : Nat} {L : List (Option Value)} {st : List Value} {I : fx_MI} {J : fx_MJ} {R : fx_MR} {X : Nat → fx_K} (hX : fx_isX nL M ev ret P p_Out_setMark stops K X) (hs : fx_stop stops 63 = none) : X (n + 1) 63 L st I J R = fx_S nL M ev ret P (.getfield 19) 0 63 L st I J R (X n) := hX.1 _ _ _ _ _ _ _ _ _ rfl hs
theorem q_Out_setMark_66 {nL : Nat} {M : fx_M} {ev : fx_Env} {ret : Option FieldType} {P : fx_P} {stops : List (Nat × Nat)} {K : fx_K} {n : Nat} {L : List (Option Value)} {st : List Value} {I : fx_MI} {J : fx_MJ} {R : fx_MR} {X : Nat → fx_K} (hX : fx_isX nL M ev ret P p_Out_setMark stops K X) (hs : fx_stop stops 66 = none) : X (n + 1) 66 L st I J R = fx_S nL M ev ret P (.getfield 132) 0 66 L st I J R (X n) := hX.1 _ _ _ _ _ _ _ _ _ rfl hs
theorem q_Out_setMark_69 {nL : Nat} {M : fx_M} {ev : fx_Env} {ret : Option FieldType} {P : fx_P} {stops : List (Nat × Nat)} {K : fx_K} {n : Nat} {L : List (Option Value)} {st : List Value} {I : fx_MI} {J : fx_MJ} {R : fx_MR} {X : Nat → fx_K} (hX : fx_isX nL M ev ret P p_Out_setMark stops K X) (hs : fx_stop stops 69 = none) : X (n + 1) 69 L st I J R = fx_S nL M ev ret P (.lload 4) 0 69 L st I J R (X n) := hX.1 _ _ _ _ _ _ _ _ _ rfl hs
theorem q_Out_setMark_71 {nL : Nat} {M : fx_M} {ev : fx_Env} {ret : Option FieldType} {P : fx_P} {stops : List (Nat × Nat)} {K : fx_K} {n : Nat} {L : List (Option Value)} {st : List Value} {I : fx_MI} {J : fx_MJ} {R : fx_MR} {X : Nat → fx_K} (hX : fx_isX nL M ev ret P p_Out_setMark stops K X) (hs : fx_stop stops 71 = none) : X (n + 1) 71 L st I J R = fx_S nL M ev ret P (.iload_n 3) 0 71 L st I J R (X n) := hX.1 _ _ _ _ _ _ _ _ _ rfl hs
theorem q_Out_setMark_72 {nL : Nat} {M : fx_M} {ev : fx_Env} {ret : Option FieldType} {P : fx_P} {stops : List (Nat × Nat)} {K : fx_K} {n : Nat} {L : List (Option Value)} {st : List Value} {I : fx_MI} {J : fx_MJ} {R : fx_MR} {X : Nat → fx_K} (hX : fx_isX nL M ev ret P p_Out_setMark stops K X) (hs : fx_stop stops 72 = none) : X (n + 1) 72 L st I J R = fx_S nL M ev ret P (.invokevirtual 202) 0 72 L st I J R (X n) := hX.1 _ _ _ _ _ _ _ _ _ rfl hs
theorem q_Out_setMark_75 {nL : Nat} {M : fx_M} {ev : fx_Env} {ret : Option FieldType} {P : fx_P} {stops : List (Nat × Nat)} {K : fx_K} {n : Nat} {L : List (Option Value)} {st : List Value} {I : fx_MI} {J : fx_MJ} {R : fx_MR} {X : Nat → fx_K} (hX : fx_isX nL M ev ret P p_Out_setMark stops K X) (hs : fx_stop stops 75 = none) : X (n + 1) 75 L st I J R = fx_S nL M ev ret P (.iload 6) 0 75 L st I J R (X n) := hX.1 _ _ _ _ _ _ _ _ _ rfl hs
theorem q_Out_setMark_77 {nL : Nat} {M : fx_M} {ev : fx_Env} {ret : Option FieldType} {P : fx_P} {stops : List (Nat × Nat)} {K : fx_K} {n : Nat} {L : List (Option Value)} {st : List Value} {I : fx_MI} {J : fx_MJ} {R : fx_MR} {X : Nat → fx_K} (hX : fx_isX nL M ev ret P p_Out_setMark stops K X) (hs : fx_stop stops 77 = none) : X (n + 1) 77 L st I J R = fx_S nL M ev ret P (.ireturn) 0 77 L st I J R (X n) := hX.1 _ _ _ _ _ _ _ _ _ rfl hs
def pre_Out_setMark (n : Nat) : fx_Pre := fun st I J R => (∃ b, R = R0C b) ∧ (match st with
  | [.ref 0, .int v, .int w, .int y] => relE I J
  | _ => False)
theorem pi_Out_setMark {n : Nat} {st : List Value} {I : fx_MI} {J : fx_MJ} {R : fx_MR} (h : pre_Out_setMark n st I J R) : (∃ b, R = R0C b) ∧ ∃ v, ∃ w, ∃ y, st = [.ref 0, .int v, .int w, .int y] ∧ (relE I J) := by
  unfold pre_Out_setMark at h
  obtain ⟨h0, h⟩ := h
  split at h
  · exact ⟨h0, _, _, _, rfl, h⟩
  · cases h
def post_Out_setMark (n : Nat) : fx_Post := fun st I J R r I' J' R' => match st with
  | [_, .int v, .int w, .int y] => simP (post_M_setMark [.ref 0, .int v, .int w, .int y]) I J r I' J' R'
  | _ => True
theorem pz_Out_setMark {st : List Value} {I : fx_MI} {J : fx_MJ} {R : fx_MR} (n : Nat) (h : pre_Out_setMark n st I J R) : ∃ q r, st = .ref q :: r ∧ (MC n).2.2.1 q = some (.inl 0) ∧ r.length = 3 := by
  obtain ⟨_, _, _, _, rfl, _⟩ := pi_Out_setMark h
  exact ⟨_, _, rfl, rfl, rfl⟩
def v_Out_setMark (n : Nat) : fx_Env := [(.getfield 12, fx_tget (MC n) 0 0), (.invokevirtual 171, fx_tcall 3 (pre_Grid_hasCell n) (post_Grid_hasCell n)), (.invokevirtual 232, fx_tcall 1 (pre_Grid_fullMark n) (post_Grid_fullMark n)), (.invokestatic 87, fx_tcall 3 (pre_Out_isWithin n) (post_Out_isWithin n)), (.invokestatic 210, fx_tcall 2 (pre_Grid_cell n) (post_Grid_cell n)), (.getfield 19, fx_tget (MC n) 0 1), (.getfield 132, fx_tget (MC n) 2 1), (.invokevirtual 235, fx_tcall 2 (pre_Layer_colorsAt n) (post_Layer_colorsAt n)), (.getfield 26, fx_tget (MC n) 0 2), (.invokevirtual 111, fx_tcall 2 (pre_History_record n) (post_History_record n)), (.invokevirtual 202, fx_tcall 3 (pre_Layer_put n) (post_Layer_put n))]
abbrev rm_Out_setMark : Room := { frames := 4, cells := 0, slots := 0, locals := 123 }
abbrev ws_Out_setMark : List Cond := Cond.code y_Out_setMark b_Out_setMark 7 (some .int) :: w_C
theorem vk_Out_setMark {l : Launch} {n : Nat} : fx_EV l R_Out ws_Out_setMark rm_Out_setMark (MC n) 7 b_Out_setMark (v_Out_setMark n) := (fx_EV_cons e_Out_g12 (fx_EV_cons (e_Out_c171 (by decide)) (fx_EV_cons (e_Out_c232 (by decide)) (fx_EV_cons (e_Out_c87 (by decide)) (fx_EV_cons (e_Out_c210 (by decide)) (fx_EV_cons e_Out_g19 (fx_EV_cons e_Out_g132 (fx_EV_cons (e_Out_c235 (by decide)) (fx_EV_cons e_Out_g26 (fx_EV_cons (e_Out_c111 (by decide)) (fx_EV_cons (e_Out_c202 (by decide)) fx_EV_nil)))))))))))
theorem r_Out_setMark (n : Nat) (st : List Value) (I : fx_MI) (J : fx_MJ) (R : fx_MR) (h : pre_Out_setMark n st I J R) : fx_sz st ≤ 7 ∧ fx_R 7 (MC n) (v_Out_setMark n) (some .int) (post_Out_setMark n st I J R) p_Out_setMark 0 (fx_en st) [] I J R := by
  obtain ⟨⟨b, rfl⟩, v, w, y, rfl, hp⟩ := pi_Out_setMark h
  clear h
  refine ⟨Nat.le_of_ble_eq_true rfl, ?_⟩
  obtain ⟨Ir0, hr0⟩ := hp
  have hh := REL_his hr0
  obtain ⟨hw, hh2, hc, e0, e1, e2⟩ := dimC_of hr0.1.1.1
  have hle4 : 2 ^ (cC I + 1) ≤ 2 ^ 4 := Nat.pow_le_pow_right (by omega) (by omega)
  have hge : 1 ≤ 2 ^ (cC I + 1) := Nat.one_le_two_pow
  have hno : (hasC (cW I) (cH I) v w && in_M y (nI 1) (nI (2 ^ (cC I + 1) - 1))) = false → post_Out_setMark n [.ref 0, .int v, .int w, .int y] I J (R0C b) (some (.int (-nI 2))) I J (R0C b) := fun z => by
    refine ⟨⟨b, rfl⟩, fun Ir hr Jr r2 Ir2 Jr2 Rr2 hq => ?_⟩
    obtain ⟨⟨f1, f2, f3⟩, -⟩ := REL_ref hr
    obtain ⟨rfl, rfl, ⟨h1, rfl, rfl⟩ | ⟨a, d, k, k1, k2, k3, k4, rfl, rfl, rfl, -⟩⟩ := hq
    · exact ⟨rfl, rfl, hr⟩
    · rw [f1] at k1
      rw [f2] at k2
      rw [f3] at k4
      unfold hasC at z
      rw [in_k (by omega) (by omega) (by omega), in_k (by omega) (by omega) (by omega), in_k (by omega) (by omega) (by omega), decide_eq_true (by omega), decide_eq_true (by omega), decide_eq_true (by omega), decide_eq_true (by omega), decide_eq_true (by omega), decide_eq_true (by omega)] at z
      exact absurd z (by decide)
  have efull := full1 (cC I) (by omega)
  refine fx_run0 120 fun X hX => ?_
  simp only [q_Out_setMark_0 hX rfl, q_Out_setMark_1 hX rfl, q_Out_setMark_4 hX rfl, q_Out_setMark_5 hX rfl, q_Out_setMark_6 hX rfl, q_Out_setMark_9 hX rfl, q_Out_setMark_12 hX rfl, q_Out_setMark_13 hX rfl, q_Out_setMark_14 hX rfl, q_Out_setMark_15 hX rfl, q_Out_setMark_18 hX rfl, q_Out_setMark_21 hX rfl, q_Out_setMark_24 hX rfl, q_Out_setMark_27 hX rfl, q_Out_setMark_29 hX rfl, q_Out_setMark_30 hX rfl, q_Out_setMark_31 hX rfl, q_Out_setMark_32 hX rfl, q_Out_setMark_35 hX rfl, q_Out_setMark_37 hX rfl, q_Out_setMark_38 hX rfl, q_Out_setMark_41 hX rfl, q_Out_setMark_44 hX rfl, q_Out_setMark_46 hX rfl, q_Out_setMark_49 hX rfl, q_Out_setMark_51 hX rfl, q_Out_setMark_52 hX rfl, q_Out_setMark_55 hX rfl, q_Out_setMark_56 hX rfl, q_Out_setMark_59 hX rfl, q_Out_setMark_62 hX rfl, q_Out_setMark_63 hX rfl, q_Out_setMark_66 hX rfl, q_Out_setMark_69 hX rfl, q_Out_setMark_71 hX rfl, q_Out_setMark_72 hX rfl, q_Out_setMark_75 hX rfl, q_Out_setMark_77 hX rfl, fs_aload_n0, fs_aload_n1, fs_aload_n2, fs_aload_n3, fs_bipush, fs_getfield, fs_iconst, fs_ifCond, fs_iload, fs_iload_n0, fs_iload_n1, fs_iload_n2, fs_iload_n3, fs_invokestatic, fs_invokevirtual, fs_ireturn, fs_istore, fs_lload, fs_lstore, v_Out_setMark, ci_1, cb_m2, lt_5_7, lt_6_7, pre_Grid_hasCell, post_Grid_hasCell, pre_Grid_fullMark, post_Grid_fullMark, pre_Out_isWithin, post_Out_isWithin, pre_Grid_cell, post_Grid_cell, pre_Layer_colorsAt, post_Layer_colorsAt, pre_History_record, post_History_record, pre_Layer_put, post_Layer_put, kd_C_0_0, pl_C_0, R0C_0_0, pl_C_1, kd_C_0_1, R0C_0_1, pl_C_2, kd_C_2_1, R0C_2_1, pl_C_8, kd_C_0_2, R0C_0_2, pl_C_12, fx_oi_s, fx_ol_s, fx_or_s, fx_do_s, fx_lg_0, fx_lg_s, fx_ls_0, fx_ls_s, fx_ls_n0, fx_ls_ns, fx_en, fx_sz, Value.category, fx_nl, fx_lk, fx_tget, fx_tput, fx_tcall, fx_tldc, fx_fv, va_rf, fx_cat, fx_in, fx_cnd, fx_len, fx_narI, fx_narZ0, fx_narZ1, fx_narZb, zb_e, zb_ne, Option.some.injEq, Value.int.injEq, Value.long.injEq, Value.ref.injEq, List.cons.injEq, Nat.reduceAdd, Nat.reduceLeDiff, Nat.le_refl, List.take, List.drop, List.reverse_cons, List.reverse_nil, List.nil_append, List.cons_append, List.append_nil, List.map_cons, List.map_nil, List.sum_cons, List.sum_nil, List.length_cons, List.length_nil, Option.toList, fx_all4, forall_const, true_and, and_true, not_true_eq_false, not_false_eq_true, false_implies, true_implies, ne_eq, reduceCtorEq, Nat.reduceEqDiff, ite_true, ite_false, reduceIte, Instr.getfield.injEq, Instr.putfield.injEq, Instr.invokevirtual.injEq, Instr.invokestatic.injEq, Instr.ldc2_w.injEq, fx_tcopy, Instr.ldc.injEq, Instr.ldc_w.injEq, exists_eq_left, exists_prop, R0C_ex]
  simp (disch := omega) only [lit, nI_add, nI_mul', nI_sub', nI_clamp, nI_lt', nI_le', nI_eq', nI_in', iinc1, zb_n0, nI_div', nI_rem2, true_and, and_true, Nat.reduceEqDiff, Nat.reduceLeDiff, Nat.one_ne_zero, Nat.zero_ne_one, not_false_eq_true, not_true_eq_false, false_implies, true_implies, forall_const, Nat.zero_add, Nat.add_zero, nv_nI, up_eq, up_ne, fill_ne, nI_clamp, nI_add, e0, e1, e2, efull]
  refine ⟨fun z => hno (by rw [show hasC (cW I) (cH I) v w = false from z, Bool.false_and]), fun h1 => ⟨fun h2 => ?_, fun z => hno (by rw [z, Bool.and_false])⟩⟩
  obtain ⟨x1, y1, hx, hy, rfl, rfl⟩ := hasC_t hw hh2 (bnf h1)
  obtain ⟨m, hm1, hm2, rfl⟩ := in_t (by omega) (by omega) (bnf h2)
  rw [nv_nI (by omega), nv_nI (by omega)]
  have h64 : 8 * y1 + x1 < 64 := by omega
  refine ⟨⟨x1, y1, by omega, by omega, rfl, rfl⟩, rfl, ⟨rfl, hh⟩, rfl, ⟨b, rfl⟩, fun Ir hr Jr r2 Ir2 Jr2 Rr2 hq => ?_⟩
  obtain ⟨⟨f1, f2, f3⟩, -⟩ := REL_ref hr
  obtain ⟨rfl, rfl, ⟨k1, -⟩ | ⟨a, d, k, k1, k2, k3, k4, k5, k6, k7, rfl, rfl⟩⟩ := hq
  · rw [inC_e hr, f3, show hasC (cW I) (cH I) (nI x1) (nI y1) = true from bnf h1, show in_M (nI m) 1 (nI (2 ^ (cC I + 1) - 1)) = true from bnf h2] at k1
    exact absurd k1 (by decide)
  · rw [f1] at k1
    rw [f2] at k2
    rw [f3] at k4
    have q1 := congrArg nv k5
    have q2 := congrArg nv k6
    have q3 := congrArg nv k7
    rw [nv_nI (by omega), nv_nI (by omega)] at q1 q2 q3
    subst q1 q2 q3
    rw [f1]
    refine ⟨rfl, ?_, REL_cell hr hx hy (by omega) (by omega) fun i hi => lb_cell hi⟩
    have hval : mskF 4 (colF J 9 (LB fun i => i == 8 * y1 + x1)) = cu (cW I) J 8 (cW I * y1 + x1) := by
      rw [← cell_eq hr.1.1.1 hx 8]
      exact mskF_c fun c _ => colF_LB h64
    rw [hval, hr.2.1.2.1.2.2 _ (cell_in hx hy)]
theorem c_Out_setMark (l : Launch) (n : Nat) : fx_Met l y_Out_setMark ws_Out_setMark rm_Out_setMark (MC n) (pre_Out_setMark n) (post_Out_setMark n) := fx_met (MC_ok n) (MC_tys n) (by decide) rfl pk_Out_setMark vk_Out_setMark (fun st I J R h => r_Out_setMark n st I J R h)
