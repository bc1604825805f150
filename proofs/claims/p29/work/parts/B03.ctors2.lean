/-! constructors, by an own text program (own work) -/
set_option maxRecDepth 100000 in
set_option maxHeartbeats 4000000 in
theorem k_Fillings_init (l : Launch) : kMet l y_Fillings_init (Cond.code y_Fillings_init b_Fillings_init 3 none :: w_C) { frames := 1, cells := 10, slots := 76, locals := 12 } 101 11 [1, 3] 10 76 := by
  refine kmet (nL := 3) (by decide) rfl rfl (by decide) ?_
  intro p e s m args below meth c D cA al0 A ls hC hP hD hl
  have hl : lv_has ls 3 [(0, .ref (al0 101)), (1, .ref (al0 1)), (2, .ref (al0 3))] := hl
  have hS : va_S A s.heap s.heap [] := va_S.rf
  obtain ⟨hx, hb, hml, hown, hts, hret, hlocks, hN⟩ := id hC.1
  rw [mkS_0] at hP hD
  have ho0 : ∀ q, q ≤ 101 ∨ 101 + 11 ≤ q → al0 q = al0 q := fun _ _ => rfl
  refine lv_aload_n hx hb (show decode b_Fillings_init 0 = .ok (.aload_n 0, 1) by decide +kernel) rfl (lv_at hl 0 rfl) ?_
  refine W.objInit hx hb hown (hts _ (List.mem_cons_of_mem _ (w_C_h0 47 rfl))) (hts _ (List.mem_cons_of_mem _ (w_C_h0 2 rfl))) (hts _ (List.mem_cons_of_mem _ (w_C_h0 3 rfl))) rfl (by rw [hml]; exact hl.1) rfl (show decode b_Fillings_init 1 = .ok (.invokespecial 3, 3) by decide +kernel) (Nat.le_of_ble_eq_true rfl) (Nat.le_of_ble_eq_true rfl) ?_
  refine W.eq (g2 := F0 m 4 ls []) rfl ?_
  refine lv_aload_n hx hb (show decode b_Fillings_init 4 = .ok (.aload_n 0, 1) by decide +kernel) rfl (lv_at hl 0 rfl) ?_
  refine lv_iconst (v := 4) hx hb (show decode b_Fillings_init 5 = .ok (.iconst 4, 1) by decide +kernel) (by decide) ?_
  refine k_arr (k := 1) (t := 0) (n := 4) (ty := .int) (mk := mkS 101 [] 1) (mk' := mkS 101 [] 2) hC hP hD hS (List.mem_cons_of_mem _ (w_C_h0 4 rfl)) rfl (Or.inl ⟨rfl, rfl⟩) clo_0 rfl (mkS_up (Nat.le_refl _) (by decide)) (no_of (by decide +kernel)) rfl (by decide) (Nat.le_of_ble_eq_true rfl) (Nat.le_of_ble_eq_true rfl) (show decode b_Fillings_init 6 = .ok (.newarray .int, 2) by decide +kernel) (fun hh H hP hD hS => ?_)
  obtain ⟨al1, ha1⟩ : ∃ z, z = exA al0 (101 + 1) hh := ⟨_, rfl⟩
  rw [← ha1] at hP hD
  have ho1 : ∀ q, q ≤ 101 ∨ 101 + 11 ≤ q → al1 q = al0 q := by rw [ha1]; exact exA_out (by decide) (by decide) ho0
  have eh : al1 (101 + 1) = hh := by rw [ha1]; exact if_pos rfl
  clear ha1
  refine k_putF (k := 2) (j := 5) (x := 102) (mk := mkS 101 [] 2) (mk' := mkS 101 [5] 2) hC hP hD hS eh (ho1 101 (Or.inl (Nat.le_refl _))) rfl rfl (fun w hw => List.mem_cons_of_mem _ (w_C_lay_Fillings w hw)) ty_Fillings tyok_Fillings nm_Fillings (by decide) (List.mem_cons_of_mem _ (w_C_h0 48 rfl)) rfl rfl rfl rfl (fun _ => rfl) (fun _ => rfl) (by decide) (mkS_hx rfl) mkS_ho mkS_hk (show decode b_Fillings_init 8 = .ok (.putfield 9, 3) by decide +kernel) (fun H locs hP hD hS => ?_)
  refine lv_aload_n hx hb (show decode b_Fillings_init 11 = .ok (.aload_n 0, 1) by decide +kernel) rfl (lv_at hl 0 rfl) ?_
  refine lv_bipush (v := 8) hx hb (show decode b_Fillings_init 12 = .ok (.bipush 8, 2) by decide +kernel) (by decide) ?_
  refine k_arr (k := 2) (t := 0) (n := 8) (ty := .int) (mk := mkS 101 [5] 2) (mk' := mkS 101 [5] 3) hC hP hD hS (List.mem_cons_of_mem _ (w_C_h0 4 rfl)) rfl (Or.inl ⟨rfl, rfl⟩) (clo_b (by decide +kernel)) rfl (mkS_up (Nat.le_refl _) (by decide)) (no_of (by decide +kernel)) rfl (by decide) (Nat.le_of_ble_eq_true rfl) (Nat.le_of_ble_eq_true rfl) (show decode b_Fillings_init 14 = .ok (.newarray .int, 2) by decide +kernel) (fun hh H hP hD hS => ?_)
  obtain ⟨al2, ha2⟩ : ∃ z, z = exA al1 (101 + 2) hh := ⟨_, rfl⟩
  rw [← ha2] at hP hD
  have ho2 : ∀ q, q ≤ 101 ∨ 101 + 11 ≤ q → al2 q = al0 q := by rw [ha2]; exact exA_out (by decide) (by decide) ho1
  have eh : al2 (101 + 2) = hh := by rw [ha2]; exact if_pos rfl
  clear ha2
  refine k_putF (k := 3) (j := 6) (x := 103) (mk := mkS 101 [5] 3) (mk' := mkS 101 [6, 5] 3) hC hP hD hS eh (ho2 101 (Or.inl (Nat.le_refl _))) rfl rfl (fun w hw => List.mem_cons_of_mem _ (w_C_lay_Fillings w hw)) ty_Fillings tyok_Fillings nm_Fillings (by decide) (List.mem_cons_of_mem _ (w_C_h0 49 rfl)) rfl rfl rfl rfl (fun _ => rfl) (fun _ => rfl) (by decide) (mkS_hx rfl) mkS_ho mkS_hk (show decode b_Fillings_init 16 = .ok (.putfield 15, 3) by decide +kernel) (fun H locs hP hD hS => ?_)
  refine lv_aload_n hx hb (show decode b_Fillings_init 19 = .ok (.aload_n 0, 1) by decide +kernel) rfl (lv_at hl 0 rfl) ?_
  refine lv_bipush (v := 8) hx hb (show decode b_Fillings_init 20 = .ok (.bipush 8, 2) by decide +kernel) (by decide) ?_
  refine k_arr (k := 3) (t := 0) (n := 8) (ty := .int) (mk := mkS 101 [6, 5] 3) (mk' := mkS 101 [6, 5] 4) hC hP hD hS (List.mem_cons_of_mem _ (w_C_h0 4 rfl)) rfl (Or.inl ⟨rfl, rfl⟩) (clo_b (by decide +kernel)) rfl (mkS_up (Nat.le_refl _) (by decide)) (no_of (by decide +kernel)) rfl (by decide) (Nat.le_of_ble_eq_true rfl) (Nat.le_of_ble_eq_true rfl) (show decode b_Fillings_init 22 = .ok (.newarray .int, 2) by decide +kernel) (fun hh H hP hD hS => ?_)
  obtain ⟨al3, ha3⟩ : ∃ z, z = exA al2 (101 + 3) hh := ⟨_, rfl⟩
  rw [← ha3] at hP hD
  have ho3 : ∀ q, q ≤ 101 ∨ 101 + 11 ≤ q → al3 q = al0 q := by rw [ha3]; exact exA_out (by decide) (by decide) ho2
  have eh : al3 (101 + 3) = hh := by rw [ha3]; exact if_pos rfl
  clear ha3
  refine k_putF (k := 4) (j := 7) (x := 104) (mk := mkS 101 [6, 5] 4) (mk' := mkS 101 [7, 6, 5] 4) hC hP hD hS eh (ho3 101 (Or.inl (Nat.le_refl _))) rfl rfl (fun w hw => List.mem_cons_of_mem _ (w_C_lay_Fillings w hw)) ty_Fillings tyok_Fillings nm_Fillings (by decide) (List.mem_cons_of_mem _ (w_C_h0 50 rfl)) rfl rfl rfl rfl (fun _ => rfl) (fun _ => rfl) (by decide) (mkS_hx rfl) mkS_ho mkS_hk (show decode b_Fillings_init 24 = .ok (.putfield 18, 3) by decide +kernel) (fun H locs hP hD hS => ?_)
  refine lv_aload_n hx hb (show decode b_Fillings_init 27 = .ok (.aload_n 0, 1) by decide +kernel) rfl (lv_at hl 0 rfl) ?_
  refine lv_bipush (v := 8) hx hb (show decode b_Fillings_init 28 = .ok (.bipush 8, 2) by decide +kernel) (by decide) ?_
  refine k_arr (k := 4) (t := 0) (n := 8) (ty := .int) (mk := mkS 101 [7, 6, 5] 4) (mk' := mkS 101 [7, 6, 5] 5) hC hP hD hS (List.mem_cons_of_mem _ (w_C_h0 4 rfl)) rfl (Or.inl ⟨rfl, rfl⟩) (clo_b (by decide +kernel)) rfl (mkS_up (Nat.le_refl _) (by decide)) (no_of (by decide +kernel)) rfl (by decide) (Nat.le_of_ble_eq_true rfl) (Nat.le_of_ble_eq_true rfl) (show decode b_Fillings_init 30 = .ok (.newarray .int, 2) by decide +kernel) (fun hh H hP hD hS => ?_)
  obtain ⟨al4, ha4⟩ : ∃ z, z = exA al3 (101 + 4) hh := ⟨_, rfl⟩
  rw [← ha4] at hP hD
  have ho4 : ∀ q, q ≤ 101 ∨ 101 + 11 ≤ q → al4 q = al0 q := by rw [ha4]; exact exA_out (by decide) (by decide) ho3
  have eh : al4 (101 + 4) = hh := by rw [ha4]; exact if_pos rfl
  clear ha4
  refine k_putF (k := 5) (j := 8) (x := 105) (mk := mkS 101 [7, 6, 5] 5) (mk' := mkS 101 [8, 7, 6, 5] 5) hC hP hD hS eh (ho4 101 (Or.inl (Nat.le_refl _))) rfl rfl (fun w hw => List.mem_cons_of_mem _ (w_C_lay_Fillings w hw)) ty_Fillings tyok_Fillings nm_Fillings (by decide) (List.mem_cons_of_mem _ (w_C_h0 51 rfl)) rfl rfl rfl rfl (fun _ => rfl) (fun _ => rfl) (by decide) (mkS_hx rfl) mkS_ho mkS_hk (show decode b_Fillings_init 32 = .ok (.putfield 21, 3) by decide +kernel) (fun H locs hP hD hS => ?_)
  refine lv_aload_n hx hb (show decode b_Fillings_init 35 = .ok (.aload_n 0, 1) by decide +kernel) rfl (lv_at hl 0 rfl) ?_
  refine lv_bipush (v := 9) hx hb (show decode b_Fillings_init 36 = .ok (.bipush 9, 2) by decide +kernel) (by decide) ?_
  refine k_arr (k := 5) (t := 0) (n := 9) (ty := .int) (mk := mkS 101 [8, 7, 6, 5] 5) (mk' := mkS 101 [8, 7, 6, 5] 6) hC hP hD hS (List.mem_cons_of_mem _ (w_C_h0 4 rfl)) rfl (Or.inl ⟨rfl, rfl⟩) (clo_b (by decide +kernel)) rfl (mkS_up (Nat.le_refl _) (by decide)) (no_of (by decide +kernel)) rfl (by decide) (Nat.le_of_ble_eq_true rfl) (Nat.le_of_ble_eq_true rfl) (show decode b_Fillings_init 38 = .ok (.newarray .int, 2) by decide +kernel) (fun hh H hP hD hS => ?_)
  obtain ⟨al5, ha5⟩ : ∃ z, z = exA al4 (101 + 5) hh := ⟨_, rfl⟩
  rw [← ha5] at hP hD
  have ho5 : ∀ q, q ≤ 101 ∨ 101 + 11 ≤ q → al5 q = al0 q := by rw [ha5]; exact exA_out (by decide) (by decide) ho4
  have eh : al5 (101 + 5) = hh := by rw [ha5]; exact if_pos rfl
  clear ha5
  refine k_putF (k := 6) (j := 9) (x := 106) (mk := mkS 101 [8, 7, 6, 5] 6) (mk' := mkS 101 [9, 8, 7, 6, 5] 6) hC hP hD hS eh (ho5 101 (Or.inl (Nat.le_refl _))) rfl rfl (fun w hw => List.mem_cons_of_mem _ (w_C_lay_Fillings w hw)) ty_Fillings tyok_Fillings nm_Fillings (by decide) (List.mem_cons_of_mem _ (w_C_h0 52 rfl)) rfl rfl rfl rfl (fun _ => rfl) (fun _ => rfl) (by decide) (mkS_hx rfl) mkS_ho mkS_hk (show decode b_Fillings_init 40 = .ok (.putfield 24, 3) by decide +kernel) (fun H locs hP hD hS => ?_)
  refine lv_aload_n hx hb (show decode b_Fillings_init 43 = .ok (.aload_n 0, 1) by decide +kernel) rfl (lv_at hl 0 rfl) ?_
  refine lv_bipush (v := 9) hx hb (show decode b_Fillings_init 44 = .ok (.bipush 9, 2) by decide +kernel) (by decide) ?_
  refine k_arr (k := 6) (t := 0) (n := 9) (ty := .int) (mk := mkS 101 [9, 8, 7, 6, 5] 6) (mk' := mkS 101 [9, 8, 7, 6, 5] 7) hC hP hD hS (List.mem_cons_of_mem _ (w_C_h0 4 rfl)) rfl (Or.inl ⟨rfl, rfl⟩) (clo_b (by decide +kernel)) rfl (mkS_up (Nat.le_refl _) (by decide)) (no_of (by decide +kernel)) rfl (by decide) (Nat.le_of_ble_eq_true rfl) (Nat.le_of_ble_eq_true rfl) (show decode b_Fillings_init 46 = .ok (.newarray .int, 2) by decide +kernel) (fun hh H hP hD hS => ?_)
  obtain ⟨al6, ha6⟩ : ∃ z, z = exA al5 (101 + 6) hh := ⟨_, rfl⟩
  rw [← ha6] at hP hD
  have ho6 : ∀ q, q ≤ 101 ∨ 101 + 11 ≤ q → al6 q = al0 q := by rw [ha6]; exact exA_out (by decide) (by decide) ho5
  have eh : al6 (101 + 6) = hh := by rw [ha6]; exact if_pos rfl
  clear ha6
  refine k_putF (k := 7) (j := 10) (x := 107) (mk := mkS 101 [9, 8, 7, 6, 5] 7) (mk' := mkS 101 [10, 9, 8, 7, 6, 5] 7) hC hP hD hS eh (ho6 101 (Or.inl (Nat.le_refl _))) rfl rfl (fun w hw => List.mem_cons_of_mem _ (w_C_lay_Fillings w hw)) ty_Fillings tyok_Fillings nm_Fillings (by decide) (List.mem_cons_of_mem _ (w_C_h0 53 rfl)) rfl rfl rfl rfl (fun _ => rfl) (fun _ => rfl) (by decide) (mkS_hx rfl) mkS_ho mkS_hk (show decode b_Fillings_init 48 = .ok (.putfield 27, 3) by decide +kernel) (fun H locs hP hD hS => ?_)
  refine lv_aload_n hx hb (show decode b_Fillings_init 51 = .ok (.aload_n 0, 1) by decide +kernel) rfl (lv_at hl 0 rfl) ?_
  refine lv_bipush (v := 8) hx hb (show decode b_Fillings_init 52 = .ok (.bipush 8, 2) by decide +kernel) (by decide) ?_
  refine k_arr (k := 7) (t := 0) (n := 8) (ty := .int) (mk := mkS 101 [10, 9, 8, 7, 6, 5] 7) (mk' := mkS 101 [10, 9, 8, 7, 6, 5] 8) hC hP hD hS (List.mem_cons_of_mem _ (w_C_h0 4 rfl)) rfl (Or.inl ⟨rfl, rfl⟩) (clo_b (by decide +kernel)) rfl (mkS_up (Nat.le_refl _) (by decide)) (no_of (by decide +kernel)) rfl (by decide) (Nat.le_of_ble_eq_true rfl) (Nat.le_of_ble_eq_true rfl) (show decode b_Fillings_init 54 = .ok (.newarray .int, 2) by decide +kernel) (fun hh H hP hD hS => ?_)
  obtain ⟨al7, ha7⟩ : ∃ z, z = exA al6 (101 + 7) hh := ⟨_, rfl⟩
  rw [← ha7] at hP hD
  have ho7 : ∀ q, q ≤ 101 ∨ 101 + 11 ≤ q → al7 q = al0 q := by rw [ha7]; exact exA_out (by decide) (by decide) ho6
  have eh : al7 (101 + 7) = hh := by rw [ha7]; exact if_pos rfl
  clear ha7
  refine k_putF (k := 8) (j := 11) (x := 108) (mk := mkS 101 [10, 9, 8, 7, 6, 5] 8) (mk' := mkS 101 [11, 10, 9, 8, 7, 6, 5] 8) hC hP hD hS eh (ho7 101 (Or.inl (Nat.le_refl _))) rfl rfl (fun w hw => List.mem_cons_of_mem _ (w_C_lay_Fillings w hw)) ty_Fillings tyok_Fillings nm_Fillings (by decide) (List.mem_cons_of_mem _ (w_C_h0 54 rfl)) rfl rfl rfl rfl (fun _ => rfl) (fun _ => rfl) (by decide) (mkS_hx rfl) mkS_ho mkS_hk (show decode b_Fillings_init 56 = .ok (.putfield 30, 3) by decide +kernel) (fun H locs hP hD hS => ?_)
  refine lv_aload_n hx hb (show decode b_Fillings_init 59 = .ok (.aload_n 0, 1) by decide +kernel) rfl (lv_at hl 0 rfl) ?_
  refine lv_iconst (v := 4) hx hb (show decode b_Fillings_init 60 = .ok (.iconst 4, 1) by decide +kernel) (by decide) ?_
  refine k_arr (k := 8) (t := 0) (n := 4) (ty := .int) (mk := mkS 101 [11, 10, 9, 8, 7, 6, 5] 8) (mk' := mkS 101 [11, 10, 9, 8, 7, 6, 5] 9) hC hP hD hS (List.mem_cons_of_mem _ (w_C_h0 4 rfl)) rfl (Or.inl ⟨rfl, rfl⟩) (clo_b (by decide +kernel)) rfl (mkS_up (Nat.le_refl _) (by decide)) (no_of (by decide +kernel)) rfl (by decide) (Nat.le_of_ble_eq_true rfl) (Nat.le_of_ble_eq_true rfl) (show decode b_Fillings_init 61 = .ok (.newarray .int, 2) by decide +kernel) (fun hh H hP hD hS => ?_)
  obtain ⟨al8, ha8⟩ : ∃ z, z = exA al7 (101 + 8) hh := ⟨_, rfl⟩
  rw [← ha8] at hP hD
  have ho8 : ∀ q, q ≤ 101 ∨ 101 + 11 ≤ q → al8 q = al0 q := by rw [ha8]; exact exA_out (by decide) (by decide) ho7
  have eh : al8 (101 + 8) = hh := by rw [ha8]; exact if_pos rfl
  clear ha8
  refine k_putF (k := 9) (j := 12) (x := 109) (mk := mkS 101 [11, 10, 9, 8, 7, 6, 5] 9) (mk' := mkS 101 [12, 11, 10, 9, 8, 7, 6, 5] 9) hC hP hD hS eh (ho8 101 (Or.inl (Nat.le_refl _))) rfl rfl (fun w hw => List.mem_cons_of_mem _ (w_C_lay_Fillings w hw)) ty_Fillings tyok_Fillings nm_Fillings (by decide) (List.mem_cons_of_mem _ (w_C_h0 55 rfl)) rfl rfl rfl rfl (fun _ => rfl) (fun _ => rfl) (by decide) (mkS_hx rfl) mkS_ho mkS_hk (show decode b_Fillings_init 63 = .ok (.putfield 33, 3) by decide +kernel) (fun H locs hP hD hS => ?_)
  refine lv_aload_n hx hb (show decode b_Fillings_init 66 = .ok (.aload_n 0, 1) by decide +kernel) rfl (lv_at hl 0 rfl) ?_
  refine lv_bipush (v := 9) hx hb (show decode b_Fillings_init 67 = .ok (.bipush 9, 2) by decide +kernel) (by decide) ?_
  refine k_arr (k := 9) (t := 0) (n := 9) (ty := .int) (mk := mkS 101 [12, 11, 10, 9, 8, 7, 6, 5] 9) (mk' := mkS 101 [12, 11, 10, 9, 8, 7, 6, 5] 10) hC hP hD hS (List.mem_cons_of_mem _ (w_C_h0 4 rfl)) rfl (Or.inl ⟨rfl, rfl⟩) (clo_b (by decide +kernel)) rfl (mkS_up (Nat.le_refl _) (by decide)) (no_of (by decide +kernel)) rfl (by decide) (Nat.le_of_ble_eq_true rfl) (Nat.le_of_ble_eq_true rfl) (show decode b_Fillings_init 69 = .ok (.newarray .int, 2) by decide +kernel) (fun hh H hP hD hS => ?_)
  obtain ⟨al9, ha9⟩ : ∃ z, z = exA al8 (101 + 9) hh := ⟨_, rfl⟩
  rw [← ha9] at hP hD
  have ho9 : ∀ q, q ≤ 101 ∨ 101 + 11 ≤ q → al9 q = al0 q := by rw [ha9]; exact exA_out (by decide) (by decide) ho8
  have eh : al9 (101 + 9) = hh := by rw [ha9]; exact if_pos rfl
  clear ha9
  refine k_putV (k := 10) (j := 13) (x := 110) (mk := mkS 101 [12, 11, 10, 9, 8, 7, 6, 5] 10) (mk' := mkS 101 [13, 12, 11, 10, 9, 8, 7, 6, 5] 10) hC hP hD hS eh (ho9 101 (Or.inl (Nat.le_refl _))) rfl rfl (fun w hw => List.mem_cons_of_mem _ (w_C_lay_Fillings w hw)) ty_Fillings tyok_Fillings nm_Fillings (by decide) (List.mem_cons_of_mem _ (w_C_h0 56 rfl)) rfl rfl rfl rfl (fun _ => rfl) (fun _ => rfl) (by decide) (mkS_hx rfl) mkS_ho mkS_hk (show decode b_Fillings_init 71 = .ok (.putfield 36, 3) by decide +kernel) (fun H locs hP hD hS => ?_)
  refine lv_aload_n hx hb (show decode b_Fillings_init 74 = .ok (.aload_n 0, 1) by decide +kernel) rfl (lv_at hl 0 rfl) ?_
  refine lv_bipush (v := 9) hx hb (show decode b_Fillings_init 75 = .ok (.bipush 9, 2) by decide +kernel) (by decide) ?_
  refine k_arr (k := 10) (t := 0) (n := 9) (ty := .int) (mk := mkS 101 [13, 12, 11, 10, 9, 8, 7, 6, 5] 10) (mk' := mkS 101 [13, 12, 11, 10, 9, 8, 7, 6, 5] 11) hC hP hD hS (List.mem_cons_of_mem _ (w_C_h0 4 rfl)) rfl (Or.inl ⟨rfl, rfl⟩) (clo_b (by decide +kernel)) rfl (mkS_up (Nat.le_refl _) (by decide)) (no_of (by decide +kernel)) rfl (by decide) (Nat.le_of_ble_eq_true rfl) (Nat.le_of_ble_eq_true rfl) (show decode b_Fillings_init 77 = .ok (.newarray .int, 2) by decide +kernel) (fun hh H hP hD hS => ?_)
  obtain ⟨al10, ha10⟩ : ∃ z, z = exA al9 (101 + 10) hh := ⟨_, rfl⟩
  rw [← ha10] at hP hD
  have ho10 : ∀ q, q ≤ 101 ∨ 101 + 11 ≤ q → al10 q = al0 q := by rw [ha10]; exact exA_out (by decide) (by decide) ho9
  have eh : al10 (101 + 10) = hh := by rw [ha10]; exact if_pos rfl
  clear ha10
  refine k_putV (k := 11) (j := 14) (x := 111) (mk := mkS 101 [13, 12, 11, 10, 9, 8, 7, 6, 5] 11) (mk' := mkS 101 [14, 13, 12, 11, 10, 9, 8, 7, 6, 5] 11) hC hP hD hS eh (ho10 101 (Or.inl (Nat.le_refl _))) rfl rfl (fun w hw => List.mem_cons_of_mem _ (w_C_lay_Fillings w hw)) ty_Fillings tyok_Fillings nm_Fillings (by decide) (List.mem_cons_of_mem _ (w_C_h0 57 rfl)) rfl rfl rfl rfl (fun _ => rfl) (fun _ => rfl) (by decide) (mkS_hx rfl) mkS_ho mkS_hk (show decode b_Fillings_init 79 = .ok (.putfield 39, 3) by decide +kernel) (fun H locs hP hD hS => ?_)
  refine lv_aload_n hx hb (show decode b_Fillings_init 82 = .ok (.aload_n 0, 1) by decide +kernel) rfl (lv_at hl 0 rfl) ?_
  refine lv_aload_n hx hb (show decode b_Fillings_init 83 = .ok (.aload_n 1, 1) by decide +kernel) rfl (lv_at hl 1 rfl) ?_
  refine k_putF (k := 11) (j := 0) (x := 1) (mk := mkS 101 [14, 13, 12, 11, 10, 9, 8, 7, 6, 5] 11) (mk' := mkS 101 [0, 14, 13, 12, 11, 10, 9, 8, 7, 6, 5] 11) hC hP hD hS (ho10 1 (Or.inl (by decide))) (ho10 101 (Or.inl (Nat.le_refl _))) rfl rfl (fun w hw => List.mem_cons_of_mem _ (w_C_lay_Fillings w hw)) ty_Fillings tyok_Fillings nm_Fillings (by decide) (List.mem_cons_of_mem _ (w_C_h0 58 rfl)) rfl rfl rfl rfl (fun _ => rfl) (fun _ => rfl) (by decide) (mkS_hx rfl) mkS_ho mkS_hk (show decode b_Fillings_init 84 = .ok (.putfield 42, 3) by decide +kernel) (fun H locs hP hD hS => ?_)
  refine lv_aload_n hx hb (show decode b_Fillings_init 87 = .ok (.aload_n 0, 1) by decide +kernel) rfl (lv_at hl 0 rfl) ?_
  refine lv_aload_n hx hb (show decode b_Fillings_init 88 = .ok (.aload_n 2, 1) by decide +kernel) rfl (lv_at hl 2 rfl) ?_
  refine k_putF (k := 11) (j := 1) (x := 3) (mk := mkS 101 [0, 14, 13, 12, 11, 10, 9, 8, 7, 6, 5] 11) (mk' := mkS 101 [1, 0, 14, 13, 12, 11, 10, 9, 8, 7, 6, 5] 11) hC hP hD hS (ho10 3 (Or.inl (by decide))) (ho10 101 (Or.inl (Nat.le_refl _))) rfl rfl (fun w hw => List.mem_cons_of_mem _ (w_C_lay_Fillings w hw)) ty_Fillings tyok_Fillings nm_Fillings (by decide) (List.mem_cons_of_mem _ (w_C_h0 59 rfl)) rfl rfl rfl rfl (fun _ => rfl) (fun _ => rfl) (by decide) (mkS_hx rfl) mkS_ho mkS_hk (show decode b_Fillings_init 89 = .ok (.putfield 46, 3) by decide +kernel) (fun H locs hP hD hS => ?_)
  rw [mkS_full (by decide +kernel)] at hP hD
  exact W.vret hx hb hret (fun t ht hW => ⟨⟨rfl, al10, ho10, by rw [ht]; exact hP, va_K.moved hW.alike hC.2.2.2.1, hD⟩, hS.F ht⟩) hS.2.2 (show decode b_Fillings_init 92 = .ok (.return_, 1) by decide +kernel)
set_option maxRecDepth 100000 in
set_option maxHeartbeats 4000000 in
theorem k_Narrower_init (l : Launch) : kMet l y_Narrower_init (Cond.code y_Narrower_init b_Narrower_init 4 none :: w_C) { frames := 2, cells := 4, slots := 10, locals := 32 } 112 5 [1, 3, 101] 4 10 := by
  refine kmet (nL := 4) (by decide) rfl rfl (by decide) ?_
  intro p e s m args below meth c D cA al0 A ls hC hP hD hl
  have hl : lv_has ls 4 [(0, .ref (al0 112)), (1, .ref (al0 1)), (2, .ref (al0 3)), (3, .ref (al0 101))] := hl
  have hS : va_S A s.heap s.heap [] := va_S.rf
  obtain ⟨hx, hb, hml, hown, hts, hret, hlocks, hN⟩ := id hC.1
  rw [mkS_0] at hP hD
  have ho0 : ∀ q, q ≤ 112 ∨ 112 + 5 ≤ q → al0 q = al0 q := fun _ _ => rfl
  refine lv_aload_n hx hb (show decode b_Narrower_init 0 = .ok (.aload_n 0, 1) by decide +kernel) rfl (lv_at hl 0 rfl) ?_
  refine W.objInit hx hb hown (hts _ (List.mem_cons_of_mem _ (w_C_h3 35 rfl))) (hts _ (List.mem_cons_of_mem _ (w_C_h0 2 rfl))) (hts _ (List.mem_cons_of_mem _ (w_C_h0 3 rfl))) rfl (by rw [hml]; exact hl.1) rfl (show decode b_Narrower_init 1 = .ok (.invokespecial 3, 3) by decide +kernel) (Nat.le_of_ble_eq_true rfl) (Nat.le_of_ble_eq_true rfl) ?_
  refine W.eq (g2 := F0 m 4 ls []) rfl ?_
  refine lv_aload_n hx hb (show decode b_Narrower_init 4 = .ok (.aload_n 0, 1) by decide +kernel) rfl (lv_at hl 0 rfl) ?_
  refine k_new (k := 1) (N := 1) (mk := mkS 112 [] 1) hC hP hD hS rfl rfl (fun w hw => List.mem_cons_of_mem _ (w_C_lay_Layer w hw)) ty_Layer tyok_Layer (List.mem_cons_of_mem _ (w_C_h3 36 rfl)) (List.mem_cons_of_mem _ (w_C_h2 57 rfl)) (List.mem_cons_of_mem _ (w_C_h2 58 rfl)) (by decide +kernel) clo_0 (mkS_no (by decide)) (Nat.le_of_ble_eq_true rfl) (Nat.le_of_ble_eq_true rfl) (show decode b_Narrower_init 5 = .ok (.new 9, 3) by decide +kernel) (fun hh H hP hD hS => ?_)
  obtain ⟨al1, ha1⟩ : ∃ z, z = exA al0 (112 + 1) hh := ⟨_, rfl⟩
  rw [← ha1] at hP hD
  have ho1 : ∀ q, q ≤ 112 ∨ 112 + 5 ≤ q → al1 q = al0 q := by rw [ha1]; exact exA_out (by decide) (by decide) ho0
  have eh : al1 (112 + 1) = hh := by rw [ha1]; exact if_pos rfl
  clear ha1
  refine lv_dup hx hb (show decode b_Narrower_init 8 = .ok (.dup, 1) by decide +kernel) rfl ?_
  refine k_back (k := 1) (len := 2) (mc := 1) (ms := 4) (mk := mkS 112 [] 1) (mk' := mkS 112 [] 3) hC hP hD hS (mkS_no (by decide)) (fun hPc hDc => k_callN (xs := []) hC hPc hDc (k_Layer_init l (show isK 4 113 from rfl)) (w_C_GN (w_C_h2 48 rfl)) (List.mem_of_getElem? (i := 7) rfl) rfl (List.mem_cons_of_mem _ (w_C_h3 2 rfl)) (List.mem_cons_of_mem _ (w_C_h2 58 rfl)) ⟨rfl, rfl⟩ (by decide +kernel) ⟨Nat.le_of_ble_eq_true rfl, Nat.le_of_ble_eq_true rfl⟩ hl.1 (Nat.le_of_ble_eq_true rfl) (show decode b_Narrower_init 9 = .ok (.invokespecial 11, 3) by decide +kernel) ⟨Nat.le_of_ble_eq_true rfl, Nat.le_of_ble_eq_true rfl⟩ (by rw [eh]; rfl)) clo_0 (mkS_up (Nat.le_refl _) (by decide)) (mkS_in (by decide)) (by decide +kernel) (fun al2 H locs hal hP hD hS => ?_)
  have ho2 := al_out (by decide) (by decide) hal ho1
  replace eh := (hal _ (Or.inl (Nat.le_refl _))).trans eh
  refine k_putF (k := 3) (j := 3) (x := 113) (mk := mkS 112 [] 3) (mk' := mkS 112 [3] 3) hC hP hD hS eh (ho2 112 (Or.inl (Nat.le_refl _))) rfl rfl (fun w hw => List.mem_cons_of_mem _ (w_C_lay_Narrower w hw)) ty_Narrower tyok_Narrower nm_Narrower (by decide) (List.mem_cons_of_mem _ (w_C_h3 37 rfl)) rfl rfl rfl rfl (fun _ => rfl) (fun _ => rfl) (by decide) (mkS_hx rfl) mkS_ho mkS_hk (show decode b_Narrower_init 12 = .ok (.putfield 12, 3) by decide +kernel) (fun H locs hP hD hS => ?_)
  refine lv_aload_n hx hb (show decode b_Narrower_init 15 = .ok (.aload_n 0, 1) by decide +kernel) rfl (lv_at hl 0 rfl) ?_
  refine k_new (k := 3) (N := 1) (mk := mkS 112 [3] 3) hC hP hD hS rfl rfl (fun w hw => List.mem_cons_of_mem _ (w_C_lay_Layer w hw)) ty_Layer tyok_Layer (List.mem_cons_of_mem _ (w_C_h3 36 rfl)) (List.mem_cons_of_mem _ (w_C_h2 57 rfl)) (List.mem_cons_of_mem _ (w_C_h2 58 rfl)) (by decide +kernel) (clo_b (by decide +kernel)) (mkS_no (by decide)) (Nat.le_of_ble_eq_true rfl) (Nat.le_of_ble_eq_true rfl) (show decode b_Narrower_init 16 = .ok (.new 9, 3) by decide +kernel) (fun hh H hP hD hS => ?_)
  obtain ⟨al3, ha3⟩ : ∃ z, z = exA al2 (112 + 3) hh := ⟨_, rfl⟩
  rw [← ha3] at hP hD
  have ho3 : ∀ q, q ≤ 112 ∨ 112 + 5 ≤ q → al3 q = al0 q := by rw [ha3]; exact exA_out (by decide) (by decide) ho2
  have eh : al3 (112 + 3) = hh := by rw [ha3]; exact if_pos rfl
  clear ha3
  refine lv_dup hx hb (show decode b_Narrower_init 19 = .ok (.dup, 1) by decide +kernel) rfl ?_
  refine k_back (k := 3) (len := 2) (mc := 1) (ms := 4) (mk := mkS 112 [3] 3) (mk' := mkS 112 [3] 5) hC hP hD hS (mkS_no (by decide)) (fun hPc hDc => k_callN (xs := []) hC hPc hDc (k_Layer_init l (show isK 4 115 from rfl)) (w_C_GN (w_C_h2 48 rfl)) (List.mem_of_getElem? (i := 7) rfl) rfl (List.mem_cons_of_mem _ (w_C_h3 2 rfl)) (List.mem_cons_of_mem _ (w_C_h2 58 rfl)) ⟨rfl, rfl⟩ (by decide +kernel) ⟨Nat.le_of_ble_eq_true rfl, Nat.le_of_ble_eq_true rfl⟩ hl.1 (Nat.le_of_ble_eq_true rfl) (show decode b_Narrower_init 20 = .ok (.invokespecial 11, 3) by decide +kernel) ⟨Nat.le_of_ble_eq_true rfl, Nat.le_of_ble_eq_true rfl⟩ (by rw [eh]; rfl)) (clo_b (by decide +kernel)) (mkS_up (Nat.le_refl _) (by decide)) (mkS_in (by decide)) (by decide +kernel) (fun al4 H locs hal hP hD hS => ?_)
  have ho4 := al_out (by decide) (by decide) hal ho3
  replace eh := (hal _ (Or.inl (Nat.le_refl _))).trans eh
  refine k_putF (k := 5) (j := 4) (x := 115) (mk := mkS 112 [3] 5) (mk' := mkS 112 [4, 3] 5) hC hP hD hS eh (ho4 112 (Or.inl (Nat.le_refl _))) rfl rfl (fun w hw => List.mem_cons_of_mem _ (w_C_lay_Narrower w hw)) ty_Narrower tyok_Narrower nm_Narrower (by decide) (List.mem_cons_of_mem _ (w_C_h3 38 rfl)) rfl rfl rfl rfl (fun _ => rfl) (fun _ => rfl) (by decide) (mkS_hx rfl) mkS_ho mkS_hk (show decode b_Narrower_init 23 = .ok (.putfield 18, 3) by decide +kernel) (fun H locs hP hD hS => ?_)
  refine lv_aload_n hx hb (show decode b_Narrower_init 26 = .ok (.aload_n 0, 1) by decide +kernel) rfl (lv_at hl 0 rfl) ?_
  refine lv_aload_n hx hb (show decode b_Narrower_init 27 = .ok (.aload_n 1, 1) by decide +kernel) rfl (lv_at hl 1 rfl) ?_
  refine k_putF (k := 5) (j := 0) (x := 1) (mk := mkS 112 [4, 3] 5) (mk' := mkS 112 [0, 4, 3] 5) hC hP hD hS (ho4 1 (Or.inl (by decide))) (ho4 112 (Or.inl (Nat.le_refl _))) rfl rfl (fun w hw => List.mem_cons_of_mem _ (w_C_lay_Narrower w hw)) ty_Narrower tyok_Narrower nm_Narrower (by decide) (List.mem_cons_of_mem _ (w_C_h3 39 rfl)) rfl rfl rfl rfl (fun _ => rfl) (fun _ => rfl) (by decide) (mkS_hx rfl) mkS_ho mkS_hk (show decode b_Narrower_init 28 = .ok (.putfield 21, 3) by decide +kernel) (fun H locs hP hD hS => ?_)
  refine lv_aload_n hx hb (show decode b_Narrower_init 31 = .ok (.aload_n 0, 1) by decide +kernel) rfl (lv_at hl 0 rfl) ?_
  refine lv_aload_n hx hb (show decode b_Narrower_init 32 = .ok (.aload_n 2, 1) by decide +kernel) rfl (lv_at hl 2 rfl) ?_
  refine k_putF (k := 5) (j := 1) (x := 3) (mk := mkS 112 [0, 4, 3] 5) (mk' := mkS 112 [1, 0, 4, 3] 5) hC hP hD hS (ho4 3 (Or.inl (by decide))) (ho4 112 (Or.inl (Nat.le_refl _))) rfl rfl (fun w hw => List.mem_cons_of_mem _ (w_C_lay_Narrower w hw)) ty_Narrower tyok_Narrower nm_Narrower (by decide) (List.mem_cons_of_mem _ (w_C_h3 40 rfl)) rfl rfl rfl rfl (fun _ => rfl) (fun _ => rfl) (by decide) (mkS_hx rfl) mkS_ho mkS_hk (show decode b_Narrower_init 33 = .ok (.putfield 25, 3) by decide +kernel) (fun H locs hP hD hS => ?_)
  refine lv_aload_n hx hb (show decode b_Narrower_init 36 = .ok (.aload_n 0, 1) by decide +kernel) rfl (lv_at hl 0 rfl) ?_
  refine lv_aload_n hx hb (show decode b_Narrower_init 37 = .ok (.aload_n 3, 1) by decide +kernel) rfl (lv_at hl 3 rfl) ?_
  refine k_putF (k := 5) (j := 2) (x := 101) (mk := mkS 112 [1, 0, 4, 3] 5) (mk' := mkS 112 [2, 1, 0, 4, 3] 5) hC hP hD hS (ho4 101 (Or.inl (by decide))) (ho4 112 (Or.inl (Nat.le_refl _))) rfl rfl (fun w hw => List.mem_cons_of_mem _ (w_C_lay_Narrower w hw)) ty_Narrower tyok_Narrower nm_Narrower (by decide) (List.mem_cons_of_mem _ (w_C_h3 41 rfl)) rfl rfl rfl rfl (fun _ => rfl) (fun _ => rfl) (by decide) (mkS_hx rfl) mkS_ho mkS_hk (show decode b_Narrower_init 38 = .ok (.putfield 29, 3) by decide +kernel) (fun H locs hP hD hS => ?_)
  rw [mkS_full (by decide +kernel)] at hP hD
  exact W.vret hx hb hret (fun t ht hW => ⟨⟨rfl, al4, ho4, by rw [ht]; exact hP, va_K.moved hW.alike hC.2.2.2.1, hD⟩, hS.F ht⟩) hS.2.2 (show decode b_Narrower_init 41 = .ok (.return_, 1) by decide +kernel)
set_option maxRecDepth 100000 in
set_option maxHeartbeats 4000000 in
theorem k_Stages_init (l : Launch) : kMet l y_Stages_init (Cond.code y_Stages_init b_Stages_init 3 none :: w_C) { frames := 1, cells := 7, slots := 3365, locals := 12 } 130 8 [1, 3] 7 3365 := by
  refine kmet (nL := 3) (by decide) rfl rfl (by decide) ?_
  intro p e s m args below meth c D cA al0 A ls hC hP hD hl
  have hl : lv_has ls 3 [(0, .ref (al0 130)), (1, .ref (al0 1)), (2, .ref (al0 3))] := hl
  have hS : va_S A s.heap s.heap [] := va_S.rf
  obtain ⟨hx, hb, hml, hown, hts, hret, hlocks, hN⟩ := id hC.1
  rw [mkS_0] at hP hD
  have ho0 : ∀ q, q ≤ 130 ∨ 130 + 8 ≤ q → al0 q = al0 q := fun _ _ => rfl
  refine lv_aload_n hx hb (show decode b_Stages_init 0 = .ok (.aload_n 0, 1) by decide +kernel) rfl (lv_at hl 0 rfl) ?_
  refine W.objInit hx hb hown (hts _ (List.mem_cons_of_mem _ (w_C_h3 43 rfl))) (hts _ (List.mem_cons_of_mem _ (w_C_h0 2 rfl))) (hts _ (List.mem_cons_of_mem _ (w_C_h0 3 rfl))) rfl (by rw [hml]; exact hl.1) rfl (show decode b_Stages_init 1 = .ok (.invokespecial 3, 3) by decide +kernel) (Nat.le_of_ble_eq_true rfl) (Nat.le_of_ble_eq_true rfl) ?_
  refine W.eq (g2 := F0 m 4 ls []) rfl ?_
  refine lv_aload_n hx hb (show decode b_Stages_init 4 = .ok (.aload_n 0, 1) by decide +kernel) rfl (lv_at hl 0 rfl) ?_
  refine lv_iconst (v := 4) hx hb (show decode b_Stages_init 5 = .ok (.iconst 4, 1) by decide +kernel) (by decide) ?_
  refine k_arr (k := 1) (t := 0) (n := 4) (ty := .int) (mk := mkS 130 [] 1) (mk' := mkS 130 [] 2) hC hP hD hS (List.mem_cons_of_mem _ (w_C_h0 4 rfl)) rfl (Or.inl ⟨rfl, rfl⟩) clo_0 rfl (mkS_up (Nat.le_refl _) (by decide)) (no_of (by decide +kernel)) rfl (by decide) (Nat.le_of_ble_eq_true rfl) (Nat.le_of_ble_eq_true rfl) (show decode b_Stages_init 6 = .ok (.newarray .int, 2) by decide +kernel) (fun hh H hP hD hS => ?_)
  obtain ⟨al1, ha1⟩ : ∃ z, z = exA al0 (130 + 1) hh := ⟨_, rfl⟩
  rw [← ha1] at hP hD
  have ho1 : ∀ q, q ≤ 130 ∨ 130 + 8 ≤ q → al1 q = al0 q := by rw [ha1]; exact exA_out (by decide) (by decide) ho0
  have eh : al1 (130 + 1) = hh := by rw [ha1]; exact if_pos rfl
  clear ha1
  refine k_putF (k := 2) (j := 2) (x := 131) (mk := mkS 130 [] 2) (mk' := mkS 130 [2] 2) hC hP hD hS eh (ho1 130 (Or.inl (Nat.le_refl _))) rfl rfl (fun w hw => List.mem_cons_of_mem _ (w_C_lay_Stages w hw)) ty_Stages tyok_Stages nm_Stages (by decide) (List.mem_cons_of_mem _ (w_C_h3 44 rfl)) rfl rfl rfl rfl (fun _ => rfl) (fun _ => rfl) (by decide) (mkS_hx rfl) mkS_ho mkS_hk (show decode b_Stages_init 8 = .ok (.putfield 9, 3) by decide +kernel) (fun H locs hP hD hS => ?_)
  refine lv_aload_n hx hb (show decode b_Stages_init 11 = .ok (.aload_n 0, 1) by decide +kernel) rfl (lv_at hl 0 rfl) ?_
  refine lv_iconst (v := 4) hx hb (show decode b_Stages_init 12 = .ok (.iconst 4, 1) by decide +kernel) (by decide) ?_
  refine k_arr (k := 2) (t := 0) (n := 4) (ty := .int) (mk := mkS 130 [2] 2) (mk' := mkS 130 [2] 3) hC hP hD hS (List.mem_cons_of_mem _ (w_C_h0 4 rfl)) rfl (Or.inl ⟨rfl, rfl⟩) (clo_b (by decide +kernel)) rfl (mkS_up (Nat.le_refl _) (by decide)) (no_of (by decide +kernel)) rfl (by decide) (Nat.le_of_ble_eq_true rfl) (Nat.le_of_ble_eq_true rfl) (show decode b_Stages_init 13 = .ok (.newarray .int, 2) by decide +kernel) (fun hh H hP hD hS => ?_)
  obtain ⟨al2, ha2⟩ : ∃ z, z = exA al1 (130 + 2) hh := ⟨_, rfl⟩
  rw [← ha2] at hP hD
  have ho2 : ∀ q, q ≤ 130 ∨ 130 + 8 ≤ q → al2 q = al0 q := by rw [ha2]; exact exA_out (by decide) (by decide) ho1
  have eh : al2 (130 + 2) = hh := by rw [ha2]; exact if_pos rfl
  clear ha2
  refine k_putF (k := 3) (j := 3) (x := 132) (mk := mkS 130 [2] 3) (mk' := mkS 130 [3, 2] 3) hC hP hD hS eh (ho2 130 (Or.inl (Nat.le_refl _))) rfl rfl (fun w hw => List.mem_cons_of_mem _ (w_C_lay_Stages w hw)) ty_Stages tyok_Stages nm_Stages (by decide) (List.mem_cons_of_mem _ (w_C_h3 45 rfl)) rfl rfl rfl rfl (fun _ => rfl) (fun _ => rfl) (by decide) (mkS_hx rfl) mkS_ho mkS_hk (show decode b_Stages_init 15 = .ok (.putfield 15, 3) by decide +kernel) (fun H locs hP hD hS => ?_)
  refine lv_aload_n hx hb (show decode b_Stages_init 18 = .ok (.aload_n 0, 1) by decide +kernel) rfl (lv_at hl 0 rfl) ?_
  refine lv_iconst (v := 4) hx hb (show decode b_Stages_init 19 = .ok (.iconst 4, 1) by decide +kernel) (by decide) ?_
  refine k_arr (k := 3) (t := 0) (n := 4) (ty := .int) (mk := mkS 130 [3, 2] 3) (mk' := mkS 130 [3, 2] 4) hC hP hD hS (List.mem_cons_of_mem _ (w_C_h0 4 rfl)) rfl (Or.inl ⟨rfl, rfl⟩) (clo_b (by decide +kernel)) rfl (mkS_up (Nat.le_refl _) (by decide)) (no_of (by decide +kernel)) rfl (by decide) (Nat.le_of_ble_eq_true rfl) (Nat.le_of_ble_eq_true rfl) (show decode b_Stages_init 20 = .ok (.newarray .int, 2) by decide +kernel) (fun hh H hP hD hS => ?_)
  obtain ⟨al3, ha3⟩ : ∃ z, z = exA al2 (130 + 3) hh := ⟨_, rfl⟩
  rw [← ha3] at hP hD
  have ho3 : ∀ q, q ≤ 130 ∨ 130 + 8 ≤ q → al3 q = al0 q := by rw [ha3]; exact exA_out (by decide) (by decide) ho2
  have eh : al3 (130 + 3) = hh := by rw [ha3]; exact if_pos rfl
  clear ha3
  refine k_putF (k := 4) (j := 4) (x := 133) (mk := mkS 130 [3, 2] 4) (mk' := mkS 130 [4, 3, 2] 4) hC hP hD hS eh (ho3 130 (Or.inl (Nat.le_refl _))) rfl rfl (fun w hw => List.mem_cons_of_mem _ (w_C_lay_Stages w hw)) ty_Stages tyok_Stages nm_Stages (by decide) (List.mem_cons_of_mem _ (w_C_h3 46 rfl)) rfl rfl rfl rfl (fun _ => rfl) (fun _ => rfl) (by decide) (mkS_hx rfl) mkS_ho mkS_hk (show decode b_Stages_init 22 = .ok (.putfield 18, 3) by decide +kernel) (fun H locs hP hD hS => ?_)
  refine lv_aload_n hx hb (show decode b_Stages_init 25 = .ok (.aload_n 0, 1) by decide +kernel) rfl (lv_at hl 0 rfl) ?_
  refine lv_bipush (v := 9) hx hb (show decode b_Stages_init 26 = .ok (.bipush 9, 2) by decide +kernel) (by decide) ?_
  refine k_arr (k := 4) (t := 0) (n := 9) (ty := .int) (mk := mkS 130 [4, 3, 2] 4) (mk' := mkS 130 [4, 3, 2] 5) hC hP hD hS (List.mem_cons_of_mem _ (w_C_h0 4 rfl)) rfl (Or.inl ⟨rfl, rfl⟩) (clo_b (by decide +kernel)) rfl (mkS_up (Nat.le_refl _) (by decide)) (no_of (by decide +kernel)) rfl (by decide) (Nat.le_of_ble_eq_true rfl) (Nat.le_of_ble_eq_true rfl) (show decode b_Stages_init 28 = .ok (.newarray .int, 2) by decide +kernel) (fun hh H hP hD hS => ?_)
  obtain ⟨al4, ha4⟩ : ∃ z, z = exA al3 (130 + 4) hh := ⟨_, rfl⟩
  rw [← ha4] at hP hD
  have ho4 : ∀ q, q ≤ 130 ∨ 130 + 8 ≤ q → al4 q = al0 q := by rw [ha4]; exact exA_out (by decide) (by decide) ho3
  have eh : al4 (130 + 4) = hh := by rw [ha4]; exact if_pos rfl
  clear ha4
  refine k_putF (k := 5) (j := 5) (x := 134) (mk := mkS 130 [4, 3, 2] 5) (mk' := mkS 130 [5, 4, 3, 2] 5) hC hP hD hS eh (ho4 130 (Or.inl (Nat.le_refl _))) rfl rfl (fun w hw => List.mem_cons_of_mem _ (w_C_lay_Stages w hw)) ty_Stages tyok_Stages nm_Stages (by decide) (List.mem_cons_of_mem _ (w_C_h3 47 rfl)) rfl rfl rfl rfl (fun _ => rfl) (fun _ => rfl) (by decide) (mkS_hx rfl) mkS_ho mkS_hk (show decode b_Stages_init 30 = .ok (.putfield 21, 3) by decide +kernel) (fun H locs hP hD hS => ?_)
  refine lv_aload_n hx hb (show decode b_Stages_init 33 = .ok (.aload_n 0, 1) by decide +kernel) rfl (lv_at hl 0 rfl) ?_
  refine lv_sipush (v := 144) hx hb (show decode b_Stages_init 34 = .ok (.sipush 144, 3) by decide +kernel) (by decide) ?_
  refine k_arr (k := 5) (t := 0) (n := 144) (ty := .int) (mk := mkS 130 [5, 4, 3, 2] 5) (mk' := mkS 130 [5, 4, 3, 2] 6) hC hP hD hS (List.mem_cons_of_mem _ (w_C_h0 4 rfl)) rfl (Or.inl ⟨rfl, rfl⟩) (clo_b (by decide +kernel)) rfl (mkS_up (Nat.le_refl _) (by decide)) (no_of (by decide +kernel)) rfl (by decide) (Nat.le_of_ble_eq_true rfl) (Nat.le_of_ble_eq_true rfl) (show decode b_Stages_init 37 = .ok (.newarray .int, 2) by decide +kernel) (fun hh H hP hD hS => ?_)
  obtain ⟨al5, ha5⟩ : ∃ z, z = exA al4 (130 + 5) hh := ⟨_, rfl⟩
  rw [← ha5] at hP hD
  have ho5 : ∀ q, q ≤ 130 ∨ 130 + 8 ≤ q → al5 q = al0 q := by rw [ha5]; exact exA_out (by decide) (by decide) ho4
  have eh : al5 (130 + 5) = hh := by rw [ha5]; exact if_pos rfl
  clear ha5
  refine k_putF (k := 6) (j := 6) (x := 135) (mk := mkS 130 [5, 4, 3, 2] 6) (mk' := mkS 130 [6, 5, 4, 3, 2] 6) hC hP hD hS eh (ho5 130 (Or.inl (Nat.le_refl _))) rfl rfl (fun w hw => List.mem_cons_of_mem _ (w_C_lay_Stages w hw)) ty_Stages tyok_Stages nm_Stages (by decide) (List.mem_cons_of_mem _ (w_C_h3 48 rfl)) rfl rfl rfl rfl (fun _ => rfl) (fun _ => rfl) (by decide) (mkS_hx rfl) mkS_ho mkS_hk (show decode b_Stages_init 39 = .ok (.putfield 24, 3) by decide +kernel) (fun H locs hP hD hS => ?_)
  refine lv_aload_n hx hb (show decode b_Stages_init 42 = .ok (.aload_n 0, 1) by decide +kernel) rfl (lv_at hl 0 rfl) ?_
  refine lv_sipush (v := 640) hx hb (show decode b_Stages_init 43 = .ok (.sipush 640, 3) by decide +kernel) (by decide) ?_
  refine k_arr (k := 6) (t := 0) (n := 640) (ty := .int) (mk := mkS 130 [6, 5, 4, 3, 2] 6) (mk' := mkS 130 [6, 5, 4, 3, 2] 7) hC hP hD hS (List.mem_cons_of_mem _ (w_C_h0 4 rfl)) rfl (Or.inl ⟨rfl, rfl⟩) (clo_b (by decide +kernel)) rfl (mkS_up (Nat.le_refl _) (by decide)) (no_of (by decide +kernel)) rfl (by decide) (Nat.le_of_ble_eq_true rfl) (Nat.le_of_ble_eq_true rfl) (show decode b_Stages_init 46 = .ok (.newarray .int, 2) by decide +kernel) (fun hh H hP hD hS => ?_)
  obtain ⟨al6, ha6⟩ : ∃ z, z = exA al5 (130 + 6) hh := ⟨_, rfl⟩
  rw [← ha6] at hP hD
  have ho6 : ∀ q, q ≤ 130 ∨ 130 + 8 ≤ q → al6 q = al0 q := by rw [ha6]; exact exA_out (by decide) (by decide) ho5
  have eh : al6 (130 + 6) = hh := by rw [ha6]; exact if_pos rfl
  clear ha6
  refine k_putF (k := 7) (j := 7) (x := 136) (mk := mkS 130 [6, 5, 4, 3, 2] 7) (mk' := mkS 130 [7, 6, 5, 4, 3, 2] 7) hC hP hD hS eh (ho6 130 (Or.inl (Nat.le_refl _))) rfl rfl (fun w hw => List.mem_cons_of_mem _ (w_C_lay_Stages w hw)) ty_Stages tyok_Stages nm_Stages (by decide) (List.mem_cons_of_mem _ (w_C_h3 49 rfl)) rfl rfl rfl rfl (fun _ => rfl) (fun _ => rfl) (by decide) (mkS_hx rfl) mkS_ho mkS_hk (show decode b_Stages_init 48 = .ok (.putfield 27, 3) by decide +kernel) (fun H locs hP hD hS => ?_)
  refine lv_aload_n hx hb (show decode b_Stages_init 51 = .ok (.aload_n 0, 1) by decide +kernel) rfl (lv_at hl 0 rfl) ?_
  refine lv_sipush (v := 2560) hx hb (show decode b_Stages_init 52 = .ok (.sipush 2560, 3) by decide +kernel) (by decide) ?_
  refine k_arr (k := 7) (t := 0) (n := 2560) (ty := .int) (mk := mkS 130 [7, 6, 5, 4, 3, 2] 7) (mk' := mkS 130 [7, 6, 5, 4, 3, 2] 8) hC hP hD hS (List.mem_cons_of_mem _ (w_C_h0 4 rfl)) rfl (Or.inl ⟨rfl, rfl⟩) (clo_b (by decide +kernel)) rfl (mkS_up (Nat.le_refl _) (by decide)) (no_of (by decide +kernel)) rfl (by decide) (Nat.le_of_ble_eq_true rfl) (Nat.le_of_ble_eq_true rfl) (show decode b_Stages_init 55 = .ok (.newarray .int, 2) by decide +kernel) (fun hh H hP hD hS => ?_)
  obtain ⟨al7, ha7⟩ : ∃ z, z = exA al6 (130 + 7) hh := ⟨_, rfl⟩
  rw [← ha7] at hP hD
  have ho7 : ∀ q, q ≤ 130 ∨ 130 + 8 ≤ q → al7 q = al0 q := by rw [ha7]; exact exA_out (by decide) (by decide) ho6
  have eh : al7 (130 + 7) = hh := by rw [ha7]; exact if_pos rfl
  clear ha7
  refine k_putF (k := 8) (j := 8) (x := 137) (mk := mkS 130 [7, 6, 5, 4, 3, 2] 8) (mk' := mkS 130 [8, 7, 6, 5, 4, 3, 2] 8) hC hP hD hS eh (ho7 130 (Or.inl (Nat.le_refl _))) rfl rfl (fun w hw => List.mem_cons_of_mem _ (w_C_lay_Stages w hw)) ty_Stages tyok_Stages nm_Stages (by decide) (List.mem_cons_of_mem _ (w_C_h3 50 rfl)) rfl rfl rfl rfl (fun _ => rfl) (fun _ => rfl) (by decide) (mkS_hx rfl) mkS_ho mkS_hk (show decode b_Stages_init 57 = .ok (.putfield 30, 3) by decide +kernel) (fun H locs hP hD hS => ?_)
  refine lv_aload_n hx hb (show decode b_Stages_init 60 = .ok (.aload_n 0, 1) by decide +kernel) rfl (lv_at hl 0 rfl) ?_
  refine lv_aload_n hx hb (show decode b_Stages_init 61 = .ok (.aload_n 1, 1) by decide +kernel) rfl (lv_at hl 1 rfl) ?_
  refine k_putF (k := 8) (j := 0) (x := 1) (mk := mkS 130 [8, 7, 6, 5, 4, 3, 2] 8) (mk' := mkS 130 [0, 8, 7, 6, 5, 4, 3, 2] 8) hC hP hD hS (ho7 1 (Or.inl (by decide))) (ho7 130 (Or.inl (Nat.le_refl _))) rfl rfl (fun w hw => List.mem_cons_of_mem _ (w_C_lay_Stages w hw)) ty_Stages tyok_Stages nm_Stages (by decide) (List.mem_cons_of_mem _ (w_C_h3 51 rfl)) rfl rfl rfl rfl (fun _ => rfl) (fun _ => rfl) (by decide) (mkS_hx rfl) mkS_ho mkS_hk (show decode b_Stages_init 62 = .ok (.putfield 33, 3) by decide +kernel) (fun H locs hP hD hS => ?_)
  refine lv_aload_n hx hb (show decode b_Stages_init 65 = .ok (.aload_n 0, 1) by decide +kernel) rfl (lv_at hl 0 rfl) ?_
  refine lv_aload_n hx hb (show decode b_Stages_init 66 = .ok (.aload_n 2, 1) by decide +kernel) rfl (lv_at hl 2 rfl) ?_
  refine k_putF (k := 8) (j := 1) (x := 3) (mk := mkS 130 [0, 8, 7, 6, 5, 4, 3, 2] 8) (mk' := mkS 130 [1, 0, 8, 7, 6, 5, 4, 3, 2] 8) hC hP hD hS (ho7 3 (Or.inl (by decide))) (ho7 130 (Or.inl (Nat.le_refl _))) rfl rfl (fun w hw => List.mem_cons_of_mem _ (w_C_lay_Stages w hw)) ty_Stages tyok_Stages nm_Stages (by decide) (List.mem_cons_of_mem _ (w_C_h3 52 rfl)) rfl rfl rfl rfl (fun _ => rfl) (fun _ => rfl) (by decide) (mkS_hx rfl) mkS_ho mkS_hk (show decode b_Stages_init 67 = .ok (.putfield 37, 3) by decide +kernel) (fun H locs hP hD hS => ?_)
  rw [mkS_full (by decide +kernel)] at hP hD
  exact W.vret hx hb hret (fun t ht hW => ⟨⟨rfl, al7, ho7, by rw [ht]; exact hP, va_K.moved hW.alike hC.2.2.2.1, hD⟩, hS.F ht⟩) hS.2.2 (show decode b_Stages_init 70 = .ok (.return_, 1) by decide +kernel)
set_option maxRecDepth 100000 in
set_option maxHeartbeats 4000000 in
theorem k_Advice_init (l : Launch) : kMet l y_Advice_init (Cond.code y_Advice_init b_Advice_init 5 none :: w_C) { frames := 1, cells := 1, slots := 16, locals := 12 } 138 2 [1, 3, 101, 112] 1 16 := by
  refine kmet (nL := 5) (by decide) rfl rfl (by decide) ?_
  intro p e s m args below meth c D cA al0 A ls hC hP hD hl
  have hl : lv_has ls 5 [(0, .ref (al0 138)), (1, .ref (al0 1)), (2, .ref (al0 3)), (3, .ref (al0 101)), (4, .ref (al0 112))] := hl
  have hS : va_S A s.heap s.heap [] := va_S.rf
  obtain ⟨hx, hb, hml, hown, hts, hret, hlocks, hN⟩ := id hC.1
  rw [mkS_0] at hP hD
  have ho0 : ∀ q, q ≤ 138 ∨ 138 + 2 ≤ q → al0 q = al0 q := fun _ _ => rfl
  refine lv_aload_n hx hb (show decode b_Advice_init 0 = .ok (.aload_n 0, 1) by decide +kernel) rfl (lv_at hl 0 rfl) ?_
  refine W.objInit hx hb hown (hts _ (List.mem_cons_of_mem _ (w_C_h0 1 rfl))) (hts _ (List.mem_cons_of_mem _ (w_C_h0 2 rfl))) (hts _ (List.mem_cons_of_mem _ (w_C_h0 3 rfl))) rfl (by rw [hml]; exact hl.1) rfl (show decode b_Advice_init 1 = .ok (.invokespecial 3, 3) by decide +kernel) (Nat.le_of_ble_eq_true rfl) (Nat.le_of_ble_eq_true rfl) ?_
  refine W.eq (g2 := F0 m 4 ls []) rfl ?_
  refine lv_aload_n hx hb (show decode b_Advice_init 4 = .ok (.aload_n 0, 1) by decide +kernel) rfl (lv_at hl 0 rfl) ?_
  refine lv_bipush (v := 16) hx hb (show decode b_Advice_init 5 = .ok (.bipush 16, 2) by decide +kernel) (by decide) ?_
  refine k_arr (k := 1) (t := 0) (n := 16) (ty := .int) (mk := mkS 138 [] 1) (mk' := mkS 138 [] 2) hC hP hD hS (List.mem_cons_of_mem _ (w_C_h0 4 rfl)) rfl (Or.inl ⟨rfl, rfl⟩) clo_0 rfl (mkS_up (Nat.le_refl _) (by decide)) (no_of (by decide +kernel)) rfl (by decide) (Nat.le_of_ble_eq_true rfl) (Nat.le_of_ble_eq_true rfl) (show decode b_Advice_init 7 = .ok (.newarray .int, 2) by decide +kernel) (fun hh H hP hD hS => ?_)
  obtain ⟨al1, ha1⟩ : ∃ z, z = exA al0 (138 + 1) hh := ⟨_, rfl⟩
  rw [← ha1] at hP hD
  have ho1 : ∀ q, q ≤ 138 ∨ 138 + 2 ≤ q → al1 q = al0 q := by rw [ha1]; exact exA_out (by decide) (by decide) ho0
  have eh : al1 (138 + 1) = hh := by rw [ha1]; exact if_pos rfl
  clear ha1
  refine k_putF (k := 2) (j := 4) (x := 139) (mk := mkS 138 [] 2) (mk' := mkS 138 [4] 2) hC hP hD hS eh (ho1 138 (Or.inl (Nat.le_refl _))) rfl rfl (fun w hw => List.mem_cons_of_mem _ (w_C_lay_Advice w hw)) ty_Advice tyok_Advice nm_Advice (by decide) (List.mem_cons_of_mem _ (w_C_h0 5 rfl)) rfl rfl rfl rfl (fun _ => rfl) (fun _ => rfl) (by decide) (mkS_hx rfl) mkS_ho mkS_hk (show decode b_Advice_init 9 = .ok (.putfield 9, 3) by decide +kernel) (fun H locs hP hD hS => ?_)
  refine lv_aload_n hx hb (show decode b_Advice_init 12 = .ok (.aload_n 0, 1) by decide +kernel) rfl (lv_at hl 0 rfl) ?_
  refine lv_aload_n hx hb (show decode b_Advice_init 13 = .ok (.aload_n 1, 1) by decide +kernel) rfl (lv_at hl 1 rfl) ?_
  refine k_putF (k := 2) (j := 0) (x := 1) (mk := mkS 138 [4] 2) (mk' := mkS 138 [0, 4] 2) hC hP hD hS (ho1 1 (Or.inl (by decide))) (ho1 138 (Or.inl (Nat.le_refl _))) rfl rfl (fun w hw => List.mem_cons_of_mem _ (w_C_lay_Advice w hw)) ty_Advice tyok_Advice nm_Advice (by decide) (List.mem_cons_of_mem _ (w_C_h0 6 rfl)) rfl rfl rfl rfl (fun _ => rfl) (fun _ => rfl) (by decide) (mkS_hx rfl) mkS_ho mkS_hk (show decode b_Advice_init 14 = .ok (.putfield 15, 3) by decide +kernel) (fun H locs hP hD hS => ?_)
  refine lv_aload_n hx hb (show decode b_Advice_init 17 = .ok (.aload_n 0, 1) by decide +kernel) rfl (lv_at hl 0 rfl) ?_
  refine lv_aload_n hx hb (show decode b_Advice_init 18 = .ok (.aload_n 2, 1) by decide +kernel) rfl (lv_at hl 2 rfl) ?_
  refine k_putF (k := 2) (j := 1) (x := 3) (mk := mkS 138 [0, 4] 2) (mk' := mkS 138 [1, 0, 4] 2) hC hP hD hS (ho1 3 (Or.inl (by decide))) (ho1 138 (Or.inl (Nat.le_refl _))) rfl rfl (fun w hw => List.mem_cons_of_mem _ (w_C_lay_Advice w hw)) ty_Advice tyok_Advice nm_Advice (by decide) (List.mem_cons_of_mem _ (w_C_h0 7 rfl)) rfl rfl rfl rfl (fun _ => rfl) (fun _ => rfl) (by decide) (mkS_hx rfl) mkS_ho mkS_hk (show decode b_Advice_init 19 = .ok (.putfield 19, 3) by decide +kernel) (fun H locs hP hD hS => ?_)
  refine lv_aload_n hx hb (show decode b_Advice_init 22 = .ok (.aload_n 0, 1) by decide +kernel) rfl (lv_at hl 0 rfl) ?_
  refine lv_aload_n hx hb (show decode b_Advice_init 23 = .ok (.aload_n 3, 1) by decide +kernel) rfl (lv_at hl 3 rfl) ?_
  refine k_putF (k := 2) (j := 2) (x := 101) (mk := mkS 138 [1, 0, 4] 2) (mk' := mkS 138 [2, 1, 0, 4] 2) hC hP hD hS (ho1 101 (Or.inl (by decide))) (ho1 138 (Or.inl (Nat.le_refl _))) rfl rfl (fun w hw => List.mem_cons_of_mem _ (w_C_lay_Advice w hw)) ty_Advice tyok_Advice nm_Advice (by decide) (List.mem_cons_of_mem _ (w_C_h0 8 rfl)) rfl rfl rfl rfl (fun _ => rfl) (fun _ => rfl) (by decide) (mkS_hx rfl) mkS_ho mkS_hk (show decode b_Advice_init 24 = .ok (.putfield 23, 3) by decide +kernel) (fun H locs hP hD hS => ?_)
  refine lv_aload_n hx hb (show decode b_Advice_init 27 = .ok (.aload_n 0, 1) by decide +kernel) rfl (lv_at hl 0 rfl) ?_
  refine lv_aload hx hb (show decode b_Advice_init 28 = .ok (.aload 4, 2) by decide +kernel) (lv_at hl 4 rfl) ?_
  refine k_putF (k := 2) (j := 3) (x := 112) (mk := mkS 138 [2, 1, 0, 4] 2) (mk' := mkS 138 [3, 2, 1, 0, 4] 2) hC hP hD hS (ho1 112 (Or.inl (by decide))) (ho1 138 (Or.inl (Nat.le_refl _))) rfl rfl (fun w hw => List.mem_cons_of_mem _ (w_C_lay_Advice w hw)) ty_Advice tyok_Advice nm_Advice (by decide) (List.mem_cons_of_mem _ (w_C_h0 9 rfl)) rfl rfl rfl rfl (fun _ => rfl) (fun _ => rfl) (by decide) (mkS_hx rfl) mkS_ho mkS_hk (show decode b_Advice_init 30 = .ok (.putfield 27, 3) by decide +kernel) (fun H locs hP hD hS => ?_)
  rw [mkS_full (by decide +kernel)] at hP hD
  exact W.vret hx hb hret (fun t ht hW => ⟨⟨rfl, al1, ho1, by rw [ht]; exact hP, va_K.moved hW.alike hC.2.2.2.1, hD⟩, hS.F ht⟩) hS.2.2 (show decode b_Advice_init 33 = .ok (.return_, 1) by decide +kernel)
