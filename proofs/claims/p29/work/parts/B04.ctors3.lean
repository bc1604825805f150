/-! constructors, by an own text program (own work) -/
set_option maxRecDepth 100000 in
set_option maxHeartbeats 4000000 in
theorem k_Search_init (l : Launch) : kMet l y_Search_init (Cond.code y_Search_init b_Search_init 4 none :: w_C) { frames := 2, cells := 20, slots := 4155, locals := 34 } 117 21 [1, 3, 112] 20 4155 := by
  refine kmet (nL := 4) (by decide) rfl rfl (by decide) ?_
  intro p e s m args below meth c D cA al0 A ls hC hP hD hl
  have hl : lv_has ls 4 [(0, .ref (al0 117)), (1, .ref (al0 1)), (2, .ref (al0 3)), (3, .ref (al0 112))] := hl
  have hS : va_S A s.heap s.heap [] := va_S.rf
  obtain ⟨hx, hb, hml, hown, hts, hret, hlocks, hN⟩ := id hC.1
  rw [mkS_0] at hP hD
  have ho0 : ∀ q, q ≤ 117 ∨ 117 + 21 ≤ q → al0 q = al0 q := fun _ _ => rfl
  refine lv_aload_n hx hb (show decode b_Search_init 0 = .ok (.aload_n 0, 1) by decide +kernel) rfl (lv_at hl 0 rfl) ?_
  refine W.objInit hx hb hown (hts _ (List.mem_cons_of_mem _ (w_C_h3 53 rfl))) (hts _ (List.mem_cons_of_mem _ (w_C_h0 2 rfl))) (hts _ (List.mem_cons_of_mem _ (w_C_h0 3 rfl))) rfl (by rw [hml]; exact hl.1) rfl (show decode b_Search_init 1 = .ok (.invokespecial 3, 3) by decide +kernel) (Nat.le_of_ble_eq_true rfl) (Nat.le_of_ble_eq_true rfl) ?_
  refine W.eq (g2 := F0 m 4 ls []) rfl ?_
  refine lv_aload_n hx hb (show decode b_Search_init 4 = .ok (.aload_n 0, 1) by decide +kernel) rfl (lv_at hl 0 rfl) ?_
  refine k_new (k := 1) (N := 1) (mk := mkS 117 [] 1) hC hP hD hS rfl rfl (fun w hw => List.mem_cons_of_mem _ (w_C_lay_Layer w hw)) ty_Layer tyok_Layer (List.mem_cons_of_mem _ (w_C_h3 54 rfl)) (List.mem_cons_of_mem _ (w_C_h2 57 rfl)) (List.mem_cons_of_mem _ (w_C_h2 58 rfl)) (by decide +kernel) clo_0 (mkS_no (by decide)) (Nat.le_of_ble_eq_true rfl) (Nat.le_of_ble_eq_true rfl) (show decode b_Search_init 5 = .ok (.new 9, 3) by decide +kernel) (fun hh H hP hD hS => ?_)
  obtain ⟨al1, ha1⟩ : ∃ z, z = exA al0 (117 + 1) hh := ⟨_, rfl⟩
  rw [← ha1] at hP hD
  have ho1 : ∀ q, q ≤ 117 ∨ 117 + 21 ≤ q → al1 q = al0 q := by rw [ha1]; exact exA_out (by decide) (by decide) ho0
  have eh : al1 (117 + 1) = hh := by rw [ha1]; exact if_pos rfl
  clear ha1
  refine lv_dup hx hb (show decode b_Search_init 8 = .ok (.dup, 1) by decide +kernel) rfl ?_
  refine k_back (k := 1) (len := 2) (mc := 1) (ms := 4) (mk := mkS 117 [] 1) (mk' := mkS 117 [] 3) hC hP hD hS (mkS_no (by decide)) (fun hPc hDc => k_callN (xs := []) hC hPc hDc (k_Layer_init l (show isK 4 118 from rfl)) (w_C_GN (w_C_h2 48 rfl)) (List.mem_of_getElem? (i := 8) rfl) rfl (List.mem_cons_of_mem _ (w_C_h3 2 rfl)) (List.mem_cons_of_mem _ (w_C_h2 58 rfl)) ⟨rfl, rfl⟩ (by decide +kernel) ⟨Nat.le_of_ble_eq_true rfl, Nat.le_of_ble_eq_true rfl⟩ hl.1 (Nat.le_of_ble_eq_true rfl) (show decode b_Search_init 9 = .ok (.invokespecial 11, 3) by decide +kernel) ⟨Nat.le_of_ble_eq_true rfl, Nat.le_of_ble_eq_true rfl⟩ (by rw [eh]; rfl)) clo_0 (mkS_up (Nat.le_refl _) (by decide)) (mkS_in (by decide)) (by decide +kernel) (fun al2 H locs hal hP hD hS => ?_)
  have ho2 := al_out (by decide) (by decide) hal ho1
  replace eh := (hal _ (Or.inl (Nat.le_refl _))).trans eh
  refine k_putF (k := 3) (j := 4) (x := 118) (mk := mkS 117 [] 3) (mk' := mkS 117 [4] 3) hC hP hD hS eh (ho2 117 (Or.inl (Nat.le_refl _))) rfl rfl (fun w hw => List.mem_cons_of_mem _ (w_C_lay_Search w hw)) ty_Search tyok_Search nm_Search (by decide) (List.mem_cons_of_mem _ (w_C_h3 55 rfl)) rfl rfl rfl rfl (fun _ => rfl) (fun _ => rfl) (by decide) (mkS_hx rfl) mkS_ho mkS_hk (show decode b_Search_init 12 = .ok (.putfield 12, 3) by decide +kernel) (fun H locs hP hD hS => ?_)
  refine lv_aload_n hx hb (show decode b_Search_init 15 = .ok (.aload_n 0, 1) by decide +kernel) rfl (lv_at hl 0 rfl) ?_
  refine lv_sipush (v := 256) hx hb (show decode b_Search_init 16 = .ok (.sipush 256, 3) by decide +kernel) (by decide) ?_
  refine k_arr (k := 3) (t := 1) (n := 256) (ty := .long) (mk := mkS 117 [4] 3) (mk' := mkS 117 [4] 4) hC hP hD hS (List.mem_cons_of_mem _ (w_C_h2 50 rfl)) rfl (Or.inr (Or.inl ⟨rfl, rfl⟩)) (clo_b (by decide +kernel)) rfl (mkS_up (Nat.le_refl _) (by decide)) (no_of (by decide +kernel)) rfl (by decide) (Nat.le_of_ble_eq_true rfl) (Nat.le_of_ble_eq_true rfl) (show decode b_Search_init 19 = .ok (.newarray .long, 2) by decide +kernel) (fun hh H hP hD hS => ?_)
  obtain ⟨al3, ha3⟩ : ∃ z, z = exA al2 (117 + 3) hh := ⟨_, rfl⟩
  rw [← ha3] at hP hD
  have ho3 : ∀ q, q ≤ 117 ∨ 117 + 21 ≤ q → al3 q = al0 q := by rw [ha3]; exact exA_out (by decide) (by decide) ho2
  have eh : al3 (117 + 3) = hh := by rw [ha3]; exact if_pos rfl
  clear ha3
  refine k_putV (k := 4) (j := 5) (x := 120) (mk := mkS 117 [4] 4) (mk' := mkS 117 [5, 4] 4) hC hP hD hS eh (ho3 117 (Or.inl (Nat.le_refl _))) rfl rfl (fun w hw => List.mem_cons_of_mem _ (w_C_lay_Search w hw)) ty_Search tyok_Search nm_Search (by decide) (List.mem_cons_of_mem _ (w_C_h3 56 rfl)) rfl rfl rfl rfl (fun _ => rfl) (fun _ => rfl) (by decide) (mkS_hx rfl) mkS_ho mkS_hk (show decode b_Search_init 21 = .ok (.putfield 18, 3) by decide +kernel) (fun H locs hP hD hS => ?_)
  refine lv_aload_n hx hb (show decode b_Search_init 24 = .ok (.aload_n 0, 1) by decide +kernel) rfl (lv_at hl 0 rfl) ?_
  refine lv_bipush (v := 64) hx hb (show decode b_Search_init 25 = .ok (.bipush 64, 2) by decide +kernel) (by decide) ?_
  refine k_arr (k := 4) (t := 0) (n := 64) (ty := .int) (mk := mkS 117 [5, 4] 4) (mk' := mkS 117 [5, 4] 5) hC hP hD hS (List.mem_cons_of_mem _ (w_C_h0 4 rfl)) rfl (Or.inl ⟨rfl, rfl⟩) (clo_b (by decide +kernel)) rfl (mkS_up (Nat.le_refl _) (by decide)) (no_of (by decide +kernel)) rfl (by decide) (Nat.le_of_ble_eq_true rfl) (Nat.le_of_ble_eq_true rfl) (show decode b_Search_init 27 = .ok (.newarray .int, 2) by decide +kernel) (fun hh H hP hD hS => ?_)
  obtain ⟨al4, ha4⟩ : ∃ z, z = exA al3 (117 + 4) hh := ⟨_, rfl⟩
  rw [← ha4] at hP hD
  have ho4 : ∀ q, q ≤ 117 ∨ 117 + 21 ≤ q → al4 q = al0 q := by rw [ha4]; exact exA_out (by decide) (by decide) ho3
  have eh : al4 (117 + 4) = hh := by rw [ha4]; exact if_pos rfl
  clear ha4
  refine k_putF (k := 5) (j := 6) (x := 121) (mk := mkS 117 [5, 4] 5) (mk' := mkS 117 [6, 5, 4] 5) hC hP hD hS eh (ho4 117 (Or.inl (Nat.le_refl _))) rfl rfl (fun w hw => List.mem_cons_of_mem _ (w_C_lay_Search w hw)) ty_Search tyok_Search nm_Search (by decide) (List.mem_cons_of_mem _ (w_C_h3 57 rfl)) rfl rfl rfl rfl (fun _ => rfl) (fun _ => rfl) (by decide) (mkS_hx rfl) mkS_ho mkS_hk (show decode b_Search_init 29 = .ok (.putfield 22, 3) by decide +kernel) (fun H locs hP hD hS => ?_)
  refine lv_aload_n hx hb (show decode b_Search_init 32 = .ok (.aload_n 0, 1) by decide +kernel) rfl (lv_at hl 0 rfl) ?_
  refine lv_bipush (v := 64) hx hb (show decode b_Search_init 33 = .ok (.bipush 64, 2) by decide +kernel) (by decide) ?_
  refine k_arr (k := 5) (t := 0) (n := 64) (ty := .int) (mk := mkS 117 [6, 5, 4] 5) (mk' := mkS 117 [6, 5, 4] 6) hC hP hD hS (List.mem_cons_of_mem _ (w_C_h0 4 rfl)) rfl (Or.inl ⟨rfl, rfl⟩) (clo_b (by decide +kernel)) rfl (mkS_up (Nat.le_refl _) (by decide)) (no_of (by decide +kernel)) rfl (by decide) (Nat.le_of_ble_eq_true rfl) (Nat.le_of_ble_eq_true rfl) (show decode b_Search_init 35 = .ok (.newarray .int, 2) by decide +kernel) (fun hh H hP hD hS => ?_)
  obtain ⟨al5, ha5⟩ : ∃ z, z = exA al4 (117 + 5) hh := ⟨_, rfl⟩
  rw [← ha5] at hP hD
  have ho5 : ∀ q, q ≤ 117 ∨ 117 + 21 ≤ q → al5 q = al0 q := by rw [ha5]; exact exA_out (by decide) (by decide) ho4
  have eh : al5 (117 + 5) = hh := by rw [ha5]; exact if_pos rfl
  clear ha5
  refine k_putF (k := 6) (j := 7) (x := 122) (mk := mkS 117 [6, 5, 4] 6) (mk' := mkS 117 [7, 6, 5, 4] 6) hC hP hD hS eh (ho5 117 (Or.inl (Nat.le_refl _))) rfl rfl (fun w hw => List.mem_cons_of_mem _ (w_C_lay_Search w hw)) ty_Search tyok_Search nm_Search (by decide) (List.mem_cons_of_mem _ (w_C_h3 58 rfl)) rfl rfl rfl rfl (fun _ => rfl) (fun _ => rfl) (by decide) (mkS_hx rfl) mkS_ho mkS_hk (show decode b_Search_init 37 = .ok (.putfield 26, 3) by decide +kernel) (fun H locs hP hD hS => ?_)
  refine lv_aload_n hx hb (show decode b_Search_init 40 = .ok (.aload_n 0, 1) by decide +kernel) rfl (lv_at hl 0 rfl) ?_
  refine lv_bipush (v := 8) hx hb (show decode b_Search_init 41 = .ok (.bipush 8, 2) by decide +kernel) (by decide) ?_
  refine k_arr (k := 6) (t := 0) (n := 8) (ty := .int) (mk := mkS 117 [7, 6, 5, 4] 6) (mk' := mkS 117 [7, 6, 5, 4] 7) hC hP hD hS (List.mem_cons_of_mem _ (w_C_h0 4 rfl)) rfl (Or.inl ⟨rfl, rfl⟩) (clo_b (by decide +kernel)) rfl (mkS_up (Nat.le_refl _) (by decide)) (no_of (by decide +kernel)) rfl (by decide) (Nat.le_of_ble_eq_true rfl) (Nat.le_of_ble_eq_true rfl) (show decode b_Search_init 43 = .ok (.newarray .int, 2) by decide +kernel) (fun hh H hP hD hS => ?_)
  obtain ⟨al6, ha6⟩ : ∃ z, z = exA al5 (117 + 6) hh := ⟨_, rfl⟩
  rw [← ha6] at hP hD
  have ho6 : ∀ q, q ≤ 117 ∨ 117 + 21 ≤ q → al6 q = al0 q := by rw [ha6]; exact exA_out (by decide) (by decide) ho5
  have eh : al6 (117 + 6) = hh := by rw [ha6]; exact if_pos rfl
  clear ha6
  refine k_putF (k := 7) (j := 8) (x := 123) (mk := mkS 117 [7, 6, 5, 4] 7) (mk' := mkS 117 [8, 7, 6, 5, 4] 7) hC hP hD hS eh (ho6 117 (Or.inl (Nat.le_refl _))) rfl rfl (fun w hw => List.mem_cons_of_mem _ (w_C_lay_Search w hw)) ty_Search tyok_Search nm_Search (by decide) (List.mem_cons_of_mem _ (w_C_h3 59 rfl)) rfl rfl rfl rfl (fun _ => rfl) (fun _ => rfl) (by decide) (mkS_hx rfl) mkS_ho mkS_hk (show decode b_Search_init 45 = .ok (.putfield 29, 3) by decide +kernel) (fun H locs hP hD hS => ?_)
  refine lv_aload_n hx hb (show decode b_Search_init 48 = .ok (.aload_n 0, 1) by decide +kernel) rfl (lv_at hl 0 rfl) ?_
  refine lv_bipush (v := 64) hx hb (show decode b_Search_init 49 = .ok (.bipush 64, 2) by decide +kernel) (by decide) ?_
  refine k_arr (k := 7) (t := 0) (n := 64) (ty := .int) (mk := mkS 117 [8, 7, 6, 5, 4] 7) (mk' := mkS 117 [8, 7, 6, 5, 4] 8) hC hP hD hS (List.mem_cons_of_mem _ (w_C_h0 4 rfl)) rfl (Or.inl ⟨rfl, rfl⟩) (clo_b (by decide +kernel)) rfl (mkS_up (Nat.le_refl _) (by decide)) (no_of (by decide +kernel)) rfl (by decide) (Nat.le_of_ble_eq_true rfl) (Nat.le_of_ble_eq_true rfl) (show decode b_Search_init 51 = .ok (.newarray .int, 2) by decide +kernel) (fun hh H hP hD hS => ?_)
  obtain ⟨al7, ha7⟩ : ∃ z, z = exA al6 (117 + 7) hh := ⟨_, rfl⟩
  rw [← ha7] at hP hD
  have ho7 : ∀ q, q ≤ 117 ∨ 117 + 21 ≤ q → al7 q = al0 q := by rw [ha7]; exact exA_out (by decide) (by decide) ho6
  have eh : al7 (117 + 7) = hh := by rw [ha7]; exact if_pos rfl
  clear ha7
  refine k_putF (k := 8) (j := 9) (x := 124) (mk := mkS 117 [8, 7, 6, 5, 4] 8) (mk' := mkS 117 [9, 8, 7, 6, 5, 4] 8) hC hP hD hS eh (ho7 117 (Or.inl (Nat.le_refl _))) rfl rfl (fun w hw => List.mem_cons_of_mem _ (w_C_lay_Search w hw)) ty_Search tyok_Search nm_Search (by decide) (List.mem_cons_of_mem _ (w_C_h4 0 rfl)) rfl rfl rfl rfl (fun _ => rfl) (fun _ => rfl) (by decide) (mkS_hx rfl) mkS_ho mkS_hk (show decode b_Search_init 53 = .ok (.putfield 32, 3) by decide +kernel) (fun H locs hP hD hS => ?_)
  refine lv_aload_n hx hb (show decode b_Search_init 56 = .ok (.aload_n 0, 1) by decide +kernel) rfl (lv_at hl 0 rfl) ?_
  refine lv_bipush (v := 64) hx hb (show decode b_Search_init 57 = .ok (.bipush 64, 2) by decide +kernel) (by decide) ?_
  refine k_arr (k := 8) (t := 0) (n := 64) (ty := .int) (mk := mkS 117 [9, 8, 7, 6, 5, 4] 8) (mk' := mkS 117 [9, 8, 7, 6, 5, 4] 9) hC hP hD hS (List.mem_cons_of_mem _ (w_C_h0 4 rfl)) rfl (Or.inl ⟨rfl, rfl⟩) (clo_b (by decide +kernel)) rfl (mkS_up (Nat.le_refl _) (by decide)) (no_of (by decide +kernel)) rfl (by decide) (Nat.le_of_ble_eq_true rfl) (Nat.le_of_ble_eq_true rfl) (show decode b_Search_init 59 = .ok (.newarray .int, 2) by decide +kernel) (fun hh H hP hD hS => ?_)
  obtain ⟨al8, ha8⟩ : ∃ z, z = exA al7 (117 + 8) hh := ⟨_, rfl⟩
  rw [← ha8] at hP hD
  have ho8 : ∀ q, q ≤ 117 ∨ 117 + 21 ≤ q → al8 q = al0 q := by rw [ha8]; exact exA_out (by decide) (by decide) ho7
  have eh : al8 (117 + 8) = hh := by rw [ha8]; exact if_pos rfl
  clear ha8
  refine k_putF (k := 9) (j := 10) (x := 125) (mk := mkS 117 [9, 8, 7, 6, 5, 4] 9) (mk' := mkS 117 [10, 9, 8, 7, 6, 5, 4] 9) hC hP hD hS eh (ho8 117 (Or.inl (Nat.le_refl _))) rfl rfl (fun w hw => List.mem_cons_of_mem _ (w_C_lay_Search w hw)) ty_Search tyok_Search nm_Search (by decide) (List.mem_cons_of_mem _ (w_C_h4 1 rfl)) rfl rfl rfl rfl (fun _ => rfl) (fun _ => rfl) (by decide) (mkS_hx rfl) mkS_ho mkS_hk (show decode b_Search_init 61 = .ok (.putfield 35, 3) by decide +kernel) (fun H locs hP hD hS => ?_)
  refine lv_aload_n hx hb (show decode b_Search_init 64 = .ok (.aload_n 0, 1) by decide +kernel) rfl (lv_at hl 0 rfl) ?_
  refine lv_bipush (v := 64) hx hb (show decode b_Search_init 65 = .ok (.bipush 64, 2) by decide +kernel) (by decide) ?_
  refine k_arr (k := 9) (t := 0) (n := 64) (ty := .int) (mk := mkS 117 [10, 9, 8, 7, 6, 5, 4] 9) (mk' := mkS 117 [10, 9, 8, 7, 6, 5, 4] 10) hC hP hD hS (List.mem_cons_of_mem _ (w_C_h0 4 rfl)) rfl (Or.inl ⟨rfl, rfl⟩) (clo_b (by decide +kernel)) rfl (mkS_up (Nat.le_refl _) (by decide)) (no_of (by decide +kernel)) rfl (by decide) (Nat.le_of_ble_eq_true rfl) (Nat.le_of_ble_eq_true rfl) (show decode b_Search_init 67 = .ok (.newarray .int, 2) by decide +kernel) (fun hh H hP hD hS => ?_)
  obtain ⟨al9, ha9⟩ : ∃ z, z = exA al8 (117 + 9) hh := ⟨_, rfl⟩
  rw [← ha9] at hP hD
  have ho9 : ∀ q, q ≤ 117 ∨ 117 + 21 ≤ q → al9 q = al0 q := by rw [ha9]; exact exA_out (by decide) (by decide) ho8
  have eh : al9 (117 + 9) = hh := by rw [ha9]; exact if_pos rfl
  clear ha9
  refine k_putF (k := 10) (j := 11) (x := 126) (mk := mkS 117 [10, 9, 8, 7, 6, 5, 4] 10) (mk' := mkS 117 [11, 10, 9, 8, 7, 6, 5, 4] 10) hC hP hD hS eh (ho9 117 (Or.inl (Nat.le_refl _))) rfl rfl (fun w hw => List.mem_cons_of_mem _ (w_C_lay_Search w hw)) ty_Search tyok_Search nm_Search (by decide) (List.mem_cons_of_mem _ (w_C_h4 2 rfl)) rfl rfl rfl rfl (fun _ => rfl) (fun _ => rfl) (by decide) (mkS_hx rfl) mkS_ho mkS_hk (show decode b_Search_init 69 = .ok (.putfield 38, 3) by decide +kernel) (fun H locs hP hD hS => ?_)
  refine lv_aload_n hx hb (show decode b_Search_init 72 = .ok (.aload_n 0, 1) by decide +kernel) rfl (lv_at hl 0 rfl) ?_
  refine lv_bipush (v := 64) hx hb (show decode b_Search_init 73 = .ok (.bipush 64, 2) by decide +kernel) (by decide) ?_
  refine k_arr (k := 10) (t := 0) (n := 64) (ty := .int) (mk := mkS 117 [11, 10, 9, 8, 7, 6, 5, 4] 10) (mk' := mkS 117 [11, 10, 9, 8, 7, 6, 5, 4] 11) hC hP hD hS (List.mem_cons_of_mem _ (w_C_h0 4 rfl)) rfl (Or.inl ⟨rfl, rfl⟩) (clo_b (by decide +kernel)) rfl (mkS_up (Nat.le_refl _) (by decide)) (no_of (by decide +kernel)) rfl (by decide) (Nat.le_of_ble_eq_true rfl) (Nat.le_of_ble_eq_true rfl) (show decode b_Search_init 75 = .ok (.newarray .int, 2) by decide +kernel) (fun hh H hP hD hS => ?_)
  obtain ⟨al10, ha10⟩ : ∃ z, z = exA al9 (117 + 10) hh := ⟨_, rfl⟩
  rw [← ha10] at hP hD
  have ho10 : ∀ q, q ≤ 117 ∨ 117 + 21 ≤ q → al10 q = al0 q := by rw [ha10]; exact exA_out (by decide) (by decide) ho9
  have eh : al10 (117 + 10) = hh := by rw [ha10]; exact if_pos rfl
  clear ha10
  refine k_putF (k := 11) (j := 12) (x := 127) (mk := mkS 117 [11, 10, 9, 8, 7, 6, 5, 4] 11) (mk' := mkS 117 [12, 11, 10, 9, 8, 7, 6, 5, 4] 11) hC hP hD hS eh (ho10 117 (Or.inl (Nat.le_refl _))) rfl rfl (fun w hw => List.mem_cons_of_mem _ (w_C_lay_Search w hw)) ty_Search tyok_Search nm_Search (by decide) (List.mem_cons_of_mem _ (w_C_h4 3 rfl)) rfl rfl rfl rfl (fun _ => rfl) (fun _ => rfl) (by decide) (mkS_hx rfl) mkS_ho mkS_hk (show decode b_Search_init 77 = .ok (.putfield 41, 3) by decide +kernel) (fun H locs hP hD hS => ?_)
  refine lv_aload_n hx hb (show decode b_Search_init 80 = .ok (.aload_n 0, 1) by decide +kernel) rfl (lv_at hl 0 rfl) ?_
  refine lv_bipush (v := 64) hx hb (show decode b_Search_init 81 = .ok (.bipush 64, 2) by decide +kernel) (by decide) ?_
  refine k_arr (k := 11) (t := 0) (n := 64) (ty := .int) (mk := mkS 117 [12, 11, 10, 9, 8, 7, 6, 5, 4] 11) (mk' := mkS 117 [12, 11, 10, 9, 8, 7, 6, 5, 4] 12) hC hP hD hS (List.mem_cons_of_mem _ (w_C_h0 4 rfl)) rfl (Or.inl ⟨rfl, rfl⟩) (clo_b (by decide +kernel)) rfl (mkS_up (Nat.le_refl _) (by decide)) (no_of (by decide +kernel)) rfl (by decide) (Nat.le_of_ble_eq_true rfl) (Nat.le_of_ble_eq_true rfl) (show decode b_Search_init 83 = .ok (.newarray .int, 2) by decide +kernel) (fun hh H hP hD hS => ?_)
  obtain ⟨al11, ha11⟩ : ∃ z, z = exA al10 (117 + 11) hh := ⟨_, rfl⟩
  rw [← ha11] at hP hD
  have ho11 : ∀ q, q ≤ 117 ∨ 117 + 21 ≤ q → al11 q = al0 q := by rw [ha11]; exact exA_out (by decide) (by decide) ho10
  have eh : al11 (117 + 11) = hh := by rw [ha11]; exact if_pos rfl
  clear ha11
  refine k_putF (k := 12) (j := 13) (x := 128) (mk := mkS 117 [12, 11, 10, 9, 8, 7, 6, 5, 4] 12) (mk' := mkS 117 [13, 12, 11, 10, 9, 8, 7, 6, 5, 4] 12) hC hP hD hS eh (ho11 117 (Or.inl (Nat.le_refl _))) rfl rfl (fun w hw => List.mem_cons_of_mem _ (w_C_lay_Search w hw)) ty_Search tyok_Search nm_Search (by decide) (List.mem_cons_of_mem _ (w_C_h4 4 rfl)) rfl rfl rfl rfl (fun _ => rfl) (fun _ => rfl) (by decide) (mkS_hx rfl) mkS_ho mkS_hk (show decode b_Search_init 85 = .ok (.putfield 44, 3) by decide +kernel) (fun H locs hP hD hS => ?_)
  refine lv_aload_n hx hb (show decode b_Search_init 88 = .ok (.aload_n 0, 1) by decide +kernel) rfl (lv_at hl 0 rfl) ?_
  refine lv_bipush (v := 64) hx hb (show decode b_Search_init 89 = .ok (.bipush 64, 2) by decide +kernel) (by decide) ?_
  refine k_arr (k := 12) (t := 0) (n := 64) (ty := .int) (mk := mkS 117 [13, 12, 11, 10, 9, 8, 7, 6, 5, 4] 12) (mk' := mkS 117 [13, 12, 11, 10, 9, 8, 7, 6, 5, 4] 13) hC hP hD hS (List.mem_cons_of_mem _ (w_C_h0 4 rfl)) rfl (Or.inl ⟨rfl, rfl⟩) (clo_b (by decide +kernel)) rfl (mkS_up (Nat.le_refl _) (by decide)) (no_of (by decide +kernel)) rfl (by decide) (Nat.le_of_ble_eq_true rfl) (Nat.le_of_ble_eq_true rfl) (show decode b_Search_init 91 = .ok (.newarray .int, 2) by decide +kernel) (fun hh H hP hD hS => ?_)
  obtain ⟨al12, ha12⟩ : ∃ z, z = exA al11 (117 + 12) hh := ⟨_, rfl⟩
  rw [← ha12] at hP hD
  have ho12 : ∀ q, q ≤ 117 ∨ 117 + 21 ≤ q → al12 q = al0 q := by rw [ha12]; exact exA_out (by decide) (by decide) ho11
  have eh : al12 (117 + 12) = hh := by rw [ha12]; exact if_pos rfl
  clear ha12
  refine k_putF (k := 13) (j := 14) (x := 129) (mk := mkS 117 [13, 12, 11, 10, 9, 8, 7, 6, 5, 4] 13) (mk' := mkS 117 [14, 13, 12, 11, 10, 9, 8, 7, 6, 5, 4] 13) hC hP hD hS eh (ho12 117 (Or.inl (Nat.le_refl _))) rfl rfl (fun w hw => List.mem_cons_of_mem _ (w_C_lay_Search w hw)) ty_Search tyok_Search nm_Search (by decide) (List.mem_cons_of_mem _ (w_C_h4 5 rfl)) rfl rfl rfl rfl (fun _ => rfl) (fun _ => rfl) (by decide) (mkS_hx rfl) mkS_ho mkS_hk (show decode b_Search_init 93 = .ok (.putfield 47, 3) by decide +kernel) (fun H locs hP hD hS => ?_)
  refine lv_aload_n hx hb (show decode b_Search_init 96 = .ok (.aload_n 0, 1) by decide +kernel) rfl (lv_at hl 0 rfl) ?_
  refine lv_aload_n hx hb (show decode b_Search_init 97 = .ok (.aload_n 1, 1) by decide +kernel) rfl (lv_at hl 1 rfl) ?_
  refine k_putF (k := 13) (j := 0) (x := 1) (mk := mkS 117 [14, 13, 12, 11, 10, 9, 8, 7, 6, 5, 4] 13) (mk' := mkS 117 [0, 14, 13, 12, 11, 10, 9, 8, 7, 6, 5, 4] 13) hC hP hD hS (ho12 1 (Or.inl (by decide))) (ho12 117 (Or.inl (Nat.le_refl _))) rfl rfl (fun w hw => List.mem_cons_of_mem _ (w_C_lay_Search w hw)) ty_Search tyok_Search nm_Search (by decide) (List.mem_cons_of_mem _ (w_C_h4 6 rfl)) rfl rfl rfl rfl (fun _ => rfl) (fun _ => rfl) (by decide) (mkS_hx rfl) mkS_ho mkS_hk (show decode b_Search_init 98 = .ok (.putfield 50, 3) by decide +kernel) (fun H locs hP hD hS => ?_)
  refine lv_aload_n hx hb (show decode b_Search_init 101 = .ok (.aload_n 0, 1) by decide +kernel) rfl (lv_at hl 0 rfl) ?_
  refine lv_aload_n hx hb (show decode b_Search_init 102 = .ok (.aload_n 2, 1) by decide +kernel) rfl (lv_at hl 2 rfl) ?_
  refine k_putF (k := 13) (j := 1) (x := 3) (mk := mkS 117 [0, 14, 13, 12, 11, 10, 9, 8, 7, 6, 5, 4] 13) (mk' := mkS 117 [1, 0, 14, 13, 12, 11, 10, 9, 8, 7, 6, 5, 4] 13) hC hP hD hS (ho12 3 (Or.inl (by decide))) (ho12 117 (Or.inl (Nat.le_refl _))) rfl rfl (fun w hw => List.mem_cons_of_mem _ (w_C_lay_Search w hw)) ty_Search tyok_Search nm_Search (by decide) (List.mem_cons_of_mem _ (w_C_h4 7 rfl)) rfl rfl rfl rfl (fun _ => rfl) (fun _ => rfl) (by decide) (mkS_hx rfl) mkS_ho mkS_hk (show decode b_Search_init 103 = .ok (.putfield 54, 3) by decide +kernel) (fun H locs hP hD hS => ?_)
  refine lv_aload_n hx hb (show decode b_Search_init 106 = .ok (.aload_n 0, 1) by decide +kernel) rfl (lv_at hl 0 rfl) ?_
  refine lv_aload_n hx hb (show decode b_Search_init 107 = .ok (.aload_n 3, 1) by decide +kernel) rfl (lv_at hl 3 rfl) ?_
  refine k_putF (k := 13) (j := 2) (x := 112) (mk := mkS 117 [1, 0, 14, 13, 12, 11, 10, 9, 8, 7, 6, 5, 4] 13) (mk' := mkS 117 [2, 1, 0, 14, 13, 12, 11, 10, 9, 8, 7, 6, 5, 4] 13) hC hP hD hS (ho12 112 (Or.inl (by decide))) (ho12 117 (Or.inl (Nat.le_refl _))) rfl rfl (fun w hw => List.mem_cons_of_mem _ (w_C_lay_Search w hw)) ty_Search tyok_Search nm_Search (by decide) (List.mem_cons_of_mem _ (w_C_h4 8 rfl)) rfl rfl rfl rfl (fun _ => rfl) (fun _ => rfl) (by decide) (mkS_hx rfl) mkS_ho mkS_hk (show decode b_Search_init 108 = .ok (.putfield 58, 3) by decide +kernel) (fun H locs hP hD hS => ?_)
  refine lv_aload_n hx hb (show decode b_Search_init 111 = .ok (.aload_n 0, 1) by decide +kernel) rfl (lv_at hl 0 rfl) ?_
  refine k_new (k := 13) (N := 9) (mk := mkS 117 [2, 1, 0, 14, 13, 12, 11, 10, 9, 8, 7, 6, 5, 4] 13) hC hP hD hS rfl rfl (fun w hw => List.mem_cons_of_mem _ (w_C_lay_Stages w hw)) ty_Stages tyok_Stages (List.mem_cons_of_mem _ (w_C_h4 9 rfl)) (List.mem_cons_of_mem _ (w_C_h4 10 rfl)) (List.mem_cons_of_mem _ (w_C_h4 11 rfl)) (by decide +kernel) (clo_b (by decide +kernel)) (mkS_no (by decide)) (Nat.le_of_ble_eq_true rfl) (Nat.le_of_ble_eq_true rfl) (show decode b_Search_init 112 = .ok (.new 62, 3) by decide +kernel) (fun hh H hP hD hS => ?_)
  obtain ⟨al13, ha13⟩ : ∃ z, z = exA al12 (117 + 13) hh := ⟨_, rfl⟩
  rw [← ha13] at hP hD
  have ho13 : ∀ q, q ≤ 117 ∨ 117 + 21 ≤ q → al13 q = al0 q := by rw [ha13]; exact exA_out (by decide) (by decide) ho12
  have eh : al13 (117 + 13) = hh := by rw [ha13]; exact if_pos rfl
  clear ha13
  refine lv_dup hx hb (show decode b_Search_init 115 = .ok (.dup, 1) by decide +kernel) rfl ?_
  refine lv_aload_n hx hb (show decode b_Search_init 116 = .ok (.aload_n 1, 1) by decide +kernel) rfl (lv_at hl 1 rfl) ?_
  refine lv_aload_n hx hb (show decode b_Search_init 117 = .ok (.aload_n 2, 1) by decide +kernel) rfl (lv_at hl 2 rfl) ?_
  refine k_back (k := 13) (len := 8) (mc := 7) (ms := 3365) (mk := mkS 117 [2, 1, 0, 14, 13, 12, 11, 10, 9, 8, 7, 6, 5, 4] 13) (mk' := mkS 117 [2, 1, 0, 14, 13, 12, 11, 10, 9, 8, 7, 6, 5, 4] 21) hC hP hD hS (mkS_no (by decide)) (fun hPc hDc => k_callI (xs := [1, 3]) hC hPc hDc (k_Stages_init l) (w_C_GN (w_C_h3 42 rfl)) (List.mem_cons_of_mem _ (w_C_h4 13 rfl)) rfl (List.mem_cons_of_mem _ (w_C_h4 14 rfl)) (List.mem_cons_of_mem _ (w_C_h4 11 rfl)) ⟨rfl, rfl⟩ (by decide +kernel) ⟨Nat.le_of_ble_eq_true rfl, Nat.le_of_ble_eq_true rfl⟩ hl.1 (Nat.le_of_ble_eq_true rfl) (show decode b_Search_init 118 = .ok (.invokespecial 64, 3) by decide +kernel) ⟨Nat.le_of_ble_eq_true rfl, Nat.le_of_ble_eq_true rfl⟩ (by rw [eh]; simp only [List.map_cons, List.map_nil]; rw [ho13 1 (Or.inl (by decide)), ho13 3 (Or.inl (by decide))]; rfl)) (clo_b (by decide +kernel)) (mkS_up (Nat.le_refl _) (by decide)) (mkS_in (by decide)) (by decide +kernel) (fun al14 H locs hal hP hD hS => ?_)
  have ho14 := al_out (by decide) (by decide) hal ho13
  replace eh := (hal _ (Or.inl (Nat.le_refl _))).trans eh
  refine k_putF (k := 21) (j := 3) (x := 130) (mk := mkS 117 [2, 1, 0, 14, 13, 12, 11, 10, 9, 8, 7, 6, 5, 4] 21) (mk' := mkS 117 [3, 2, 1, 0, 14, 13, 12, 11, 10, 9, 8, 7, 6, 5, 4] 21) hC hP hD hS eh (ho14 117 (Or.inl (Nat.le_refl _))) rfl rfl (fun w hw => List.mem_cons_of_mem _ (w_C_lay_Search w hw)) ty_Search tyok_Search nm_Search (by decide) (List.mem_cons_of_mem _ (w_C_h4 12 rfl)) rfl rfl rfl rfl (fun _ => rfl) (fun _ => rfl) (by decide) (mkS_hx rfl) mkS_ho mkS_hk (show decode b_Search_init 121 = .ok (.putfield 67, 3) by decide +kernel) (fun H locs hP hD hS => ?_)
  rw [mkS_full (by decide +kernel)] at hP hD
  exact W.vret hx hb hret (fun t ht hW => ⟨⟨rfl, al14, ho14, by rw [ht]; exact hP, va_K.moved hW.alike hC.2.2.2.1, hD⟩, hS.F ht⟩) hS.2.2 (show decode b_Search_init 124 = .ok (.return_, 1) by decide +kernel)
