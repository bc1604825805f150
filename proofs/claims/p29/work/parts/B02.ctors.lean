/-! constructors, by an own text program (own work) -/
set_option maxRecDepth 100000 in
set_option maxHeartbeats 4000000 in
theorem k_Grid_init (l : Launch) : kMet l y_Grid_init (Cond.code y_Grid_init b_Grid_init 1 none :: w_C) { frames := 1, cells := 0, slots := 0, locals := 12 } 1 1 [] 0 0 := by
  refine kmet (nL := 1) (by decide) rfl rfl (by decide) ?_
  intro p e s m args below meth c D cA al0 A ls hC hP hD hl
  have hl : lv_has ls 1 [(0, .ref (al0 1))] := hl
  have hS : va_S A s.heap s.heap [] := va_S.rf
  obtain ⟨hx, hb, hml, hown, hts, hret, hlocks, hN⟩ := id hC.1
  rw [mkS_0] at hP hD
  have ho0 : ∀ q, q ≤ 1 ∨ 1 + 1 ≤ q → al0 q = al0 q := fun _ _ => rfl
  refine lv_aload_n hx hb (show decode b_Grid_init 0 = .ok (.aload_n 0, 1) by decide +kernel) rfl (lv_at hl 0 rfl) ?_
  refine W.objInit hx hb hown (hts _ (List.mem_cons_of_mem _ (w_C_h2 28 rfl))) (hts _ (List.mem_cons_of_mem _ (w_C_h0 2 rfl))) (hts _ (List.mem_cons_of_mem _ (w_C_h0 3 rfl))) rfl (by rw [hml]; exact hl.1) rfl (show decode b_Grid_init 1 = .ok (.invokespecial 3, 3) by decide +kernel) (Nat.le_of_ble_eq_true rfl) (Nat.le_of_ble_eq_true rfl) ?_
  refine W.eq (g2 := F0 m 4 ls []) rfl ?_
  rw [mkS_full (by decide +kernel)] at hP hD
  exact W.vret hx hb hret (fun t ht hW => ⟨⟨rfl, al0, ho0, by rw [ht]; exact hP, va_K.moved hW.alike hC.2.2.2.1, hD⟩, hS.F ht⟩) hS.2.2 (show decode b_Grid_init 4 = .ok (.return_, 1) by decide +kernel)
set_option maxRecDepth 100000 in
set_option maxHeartbeats 4000000 in
theorem k_Layer_init (l : Launch) {a : Nat} (h : isK 4 a) : kMet l y_Layer_init (Cond.code y_Layer_init b_Layer_init 1 none :: w_C) { frames := 1, cells := 1, slots := 4, locals := 12 } a 2 [] 1 4 := by
  have hp0 := isK_pl h 256
  have hp1 := (lay_at h).2 256
  have hr0 := (lay_at h).1 false
  have hno1 := lay_no h
  have hful := lay_ful h
  refine kmet (nL := 1) (by decide) rfl rfl (by decide) ?_
  intro p e s m args below meth c D cA al0 A ls hC hP hD hl
  have hl : lv_has ls 1 [(0, .ref (al0 a))] := hl
  have hS : va_S A s.heap s.heap [] := va_S.rf
  obtain ⟨hx, hb, hml, hown, hts, hret, hlocks, hN⟩ := id hC.1
  rw [mkS_0] at hP hD
  have ho0 : ∀ q, q ≤ a ∨ a + 2 ≤ q → al0 q = al0 q := fun _ _ => rfl
  refine lv_aload_n hx hb (show decode b_Layer_init 0 = .ok (.aload_n 0, 1) by decide +kernel) rfl (lv_at hl 0 rfl) ?_
  refine W.objInit hx hb hown (hts _ (List.mem_cons_of_mem _ (w_C_h2 49 rfl))) (hts _ (List.mem_cons_of_mem _ (w_C_h0 2 rfl))) (hts _ (List.mem_cons_of_mem _ (w_C_h0 3 rfl))) rfl (by rw [hml]; exact hl.1) rfl (show decode b_Layer_init 1 = .ok (.invokespecial 3, 3) by decide +kernel) (Nat.le_of_ble_eq_true rfl) (Nat.le_of_ble_eq_true rfl) ?_
  refine W.eq (g2 := F0 m 4 ls []) rfl ?_
  refine lv_aload_n hx hb (show decode b_Layer_init 4 = .ok (.aload_n 0, 1) by decide +kernel) rfl (lv_at hl 0 rfl) ?_
  refine lv_iconst (v := 4) hx hb (show decode b_Layer_init 5 = .ok (.iconst 4, 1) by decide +kernel) (by decide) ?_
  refine k_arr (k := 1) (t := 1) (n := 4) (ty := .long) (mk := mkS a [] 1) (mk' := mkS a [] 2) hC hP hD hS (List.mem_cons_of_mem _ (w_C_h2 50 rfl)) rfl (Or.inr (Or.inl ⟨rfl, rfl⟩)) clo_0 hp1 (mkS_up (Nat.le_refl _) (by decide)) (no_of hno1) rfl (by decide) (Nat.le_of_ble_eq_true rfl) (Nat.le_of_ble_eq_true rfl) (show decode b_Layer_init 6 = .ok (.newarray .long, 2) by decide +kernel) (fun hh H hP hD hS => ?_)
  obtain ⟨al1, ha1⟩ : ∃ z, z = exA al0 (a + 1) hh := ⟨_, rfl⟩
  rw [← ha1] at hP hD
  have ho1 : ∀ q, q ≤ a ∨ a + 2 ≤ q → al1 q = al0 q := by rw [ha1]; exact exA_out (by decide) (by decide) ho0
  have eh : al1 (a + 1) = hh := by rw [ha1]; exact if_pos rfl
  clear ha1
  refine k_putF (k := 2) (j := 0) (x := a + 1) (mk := mkS a [] 2) (mk' := mkS a [0] 2) hC hP hD hS eh (ho1 a (Or.inl (Nat.le_refl _))) rfl hp0 (fun w hw => List.mem_cons_of_mem _ (w_C_lay_Layer w hw)) ty_Layer tyok_Layer nm_Layer (by decide) (List.mem_cons_of_mem _ (w_C_h2 51 rfl)) rfl rfl rfl rfl (fun _ => rfl) (fun _ => rfl) (by decide) (mkS_hx hr0) mkS_ho mkS_hk (show decode b_Layer_init 8 = .ok (.putfield 9, 3) by decide +kernel) (fun H locs hP hD hS => ?_)
  rw [mkS_full hful] at hP hD
  exact W.vret hx hb hret (fun t ht hW => ⟨⟨rfl, al1, ho1, by rw [ht]; exact hP, va_K.moved hW.alike hC.2.2.2.1, hD⟩, hS.F ht⟩) hS.2.2 (show decode b_Layer_init 11 = .ok (.return_, 1) by decide +kernel)
set_option maxRecDepth 100000 in
set_option maxHeartbeats 4000000 in
theorem k_Clues_init (l : Launch) {a : Nat} (h : isK 3 a) : kMet l y_Clues_init (Cond.code y_Clues_init b_Clues_init 1 none :: w_C) { frames := 1, cells := 4, slots := 288, locals := 12 } a 5 [] 4 288 := by
  have hp0 := isK_pl h 256
  obtain ⟨hp1, hp2, hp3, hp4⟩ := (clu_at h).2 256
  obtain ⟨hr1, hr2, hr3, hr4⟩ := (clu_at h).1 false
  obtain ⟨hno1, hno2, hno3, hno4, hc2, hc3, hc4, hful⟩ := clu_no h
  refine kmet (nL := 1) (by decide) rfl rfl (by decide) ?_
  intro p e s m args below meth c D cA al0 A ls hC hP hD hl
  have hl : lv_has ls 1 [(0, .ref (al0 a))] := hl
  have hS : va_S A s.heap s.heap [] := va_S.rf
  obtain ⟨hx, hb, hml, hown, hts, hret, hlocks, hN⟩ := id hC.1
  rw [mkS_0] at hP hD
  have ho0 : ∀ q, q ≤ a ∨ a + 5 ≤ q → al0 q = al0 q := fun _ _ => rfl
  refine lv_aload_n hx hb (show decode b_Clues_init 0 = .ok (.aload_n 0, 1) by decide +kernel) rfl (lv_at hl 0 rfl) ?_
  refine W.objInit hx hb hown (hts _ (List.mem_cons_of_mem _ (w_C_h0 15 rfl))) (hts _ (List.mem_cons_of_mem _ (w_C_h0 2 rfl))) (hts _ (List.mem_cons_of_mem _ (w_C_h0 3 rfl))) rfl (by rw [hml]; exact hl.1) rfl (show decode b_Clues_init 1 = .ok (.invokespecial 3, 3) by decide +kernel) (Nat.le_of_ble_eq_true rfl) (Nat.le_of_ble_eq_true rfl) ?_
  refine W.eq (g2 := F0 m 4 ls []) rfl ?_
  refine lv_aload_n hx hb (show decode b_Clues_init 4 = .ok (.aload_n 0, 1) by decide +kernel) rfl (lv_at hl 0 rfl) ?_
  refine lv_bipush (v := 16) hx hb (show decode b_Clues_init 5 = .ok (.bipush 16, 2) by decide +kernel) (by decide) ?_
  refine k_arr (k := 1) (t := 0) (n := 16) (ty := .int) (mk := mkS a [] 1) (mk' := mkS a [] 2) hC hP hD hS (List.mem_cons_of_mem _ (w_C_h0 4 rfl)) rfl (Or.inl ⟨rfl, rfl⟩) clo_0 hp1 (mkS_up (Nat.le_refl _) (by decide)) (no_of hno1) rfl (by decide) (Nat.le_of_ble_eq_true rfl) (Nat.le_of_ble_eq_true rfl) (show decode b_Clues_init 7 = .ok (.newarray .int, 2) by decide +kernel) (fun hh H hP hD hS => ?_)
  obtain ⟨al1, ha1⟩ : ∃ z, z = exA al0 (a + 1) hh := ⟨_, rfl⟩
  rw [← ha1] at hP hD
  have ho1 : ∀ q, q ≤ a ∨ a + 5 ≤ q → al1 q = al0 q := by rw [ha1]; exact exA_out (by decide) (by decide) ho0
  have eh : al1 (a + 1) = hh := by rw [ha1]; exact if_pos rfl
  clear ha1
  refine k_putF (k := 2) (j := 1) (x := a + 1) (mk := mkS a [] 2) (mk' := mkS a [1] 2) hC hP hD hS eh (ho1 a (Or.inl (Nat.le_refl _))) rfl hp0 (fun w hw => List.mem_cons_of_mem _ (w_C_lay_Clues w hw)) ty_Clues tyok_Clues nm_Clues (by decide) (List.mem_cons_of_mem _ (w_C_h0 16 rfl)) rfl rfl rfl rfl (fun _ => rfl) (fun _ => rfl) (by decide) (mkS_hx hr1) mkS_ho mkS_hk (show decode b_Clues_init 9 = .ok (.putfield 9, 3) by decide +kernel) (fun H locs hP hD hS => ?_)
  refine lv_aload_n hx hb (show decode b_Clues_init 12 = .ok (.aload_n 0, 1) by decide +kernel) rfl (lv_at hl 0 rfl) ?_
  refine lv_bipush (v := 16) hx hb (show decode b_Clues_init 13 = .ok (.bipush 16, 2) by decide +kernel) (by decide) ?_
  refine k_arr (k := 2) (t := 0) (n := 16) (ty := .int) (mk := mkS a [1] 2) (mk' := mkS a [1] 3) hC hP hD hS (List.mem_cons_of_mem _ (w_C_h0 4 rfl)) rfl (Or.inl ⟨rfl, rfl⟩) hc2 hp2 (mkS_up (Nat.le_refl _) (by decide)) (no_of hno2) rfl (by decide) (Nat.le_of_ble_eq_true rfl) (Nat.le_of_ble_eq_true rfl) (show decode b_Clues_init 15 = .ok (.newarray .int, 2) by decide +kernel) (fun hh H hP hD hS => ?_)
  obtain ⟨al2, ha2⟩ : ∃ z, z = exA al1 (a + 2) hh := ⟨_, rfl⟩
  rw [← ha2] at hP hD
  have ho2 : ∀ q, q ≤ a ∨ a + 5 ≤ q → al2 q = al0 q := by rw [ha2]; exact exA_out (by decide) (by decide) ho1
  have eh : al2 (a + 2) = hh := by rw [ha2]; exact if_pos rfl
  clear ha2
  refine k_putF (k := 3) (j := 2) (x := a + 2) (mk := mkS a [1] 3) (mk' := mkS a [2, 1] 3) hC hP hD hS eh (ho2 a (Or.inl (Nat.le_refl _))) rfl hp0 (fun w hw => List.mem_cons_of_mem _ (w_C_lay_Clues w hw)) ty_Clues tyok_Clues nm_Clues (by decide) (List.mem_cons_of_mem _ (w_C_h0 17 rfl)) rfl rfl rfl rfl (fun _ => rfl) (fun _ => rfl) (by decide) (mkS_hx hr2) mkS_ho mkS_hk (show decode b_Clues_init 17 = .ok (.putfield 15, 3) by decide +kernel) (fun H locs hP hD hS => ?_)
  refine lv_aload_n hx hb (show decode b_Clues_init 20 = .ok (.aload_n 0, 1) by decide +kernel) rfl (lv_at hl 0 rfl) ?_
  refine lv_sipush (v := 128) hx hb (show decode b_Clues_init 21 = .ok (.sipush 128, 3) by decide +kernel) (by decide) ?_
  refine k_arr (k := 3) (t := 0) (n := 128) (ty := .int) (mk := mkS a [2, 1] 3) (mk' := mkS a [2, 1] 4) hC hP hD hS (List.mem_cons_of_mem _ (w_C_h0 4 rfl)) rfl (Or.inl ⟨rfl, rfl⟩) hc3 hp3 (mkS_up (Nat.le_refl _) (by decide)) (no_of hno3) rfl (by decide) (Nat.le_of_ble_eq_true rfl) (Nat.le_of_ble_eq_true rfl) (show decode b_Clues_init 24 = .ok (.newarray .int, 2) by decide +kernel) (fun hh H hP hD hS => ?_)
  obtain ⟨al3, ha3⟩ : ∃ z, z = exA al2 (a + 3) hh := ⟨_, rfl⟩
  rw [← ha3] at hP hD
  have ho3 : ∀ q, q ≤ a ∨ a + 5 ≤ q → al3 q = al0 q := by rw [ha3]; exact exA_out (by decide) (by decide) ho2
  have eh : al3 (a + 3) = hh := by rw [ha3]; exact if_pos rfl
  clear ha3
  refine k_putF (k := 4) (j := 3) (x := a + 3) (mk := mkS a [2, 1] 4) (mk' := mkS a [3, 2, 1] 4) hC hP hD hS eh (ho3 a (Or.inl (Nat.le_refl _))) rfl hp0 (fun w hw => List.mem_cons_of_mem _ (w_C_lay_Clues w hw)) ty_Clues tyok_Clues nm_Clues (by decide) (List.mem_cons_of_mem _ (w_C_h0 18 rfl)) rfl rfl rfl rfl (fun _ => rfl) (fun _ => rfl) (by decide) (mkS_hx hr3) mkS_ho mkS_hk (show decode b_Clues_init 26 = .ok (.putfield 18, 3) by decide +kernel) (fun H locs hP hD hS => ?_)
  refine lv_aload_n hx hb (show decode b_Clues_init 29 = .ok (.aload_n 0, 1) by decide +kernel) rfl (lv_at hl 0 rfl) ?_
  refine lv_sipush (v := 128) hx hb (show decode b_Clues_init 30 = .ok (.sipush 128, 3) by decide +kernel) (by decide) ?_
  refine k_arr (k := 4) (t := 0) (n := 128) (ty := .int) (mk := mkS a [3, 2, 1] 4) (mk' := mkS a [3, 2, 1] 5) hC hP hD hS (List.mem_cons_of_mem _ (w_C_h0 4 rfl)) rfl (Or.inl ⟨rfl, rfl⟩) hc4 hp4 (mkS_up (Nat.le_refl _) (by decide)) (no_of hno4) rfl (by decide) (Nat.le_of_ble_eq_true rfl) (Nat.le_of_ble_eq_true rfl) (show decode b_Clues_init 33 = .ok (.newarray .int, 2) by decide +kernel) (fun hh H hP hD hS => ?_)
  obtain ⟨al4, ha4⟩ : ∃ z, z = exA al3 (a + 4) hh := ⟨_, rfl⟩
  rw [← ha4] at hP hD
  have ho4 : ∀ q, q ≤ a ∨ a + 5 ≤ q → al4 q = al0 q := by rw [ha4]; exact exA_out (by decide) (by decide) ho3
  have eh : al4 (a + 4) = hh := by rw [ha4]; exact if_pos rfl
  clear ha4
  refine k_putF (k := 5) (j := 4) (x := a + 4) (mk := mkS a [3, 2, 1] 5) (mk' := mkS a [4, 3, 2, 1] 5) hC hP hD hS eh (ho4 a (Or.inl (Nat.le_refl _))) rfl hp0 (fun w hw => List.mem_cons_of_mem _ (w_C_lay_Clues w hw)) ty_Clues tyok_Clues nm_Clues (by decide) (List.mem_cons_of_mem _ (w_C_h0 19 rfl)) rfl rfl rfl rfl (fun _ => rfl) (fun _ => rfl) (by decide) (mkS_hx hr4) mkS_ho mkS_hk (show decode b_Clues_init 35 = .ok (.putfield 21, 3) by decide +kernel) (fun H locs hP hD hS => ?_)
  rw [mkS_full hful] at hP hD
  exact W.vret hx hb hret (fun t ht hW => ⟨⟨rfl, al4, ho4, by rw [ht]; exact hP, va_K.moved hW.alike hC.2.2.2.1, hD⟩, hS.F ht⟩) hS.2.2 (show decode b_Clues_init 38 = .ok (.return_, 1) by decide +kernel)
set_option maxRecDepth 100000 in
set_option maxHeartbeats 4000000 in
theorem k_ClueText_init (l : Launch) : kMet l y_ClueText_init (Cond.code y_ClueText_init b_ClueText_init 1 none :: w_C) { frames := 1, cells := 1, slots := 120, locals := 12 } 94 2 [] 1 120 := by
  refine kmet (nL := 1) (by decide) rfl rfl (by decide) ?_
  intro p e s m args below meth c D cA al0 A ls hC hP hD hl
  have hl : lv_has ls 1 [(0, .ref (al0 94))] := hl
  have hS : va_S A s.heap s.heap [] := va_S.rf
  obtain ⟨hx, hb, hml, hown, hts, hret, hlocks, hN⟩ := id hC.1
  rw [mkS_0] at hP hD
  have ho0 : ∀ q, q ≤ 94 ∨ 94 + 2 ≤ q → al0 q = al0 q := fun _ _ => rfl
  refine lv_aload_n hx hb (show decode b_ClueText_init 0 = .ok (.aload_n 0, 1) by decide +kernel) rfl (lv_at hl 0 rfl) ?_
  refine W.objInit hx hb hown (hts _ (List.mem_cons_of_mem _ (w_C_h0 11 rfl))) (hts _ (List.mem_cons_of_mem _ (w_C_h0 2 rfl))) (hts _ (List.mem_cons_of_mem _ (w_C_h0 3 rfl))) rfl (by rw [hml]; exact hl.1) rfl (show decode b_ClueText_init 1 = .ok (.invokespecial 3, 3) by decide +kernel) (Nat.le_of_ble_eq_true rfl) (Nat.le_of_ble_eq_true rfl) ?_
  refine W.eq (g2 := F0 m 4 ls []) rfl ?_
  refine lv_aload_n hx hb (show decode b_ClueText_init 4 = .ok (.aload_n 0, 1) by decide +kernel) rfl (lv_at hl 0 rfl) ?_
  refine lv_bipush (v := 120) hx hb (show decode b_ClueText_init 5 = .ok (.bipush 120, 2) by decide +kernel) (by decide) ?_
  refine k_arr (k := 1) (t := 2) (n := 120) (ty := .byte) (mk := mkS 94 [] 1) (mk' := mkS 94 [] 2) hC hP hD hS (List.mem_cons_of_mem _ (w_C_h0 12 rfl)) rfl (Or.inr (Or.inr ⟨rfl, rfl⟩)) clo_0 rfl (mkS_up (Nat.le_refl _) (by decide)) (no_of (by decide +kernel)) rfl (by decide) (Nat.le_of_ble_eq_true rfl) (Nat.le_of_ble_eq_true rfl) (show decode b_ClueText_init 7 = .ok (.newarray .byte, 2) by decide +kernel) (fun hh H hP hD hS => ?_)
  obtain ⟨al1, ha1⟩ : ∃ z, z = exA al0 (94 + 1) hh := ⟨_, rfl⟩
  rw [← ha1] at hP hD
  have ho1 : ∀ q, q ≤ 94 ∨ 94 + 2 ≤ q → al1 q = al0 q := by rw [ha1]; exact exA_out (by decide) (by decide) ho0
  have eh : al1 (94 + 1) = hh := by rw [ha1]; exact if_pos rfl
  clear ha1
  refine k_putF (k := 2) (j := 0) (x := 95) (mk := mkS 94 [] 2) (mk' := mkS 94 [0] 2) hC hP hD hS eh (ho1 94 (Or.inl (Nat.le_refl _))) rfl rfl (fun w hw => List.mem_cons_of_mem _ (w_C_lay_ClueText w hw)) ty_ClueText tyok_ClueText nm_ClueText (by decide) (List.mem_cons_of_mem _ (w_C_h0 13 rfl)) rfl rfl rfl rfl (fun _ => rfl) (fun _ => rfl) (by decide) (mkS_hx rfl) mkS_ho mkS_hk (show decode b_ClueText_init 9 = .ok (.putfield 9, 3) by decide +kernel) (fun H locs hP hD hS => ?_)
  rw [mkS_full (by decide +kernel)] at hP hD
  exact W.vret hx hb hret (fun t ht hW => ⟨⟨rfl, al1, ho1, by rw [ht]; exact hP, va_K.moved hW.alike hC.2.2.2.1, hD⟩, hS.F ht⟩) hS.2.2 (show decode b_ClueText_init 12 = .ok (.return_, 1) by decide +kernel)
set_option maxRecDepth 100000 in
set_option maxHeartbeats 4000000 in
theorem k_Situation_init (l : Launch) {a : Nat} (h : isK 2 a) : kMet l y_Situation_init (Cond.code y_Situation_init b_Situation_init 1 none :: w_C) { frames := 2, cells := 9, slots := 303, locals := 32 } a 10 [] 9 303 := by
  have hp0 := isK_pl h 256
  obtain ⟨hr, hk1, hk6, hk8⟩ := sit_at h
  obtain ⟨hr0, hr1, hr2⟩ := hr false
  have hp1 := isK_pl hk1 256
  have hp6 := isK_pl hk6 256
  have hp8 := isK_pl hk8 256
  obtain ⟨hc6, hc8, hful⟩ := sit_no h
  refine kmet (nL := 1) (by decide) rfl rfl (by decide) ?_
  intro p e s m args below meth c D cA al0 A ls hC hP hD hl
  have hl : lv_has ls 1 [(0, .ref (al0 a))] := hl
  have hS : va_S A s.heap s.heap [] := va_S.rf
  obtain ⟨hx, hb, hml, hown, hts, hret, hlocks, hN⟩ := id hC.1
  rw [mkS_0] at hP hD
  have ho0 : ∀ q, q ≤ a ∨ a + 10 ≤ q → al0 q = al0 q := fun _ _ => rfl
  refine lv_aload_n hx hb (show decode b_Situation_init 0 = .ok (.aload_n 0, 1) by decide +kernel) rfl (lv_at hl 0 rfl) ?_
  refine W.objInit hx hb hown (hts _ (List.mem_cons_of_mem _ (w_C_h2 52 rfl))) (hts _ (List.mem_cons_of_mem _ (w_C_h0 2 rfl))) (hts _ (List.mem_cons_of_mem _ (w_C_h0 3 rfl))) rfl (by rw [hml]; exact hl.1) rfl (show decode b_Situation_init 1 = .ok (.invokespecial 1, 3) by decide +kernel) (Nat.le_of_ble_eq_true rfl) (Nat.le_of_ble_eq_true rfl) ?_
  refine W.eq (g2 := F0 m 4 ls []) rfl ?_
  refine lv_aload_n hx hb (show decode b_Situation_init 4 = .ok (.aload_n 0, 1) by decide +kernel) rfl (lv_at hl 0 rfl) ?_
  refine k_new (k := 1) (N := 5) (mk := mkS a [] 1) hC hP hD hS rfl hp1 (fun w hw => List.mem_cons_of_mem _ (w_C_lay_Clues w hw)) ty_Clues tyok_Clues (List.mem_cons_of_mem _ (w_C_h2 53 rfl)) (List.mem_cons_of_mem _ (w_C_h2 54 rfl)) (List.mem_cons_of_mem _ (w_C_h0 39 rfl)) (by decide +kernel) clo_0 (mkS_no (by decide)) (Nat.le_of_ble_eq_true rfl) (Nat.le_of_ble_eq_true rfl) (show decode b_Situation_init 5 = .ok (.new 7, 3) by decide +kernel) (fun hh H hP hD hS => ?_)
  obtain ⟨al1, ha1⟩ : ∃ z, z = exA al0 (a + 1) hh := ⟨_, rfl⟩
  rw [← ha1] at hP hD
  have ho1 : ∀ q, q ≤ a ∨ a + 10 ≤ q → al1 q = al0 q := by rw [ha1]; exact exA_out (by decide) (by decide) ho0
  have eh : al1 (a + 1) = hh := by rw [ha1]; exact if_pos rfl
  clear ha1
  refine lv_dup hx hb (show decode b_Situation_init 8 = .ok (.dup, 1) by decide +kernel) rfl ?_
  refine k_back (k := 1) (len := 5) (mc := 4) (ms := 288) (mk := mkS a [] 1) (mk' := mkS a [] 6) hC hP hD hS (mkS_no (by decide)) (fun hPc hDc => k_callN (xs := []) hC hPc hDc (k_Clues_init l hk1) (w_C_GN (w_C_h0 14 rfl)) (List.mem_of_getElem? (i := 2) rfl) rfl (List.mem_cons_of_mem _ (w_C_h3 1 rfl)) (List.mem_cons_of_mem _ (w_C_h0 39 rfl)) ⟨rfl, rfl⟩ (by decide +kernel) ⟨Nat.le_of_ble_eq_true rfl, Nat.le_of_ble_eq_true rfl⟩ hl.1 (Nat.le_of_ble_eq_true rfl) (show decode b_Situation_init 9 = .ok (.invokespecial 9, 3) by decide +kernel) ⟨Nat.le_of_ble_eq_true rfl, Nat.le_of_ble_eq_true rfl⟩ (by rw [eh]; rfl)) clo_0 (mkS_up (Nat.le_refl _) (by decide)) (mkS_in (by decide)) (by decide +kernel) (fun al2 H locs hal hP hD hS => ?_)
  have ho2 := al_out (by decide) (by decide) hal ho1
  replace eh := (hal _ (Or.inl (Nat.le_refl _))).trans eh
  refine k_putF (k := 6) (j := 0) (x := a + 1) (mk := mkS a [] 6) (mk' := mkS a [0] 6) hC hP hD hS eh (ho2 a (Or.inl (Nat.le_refl _))) rfl hp0 (fun w hw => List.mem_cons_of_mem _ (w_C_lay_Situation w hw)) ty_Situation tyok_Situation nm_Situation (by decide) (List.mem_cons_of_mem _ (w_C_h2 55 rfl)) rfl rfl rfl rfl (fun _ => rfl) (fun _ => rfl) (by decide) (mkS_hx hr0) mkS_ho mkS_hk (show decode b_Situation_init 12 = .ok (.putfield 10, 3) by decide +kernel) (fun H locs hP hD hS => ?_)
  refine lv_aload_n hx hb (show decode b_Situation_init 15 = .ok (.aload_n 0, 1) by decide +kernel) rfl (lv_at hl 0 rfl) ?_
  refine k_new (k := 6) (N := 1) (mk := mkS a [0] 6) hC hP hD hS rfl hp6 (fun w hw => List.mem_cons_of_mem _ (w_C_lay_Layer w hw)) ty_Layer tyok_Layer (List.mem_cons_of_mem _ (w_C_h2 56 rfl)) (List.mem_cons_of_mem _ (w_C_h2 57 rfl)) (List.mem_cons_of_mem _ (w_C_h2 58 rfl)) (by decide +kernel) hc6 (mkS_no (by decide)) (Nat.le_of_ble_eq_true rfl) (Nat.le_of_ble_eq_true rfl) (show decode b_Situation_init 16 = .ok (.new 16, 3) by decide +kernel) (fun hh H hP hD hS => ?_)
  obtain ⟨al3, ha3⟩ : ∃ z, z = exA al2 (a + 6) hh := ⟨_, rfl⟩
  rw [← ha3] at hP hD
  have ho3 : ∀ q, q ≤ a ∨ a + 10 ≤ q → al3 q = al0 q := by rw [ha3]; exact exA_out (by decide) (by decide) ho2
  have eh : al3 (a + 6) = hh := by rw [ha3]; exact if_pos rfl
  clear ha3
  refine lv_dup hx hb (show decode b_Situation_init 19 = .ok (.dup, 1) by decide +kernel) rfl ?_
  refine k_back (k := 6) (len := 2) (mc := 1) (ms := 4) (mk := mkS a [0] 6) (mk' := mkS a [0] 8) hC hP hD hS (mkS_no (by decide)) (fun hPc hDc => k_callN (xs := []) hC hPc hDc (k_Layer_init l hk6) (w_C_GN (w_C_h2 48 rfl)) (List.mem_of_getElem? (i := 3) rfl) rfl (List.mem_cons_of_mem _ (w_C_h3 2 rfl)) (List.mem_cons_of_mem _ (w_C_h2 58 rfl)) ⟨rfl, rfl⟩ (by decide +kernel) ⟨Nat.le_of_ble_eq_true rfl, Nat.le_of_ble_eq_true rfl⟩ hl.1 (Nat.le_of_ble_eq_true rfl) (show decode b_Situation_init 20 = .ok (.invokespecial 18, 3) by decide +kernel) ⟨Nat.le_of_ble_eq_true rfl, Nat.le_of_ble_eq_true rfl⟩ (by rw [eh]; rfl)) hc6 (mkS_up (Nat.le_refl _) (by decide)) (mkS_in (by decide)) (by decide +kernel) (fun al4 H locs hal hP hD hS => ?_)
  have ho4 := al_out (by decide) (by decide) hal ho3
  replace eh := (hal _ (Or.inl (Nat.le_refl _))).trans eh
  refine k_putF (k := 8) (j := 1) (x := a + 6) (mk := mkS a [0] 8) (mk' := mkS a [1, 0] 8) hC hP hD hS eh (ho4 a (Or.inl (Nat.le_refl _))) rfl hp0 (fun w hw => List.mem_cons_of_mem _ (w_C_lay_Situation w hw)) ty_Situation tyok_Situation nm_Situation (by decide) (List.mem_cons_of_mem _ (w_C_h2 59 rfl)) rfl rfl rfl rfl (fun _ => rfl) (fun _ => rfl) (by decide) (mkS_hx hr1) mkS_ho mkS_hk (show decode b_Situation_init 23 = .ok (.putfield 19, 3) by decide +kernel) (fun H locs hP hD hS => ?_)
  refine lv_aload_n hx hb (show decode b_Situation_init 26 = .ok (.aload_n 0, 1) by decide +kernel) rfl (lv_at hl 0 rfl) ?_
  refine k_new (k := 8) (N := 1) (mk := mkS a [1, 0] 8) hC hP hD hS rfl hp8 (fun w hw => List.mem_cons_of_mem _ (w_C_lay_Layer w hw)) ty_Layer tyok_Layer (List.mem_cons_of_mem _ (w_C_h2 56 rfl)) (List.mem_cons_of_mem _ (w_C_h2 57 rfl)) (List.mem_cons_of_mem _ (w_C_h2 58 rfl)) (by decide +kernel) hc8 (mkS_no (by decide)) (Nat.le_of_ble_eq_true rfl) (Nat.le_of_ble_eq_true rfl) (show decode b_Situation_init 27 = .ok (.new 16, 3) by decide +kernel) (fun hh H hP hD hS => ?_)
  obtain ⟨al5, ha5⟩ : ∃ z, z = exA al4 (a + 8) hh := ⟨_, rfl⟩
  rw [← ha5] at hP hD
  have ho5 : ∀ q, q ≤ a ∨ a + 10 ≤ q → al5 q = al0 q := by rw [ha5]; exact exA_out (by decide) (by decide) ho4
  have eh : al5 (a + 8) = hh := by rw [ha5]; exact if_pos rfl
  clear ha5
  refine lv_dup hx hb (show decode b_Situation_init 30 = .ok (.dup, 1) by decide +kernel) rfl ?_
  refine k_back (k := 8) (len := 2) (mc := 1) (ms := 4) (mk := mkS a [1, 0] 8) (mk' := mkS a [1, 0] 10) hC hP hD hS (mkS_no (by decide)) (fun hPc hDc => k_callN (xs := []) hC hPc hDc (k_Layer_init l hk8) (w_C_GN (w_C_h2 48 rfl)) (List.mem_of_getElem? (i := 3) rfl) rfl (List.mem_cons_of_mem _ (w_C_h3 2 rfl)) (List.mem_cons_of_mem _ (w_C_h2 58 rfl)) ⟨rfl, rfl⟩ (by decide +kernel) ⟨Nat.le_of_ble_eq_true rfl, Nat.le_of_ble_eq_true rfl⟩ hl.1 (Nat.le_of_ble_eq_true rfl) (show decode b_Situation_init 31 = .ok (.invokespecial 18, 3) by decide +kernel) ⟨Nat.le_of_ble_eq_true rfl, Nat.le_of_ble_eq_true rfl⟩ (by rw [eh]; rfl)) hc8 (mkS_up (Nat.le_refl _) (by decide)) (mkS_in (by decide)) (by decide +kernel) (fun al6 H locs hal hP hD hS => ?_)
  have ho6 := al_out (by decide) (by decide) hal ho5
  replace eh := (hal _ (Or.inl (Nat.le_refl _))).trans eh
  refine k_putF (k := 10) (j := 2) (x := a + 8) (mk := mkS a [1, 0] 10) (mk' := mkS a [2, 1, 0] 10) hC hP hD hS eh (ho6 a (Or.inl (Nat.le_refl _))) rfl hp0 (fun w hw => List.mem_cons_of_mem _ (w_C_lay_Situation w hw)) ty_Situation tyok_Situation nm_Situation (by decide) (List.mem_cons_of_mem _ (w_C_h3 0 rfl)) rfl rfl rfl rfl (fun _ => rfl) (fun _ => rfl) (by decide) (mkS_hx hr2) mkS_ho mkS_hk (show decode b_Situation_init 34 = .ok (.putfield 23, 3) by decide +kernel) (fun H locs hP hD hS => ?_)
  rw [mkS_full hful] at hP hD
  exact W.vret hx hb hret (fun t ht hW => ⟨⟨rfl, al6, ho6, by rw [ht]; exact hP, va_K.moved hW.alike hC.2.2.2.1, hD⟩, hS.F ht⟩) hS.2.2 (show decode b_Situation_init 37 = .ok (.return_, 1) by decide +kernel)
