/-! constructors, by an own text program (own work) -/
set_option maxRecDepth 100000 in
set_option maxHeartbeats 4000000 in
theorem k_History_init (l : Launch) : kMet l y_History_init (Cond.code y_History_init b_History_init 2 none :: w_C) { frames := 3, cells := 81, slots := 2456, locals := 52 } 12 82 [] 81 2456 := by
  refine kmet (nL := 2) (by decide) rfl rfl (by decide) ?_
  intro p e s m args below meth c D cA al0 A ls hC hP hD hl
  have hl : lv_has ls 2 [(0, .ref (al0 12))] := hl
  have hS : va_S A s.heap s.heap [] := va_S.rf
  obtain ⟨hx, hb, hml, hown, hts, hret, hlocks, hN⟩ := id hC.1
  rw [mkS_0] at hP hD
  have ho0 : ∀ q, q ≤ 12 ∨ 12 + 82 ≤ q → al0 q = al0 q := fun _ _ => rfl
  refine lv_aload_n hx hb (show decode b_History_init 0 = .ok (.aload_n 0, 1) by decide +kernel) rfl (lv_at hl 0 rfl) ?_
  refine W.objInit hx hb hown (hts _ (List.mem_cons_of_mem _ (w_C_h3 4 rfl))) (hts _ (List.mem_cons_of_mem _ (w_C_h0 2 rfl))) (hts _ (List.mem_cons_of_mem _ (w_C_h0 3 rfl))) rfl (by rw [hml]; exact hl.1) rfl (show decode b_History_init 1 = .ok (.invokespecial 3, 3) by decide +kernel) (Nat.le_of_ble_eq_true rfl) (Nat.le_of_ble_eq_true rfl) ?_
  refine W.eq (g2 := F0 m 4 ls []) rfl ?_
  refine lv_aload_n hx hb (show decode b_History_init 4 = .ok (.aload_n 0, 1) by decide +kernel) rfl (lv_at hl 0 rfl) ?_
  refine lv_bipush (v := 8) hx hb (show decode b_History_init 5 = .ok (.bipush 8, 2) by decide +kernel) (by decide) ?_
  refine k_anew (k := 1) (n := 8) (mk := mkS 12 [] 1) (mk' := mkT [] 2 0) hC hP hD hS (List.mem_cons_of_mem _ (w_C_h3 5 rfl)) clo_0 rfl mkT_up0 mkT_ring0 rfl (by decide) (Nat.le_of_ble_eq_true rfl) (Nat.le_of_ble_eq_true rfl) (show decode b_History_init 7 = .ok (.anewarray 9, 3) by decide +kernel) (fun hh H hP hD hS => ?_)
  obtain ⟨al1, ha1⟩ : ∃ z, z = exA al0 (12 + 1) hh := ⟨_, rfl⟩
  rw [← ha1] at hP hD
  have ho1 : ∀ q, q ≤ 12 ∨ 12 + 82 ≤ q → al1 q = al0 q := by rw [ha1]; exact exA_out (by decide) (by decide) ho0
  have eh : al1 (12 + 1) = hh := by rw [ha1]; exact if_pos rfl
  clear ha1
  refine k_putF (k := 2) (j := 0) (x := 13) (mk := mkT [] 2 0) (mk' := mkT [0] 2 0) hC hP hD hS eh (ho1 12 (Or.inl (Nat.le_refl _))) rfl rfl (fun w hw => List.mem_cons_of_mem _ (w_C_lay_History w hw)) ty_History tyok_History nm_History (by decide) (List.mem_cons_of_mem _ (w_C_h3 6 rfl)) rfl rfl rfl rfl (fun _ => rfl) (fun _ => rfl) (by decide) mkT_hx mkT_ho mkT_hk (show decode b_History_init 10 = .ok (.putfield 11, 3) by decide +kernel) (fun H locs hP hD hS => ?_)
  refine lv_iconst (v := 0) hx hb (show decode b_History_init 13 = .ok (.iconst 0, 1) by decide +kernel) (by decide) ?_
  refine lv_istore_n (lv' := [(1, .int 0), (0, .ref (al0 12))]) hx hb (show decode b_History_init 14 = .ok (.istore_n 1, 1) by decide +kernel) rfl hl (by decide) rfl (fun ls hl => ?_)
  refine lv_iload_n hx hb (show decode b_History_init 15 = .ok (.iload_n 1, 1) by decide +kernel) rfl (lv_at hl 0 rfl) ?_
  refine lv_bipush (v := 8) hx hb (show decode b_History_init 16 = .ok (.bipush 8, 2) by decide +kernel) (by decide) ?_
  refine lv_icmp_ge (tgt := 40) hx hb (show decode b_History_init 18 = .ok (.if_icmp .ge 22, 3) by decide +kernel) (by decide) (fun z => absurd z (by decide)) (fun _ => ?_)
  refine lv_aload_n hx hb (show decode b_History_init 21 = .ok (.aload_n 0, 1) by decide +kernel) rfl (lv_at hl 1 rfl) ?_
  refine k_get (k := 2) (i := 0) (j := 0) (x := 13) (mk := mkT [0] 2 0) hC hP (by decide) (ho1 12 (Or.inl (Nat.le_refl _))) rfl rfl (fun w hw => List.mem_cons_of_mem _ (w_C_lay_History w hw)) (by decide) (List.mem_cons_of_mem _ (w_C_h3 6 rfl)) rfl rfl mkT_get (show decode b_History_init 22 = .ok (.getfield 11, 3) by decide +kernel) ?_
  refine lv_iload_n hx hb (show decode b_History_init 25 = .ok (.iload_n 1, 1) by decide +kernel) rfl (lv_at hl 0 rfl) ?_
  refine k_new (k := 2) (N := 3) (mk := mkT [0] 2 0) hC hP hD hS rfl rfl (fun w hw => List.mem_cons_of_mem _ (w_C_lay_Situation w hw)) ty_Situation tyok_Situation (List.mem_cons_of_mem _ (w_C_h3 5 rfl)) (List.mem_cons_of_mem _ (w_C_h3 7 rfl)) (List.mem_cons_of_mem _ (w_C_h3 8 rfl)) (by decide +kernel) (clT (by decide) (by decide)) (mkT_no (by decide)) (Nat.le_of_ble_eq_true rfl) (Nat.le_of_ble_eq_true rfl) (show decode b_History_init 26 = .ok (.new 9, 3) by decide +kernel) (fun hh H hP hD hS => ?_)
  obtain ⟨al2, ha2⟩ : ∃ z, z = exA al1 (12 + 2) hh := ⟨_, rfl⟩
  rw [← ha2] at hP hD
  have ho2 : ∀ q, q ≤ 12 ∨ 12 + 82 ≤ q → al2 q = al0 q := by rw [ha2]; exact exA_out (by decide) (by decide) ho1
  have eh : al2 (12 + 2) = hh := by rw [ha2]; exact if_pos rfl
  have er : al2 13 = al1 13 := by rw [ha2]; exact if_neg (by decide)
  clear ha2
  refine lv_dup hx hb (show decode b_History_init 29 = .ok (.dup, 1) by decide +kernel) rfl ?_
  refine k_back (k := 2) (len := 10) (mc := 9) (ms := 303) (mk := mkT [0] 2 0) (mk' := mkT [0] 12 0) hC hP hD hS (mkT_no (by decide)) (fun hPc hDc => k_callN (xs := []) hC hPc hDc (k_Situation_init l (show isK 2 14 from rfl)) (w_C_GN (w_C_h3 3 rfl)) (List.mem_of_getElem? (i := 4) rfl) rfl (List.mem_cons_of_mem _ (w_C_h3 9 rfl)) (List.mem_cons_of_mem _ (w_C_h3 8 rfl)) ⟨rfl, rfl⟩ (by decide +kernel) ⟨Nat.le_of_ble_eq_true rfl, Nat.le_of_ble_eq_true rfl⟩ hl.1 (Nat.le_of_ble_eq_true rfl) (show decode b_History_init 30 = .ok (.invokespecial 17, 3) by decide +kernel) ⟨Nat.le_of_ble_eq_true rfl, Nat.le_of_ble_eq_true rfl⟩ (by rw [eh]; rfl)) (clT (by decide) (by decide)) (mkT_up (by decide) (by decide)) (mkT_in (by decide)) (by decide +kernel) (fun al3 H locs hal hP hD hS => ?_)
  have ho3 := al_out (by decide) (by decide) hal ho2
  replace eh := (hal _ (Or.inl (Nat.le_refl _))).trans eh
  replace er := (hal 13 (Or.inl (by decide))).trans er
  refine k_aast (k := 12) (i := 0) (n := 8) (x := 2) (mk := mkT [0] 12 0) (mk' := mkT [0] 12 1) hC hP hD hS rfl (by decide) (by decide) (by decide) (by decide) rfl eh er rfl rfl (mkT_ro) (mkT_rk) (show decode b_History_init 33 = .ok (.aastore, 1) by decide +kernel) (fun H locs hP hD hS => ?_)
  refine lv_iinc (v := 1) (lv' := [(1, .int 1), (0, .ref (al0 12))]) hx hb (show decode b_History_init 34 = .ok (.iinc 1 1, 3) by decide +kernel) hl (k := 0) rfl (by decide) (by decide) rfl (fun ls hl => ?_)
  refine lv_goto (tgt := 15) hx hb (show decode b_History_init 37 = .ok (.goto (-22), 3) by decide +kernel) (by decide) ?_
  refine lv_iload_n hx hb (show decode b_History_init 15 = .ok (.iload_n 1, 1) by decide +kernel) rfl (lv_at hl 0 rfl) ?_
  refine lv_bipush (v := 8) hx hb (show decode b_History_init 16 = .ok (.bipush 8, 2) by decide +kernel) (by decide) ?_
  refine lv_icmp_ge (tgt := 40) hx hb (show decode b_History_init 18 = .ok (.if_icmp .ge 22, 3) by decide +kernel) (by decide) (fun z => absurd z (by decide)) (fun _ => ?_)
  refine lv_aload_n hx hb (show decode b_History_init 21 = .ok (.aload_n 0, 1) by decide +kernel) rfl (lv_at hl 1 rfl) ?_
  refine k_get (k := 12) (i := 0) (j := 0) (x := 13) (mk := mkT [0] 12 1) hC hP (by decide) (ho3 12 (Or.inl (Nat.le_refl _))) rfl rfl (fun w hw => List.mem_cons_of_mem _ (w_C_lay_History w hw)) (by decide) (List.mem_cons_of_mem _ (w_C_h3 6 rfl)) rfl rfl mkT_get (show decode b_History_init 22 = .ok (.getfield 11, 3) by decide +kernel) ?_
  refine lv_iload_n hx hb (show decode b_History_init 25 = .ok (.iload_n 1, 1) by decide +kernel) rfl (lv_at hl 0 rfl) ?_
  refine k_new (k := 12) (N := 3) (mk := mkT [0] 12 1) hC hP hD hS rfl rfl (fun w hw => List.mem_cons_of_mem _ (w_C_lay_Situation w hw)) ty_Situation tyok_Situation (List.mem_cons_of_mem _ (w_C_h3 5 rfl)) (List.mem_cons_of_mem _ (w_C_h3 7 rfl)) (List.mem_cons_of_mem _ (w_C_h3 8 rfl)) (by decide +kernel) (clT (by decide) (by decide)) (mkT_no (by decide)) (Nat.le_of_ble_eq_true rfl) (Nat.le_of_ble_eq_true rfl) (show decode b_History_init 26 = .ok (.new 9, 3) by decide +kernel) (fun hh H hP hD hS => ?_)
  obtain ⟨al4, ha4⟩ : ∃ z, z = exA al3 (12 + 12) hh := ⟨_, rfl⟩
  rw [← ha4] at hP hD
  have ho4 : ∀ q, q ≤ 12 ∨ 12 + 82 ≤ q → al4 q = al0 q := by rw [ha4]; exact exA_out (by decide) (by decide) ho3
  have eh : al4 (12 + 12) = hh := by rw [ha4]; exact if_pos rfl
  have er : al4 13 = al3 13 := by rw [ha4]; exact if_neg (by decide)
  clear ha4
  refine lv_dup hx hb (show decode b_History_init 29 = .ok (.dup, 1) by decide +kernel) rfl ?_
  refine k_back (k := 12) (len := 10) (mc := 9) (ms := 303) (mk := mkT [0] 12 1) (mk' := mkT [0] 22 1) hC hP hD hS (mkT_no (by decide)) (fun hPc hDc => k_callN (xs := []) hC hPc hDc (k_Situation_init l (show isK 2 24 from rfl)) (w_C_GN (w_C_h3 3 rfl)) (List.mem_of_getElem? (i := 4) rfl) rfl (List.mem_cons_of_mem _ (w_C_h3 9 rfl)) (List.mem_cons_of_mem _ (w_C_h3 8 rfl)) ⟨rfl, rfl⟩ (by decide +kernel) ⟨Nat.le_of_ble_eq_true rfl, Nat.le_of_ble_eq_true rfl⟩ hl.1 (Nat.le_of_ble_eq_true rfl) (show decode b_History_init 30 = .ok (.invokespecial 17, 3) by decide +kernel) ⟨Nat.le_of_ble_eq_true rfl, Nat.le_of_ble_eq_true rfl⟩ (by rw [eh]; rfl)) (clT (by decide) (by decide)) (mkT_up (by decide) (by decide)) (mkT_in (by decide)) (by decide +kernel) (fun al5 H locs hal hP hD hS => ?_)
  have ho5 := al_out (by decide) (by decide) hal ho4
  replace eh := (hal _ (Or.inl (Nat.le_refl _))).trans eh
  replace er := (hal 13 (Or.inl (by decide))).trans er
  refine k_aast (k := 22) (i := 1) (n := 8) (x := 12) (mk := mkT [0] 22 1) (mk' := mkT [0] 22 2) hC hP hD hS rfl (by decide) (by decide) (by decide) (by decide) rfl eh er rfl rfl (mkT_ro) (mkT_rk) (show decode b_History_init 33 = .ok (.aastore, 1) by decide +kernel) (fun H locs hP hD hS => ?_)
  refine lv_iinc (v := 2) (lv' := [(1, .int 2), (0, .ref (al0 12))]) hx hb (show decode b_History_init 34 = .ok (.iinc 1 1, 3) by decide +kernel) hl (k := 0) rfl (by decide) (by decide) rfl (fun ls hl => ?_)
  refine lv_goto (tgt := 15) hx hb (show decode b_History_init 37 = .ok (.goto (-22), 3) by decide +kernel) (by decide) ?_
  refine lv_iload_n hx hb (show decode b_History_init 15 = .ok (.iload_n 1, 1) by decide +kernel) rfl (lv_at hl 0 rfl) ?_
  refine lv_bipush (v := 8) hx hb (show decode b_History_init 16 = .ok (.bipush 8, 2) by decide +kernel) (by decide) ?_
  refine lv_icmp_ge (tgt := 40) hx hb (show decode b_History_init 18 = .ok (.if_icmp .ge 22, 3) by decide +kernel) (by decide) (fun z => absurd z (by decide)) (fun _ => ?_)
  refine lv_aload_n hx hb (show decode b_History_init 21 = .ok (.aload_n 0, 1) by decide +kernel) rfl (lv_at hl 1 rfl) ?_
  refine k_get (k := 22) (i := 0) (j := 0) (x := 13) (mk := mkT [0] 22 2) hC hP (by decide) (ho5 12 (Or.inl (Nat.le_refl _))) rfl rfl (fun w hw => List.mem_cons_of_mem _ (w_C_lay_History w hw)) (by decide) (List.mem_cons_of_mem _ (w_C_h3 6 rfl)) rfl rfl mkT_get (show decode b_History_init 22 = .ok (.getfield 11, 3) by decide +kernel) ?_
  refine lv_iload_n hx hb (show decode b_History_init 25 = .ok (.iload_n 1, 1) by decide +kernel) rfl (lv_at hl 0 rfl) ?_
  refine k_new (k := 22) (N := 3) (mk := mkT [0] 22 2) hC hP hD hS rfl rfl (fun w hw => List.mem_cons_of_mem _ (w_C_lay_Situation w hw)) ty_Situation tyok_Situation (List.mem_cons_of_mem _ (w_C_h3 5 rfl)) (List.mem_cons_of_mem _ (w_C_h3 7 rfl)) (List.mem_cons_of_mem _ (w_C_h3 8 rfl)) (by decide +kernel) (clT (by decide) (by decide)) (mkT_no (by decide)) (Nat.le_of_ble_eq_true rfl) (Nat.le_of_ble_eq_true rfl) (show decode b_History_init 26 = .ok (.new 9, 3) by decide +kernel) (fun hh H hP hD hS => ?_)
  obtain ⟨al6, ha6⟩ : ∃ z, z = exA al5 (12 + 22) hh := ⟨_, rfl⟩
  rw [← ha6] at hP hD
  have ho6 : ∀ q, q ≤ 12 ∨ 12 + 82 ≤ q → al6 q = al0 q := by rw [ha6]; exact exA_out (by decide) (by decide) ho5
  have eh : al6 (12 + 22) = hh := by rw [ha6]; exact if_pos rfl
  have er : al6 13 = al5 13 := by rw [ha6]; exact if_neg (by decide)
  clear ha6
  refine lv_dup hx hb (show decode b_History_init 29 = .ok (.dup, 1) by decide +kernel) rfl ?_
  refine k_back (k := 22) (len := 10) (mc := 9) (ms := 303) (mk := mkT [0] 22 2) (mk' := mkT [0] 32 2) hC hP hD hS (mkT_no (by decide)) (fun hPc hDc => k_callN (xs := []) hC hPc hDc (k_Situation_init l (show isK 2 34 from rfl)) (w_C_GN (w_C_h3 3 rfl)) (List.mem_of_getElem? (i := 4) rfl) rfl (List.mem_cons_of_mem _ (w_C_h3 9 rfl)) (List.mem_cons_of_mem _ (w_C_h3 8 rfl)) ⟨rfl, rfl⟩ (by decide +kernel) ⟨Nat.le_of_ble_eq_true rfl, Nat.le_of_ble_eq_true rfl⟩ hl.1 (Nat.le_of_ble_eq_true rfl) (show decode b_History_init 30 = .ok (.invokespecial 17, 3) by decide +kernel) ⟨Nat.le_of_ble_eq_true rfl, Nat.le_of_ble_eq_true rfl⟩ (by rw [eh]; rfl)) (clT (by decide) (by decide)) (mkT_up (by decide) (by decide)) (mkT_in (by decide)) (by decide +kernel) (fun al7 H locs hal hP hD hS => ?_)
  have ho7 := al_out (by decide) (by decide) hal ho6
  replace eh := (hal _ (Or.inl (Nat.le_refl _))).trans eh
  replace er := (hal 13 (Or.inl (by decide))).trans er
  refine k_aast (k := 32) (i := 2) (n := 8) (x := 22) (mk := mkT [0] 32 2) (mk' := mkT [0] 32 3) hC hP hD hS rfl (by decide) (by decide) (by decide) (by decide) rfl eh er rfl rfl (mkT_ro) (mkT_rk) (show decode b_History_init 33 = .ok (.aastore, 1) by decide +kernel) (fun H locs hP hD hS => ?_)
  refine lv_iinc (v := 3) (lv' := [(1, .int 3), (0, .ref (al0 12))]) hx hb (show decode b_History_init 34 = .ok (.iinc 1 1, 3) by decide +kernel) hl (k := 0) rfl (by decide) (by decide) rfl (fun ls hl => ?_)
  refine lv_goto (tgt := 15) hx hb (show decode b_History_init 37 = .ok (.goto (-22), 3) by decide +kernel) (by decide) ?_
  refine lv_iload_n hx hb (show decode b_History_init 15 = .ok (.iload_n 1, 1) by decide +kernel) rfl (lv_at hl 0 rfl) ?_
  refine lv_bipush (v := 8) hx hb (show decode b_History_init 16 = .ok (.bipush 8, 2) by decide +kernel) (by decide) ?_
  refine lv_icmp_ge (tgt := 40) hx hb (show decode b_History_init 18 = .ok (.if_icmp .ge 22, 3) by decide +kernel) (by decide) (fun z => absurd z (by decide)) (fun _ => ?_)
  refine lv_aload_n hx hb (show decode b_History_init 21 = .ok (.aload_n 0, 1) by decide +kernel) rfl (lv_at hl 1 rfl) ?_
  refine k_get (k := 32) (i := 0) (j := 0) (x := 13) (mk := mkT [0] 32 3) hC hP (by decide) (ho7 12 (Or.inl (Nat.le_refl _))) rfl rfl (fun w hw => List.mem_cons_of_mem _ (w_C_lay_History w hw)) (by decide) (List.mem_cons_of_mem _ (w_C_h3 6 rfl)) rfl rfl mkT_get (show decode b_History_init 22 = .ok (.getfield 11, 3) by decide +kernel) ?_
  refine lv_iload_n hx hb (show decode b_History_init 25 = .ok (.iload_n 1, 1) by decide +kernel) rfl (lv_at hl 0 rfl) ?_
  refine k_new (k := 32) (N := 3) (mk := mkT [0] 32 3) hC hP hD hS rfl rfl (fun w hw => List.mem_cons_of_mem _ (w_C_lay_Situation w hw)) ty_Situation tyok_Situation (List.mem_cons_of_mem _ (w_C_h3 5 rfl)) (List.mem_cons_of_mem _ (w_C_h3 7 rfl)) (List.mem_cons_of_mem _ (w_C_h3 8 rfl)) (by decide +kernel) (clT (by decide) (by decide)) (mkT_no (by decide)) (Nat.le_of_ble_eq_true rfl) (Nat.le_of_ble_eq_true rfl) (show decode b_History_init 26 = .ok (.new 9, 3) by decide +kernel) (fun hh H hP hD hS => ?_)
  obtain ⟨al8, ha8⟩ : ∃ z, z = exA al7 (12 + 32) hh := ⟨_, rfl⟩
  rw [← ha8] at hP hD
  have ho8 : ∀ q, q ≤ 12 ∨ 12 + 82 ≤ q → al8 q = al0 q := by rw [ha8]; exact exA_out (by decide) (by decide) ho7
  have eh : al8 (12 + 32) = hh := by rw [ha8]; exact if_pos rfl
  have er : al8 13 = al7 13 := by rw [ha8]; exact if_neg (by decide)
  clear ha8
  refine lv_dup hx hb (show decode b_History_init 29 = .ok (.dup, 1) by decide +kernel) rfl ?_
  refine k_back (k := 32) (len := 10) (mc := 9) (ms := 303) (mk := mkT [0] 32 3) (mk' := mkT [0] 42 3) hC hP hD hS (mkT_no (by decide)) (fun hPc hDc => k_callN (xs := []) hC hPc hDc (k_Situation_init l (show isK 2 44 from rfl)) (w_C_GN (w_C_h3 3 rfl)) (List.mem_of_getElem? (i := 4) rfl) rfl (List.mem_cons_of_mem _ (w_C_h3 9 rfl)) (List.mem_cons_of_mem _ (w_C_h3 8 rfl)) ⟨rfl, rfl⟩ (by decide +kernel) ⟨Nat.le_of_ble_eq_true rfl, Nat.le_of_ble_eq_true rfl⟩ hl.1 (Nat.le_of_ble_eq_true rfl) (show decode b_History_init 30 = .ok (.invokespecial 17, 3) by decide +kernel) ⟨Nat.le_of_ble_eq_true rfl, Nat.le_of_ble_eq_true rfl⟩ (by rw [eh]; rfl)) (clT (by decide) (by decide)) (mkT_up (by decide) (by decide)) (mkT_in (by decide)) (by decide +kernel) (fun al9 H locs hal hP hD hS => ?_)
  have ho9 := al_out (by decide) (by decide) hal ho8
  replace eh := (hal _ (Or.inl (Nat.le_refl _))).trans eh
  replace er := (hal 13 (Or.inl (by decide))).trans er
  refine k_aast (k := 42) (i := 3) (n := 8) (x := 32) (mk := mkT [0] 42 3) (mk' := mkT [0] 42 4) hC hP hD hS rfl (by decide) (by decide) (by decide) (by decide) rfl eh er rfl rfl (mkT_ro) (mkT_rk) (show decode b_History_init 33 = .ok (.aastore, 1) by decide +kernel) (fun H locs hP hD hS => ?_)
  refine lv_iinc (v := 4) (lv' := [(1, .int 4), (0, .ref (al0 12))]) hx hb (show decode b_History_init 34 = .ok (.iinc 1 1, 3) by decide +kernel) hl (k := 0) rfl (by decide) (by decide) rfl (fun ls hl => ?_)
  refine lv_goto (tgt := 15) hx hb (show decode b_History_init 37 = .ok (.goto (-22), 3) by decide +kernel) (by decide) ?_
  refine lv_iload_n hx hb (show decode b_History_init 15 = .ok (.iload_n 1, 1) by decide +kernel) rfl (lv_at hl 0 rfl) ?_
  refine lv_bipush (v := 8) hx hb (show decode b_History_init 16 = .ok (.bipush 8, 2) by decide +kernel) (by decide) ?_
  refine lv_icmp_ge (tgt := 40) hx hb (show decode b_History_init 18 = .ok (.if_icmp .ge 22, 3) by decide +kernel) (by decide) (fun z => absurd z (by decide)) (fun _ => ?_)
  refine lv_aload_n hx hb (show decode b_History_init 21 = .ok (.aload_n 0, 1) by decide +kernel) rfl (lv_at hl 1 rfl) ?_
  refine k_get (k := 42) (i := 0) (j := 0) (x := 13) (mk := mkT [0] 42 4) hC hP (by decide) (ho9 12 (Or.inl (Nat.le_refl _))) rfl rfl (fun w hw => List.mem_cons_of_mem _ (w_C_lay_History w hw)) (by decide) (List.mem_cons_of_mem _ (w_C_h3 6 rfl)) rfl rfl mkT_get (show decode b_History_init 22 = .ok (.getfield 11, 3) by decide +kernel) ?_
  refine lv_iload_n hx hb (show decode b_History_init 25 = .ok (.iload_n 1, 1) by decide +kernel) rfl (lv_at hl 0 rfl) ?_
  refine k_new (k := 42) (N := 3) (mk := mkT [0] 42 4) hC hP hD hS rfl rfl (fun w hw => List.mem_cons_of_mem _ (w_C_lay_Situation w hw)) ty_Situation tyok_Situation (List.mem_cons_of_mem _ (w_C_h3 5 rfl)) (List.mem_cons_of_mem _ (w_C_h3 7 rfl)) (List.mem_cons_of_mem _ (w_C_h3 8 rfl)) (by decide +kernel) (clT (by decide) (by decide)) (mkT_no (by decide)) (Nat.le_of_ble_eq_true rfl) (Nat.le_of_ble_eq_true rfl) (show decode b_History_init 26 = .ok (.new 9, 3) by decide +kernel) (fun hh H hP hD hS => ?_)
  obtain ⟨al10, ha10⟩ : ∃ z, z = exA al9 (12 + 42) hh := ⟨_, rfl⟩
  rw [← ha10] at hP hD
  have ho10 : ∀ q, q ≤ 12 ∨ 12 + 82 ≤ q → al10 q = al0 q := by rw [ha10]; exact exA_out (by decide) (by decide) ho9
  have eh : al10 (12 + 42) = hh := by rw [ha10]; exact if_pos rfl
  have er : al10 13 = al9 13 := by rw [ha10]; exact if_neg (by decide)
  clear ha10
  refine lv_dup hx hb (show decode b_History_init 29 = .ok (.dup, 1) by decide +kernel) rfl ?_
  refine k_back (k := 42) (len := 10) (mc := 9) (ms := 303) (mk := mkT [0] 42 4) (mk' := mkT [0] 52 4) hC hP hD hS (mkT_no (by decide)) (fun hPc hDc => k_callN (xs := []) hC hPc hDc (k_Situation_init l (show isK 2 54 from rfl)) (w_C_GN (w_C_h3 3 rfl)) (List.mem_of_getElem? (i := 4) rfl) rfl (List.mem_cons_of_mem _ (w_C_h3 9 rfl)) (List.mem_cons_of_mem _ (w_C_h3 8 rfl)) ⟨rfl, rfl⟩ (by decide +kernel) ⟨Nat.le_of_ble_eq_true rfl, Nat.le_of_ble_eq_true rfl⟩ hl.1 (Nat.le_of_ble_eq_true rfl) (show decode b_History_init 30 = .ok (.invokespecial 17, 3) by decide +kernel) ⟨Nat.le_of_ble_eq_true rfl, Nat.le_of_ble_eq_true rfl⟩ (by rw [eh]; rfl)) (clT (by decide) (by decide)) (mkT_up (by decide) (by decide)) (mkT_in (by decide)) (by decide +kernel) (fun al11 H locs hal hP hD hS => ?_)
  have ho11 := al_out (by decide) (by decide) hal ho10
  replace eh := (hal _ (Or.inl (Nat.le_refl _))).trans eh
  replace er := (hal 13 (Or.inl (by decide))).trans er
  refine k_aast (k := 52) (i := 4) (n := 8) (x := 42) (mk := mkT [0] 52 4) (mk' := mkT [0] 52 5) hC hP hD hS rfl (by decide) (by decide) (by decide) (by decide) rfl eh er rfl rfl (mkT_ro) (mkT_rk) (show decode b_History_init 33 = .ok (.aastore, 1) by decide +kernel) (fun H locs hP hD hS => ?_)
  refine lv_iinc (v := 5) (lv' := [(1, .int 5), (0, .ref (al0 12))]) hx hb (show decode b_History_init 34 = .ok (.iinc 1 1, 3) by decide +kernel) hl (k := 0) rfl (by decide) (by decide) rfl (fun ls hl => ?_)
  refine lv_goto (tgt := 15) hx hb (show decode b_History_init 37 = .ok (.goto (-22), 3) by decide +kernel) (by decide) ?_
  refine lv_iload_n hx hb (show decode b_History_init 15 = .ok (.iload_n 1, 1) by decide +kernel) rfl (lv_at hl 0 rfl) ?_
  refine lv_bipush (v := 8) hx hb (show decode b_History_init 16 = .ok (.bipush 8, 2) by decide +kernel) (by decide) ?_
  refine lv_icmp_ge (tgt := 40) hx hb (show decode b_History_init 18 = .ok (.if_icmp .ge 22, 3) by decide +kernel) (by decide) (fun z => absurd z (by decide)) (fun _ => ?_)
  refine lv_aload_n hx hb (show decode b_History_init 21 = .ok (.aload_n 0, 1) by decide +kernel) rfl (lv_at hl 1 rfl) ?_
  refine k_get (k := 52) (i := 0) (j := 0) (x := 13) (mk := mkT [0] 52 5) hC hP (by decide) (ho11 12 (Or.inl (Nat.le_refl _))) rfl rfl (fun w hw => List.mem_cons_of_mem _ (w_C_lay_History w hw)) (by decide) (List.mem_cons_of_mem _ (w_C_h3 6 rfl)) rfl rfl mkT_get (show decode b_History_init 22 = .ok (.getfield 11, 3) by decide +kernel) ?_
  refine lv_iload_n hx hb (show decode b_History_init 25 = .ok (.iload_n 1, 1) by decide +kernel) rfl (lv_at hl 0 rfl) ?_
  refine k_new (k := 52) (N := 3) (mk := mkT [0] 52 5) hC hP hD hS rfl rfl (fun w hw => List.mem_cons_of_mem _ (w_C_lay_Situation w hw)) ty_Situation tyok_Situation (List.mem_cons_of_mem _ (w_C_h3 5 rfl)) (List.mem_cons_of_mem _ (w_C_h3 7 rfl)) (List.mem_cons_of_mem _ (w_C_h3 8 rfl)) (by decide +kernel) (clT (by decide) (by decide)) (mkT_no (by decide)) (Nat.le_of_ble_eq_true rfl) (Nat.le_of_ble_eq_true rfl) (show decode b_History_init 26 = .ok (.new 9, 3) by decide +kernel) (fun hh H hP hD hS => ?_)
  obtain ⟨al12, ha12⟩ : ∃ z, z = exA al11 (12 + 52) hh := ⟨_, rfl⟩
  rw [← ha12] at hP hD
  have ho12 : ∀ q, q ≤ 12 ∨ 12 + 82 ≤ q → al12 q = al0 q := by rw [ha12]; exact exA_out (by decide) (by decide) ho11
  have eh : al12 (12 + 52) = hh := by rw [ha12]; exact if_pos rfl
  have er : al12 13 = al11 13 := by rw [ha12]; exact if_neg (by decide)
  clear ha12
  refine lv_dup hx hb (show decode b_History_init 29 = .ok (.dup, 1) by decide +kernel) rfl ?_
  refine k_back (k := 52) (len := 10) (mc := 9) (ms := 303) (mk := mkT [0] 52 5) (mk' := mkT [0] 62 5) hC hP hD hS (mkT_no (by decide)) (fun hPc hDc => k_callN (xs := []) hC hPc hDc (k_Situation_init l (show isK 2 64 from rfl)) (w_C_GN (w_C_h3 3 rfl)) (List.mem_of_getElem? (i := 4) rfl) rfl (List.mem_cons_of_mem _ (w_C_h3 9 rfl)) (List.mem_cons_of_mem _ (w_C_h3 8 rfl)) ⟨rfl, rfl⟩ (by decide +kernel) ⟨Nat.le_of_ble_eq_true rfl, Nat.le_of_ble_eq_true rfl⟩ hl.1 (Nat.le_of_ble_eq_true rfl) (show decode b_History_init 30 = .ok (.invokespecial 17, 3) by decide +kernel) ⟨Nat.le_of_ble_eq_true rfl, Nat.le_of_ble_eq_true rfl⟩ (by rw [eh]; rfl)) (clT (by decide) (by decide)) (mkT_up (by decide) (by decide)) (mkT_in (by decide)) (by decide +kernel) (fun al13 H locs hal hP hD hS => ?_)
  have ho13 := al_out (by decide) (by decide) hal ho12
  replace eh := (hal _ (Or.inl (Nat.le_refl _))).trans eh
  replace er := (hal 13 (Or.inl (by decide))).trans er
  refine k_aast (k := 62) (i := 5) (n := 8) (x := 52) (mk := mkT [0] 62 5) (mk' := mkT [0] 62 6) hC hP hD hS rfl (by decide) (by decide) (by decide) (by decide) rfl eh er rfl rfl (mkT_ro) (mkT_rk) (show decode b_History_init 33 = .ok (.aastore, 1) by decide +kernel) (fun H locs hP hD hS => ?_)
  refine lv_iinc (v := 6) (lv' := [(1, .int 6), (0, .ref (al0 12))]) hx hb (show decode b_History_init 34 = .ok (.iinc 1 1, 3) by decide +kernel) hl (k := 0) rfl (by decide) (by decide) rfl (fun ls hl => ?_)
  refine lv_goto (tgt := 15) hx hb (show decode b_History_init 37 = .ok (.goto (-22), 3) by decide +kernel) (by decide) ?_
  refine lv_iload_n hx hb (show decode b_History_init 15 = .ok (.iload_n 1, 1) by decide +kernel) rfl (lv_at hl 0 rfl) ?_
  refine lv_bipush (v := 8) hx hb (show decode b_History_init 16 = .ok (.bipush 8, 2) by decide +kernel) (by decide) ?_
  refine lv_icmp_ge (tgt := 40) hx hb (show decode b_History_init 18 = .ok (.if_icmp .ge 22, 3) by decide +kernel) (by decide) (fun z => absurd z (by decide)) (fun _ => ?_)
  refine lv_aload_n hx hb (show decode b_History_init 21 = .ok (.aload_n 0, 1) by decide +kernel) rfl (lv_at hl 1 rfl) ?_
  refine k_get (k := 62) (i := 0) (j := 0) (x := 13) (mk := mkT [0] 62 6) hC hP (by decide) (ho13 12 (Or.inl (Nat.le_refl _))) rfl rfl (fun w hw => List.mem_cons_of_mem _ (w_C_lay_History w hw)) (by decide) (List.mem_cons_of_mem _ (w_C_h3 6 rfl)) rfl rfl mkT_get (show decode b_History_init 22 = .ok (.getfield 11, 3) by decide +kernel) ?_
  refine lv_iload_n hx hb (show decode b_History_init 25 = .ok (.iload_n 1, 1) by decide +kernel) rfl (lv_at hl 0 rfl) ?_
  refine k_new (k := 62) (N := 3) (mk := mkT [0] 62 6) hC hP hD hS rfl rfl (fun w hw => List.mem_cons_of_mem _ (w_C_lay_Situation w hw)) ty_Situation tyok_Situation (List.mem_cons_of_mem _ (w_C_h3 5 rfl)) (List.mem_cons_of_mem _ (w_C_h3 7 rfl)) (List.mem_cons_of_mem _ (w_C_h3 8 rfl)) (by decide +kernel) (clT (by decide) (by decide)) (mkT_no (by decide)) (Nat.le_of_ble_eq_true rfl) (Nat.le_of_ble_eq_true rfl) (show decode b_History_init 26 = .ok (.new 9, 3) by decide +kernel) (fun hh H hP hD hS => ?_)
  obtain ⟨al14, ha14⟩ : ∃ z, z = exA al13 (12 + 62) hh := ⟨_, rfl⟩
  rw [← ha14] at hP hD
  have ho14 : ∀ q, q ≤ 12 ∨ 12 + 82 ≤ q → al14 q = al0 q := by rw [ha14]; exact exA_out (by decide) (by decide) ho13
  have eh : al14 (12 + 62) = hh := by rw [ha14]; exact if_pos rfl
  have er : al14 13 = al13 13 := by rw [ha14]; exact if_neg (by decide)
  clear ha14
  refine lv_dup hx hb (show decode b_History_init 29 = .ok (.dup, 1) by decide +kernel) rfl ?_
  refine k_back (k := 62) (len := 10) (mc := 9) (ms := 303) (mk := mkT [0] 62 6) (mk' := mkT [0] 72 6) hC hP hD hS (mkT_no (by decide)) (fun hPc hDc => k_callN (xs := []) hC hPc hDc (k_Situation_init l (show isK 2 74 from rfl)) (w_C_GN (w_C_h3 3 rfl)) (List.mem_of_getElem? (i := 4) rfl) rfl (List.mem_cons_of_mem _ (w_C_h3 9 rfl)) (List.mem_cons_of_mem _ (w_C_h3 8 rfl)) ⟨rfl, rfl⟩ (by decide +kernel) ⟨Nat.le_of_ble_eq_true rfl, Nat.le_of_ble_eq_true rfl⟩ hl.1 (Nat.le_of_ble_eq_true rfl) (show decode b_History_init 30 = .ok (.invokespecial 17, 3) by decide +kernel) ⟨Nat.le_of_ble_eq_true rfl, Nat.le_of_ble_eq_true rfl⟩ (by rw [eh]; rfl)) (clT (by decide) (by decide)) (mkT_up (by decide) (by decide)) (mkT_in (by decide)) (by decide +kernel) (fun al15 H locs hal hP hD hS => ?_)
  have ho15 := al_out (by decide) (by decide) hal ho14
  replace eh := (hal _ (Or.inl (Nat.le_refl _))).trans eh
  replace er := (hal 13 (Or.inl (by decide))).trans er
  refine k_aast (k := 72) (i := 6) (n := 8) (x := 62) (mk := mkT [0] 72 6) (mk' := mkT [0] 72 7) hC hP hD hS rfl (by decide) (by decide) (by decide) (by decide) rfl eh er rfl rfl (mkT_ro) (mkT_rk) (show decode b_History_init 33 = .ok (.aastore, 1) by decide +kernel) (fun H locs hP hD hS => ?_)
  refine lv_iinc (v := 7) (lv' := [(1, .int 7), (0, .ref (al0 12))]) hx hb (show decode b_History_init 34 = .ok (.iinc 1 1, 3) by decide +kernel) hl (k := 0) rfl (by decide) (by decide) rfl (fun ls hl => ?_)
  refine lv_goto (tgt := 15) hx hb (show decode b_History_init 37 = .ok (.goto (-22), 3) by decide +kernel) (by decide) ?_
  refine lv_iload_n hx hb (show decode b_History_init 15 = .ok (.iload_n 1, 1) by decide +kernel) rfl (lv_at hl 0 rfl) ?_
  refine lv_bipush (v := 8) hx hb (show decode b_History_init 16 = .ok (.bipush 8, 2) by decide +kernel) (by decide) ?_
  refine lv_icmp_ge (tgt := 40) hx hb (show decode b_History_init 18 = .ok (.if_icmp .ge 22, 3) by decide +kernel) (by decide) (fun z => absurd z (by decide)) (fun _ => ?_)
  refine lv_aload_n hx hb (show decode b_History_init 21 = .ok (.aload_n 0, 1) by decide +kernel) rfl (lv_at hl 1 rfl) ?_
  refine k_get (k := 72) (i := 0) (j := 0) (x := 13) (mk := mkT [0] 72 7) hC hP (by decide) (ho15 12 (Or.inl (Nat.le_refl _))) rfl rfl (fun w hw => List.mem_cons_of_mem _ (w_C_lay_History w hw)) (by decide) (List.mem_cons_of_mem _ (w_C_h3 6 rfl)) rfl rfl mkT_get (show decode b_History_init 22 = .ok (.getfield 11, 3) by decide +kernel) ?_
  refine lv_iload_n hx hb (show decode b_History_init 25 = .ok (.iload_n 1, 1) by decide +kernel) rfl (lv_at hl 0 rfl) ?_
  refine k_new (k := 72) (N := 3) (mk := mkT [0] 72 7) hC hP hD hS rfl rfl (fun w hw => List.mem_cons_of_mem _ (w_C_lay_Situation w hw)) ty_Situation tyok_Situation (List.mem_cons_of_mem _ (w_C_h3 5 rfl)) (List.mem_cons_of_mem _ (w_C_h3 7 rfl)) (List.mem_cons_of_mem _ (w_C_h3 8 rfl)) (by decide +kernel) (clT (by decide) (by decide)) (mkT_no (by decide)) (Nat.le_of_ble_eq_true rfl) (Nat.le_of_ble_eq_true rfl) (show decode b_History_init 26 = .ok (.new 9, 3) by decide +kernel) (fun hh H hP hD hS => ?_)
  obtain ⟨al16, ha16⟩ : ∃ z, z = exA al15 (12 + 72) hh := ⟨_, rfl⟩
  rw [← ha16] at hP hD
  have ho16 : ∀ q, q ≤ 12 ∨ 12 + 82 ≤ q → al16 q = al0 q := by rw [ha16]; exact exA_out (by decide) (by decide) ho15
  have eh : al16 (12 + 72) = hh := by rw [ha16]; exact if_pos rfl
  have er : al16 13 = al15 13 := by rw [ha16]; exact if_neg (by decide)
  clear ha16
  refine lv_dup hx hb (show decode b_History_init 29 = .ok (.dup, 1) by decide +kernel) rfl ?_
  refine k_back (k := 72) (len := 10) (mc := 9) (ms := 303) (mk := mkT [0] 72 7) (mk' := mkT [0] 82 7) hC hP hD hS (mkT_no (by decide)) (fun hPc hDc => k_callN (xs := []) hC hPc hDc (k_Situation_init l (show isK 2 84 from rfl)) (w_C_GN (w_C_h3 3 rfl)) (List.mem_of_getElem? (i := 4) rfl) rfl (List.mem_cons_of_mem _ (w_C_h3 9 rfl)) (List.mem_cons_of_mem _ (w_C_h3 8 rfl)) ⟨rfl, rfl⟩ (by decide +kernel) ⟨Nat.le_of_ble_eq_true rfl, Nat.le_of_ble_eq_true rfl⟩ hl.1 (Nat.le_of_ble_eq_true rfl) (show decode b_History_init 30 = .ok (.invokespecial 17, 3) by decide +kernel) ⟨Nat.le_of_ble_eq_true rfl, Nat.le_of_ble_eq_true rfl⟩ (by rw [eh]; rfl)) (clT (by decide) (by decide)) (mkT_up (by decide) (by decide)) (mkT_in (by decide)) (by decide +kernel) (fun al17 H locs hal hP hD hS => ?_)
  have ho17 := al_out (by decide) (by decide) hal ho16
  replace eh := (hal _ (Or.inl (Nat.le_refl _))).trans eh
  replace er := (hal 13 (Or.inl (by decide))).trans er
  refine k_aast (k := 82) (i := 7) (n := 8) (x := 72) (mk := mkT [0] 82 7) (mk' := mkT [0] 82 8) hC hP hD hS rfl (by decide) (by decide) (by decide) (by decide) rfl eh er rfl rfl (mkT_ro) (mkT_rk) (show decode b_History_init 33 = .ok (.aastore, 1) by decide +kernel) (fun H locs hP hD hS => ?_)
  refine lv_iinc (v := 8) (lv' := [(1, .int 8), (0, .ref (al0 12))]) hx hb (show decode b_History_init 34 = .ok (.iinc 1 1, 3) by decide +kernel) hl (k := 0) rfl (by decide) (by decide) rfl (fun ls hl => ?_)
  refine lv_goto (tgt := 15) hx hb (show decode b_History_init 37 = .ok (.goto (-22), 3) by decide +kernel) (by decide) ?_
  refine lv_iload_n hx hb (show decode b_History_init 15 = .ok (.iload_n 1, 1) by decide +kernel) rfl (lv_at hl 0 rfl) ?_
  refine lv_bipush (v := 8) hx hb (show decode b_History_init 16 = .ok (.bipush 8, 2) by decide +kernel) (by decide) ?_
  refine lv_icmp_ge (tgt := 40) hx hb (show decode b_History_init 18 = .ok (.if_icmp .ge 22, 3) by decide +kernel) (by decide) (fun _ => ?_) (fun z => absurd (by decide) z)
  rw [mkT_full] at hP hD
  exact W.vret hx hb hret (fun t ht hW => ⟨⟨rfl, al17, ho17, by rw [ht]; exact hP, va_K.moved hW.alike hC.2.2.2.1, hD⟩, hS.F ht⟩) hS.2.2 (show decode b_History_init 40 = .ok (.return_, 1) by decide +kernel)
