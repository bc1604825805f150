/-! the constructor of the class itself (own work) -/
def oQ (M : fx_M) (D : va_G) (cA : Nat → ClassId) (al : Nat → Nat) (I : fx_MI) (J : fx_MJ) (R : fx_MR) (A : Nat → Prop) : Array Value → State → Outcome → State → Prop := fun _ st0 oc t =>
  (oc = .returned none ∧ ∃ al', (∀ q, q = 0 ∨ M.2.2.2.1 ≤ q → al' q = al q) ∧ va_P D M.1 (fx_w M cA al' I J R) t.heap ∧ va_K D M.1 (fx_ty M cA) t ∧ va_D A (fx_w M cA al' I J R)) ∧ va_F A st0 t
theorem kW_fx {cA : Nat → ClassId} {al : Nat → Nat} : kW cA al mk1 0 140 = fx_w (MC 256) cA al zI zJ (R0C false) := by
  unfold kW fx_w
  refine List.map_congr_left fun i hi => ?_
  rw [Nat.zero_add]
  have : fx_e (MC 256) cA al zI zJ (mR mk1) i = fx_e (MC 256) cA al zI zJ (R0C false) i := fe_c fun j => rfl
  rw [this]
theorem omet {l : Launch} {y : MethodName} {ws ws' : List Cond} {rm : Room} {mc ms nL : Nat} {I : fx_MI} {J : fx_MJ} {cc : ByteArray} (hy : plainName y.cls = true) (hin : y.name = "<init>") (hw : ws = Cond.code y cc nL none :: ws') (hxs : 1 ≤ nL)
    (h : ∀ p e s m args below meth c D cA al A ls, kCx y.cls ws cc nL p s m args meth c D cA A → va_P D (MC 256).1 (kW cA al mk0 0 1) s.heap → va_D A (kW cA al mk0 0 1) → lv_has ls nL [(0, .ref (al 0))] → W p l e rm s m args below meth c s.heap [] 0 0 (MQ below (oQ (MC 256) D cA al I J (R0C false) A) args s mc ms A) (F0 m 0 ls [])) (D : va_G) (cA : Nat → ClassId) (al : Nat → Nat) (sz : Nat) : Met l y ws rm (kPc D cA al 0 [] sz) (oQ (MC 256) D cA al I J (R0C false) (va_A (kW cA al mk0 0 1) sz)) mc ms (va_A (kW cA al mk0 0 1) sz) := by
  refine Met.ofW (cc := cc) (maxL := nL) (ret := none) hy hw ?_
  intro p e s m args below meth c s₁ B hml hv
  obtain ⟨rfl, hsz, hP, hK, hD0, hN, hO⟩ := hv
  have hts := atoms_spec (ws := ws) B.pre
  have hown : s.vm.findClass y.cls = some m.cls := findClass_of_methodNamed B.named
  have hnm : meth.name = "<init>" := (name_of_methodNamed B.named B.method).1.trans hin
  subst hsz
  have hD := hD0.self (sz := s.heap.size)
  have hl := lv_entry [Value.ref (al 0)] (n := nL) (by
    have : (lg_sl [Value.ref (al 0)]).length = 1 := rfl
    omega)
  show W p l e rm s m _ below meth c s.heap [] 0 0 _ (entryFrame m ([Value.ref (al 0)] : List Value).toArray nL)
  rw [lg_entry_eq]
  exact h p e s m _ below meth c D cA al _ _ ⟨⟨B.exec, B.bytes, hml, hown, hts, B.returns, B.notSynchronized, hN⟩, hnm, hO, hK, fun q hq => Or.inr hq⟩ hP hD hl
set_option maxRecDepth 100000 in
set_option maxHeartbeats 4000000 in
theorem k_Out_init (l : Launch) : ∀ (D : va_G) (cA : Nat → ClassId) (al : Nat → Nat) (sz : Nat), Met l y_Out_init (Cond.code y_Out_init b_Out_init 1 none :: w_C) { frames := 4, cells := 139, slots := 7487, locals := 73 } (kPc D cA al 0 [] sz) (oQ (MC 256) D cA al (bgI zI (nI 5) (nI 5) (nI 1)) (bgJ zJ 5 5 (nI 1)) (R0C false) (va_A (kW cA al mk0 0 1) sz)) 139 7487 (va_A (kW cA al mk0 0 1) sz) := by
  refine omet (nL := 1) (by decide) rfl rfl (by decide) ?_
  intro p e s m args below meth c D cA al0 A ls hC hP hD hl
  have hl : lv_has ls 1 [(0, .ref (al0 0))] := hl
  have hS : va_S A s.heap s.heap [] := va_S.rf
  obtain ⟨hx, hb, hml, hown, hts, hret, hlocks, hN⟩ := id hC.1
  rw [mkS_0] at hP hD
  have ho0 : ∀ q, q ≤ 0 ∨ 0 + 140 ≤ q → al0 q = al0 q := fun _ _ => rfl
  refine lv_aload_n hx hb (show decode b_Out_init 0 = .ok (.aload_n 0, 1) by decide +kernel) rfl (lv_at hl 0 rfl) ?_
  refine W.objInit hx hb hown (hts _ (List.mem_cons_of_mem _ (w_C_h9 50 rfl))) (hts _ (List.mem_cons_of_mem _ (w_C_h0 2 rfl))) (hts _ (List.mem_cons_of_mem _ (w_C_h0 3 rfl))) rfl (by rw [hml]; exact hl.1) rfl (show decode b_Out_init 1 = .ok (.invokespecial 3, 3) by decide +kernel) (Nat.le_of_ble_eq_true rfl) (Nat.le_of_ble_eq_true rfl) ?_
  refine W.eq (g2 := F0 m 4 ls []) rfl ?_
  refine lv_aload_n hx hb (show decode b_Out_init 4 = .ok (.aload_n 0, 1) by decide +kernel) rfl (lv_at hl 0 rfl) ?_
  refine k_new (k := 1) (N := 4) (mk := mkS 0 [] 1) hC hP hD hS rfl rfl (fun w hw => List.mem_cons_of_mem _ (w_C_lay_Grid w hw)) ty_Grid tyok_Grid (List.mem_cons_of_mem _ (w_C_h9 51 rfl)) (List.mem_cons_of_mem _ (w_C_h9 52 rfl)) (List.mem_cons_of_mem _ (w_C_h0 37 rfl)) (by decide +kernel) clo_0 (mkS_no (by decide)) (Nat.le_of_ble_eq_true rfl) (Nat.le_of_ble_eq_true rfl) (show decode b_Out_init 5 = .ok (.new 9, 3) by decide +kernel) (fun hh H hP hD hS => ?_)
  obtain ⟨al1, ha1⟩ : ∃ z, z = exA al0 (0 + 1) hh := ⟨_, rfl⟩
  rw [← ha1] at hP hD
  have ho1 : ∀ q, q ≤ 0 ∨ 0 + 140 ≤ q → al1 q = al0 q := by rw [ha1]; exact exA_out (by decide) (by decide) ho0
  have eh : al1 (0 + 1) = hh := by rw [ha1]; exact if_pos rfl
  clear ha1
  refine lv_dup hx hb (show decode b_Out_init 8 = .ok (.dup, 1) by decide +kernel) rfl ?_
  refine k_back (k := 1) (len := 1) (mc := 0) (ms := 0) (mk := mkS 0 [] 1) (mk' := mkS 0 [] 2) hC hP hD hS (mkS_no (by decide)) (fun hPc hDc => k_callN (xs := []) hC hPc hDc (k_Grid_init l) (w_C_GN (w_C_h6 15 rfl)) (List.mem_of_getElem? (i := 0) rfl) rfl (List.mem_cons_of_mem _ (w_C_h10 12 rfl)) (List.mem_cons_of_mem _ (w_C_h0 37 rfl)) ⟨rfl, rfl⟩ (by decide +kernel) ⟨Nat.le_of_ble_eq_true rfl, Nat.le_of_ble_eq_true rfl⟩ hl.1 (Nat.le_of_ble_eq_true rfl) (show decode b_Out_init 9 = .ok (.invokespecial 11, 3) by decide +kernel) ⟨Nat.le_of_ble_eq_true rfl, Nat.le_of_ble_eq_true rfl⟩ (by rw [eh]; rfl)) clo_0 (mkS_up (Nat.le_refl _) (by decide)) (mkS_in (by decide)) (by decide +kernel) (fun al2 H locs hal hP hD hS => ?_)
  have ho2 := al_out (by decide) (by decide) hal ho1
  replace eh := (hal _ (Or.inl (Nat.le_refl _))).trans eh
  refine k_putF (k := 2) (j := 0) (x := 1) (mk := mkS 0 [] 2) (mk' := mkS 0 [0] 2) hC hP hD hS eh (ho2 0 (Or.inl (Nat.le_refl _))) rfl rfl (fun w hw => List.mem_cons_of_mem _ (w_C_lay_Out w hw)) ty_Out tyok_Out nm_Out (by decide) (List.mem_cons_of_mem _ (w_C_h9 34 rfl)) rfl rfl rfl rfl (fun _ => rfl) (fun _ => rfl) (by decide) (mkS_hx rfl) mkS_ho mkS_hk (show decode b_Out_init 12 = .ok (.putfield 12, 3) by decide +kernel) (fun H locs hP hD hS => ?_)
  refine lv_aload_n hx hb (show decode b_Out_init 15 = .ok (.aload_n 0, 1) by decide +kernel) rfl (lv_at hl 0 rfl) ?_
  refine k_new (k := 2) (N := 3) (mk := mkS 0 [0] 2) hC hP hD hS rfl rfl (fun w hw => List.mem_cons_of_mem _ (w_C_lay_Situation w hw)) ty_Situation tyok_Situation (List.mem_cons_of_mem _ (w_C_h9 53 rfl)) (List.mem_cons_of_mem _ (w_C_h6 46 rfl)) (List.mem_cons_of_mem _ (w_C_h6 47 rfl)) (by decide +kernel) (clo_b (by decide +kernel)) (mkS_no (by decide)) (Nat.le_of_ble_eq_true rfl) (Nat.le_of_ble_eq_true rfl) (show decode b_Out_init 16 = .ok (.new 16, 3) by decide +kernel) (fun hh H hP hD hS => ?_)
  obtain ⟨al3, ha3⟩ : ∃ z, z = exA al2 (0 + 2) hh := ⟨_, rfl⟩
  rw [← ha3] at hP hD
  have ho3 : ∀ q, q ≤ 0 ∨ 0 + 140 ≤ q → al3 q = al0 q := by rw [ha3]; exact exA_out (by decide) (by decide) ho2
  have eh : al3 (0 + 2) = hh := by rw [ha3]; exact if_pos rfl
  clear ha3
  refine lv_dup hx hb (show decode b_Out_init 19 = .ok (.dup, 1) by decide +kernel) rfl ?_
  refine k_back (k := 2) (len := 10) (mc := 9) (ms := 303) (mk := mkS 0 [0] 2) (mk' := mkS 0 [0] 12) hC hP hD hS (mkS_no (by decide)) (fun hPc hDc => k_callN (xs := []) hC hPc hDc (k_Situation_init l (show isK 2 2 from rfl)) (w_C_GN (w_C_h6 42 rfl)) (List.mem_of_getElem? (i := 1) rfl) rfl (List.mem_cons_of_mem _ (w_C_h6 48 rfl)) (List.mem_cons_of_mem _ (w_C_h6 47 rfl)) ⟨rfl, rfl⟩ (by decide +kernel) ⟨Nat.le_of_ble_eq_true rfl, Nat.le_of_ble_eq_true rfl⟩ hl.1 (Nat.le_of_ble_eq_true rfl) (show decode b_Out_init 20 = .ok (.invokespecial 18, 3) by decide +kernel) ⟨Nat.le_of_ble_eq_true rfl, Nat.le_of_ble_eq_true rfl⟩ (by rw [eh]; rfl)) (clo_b (by decide +kernel)) (mkS_up (Nat.le_refl _) (by decide)) (mkS_in (by decide)) (by decide +kernel) (fun al4 H locs hal hP hD hS => ?_)
  have ho4 := al_out (by decide) (by decide) hal ho3
  replace eh := (hal _ (Or.inl (Nat.le_refl _))).trans eh
  refine k_putF (k := 12) (j := 1) (x := 2) (mk := mkS 0 [0] 12) (mk' := mkS 0 [1, 0] 12) hC hP hD hS eh (ho4 0 (Or.inl (Nat.le_refl _))) rfl rfl (fun w hw => List.mem_cons_of_mem _ (w_C_lay_Out w hw)) ty_Out tyok_Out nm_Out (by decide) (List.mem_cons_of_mem _ (w_C_h9 35 rfl)) rfl rfl rfl rfl (fun _ => rfl) (fun _ => rfl) (by decide) (mkS_hx rfl) mkS_ho mkS_hk (show decode b_Out_init 23 = .ok (.putfield 19, 3) by decide +kernel) (fun H locs hP hD hS => ?_)
  refine lv_aload_n hx hb (show decode b_Out_init 26 = .ok (.aload_n 0, 1) by decide +kernel) rfl (lv_at hl 0 rfl) ?_
  refine k_new (k := 12) (N := 3) (mk := mkS 0 [1, 0] 12) hC hP hD hS rfl rfl (fun w hw => List.mem_cons_of_mem _ (w_C_lay_History w hw)) ty_History tyok_History (List.mem_cons_of_mem _ (w_C_h9 54 rfl)) (List.mem_cons_of_mem _ (w_C_h9 55 rfl)) (List.mem_cons_of_mem _ (w_C_h9 56 rfl)) (by decide +kernel) (clo_b (by decide +kernel)) (mkS_no (by decide)) (Nat.le_of_ble_eq_true rfl) (Nat.le_of_ble_eq_true rfl) (show decode b_Out_init 27 = .ok (.new 23, 3) by decide +kernel) (fun hh H hP hD hS => ?_)
  obtain ⟨al5, ha5⟩ : ∃ z, z = exA al4 (0 + 12) hh := ⟨_, rfl⟩
  rw [← ha5] at hP hD
  have ho5 : ∀ q, q ≤ 0 ∨ 0 + 140 ≤ q → al5 q = al0 q := by rw [ha5]; exact exA_out (by decide) (by decide) ho4
  have eh : al5 (0 + 12) = hh := by rw [ha5]; exact if_pos rfl
  clear ha5
  refine lv_dup hx hb (show decode b_Out_init 30 = .ok (.dup, 1) by decide +kernel) rfl ?_
  refine k_back (k := 12) (len := 82) (mc := 81) (ms := 2456) (mk := mkS 0 [1, 0] 12) (mk' := mkS 0 [1, 0] 94) hC hP hD hS (mkS_no (by decide)) (fun hPc hDc => k_callI (xs := []) hC hPc hDc (k_History_init l) (w_C_GN (w_C_h6 49 rfl)) (List.mem_cons_of_mem _ (w_C_h10 13 rfl)) rfl (List.mem_cons_of_mem _ (w_C_h10 14 rfl)) (List.mem_cons_of_mem _ (w_C_h9 56 rfl)) ⟨rfl, rfl⟩ (by decide +kernel) ⟨Nat.le_of_ble_eq_true rfl, Nat.le_of_ble_eq_true rfl⟩ hl.1 (Nat.le_of_ble_eq_true rfl) (show decode b_Out_init 31 = .ok (.invokespecial 25, 3) by decide +kernel) ⟨Nat.le_of_ble_eq_true rfl, Nat.le_of_ble_eq_true rfl⟩ (by rw [eh]; rfl)) (clo_b (by decide +kernel)) (mkS_up (Nat.le_refl _) (by decide)) (mkS_in (by decide)) (by decide +kernel) (fun al6 H locs hal hP hD hS => ?_)
  have ho6 := al_out (by decide) (by decide) hal ho5
  replace eh := (hal _ (Or.inl (Nat.le_refl _))).trans eh
  refine k_putF (k := 94) (j := 2) (x := 12) (mk := mkS 0 [1, 0] 94) (mk' := mkS 0 [2, 1, 0] 94) hC hP hD hS eh (ho6 0 (Or.inl (Nat.le_refl _))) rfl rfl (fun w hw => List.mem_cons_of_mem _ (w_C_lay_Out w hw)) ty_Out tyok_Out nm_Out (by decide) (List.mem_cons_of_mem _ (w_C_h9 38 rfl)) rfl rfl rfl rfl (fun _ => rfl) (fun _ => rfl) (by decide) (mkS_hx rfl) mkS_ho mkS_hk (show decode b_Out_init 34 = .ok (.putfield 26, 3) by decide +kernel) (fun H locs hP hD hS => ?_)
  refine lv_aload_n hx hb (show decode b_Out_init 37 = .ok (.aload_n 0, 1) by decide +kernel) rfl (lv_at hl 0 rfl) ?_
  refine k_new (k := 94) (N := 3) (mk := mkS 0 [2, 1, 0] 94) hC hP hD hS rfl rfl (fun w hw => List.mem_cons_of_mem _ (w_C_lay_ClueText w hw)) ty_ClueText tyok_ClueText (List.mem_cons_of_mem _ (w_C_h9 57 rfl)) (List.mem_cons_of_mem _ (w_C_h9 58 rfl)) (List.mem_cons_of_mem _ (w_C_h5 24 rfl)) (by decide +kernel) (clo_b (by decide +kernel)) (mkS_no (by decide)) (Nat.le_of_ble_eq_true rfl) (Nat.le_of_ble_eq_true rfl) (show decode b_Out_init 38 = .ok (.new 30, 3) by decide +kernel) (fun hh H hP hD hS => ?_)
  obtain ⟨al7, ha7⟩ : ∃ z, z = exA al6 (0 + 94) hh := ⟨_, rfl⟩
  rw [← ha7] at hP hD
  have ho7 : ∀ q, q ≤ 0 ∨ 0 + 140 ≤ q → al7 q = al0 q := by rw [ha7]; exact exA_out (by decide) (by decide) ho6
  have eh : al7 (0 + 94) = hh := by rw [ha7]; exact if_pos rfl
  clear ha7
  refine lv_dup hx hb (show decode b_Out_init 41 = .ok (.dup, 1) by decide +kernel) rfl ?_
  refine k_back (k := 94) (len := 2) (mc := 1) (ms := 120) (mk := mkS 0 [2, 1, 0] 94) (mk' := mkS 0 [2, 1, 0] 96) hC hP hD hS (mkS_no (by decide)) (fun hPc hDc => k_callN (xs := []) hC hPc hDc (k_ClueText_init l) (w_C_GN (w_C_h4 16 rfl)) (List.mem_of_getElem? (i := 5) rfl) rfl (List.mem_cons_of_mem _ (w_C_h10 15 rfl)) (List.mem_cons_of_mem _ (w_C_h5 24 rfl)) ⟨rfl, rfl⟩ (by decide +kernel) ⟨Nat.le_of_ble_eq_true rfl, Nat.le_of_ble_eq_true rfl⟩ hl.1 (Nat.le_of_ble_eq_true rfl) (show decode b_Out_init 42 = .ok (.invokespecial 32, 3) by decide +kernel) ⟨Nat.le_of_ble_eq_true rfl, Nat.le_of_ble_eq_true rfl⟩ (by rw [eh]; rfl)) (clo_b (by decide +kernel)) (mkS_up (Nat.le_refl _) (by decide)) (mkS_in (by decide)) (by decide +kernel) (fun al8 H locs hal hP hD hS => ?_)
  have ho8 := al_out (by decide) (by decide) hal ho7
  replace eh := (hal _ (Or.inl (Nat.le_refl _))).trans eh
  refine k_putF (k := 96) (j := 3) (x := 94) (mk := mkS 0 [2, 1, 0] 96) (mk' := mkS 0 [3, 2, 1, 0] 96) hC hP hD hS eh (ho8 0 (Or.inl (Nat.le_refl _))) rfl rfl (fun w hw => List.mem_cons_of_mem _ (w_C_lay_Out w hw)) ty_Out tyok_Out nm_Out (by decide) (List.mem_cons_of_mem _ (w_C_h9 59 rfl)) rfl rfl rfl rfl (fun _ => rfl) (fun _ => rfl) (by decide) (mkS_hx rfl) mkS_ho mkS_hk (show decode b_Out_init 45 = .ok (.putfield 33, 3) by decide +kernel) (fun H locs hP hD hS => ?_)
  refine lv_aload_n hx hb (show decode b_Out_init 48 = .ok (.aload_n 0, 1) by decide +kernel) rfl (lv_at hl 0 rfl) ?_
  refine k_new (k := 96) (N := 5) (mk := mkS 0 [3, 2, 1, 0] 96) hC hP hD hS rfl rfl (fun w hw => List.mem_cons_of_mem _ (w_C_lay_Clues w hw)) ty_Clues tyok_Clues (List.mem_cons_of_mem _ (w_C_h10 0 rfl)) (List.mem_cons_of_mem _ (w_C_h6 34 rfl)) (List.mem_cons_of_mem _ (w_C_h0 44 rfl)) (by decide +kernel) (clo_b (by decide +kernel)) (mkS_no (by decide)) (Nat.le_of_ble_eq_true rfl) (Nat.le_of_ble_eq_true rfl) (show decode b_Out_init 49 = .ok (.new 37, 3) by decide +kernel) (fun hh H hP hD hS => ?_)
  obtain ⟨al9, ha9⟩ : ∃ z, z = exA al8 (0 + 96) hh := ⟨_, rfl⟩
  rw [← ha9] at hP hD
  have ho9 : ∀ q, q ≤ 0 ∨ 0 + 140 ≤ q → al9 q = al0 q := by rw [ha9]; exact exA_out (by decide) (by decide) ho8
  have eh : al9 (0 + 96) = hh := by rw [ha9]; exact if_pos rfl
  clear ha9
  refine lv_dup hx hb (show decode b_Out_init 52 = .ok (.dup, 1) by decide +kernel) rfl ?_
  refine k_back (k := 96) (len := 5) (mc := 4) (ms := 288) (mk := mkS 0 [3, 2, 1, 0] 96) (mk' := mkS 0 [3, 2, 1, 0] 101) hC hP hD hS (mkS_no (by decide)) (fun hPc hDc => k_callN (xs := []) hC hPc hDc (k_Clues_init l (show isK 3 96 from rfl)) (w_C_GN (w_C_h6 8 rfl)) (List.mem_of_getElem? (i := 6) rfl) rfl (List.mem_cons_of_mem _ (w_C_h6 40 rfl)) (List.mem_cons_of_mem _ (w_C_h0 44 rfl)) ⟨rfl, rfl⟩ (by decide +kernel) ⟨Nat.le_of_ble_eq_true rfl, Nat.le_of_ble_eq_true rfl⟩ hl.1 (Nat.le_of_ble_eq_true rfl) (show decode b_Out_init 53 = .ok (.invokespecial 39, 3) by decide +kernel) ⟨Nat.le_of_ble_eq_true rfl, Nat.le_of_ble_eq_true rfl⟩ (by rw [eh]; rfl)) (clo_b (by decide +kernel)) (mkS_up (Nat.le_refl _) (by decide)) (mkS_in (by decide)) (by decide +kernel) (fun al10 H locs hal hP hD hS => ?_)
  have ho10 := al_out (by decide) (by decide) hal ho9
  replace eh := (hal _ (Or.inl (Nat.le_refl _))).trans eh
  refine k_putF (k := 101) (j := 4) (x := 96) (mk := mkS 0 [3, 2, 1, 0] 101) (mk' := mkS 0 [4, 3, 2, 1, 0] 101) hC hP hD hS eh (ho10 0 (Or.inl (Nat.le_refl _))) rfl rfl (fun w hw => List.mem_cons_of_mem _ (w_C_lay_Out w hw)) ty_Out tyok_Out nm_Out (by decide) (List.mem_cons_of_mem _ (w_C_h10 1 rfl)) rfl rfl rfl rfl (fun _ => rfl) (fun _ => rfl) (by decide) (mkS_hx rfl) mkS_ho mkS_hk (show decode b_Out_init 56 = .ok (.putfield 40, 3) by decide +kernel) (fun H locs hP hD hS => ?_)
  refine lv_aload_n hx hb (show decode b_Out_init 59 = .ok (.aload_n 0, 1) by decide +kernel) rfl (lv_at hl 0 rfl) ?_
  refine k_new (k := 101) (N := 15) (mk := mkS 0 [4, 3, 2, 1, 0] 101) hC hP hD hS rfl rfl (fun w hw => List.mem_cons_of_mem _ (w_C_lay_Fillings w hw)) ty_Fillings tyok_Fillings (List.mem_cons_of_mem _ (w_C_h10 2 rfl)) (List.mem_cons_of_mem _ (w_C_h10 3 rfl)) (List.mem_cons_of_mem _ (w_C_h1 1 rfl)) (by decide +kernel) (clo_b (by decide +kernel)) (mkS_no (by decide)) (Nat.le_of_ble_eq_true rfl) (Nat.le_of_ble_eq_true rfl) (show decode b_Out_init 60 = .ok (.new 44, 3) by decide +kernel) (fun hh H hP hD hS => ?_)
  obtain ⟨al11, ha11⟩ : ∃ z, z = exA al10 (0 + 101) hh := ⟨_, rfl⟩
  rw [← ha11] at hP hD
  have ho11 : ∀ q, q ≤ 0 ∨ 0 + 140 ≤ q → al11 q = al0 q := by rw [ha11]; exact exA_out (by decide) (by decide) ho10
  have eh : al11 (0 + 101) = hh := by rw [ha11]; exact if_pos rfl
  clear ha11
  refine lv_dup hx hb (show decode b_Out_init 63 = .ok (.dup, 1) by decide +kernel) rfl ?_
  refine lv_aload_n hx hb (show decode b_Out_init 64 = .ok (.aload_n 0, 1) by decide +kernel) rfl (lv_at hl 0 rfl) ?_
  refine k_get (k := 102) (i := 0) (j := 0) (x := 1) (mk := mkS 0 [4, 3, 2, 1, 0] 101) hC hP (by decide) (ho11 0 (Or.inl (Nat.le_refl _))) rfl rfl (fun w hw => List.mem_cons_of_mem _ (w_C_lay_Out w hw)) (by decide) (List.mem_cons_of_mem _ (w_C_h9 34 rfl)) rfl rfl (by rfl) (show decode b_Out_init 65 = .ok (.getfield 12, 3) by decide +kernel) ?_
  refine lv_aload_n hx hb (show decode b_Out_init 68 = .ok (.aload_n 0, 1) by decide +kernel) rfl (lv_at hl 0 rfl) ?_
  refine k_get (k := 102) (i := 0) (j := 1) (x := 2) (mk := mkS 0 [4, 3, 2, 1, 0] 101) hC hP (by decide) (ho11 0 (Or.inl (Nat.le_refl _))) rfl rfl (fun w hw => List.mem_cons_of_mem _ (w_C_lay_Out w hw)) (by decide) (List.mem_cons_of_mem _ (w_C_h9 35 rfl)) rfl rfl (by rfl) (show decode b_Out_init 69 = .ok (.getfield 19, 3) by decide +kernel) ?_
  refine k_getN (k := 102) (i := 2) (j := 0) (x := 3) (mk := mkS 0 [4, 3, 2, 1, 0] 101) hC hP (by decide) rfl rfl rfl (fun w hw => List.mem_cons_of_mem _ (w_C_lay_Situation w hw)) (by decide) (List.mem_of_getElem? (i := 20) rfl) rfl rfl (by rfl) (show decode b_Out_init 72 = .ok (.getfield 46, 3) by decide +kernel) ?_
  refine k_back (k := 101) (len := 11) (mc := 10) (ms := 76) (mk := mkS 0 [4, 3, 2, 1, 0] 101) (mk' := mkS 0 [4, 3, 2, 1, 0] 112) hC hP hD hS (mkS_no (by decide)) (fun hPc hDc => k_callI (xs := [1, 3]) hC hPc hDc (k_Fillings_init l) (w_C_GN (w_C_h6 13 rfl)) (List.mem_cons_of_mem _ (w_C_h10 16 rfl)) rfl (List.mem_cons_of_mem _ (w_C_h10 17 rfl)) (List.mem_cons_of_mem _ (w_C_h1 1 rfl)) ⟨rfl, rfl⟩ (by decide +kernel) ⟨Nat.le_of_ble_eq_true rfl, Nat.le_of_ble_eq_true rfl⟩ hl.1 (Nat.le_of_ble_eq_true rfl) (show decode b_Out_init 75 = .ok (.invokespecial 49, 3) by decide +kernel) ⟨Nat.le_of_ble_eq_true rfl, Nat.le_of_ble_eq_true rfl⟩ (by rw [eh]; simp only [List.map_cons, List.map_nil]; rw []; rfl)) (clo_b (by decide +kernel)) (mkS_up (Nat.le_refl _) (by decide)) (mkS_in (by decide)) (by decide +kernel) (fun al12 H locs hal hP hD hS => ?_)
  have ho12 := al_out (by decide) (by decide) hal ho11
  replace eh := (hal _ (Or.inl (Nat.le_refl _))).trans eh
  refine k_putF (k := 112) (j := 5) (x := 101) (mk := mkS 0 [4, 3, 2, 1, 0] 112) (mk' := mkS 0 [5, 4, 3, 2, 1, 0] 112) hC hP hD hS eh (ho12 0 (Or.inl (Nat.le_refl _))) rfl rfl (fun w hw => List.mem_cons_of_mem _ (w_C_lay_Out w hw)) ty_Out tyok_Out nm_Out (by decide) (List.mem_cons_of_mem _ (w_C_h10 4 rfl)) rfl rfl rfl rfl (fun _ => rfl) (fun _ => rfl) (by decide) (mkS_hx rfl) mkS_ho mkS_hk (show decode b_Out_init 78 = .ok (.putfield 52, 3) by decide +kernel) (fun H locs hP hD hS => ?_)
  refine lv_aload_n hx hb (show decode b_Out_init 81 = .ok (.aload_n 0, 1) by decide +kernel) rfl (lv_at hl 0 rfl) ?_
  refine k_new (k := 112) (N := 5) (mk := mkS 0 [5, 4, 3, 2, 1, 0] 112) hC hP hD hS rfl rfl (fun w hw => List.mem_cons_of_mem _ (w_C_lay_Narrower w hw)) ty_Narrower tyok_Narrower (List.mem_cons_of_mem _ (w_C_h10 5 rfl)) (List.mem_cons_of_mem _ (w_C_h10 6 rfl)) (List.mem_cons_of_mem _ (w_C_h4 2 rfl)) (by decide +kernel) (clo_b (by decide +kernel)) (mkS_no (by decide)) (Nat.le_of_ble_eq_true rfl) (Nat.le_of_ble_eq_true rfl) (show decode b_Out_init 82 = .ok (.new 56, 3) by decide +kernel) (fun hh H hP hD hS => ?_)
  obtain ⟨al13, ha13⟩ : ∃ z, z = exA al12 (0 + 112) hh := ⟨_, rfl⟩
  rw [← ha13] at hP hD
  have ho13 : ∀ q, q ≤ 0 ∨ 0 + 140 ≤ q → al13 q = al0 q := by rw [ha13]; exact exA_out (by decide) (by decide) ho12
  have eh : al13 (0 + 112) = hh := by rw [ha13]; exact if_pos rfl
  clear ha13
  refine lv_dup hx hb (show decode b_Out_init 85 = .ok (.dup, 1) by decide +kernel) rfl ?_
  refine lv_aload_n hx hb (show decode b_Out_init 86 = .ok (.aload_n 0, 1) by decide +kernel) rfl (lv_at hl 0 rfl) ?_
  refine k_get (k := 113) (i := 0) (j := 0) (x := 1) (mk := mkS 0 [5, 4, 3, 2, 1, 0] 112) hC hP (by decide) (ho13 0 (Or.inl (Nat.le_refl _))) rfl rfl (fun w hw => List.mem_cons_of_mem _ (w_C_lay_Out w hw)) (by decide) (List.mem_cons_of_mem _ (w_C_h9 34 rfl)) rfl rfl (by rfl) (show decode b_Out_init 87 = .ok (.getfield 12, 3) by decide +kernel) ?_
  refine lv_aload_n hx hb (show decode b_Out_init 90 = .ok (.aload_n 0, 1) by decide +kernel) rfl (lv_at hl 0 rfl) ?_
  refine k_get (k := 113) (i := 0) (j := 1) (x := 2) (mk := mkS 0 [5, 4, 3, 2, 1, 0] 112) hC hP (by decide) (ho13 0 (Or.inl (Nat.le_refl _))) rfl rfl (fun w hw => List.mem_cons_of_mem _ (w_C_lay_Out w hw)) (by decide) (List.mem_cons_of_mem _ (w_C_h9 35 rfl)) rfl rfl (by rfl) (show decode b_Out_init 91 = .ok (.getfield 19, 3) by decide +kernel) ?_
  refine k_getN (k := 113) (i := 2) (j := 0) (x := 3) (mk := mkS 0 [5, 4, 3, 2, 1, 0] 112) hC hP (by decide) rfl rfl rfl (fun w hw => List.mem_cons_of_mem _ (w_C_lay_Situation w hw)) (by decide) (List.mem_of_getElem? (i := 20) rfl) rfl rfl (by rfl) (show decode b_Out_init 94 = .ok (.getfield 46, 3) by decide +kernel) ?_
  refine lv_aload_n hx hb (show decode b_Out_init 97 = .ok (.aload_n 0, 1) by decide +kernel) rfl (lv_at hl 0 rfl) ?_
  refine k_get (k := 113) (i := 0) (j := 5) (x := 101) (mk := mkS 0 [5, 4, 3, 2, 1, 0] 112) hC hP (by decide) (ho13 0 (Or.inl (Nat.le_refl _))) rfl rfl (fun w hw => List.mem_cons_of_mem _ (w_C_lay_Out w hw)) (by decide) (List.mem_cons_of_mem _ (w_C_h10 4 rfl)) rfl rfl (by rfl) (show decode b_Out_init 98 = .ok (.getfield 52, 3) by decide +kernel) ?_
  refine k_back (k := 112) (len := 5) (mc := 4) (ms := 10) (mk := mkS 0 [5, 4, 3, 2, 1, 0] 112) (mk' := mkS 0 [5, 4, 3, 2, 1, 0] 117) hC hP hD hS (mkS_no (by decide)) (fun hPc hDc => k_callI (xs := [1, 3, 101]) hC hPc hDc (k_Narrower_init l) (w_C_GN (w_C_h7 9 rfl)) (List.mem_cons_of_mem _ (w_C_h10 18 rfl)) rfl (List.mem_cons_of_mem _ (w_C_h10 19 rfl)) (List.mem_cons_of_mem _ (w_C_h4 2 rfl)) ⟨rfl, rfl⟩ (by decide +kernel) ⟨Nat.le_of_ble_eq_true rfl, Nat.le_of_ble_eq_true rfl⟩ hl.1 (Nat.le_of_ble_eq_true rfl) (show decode b_Out_init 101 = .ok (.invokespecial 58, 3) by decide +kernel) ⟨Nat.le_of_ble_eq_true rfl, Nat.le_of_ble_eq_true rfl⟩ (by rw [eh]; simp only [List.map_cons, List.map_nil]; rw []; rfl)) (clo_b (by decide +kernel)) (mkS_up (Nat.le_refl _) (by decide)) (mkS_in (by decide)) (by decide +kernel) (fun al14 H locs hal hP hD hS => ?_)
  have ho14 := al_out (by decide) (by decide) hal ho13
  replace eh := (hal _ (Or.inl (Nat.le_refl _))).trans eh
  refine k_putF (k := 117) (j := 6) (x := 112) (mk := mkS 0 [5, 4, 3, 2, 1, 0] 117) (mk' := mkS 0 [6, 5, 4, 3, 2, 1, 0] 117) hC hP hD hS eh (ho14 0 (Or.inl (Nat.le_refl _))) rfl rfl (fun w hw => List.mem_cons_of_mem _ (w_C_lay_Out w hw)) ty_Out tyok_Out nm_Out (by decide) (List.mem_cons_of_mem _ (w_C_h9 37 rfl)) rfl rfl rfl rfl (fun _ => rfl) (fun _ => rfl) (by decide) (mkS_hx rfl) mkS_ho mkS_hk (show decode b_Out_init 104 = .ok (.putfield 61, 3) by decide +kernel) (fun H locs hP hD hS => ?_)
  refine lv_aload_n hx hb (show decode b_Out_init 107 = .ok (.aload_n 0, 1) by decide +kernel) rfl (lv_at hl 0 rfl) ?_
  refine k_new (k := 117) (N := 16) (mk := mkS 0 [6, 5, 4, 3, 2, 1, 0] 117) hC hP hD hS rfl rfl (fun w hw => List.mem_cons_of_mem _ (w_C_lay_Search w hw)) ty_Search tyok_Search (List.mem_cons_of_mem _ (w_C_h10 7 rfl)) (List.mem_cons_of_mem _ (w_C_h10 8 rfl)) (List.mem_cons_of_mem _ (w_C_h8 48 rfl)) (by decide +kernel) (clo_b (by decide +kernel)) (mkS_no (by decide)) (Nat.le_of_ble_eq_true rfl) (Nat.le_of_ble_eq_true rfl) (show decode b_Out_init 108 = .ok (.new 65, 3) by decide +kernel) (fun hh H hP hD hS => ?_)
  obtain ⟨al15, ha15⟩ : ∃ z, z = exA al14 (0 + 117) hh := ⟨_, rfl⟩
  rw [← ha15] at hP hD
  have ho15 : ∀ q, q ≤ 0 ∨ 0 + 140 ≤ q → al15 q = al0 q := by rw [ha15]; exact exA_out (by decide) (by decide) ho14
  have eh : al15 (0 + 117) = hh := by rw [ha15]; exact if_pos rfl
  clear ha15
  refine lv_dup hx hb (show decode b_Out_init 111 = .ok (.dup, 1) by decide +kernel) rfl ?_
  refine lv_aload_n hx hb (show decode b_Out_init 112 = .ok (.aload_n 0, 1) by decide +kernel) rfl (lv_at hl 0 rfl) ?_
  refine k_get (k := 118) (i := 0) (j := 0) (x := 1) (mk := mkS 0 [6, 5, 4, 3, 2, 1, 0] 117) hC hP (by decide) (ho15 0 (Or.inl (Nat.le_refl _))) rfl rfl (fun w hw => List.mem_cons_of_mem _ (w_C_lay_Out w hw)) (by decide) (List.mem_cons_of_mem _ (w_C_h9 34 rfl)) rfl rfl (by rfl) (show decode b_Out_init 113 = .ok (.getfield 12, 3) by decide +kernel) ?_
  refine lv_aload_n hx hb (show decode b_Out_init 116 = .ok (.aload_n 0, 1) by decide +kernel) rfl (lv_at hl 0 rfl) ?_
  refine k_get (k := 118) (i := 0) (j := 1) (x := 2) (mk := mkS 0 [6, 5, 4, 3, 2, 1, 0] 117) hC hP (by decide) (ho15 0 (Or.inl (Nat.le_refl _))) rfl rfl (fun w hw => List.mem_cons_of_mem _ (w_C_lay_Out w hw)) (by decide) (List.mem_cons_of_mem _ (w_C_h9 35 rfl)) rfl rfl (by rfl) (show decode b_Out_init 117 = .ok (.getfield 19, 3) by decide +kernel) ?_
  refine k_getN (k := 118) (i := 2) (j := 0) (x := 3) (mk := mkS 0 [6, 5, 4, 3, 2, 1, 0] 117) hC hP (by decide) rfl rfl rfl (fun w hw => List.mem_cons_of_mem _ (w_C_lay_Situation w hw)) (by decide) (List.mem_of_getElem? (i := 20) rfl) rfl rfl (by rfl) (show decode b_Out_init 120 = .ok (.getfield 46, 3) by decide +kernel) ?_
  refine lv_aload_n hx hb (show decode b_Out_init 123 = .ok (.aload_n 0, 1) by decide +kernel) rfl (lv_at hl 0 rfl) ?_
  refine k_get (k := 118) (i := 0) (j := 6) (x := 112) (mk := mkS 0 [6, 5, 4, 3, 2, 1, 0] 117) hC hP (by decide) (ho15 0 (Or.inl (Nat.le_refl _))) rfl rfl (fun w hw => List.mem_cons_of_mem _ (w_C_lay_Out w hw)) (by decide) (List.mem_cons_of_mem _ (w_C_h9 37 rfl)) rfl rfl (by rfl) (show decode b_Out_init 124 = .ok (.getfield 61, 3) by decide +kernel) ?_
  refine k_back (k := 117) (len := 21) (mc := 20) (ms := 4155) (mk := mkS 0 [6, 5, 4, 3, 2, 1, 0] 117) (mk' := mkS 0 [6, 5, 4, 3, 2, 1, 0] 138) hC hP hD hS (mkS_no (by decide)) (fun hPc hDc => k_callI (xs := [1, 3, 112]) hC hPc hDc (k_Search_init l) (w_C_GN (w_C_h7 49 rfl)) (List.mem_cons_of_mem _ (w_C_h10 20 rfl)) rfl (List.mem_cons_of_mem _ (w_C_h10 21 rfl)) (List.mem_cons_of_mem _ (w_C_h8 48 rfl)) ⟨rfl, rfl⟩ (by decide +kernel) ⟨Nat.le_of_ble_eq_true rfl, Nat.le_of_ble_eq_true rfl⟩ hl.1 (Nat.le_of_ble_eq_true rfl) (show decode b_Out_init 127 = .ok (.invokespecial 67, 3) by decide +kernel) ⟨Nat.le_of_ble_eq_true rfl, Nat.le_of_ble_eq_true rfl⟩ (by rw [eh]; simp only [List.map_cons, List.map_nil]; rw []; rfl)) (clo_b (by decide +kernel)) (mkS_up (Nat.le_refl _) (by decide)) (mkS_in (by decide)) (by decide +kernel) (fun al16 H locs hal hP hD hS => ?_)
  have ho16 := al_out (by decide) (by decide) hal ho15
  replace eh := (hal _ (Or.inl (Nat.le_refl _))).trans eh
  refine k_putF (k := 138) (j := 7) (x := 117) (mk := mkS 0 [6, 5, 4, 3, 2, 1, 0] 138) (mk' := mkS 0 [7, 6, 5, 4, 3, 2, 1, 0] 138) hC hP hD hS eh (ho16 0 (Or.inl (Nat.le_refl _))) rfl rfl (fun w hw => List.mem_cons_of_mem _ (w_C_lay_Out w hw)) ty_Out tyok_Out nm_Out (by decide) (List.mem_cons_of_mem _ (w_C_h10 9 rfl)) rfl rfl rfl rfl (fun _ => rfl) (fun _ => rfl) (by decide) (mkS_hx rfl) mkS_ho mkS_hk (show decode b_Out_init 130 = .ok (.putfield 70, 3) by decide +kernel) (fun H locs hP hD hS => ?_)
  refine lv_aload_n hx hb (show decode b_Out_init 133 = .ok (.aload_n 0, 1) by decide +kernel) rfl (lv_at hl 0 rfl) ?_
  refine k_new (k := 138) (N := 9) (mk := mkS 0 [7, 6, 5, 4, 3, 2, 1, 0] 138) hC hP hD hS rfl rfl (fun w hw => List.mem_cons_of_mem _ (w_C_lay_Advice w hw)) ty_Advice tyok_Advice (List.mem_cons_of_mem _ (w_C_h10 10 rfl)) (List.mem_cons_of_mem _ (w_C_h10 11 rfl)) (List.mem_cons_of_mem _ (w_C_h2 49 rfl)) (by decide +kernel) (clo_b (by decide +kernel)) (mkS_no (by decide)) (Nat.le_of_ble_eq_true rfl) (Nat.le_of_ble_eq_true rfl) (show decode b_Out_init 134 = .ok (.new 74, 3) by decide +kernel) (fun hh H hP hD hS => ?_)
  obtain ⟨al17, ha17⟩ : ∃ z, z = exA al16 (0 + 138) hh := ⟨_, rfl⟩
  rw [← ha17] at hP hD
  have ho17 : ∀ q, q ≤ 0 ∨ 0 + 140 ≤ q → al17 q = al0 q := by rw [ha17]; exact exA_out (by decide) (by decide) ho16
  have eh : al17 (0 + 138) = hh := by rw [ha17]; exact if_pos rfl
  clear ha17
  refine lv_dup hx hb (show decode b_Out_init 137 = .ok (.dup, 1) by decide +kernel) rfl ?_
  refine lv_aload_n hx hb (show decode b_Out_init 138 = .ok (.aload_n 0, 1) by decide +kernel) rfl (lv_at hl 0 rfl) ?_
  refine k_get (k := 139) (i := 0) (j := 0) (x := 1) (mk := mkS 0 [7, 6, 5, 4, 3, 2, 1, 0] 138) hC hP (by decide) (ho17 0 (Or.inl (Nat.le_refl _))) rfl rfl (fun w hw => List.mem_cons_of_mem _ (w_C_lay_Out w hw)) (by decide) (List.mem_cons_of_mem _ (w_C_h9 34 rfl)) rfl rfl (by rfl) (show decode b_Out_init 139 = .ok (.getfield 12, 3) by decide +kernel) ?_
  refine lv_aload_n hx hb (show decode b_Out_init 142 = .ok (.aload_n 0, 1) by decide +kernel) rfl (lv_at hl 0 rfl) ?_
  refine k_get (k := 139) (i := 0) (j := 1) (x := 2) (mk := mkS 0 [7, 6, 5, 4, 3, 2, 1, 0] 138) hC hP (by decide) (ho17 0 (Or.inl (Nat.le_refl _))) rfl rfl (fun w hw => List.mem_cons_of_mem _ (w_C_lay_Out w hw)) (by decide) (List.mem_cons_of_mem _ (w_C_h9 35 rfl)) rfl rfl (by rfl) (show decode b_Out_init 143 = .ok (.getfield 19, 3) by decide +kernel) ?_
  refine k_getN (k := 139) (i := 2) (j := 0) (x := 3) (mk := mkS 0 [7, 6, 5, 4, 3, 2, 1, 0] 138) hC hP (by decide) rfl rfl rfl (fun w hw => List.mem_cons_of_mem _ (w_C_lay_Situation w hw)) (by decide) (List.mem_of_getElem? (i := 20) rfl) rfl rfl (by rfl) (show decode b_Out_init 146 = .ok (.getfield 46, 3) by decide +kernel) ?_
  refine lv_aload_n hx hb (show decode b_Out_init 149 = .ok (.aload_n 0, 1) by decide +kernel) rfl (lv_at hl 0 rfl) ?_
  refine k_get (k := 139) (i := 0) (j := 5) (x := 101) (mk := mkS 0 [7, 6, 5, 4, 3, 2, 1, 0] 138) hC hP (by decide) (ho17 0 (Or.inl (Nat.le_refl _))) rfl rfl (fun w hw => List.mem_cons_of_mem _ (w_C_lay_Out w hw)) (by decide) (List.mem_cons_of_mem _ (w_C_h10 4 rfl)) rfl rfl (by rfl) (show decode b_Out_init 150 = .ok (.getfield 52, 3) by decide +kernel) ?_
  refine lv_aload_n hx hb (show decode b_Out_init 153 = .ok (.aload_n 0, 1) by decide +kernel) rfl (lv_at hl 0 rfl) ?_
  refine k_get (k := 139) (i := 0) (j := 6) (x := 112) (mk := mkS 0 [7, 6, 5, 4, 3, 2, 1, 0] 138) hC hP (by decide) (ho17 0 (Or.inl (Nat.le_refl _))) rfl rfl (fun w hw => List.mem_cons_of_mem _ (w_C_lay_Out w hw)) (by decide) (List.mem_cons_of_mem _ (w_C_h9 37 rfl)) rfl rfl (by rfl) (show decode b_Out_init 154 = .ok (.getfield 61, 3) by decide +kernel) ?_
  refine k_back (k := 138) (len := 2) (mc := 1) (ms := 16) (mk := mkS 0 [7, 6, 5, 4, 3, 2, 1, 0] 138) (mk' := mkS 0 [7, 6, 5, 4, 3, 2, 1, 0] 140) hC hP hD hS (mkS_no (by decide)) (fun hPc hDc => k_callI (xs := [1, 3, 101, 112]) hC hPc hDc (k_Advice_init l) (w_C_GN (w_C_h0 0 rfl)) (List.mem_cons_of_mem _ (w_C_h10 22 rfl)) rfl (List.mem_cons_of_mem _ (w_C_h10 23 rfl)) (List.mem_cons_of_mem _ (w_C_h2 49 rfl)) ⟨rfl, rfl⟩ (by decide +kernel) ⟨Nat.le_of_ble_eq_true rfl, Nat.le_of_ble_eq_true rfl⟩ hl.1 (Nat.le_of_ble_eq_true rfl) (show decode b_Out_init 157 = .ok (.invokespecial 76, 3) by decide +kernel) ⟨Nat.le_of_ble_eq_true rfl, Nat.le_of_ble_eq_true rfl⟩ (by rw [eh]; simp only [List.map_cons, List.map_nil]; rw []; rfl)) (clo_b (by decide +kernel)) (mkS_up (Nat.le_refl _) (by decide)) (mkS_in (by decide)) (by decide +kernel) (fun al18 H locs hal hP hD hS => ?_)
  have ho18 := al_out (by decide) (by decide) hal ho17
  replace eh := (hal _ (Or.inl (Nat.le_refl _))).trans eh
  refine k_putF (k := 140) (j := 8) (x := 138) (mk := mkS 0 [7, 6, 5, 4, 3, 2, 1, 0] 140) (mk' := mkS 0 [8, 7, 6, 5, 4, 3, 2, 1, 0] 140) hC hP hD hS eh (ho18 0 (Or.inl (Nat.le_refl _))) rfl rfl (fun w hw => List.mem_cons_of_mem _ (w_C_lay_Out w hw)) ty_Out tyok_Out nm_Out (by decide) (List.mem_cons_of_mem _ (w_C_h9 39 rfl)) rfl rfl rfl rfl (fun _ => rfl) (fun _ => rfl) (by decide) (mkS_hx rfl) mkS_ho mkS_hk (show decode b_Out_init 160 = .ok (.putfield 79, 3) by decide +kernel) (fun H locs hP hD hS => ?_)
  refine lv_aload_n hx hb (show decode b_Out_init 163 = .ok (.aload_n 0, 1) by decide +kernel) rfl (lv_at hl 0 rfl) ?_
  refine lv_iconst (v := 5) hx hb (show decode b_Out_init 164 = .ok (.iconst 5, 1) by decide +kernel) (by decide) ?_
  refine lv_iconst (v := 5) hx hb (show decode b_Out_init 165 = .ok (.iconst 5, 1) by decide +kernel) (by decide) ?_
  refine lv_iconst (v := 1) hx hb (show decode b_Out_init 166 = .ok (.iconst 1, 1) by decide +kernel) (by decide) ?_
  rw [mkS_full (by decide +kernel), kW_fx] at hP hD
  have e0 : al18 0 = al0 0 := ho18 0 (Or.inl (Nat.le_refl _))
  have hl2 : fx_LH al18 ls 1 [some (.ref 0)] := by
    show lv_has ls 1 [(0, .ref (al18 0))]
    rw [e0]
    exact hl
  rw [← e0]
  refine e_Out_c83 (n := 256) (l := l) (nL := 1) (cc := b_Out_init) ⟨Nat.le_of_ble_eq_true rfl, Nat.le_of_ble_eq_true rfl⟩ p e s m args below meth c _ D A s.heap cA al18 139 7487 hx hb hml hown hts hC.2.2.2.1 hN hC.2.2.2.2 ⟨Nat.le_of_ble_eq_true rfl, Nat.le_of_ble_eq_true rfl⟩ 167 [some (.ref 0)] [.int (nI 1), .int (nI 5), .int (nI 5), .ref 0] zI zJ (R0C false) (fun st I J R => st = [] ∧ I = bgI zI (nI 5) (nI 5) (nI 1) ∧ J = bgJ zJ 5 5 (nI 1) ∧ R = R0C false) (show decode b_Out_init 167 = .ok (.invokevirtual 83, 3) by decide +kernel) ⟨Nat.le_of_ble_eq_true rfl, Nat.le_of_ble_eq_true rfl, ⟨⟨false, rfl⟩, 5, 5, by omega, by omega, by omega, rfl, rfl⟩, fun r I2 J2 R2 hp => ?_⟩ ?_ H locs ls hl2 hP hD hS
  · obtain ⟨rfl, rfl, rfl, rfl⟩ := hp
    exact ⟨rfl, rfl, rfl, rfl⟩
  · rintro st2 I2 J2 R2 ⟨rfl, rfl, rfl, rfl⟩ H2 locs2 ls2 hl3 hP2 hD2 hS2
    exact W.vret hx hb hret (fun t ht hW => ⟨⟨rfl, al18, fun q hq => ho18 q (by rcases hq with h | h; exact Or.inl (by omega); exact Or.inr (by have : 140 ≤ q := h; omega)), by rw [ht]; exact hP2, va_K.moved hW.alike hC.2.2.2.1, hD2⟩, hS2.F ht⟩) hS2.2.2 (show decode b_Out_init 170 = .ok (.return_, 1) by decide +kernel)
