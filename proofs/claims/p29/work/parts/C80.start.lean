/-! the law from its entry (own work) -/
theorem bg_dim : cW (bgI zI (nI 5) (nI 5) (nI 1)) = 5 ∧ cH (bgI zI (nI 5) (nI 5) (nI 1)) = 5 ∧ cC (bgI zI (nI 5) (nI 5) (nI 1)) = 1 := by
  obtain ⟨v0, v1, v2, -⟩ := bgI_v (I := zI) (a := nI 5) (b := nI 5) (y := nI 1)
  unfold cW cH cC
  rw [v0, v1, v2]
  exact ⟨nv_nI (by omega), nv_nI (by omega), nv_nI (by omega)⟩
theorem bg_undo : nv (beginsM zI (nI 5) (nI 5) (nI 1) 0 2) = 0 := by
  have e : beginsM zI (nI 5) (nI 5) (nI 1) 0 2 = 0 := by simp [beginsM, fill_ne, up_ne, up_eq]
  rw [e]
  rfl
theorem whole_start {p : Program} {e : Env} {s : State} {m : MethodId} {below : List Frame} {meth : Method} {c : Code} (l : Launch) (hflags : l.flags = flags0) {b L : Nat} {xs : Nat → Int32} (hL : L ≤ 260) (C0 : lw_At p s m meth c b L xs) : W p l e room_1 s m #[Value.ref b] below meth c s.heap [] 0 0 (lw_Z below #[Value.ref b] s) (entryFrame m ([Value.ref b] : List Value).toArray 14) := by
  obtain ⟨hx, hb, hret, hml, hown, hts, hX, hbl, hlocks, hnw⟩ := C0
  obtain ⟨D, cA, hK⟩ := lw_know hts
  have hN := lw_nest hts
  have hO := lw_ao hts
  have hl := lv_entry [Value.ref b] (n := 14) (Nat.le_of_ble_eq_true rfl)
  rw [lg_entry_eq]
  have hl : lv_has _ 14 [(0, .ref b)] := hl
  revert hl
  generalize ((lg_sl [Value.ref b]) ++ _).toArray = ls0
  intro hl
  have iO : ∀ (i : Nat) (w : Cond), [Cond.classLink R_law 31 R_Out, Cond.methodLink R_law 68 y_Out_init, Cond.instanceMethod y_Out_init, Cond.initialized R_Out, Cond.code y_Out_init b_Out_init 1 none][i]? = some w → w ∈ lw_tbl := fun i w hw => lx_in lq_init_Out w (List.mem_of_getElem? hw)
  -- the class's object
  refine lw_new (ci := 0) (N := 9) (T := T_Out) ⟨hx, hb, hml, hown, hts⟩ (fun w hw => lt_C w (w_C_lay_Out w hw)) ty_Out tyok_Out (iO 0 _ rfl) (lx_in lq_inst _ (List.mem_of_getElem? (i := 0) rfl)) (iO 3 _ rfl) hK va_S.rf rfl (fs := (List.range (fx_nf (MC 256) 0)).map (fun j => match (MC 256).2.1 0 j with | 0 => Value.int 0 | 1 => Value.long 0 | _ => Value.null)) (by decide +kernel) (Nat.le_of_ble_eq_true rfl) (Nat.le_of_ble_eq_true rfl) (show decode code 0 = .ok (.new 31, 3) by decide +kernel) ?_
  intro h1 H1 hh1 hH1 hP1 hS1 hk1
  obtain ⟨al0, hal0⟩ : ∃ z : Nat → Nat, z = exA (fun _ => b) 0 h1 := ⟨_, rfl⟩
  have e00 : al0 0 = h1 := by rw [hal0]; exact if_pos rfl
  have e0 : ∀ q, q ≠ 0 → al0 q = b := fun q hq => by rw [hal0]; exact if_neg hq
  have ew0 : kW cA al0 mk0 0 1 = [(h1, .inr (0, (List.range (fx_nf (MC 256) 0)).map (fun j => match (MC 256).2.1 0 j with | 0 => Value.int 0 | 1 => Value.long 0 | _ => Value.null)))] := by
    rw [kW_zero (ci := 0) rfl (fun j => rfl), e00]
    rfl
  rw [← ew0] at hP1
  have hA1 : ∀ q, va_A (kW cA al0 mk0 0 1) H1.size q → aN s q := by
    rw [ew0]
    exact va_A_one hh1 hS1.1
  have hD1 : va_D (fun _ => True) (kW cA al0 mk0 0 1) := by
    rw [ew0]
    exact va_D_one trivial
  refine lv_dup hx hb (show decode code 3 = .ok (.dup, 1) by decide +kernel) rfl ?_
  refine lw_init (M := MC 256) (mc := 139) (ms := 7487) (va_runI (l := l) (e := e) (meth := meth) (below := below) (As := []) ⟨hx, hb, hml, hown, hts⟩ (k_Out_init l D cA al0 H1.size) (cwI (own := R_law) 0 hts (lw_IC lq_init_Out rfl) rfl rfl rfl (hts _ (iO 3 _ rfl)) (hts _ (iO 1 _ rfl)) (hts _ (iO 2 _ rfl)) rfl (by decide +kernel) ⟨Nat.le_of_ble_eq_true rfl, Nat.le_of_ble_eq_true rfl⟩) ⟨k_blind, fun U hU hW => ⟨rfl, by rw [hU], by rw [hU]; exact hP1, va_K.moved hW.alike hK, hD1, hN.warm hW, hO.moved hW.alike⟩⟩ rfl rfl hl.1 (by rw [e00]; rfl) (lv_room (Nat.le_of_ble_eq_true rfl)) (show decode code 4 = .ok (.invokespecial 68, 3) by decide +kernel) ⟨Nat.le_of_ble_eq_true rfl, Nat.le_of_ble_eq_true rfl⟩) hS1 hA1 ?_
  intro al H2 locs2 hal hP2 hD2 hS2
  have ea0 : al 0 = h1 := (hal 0 (Or.inl rfl)).trans e00
  have ea9 : al 999 = b := (hal 999 (Or.inr (Nat.le_of_ble_eq_true rfl))).trans (e0 999 (by omega))
  refine lv_astore_n (lv' := [(1, .ref h1), (0, .ref b)]) hx hb (show decode code 7 = .ok (.astore_n 1, 1) by decide +kernel) rfl hl (by decide) rfl (fun ls1 hl => ?_)
  -- the law's two rows
  have hA : ∀ q : Nat, s.heap.size ≤ q → aN s q := fun q hq => hq
  have hn0 : ¬ nI 64 < 0 := by decide +kernel
  have hn1 : (nI 64).toNatClampNeg = 64 := nI_clamp (by omega)
  have hcA : ∀ {x : ClassId}, s.vm.findClass ("[" ++ FieldType.int.toString) = some x → x = cA 0 := fun {x} h1 => by
    have h2 : s.vm.findClass ("[" ++ FieldType.int.toString) = some (cA 0) := (hK.2 0 (cA 0, .int) rfl).2
    exact Option.some.inj (h1.symm.trans h2)
  refine lv_bipush (v := nI 64) hx hb (show decode code 8 = .ok (.bipush 64, 2) by decide +kernel) (by decide) ?_
  refine va_newa (atype := .int) hx hb (hts _ (lx_in lq_arrs _ (List.mem_of_getElem? (i := 0) rfl))) (ty := .int) rfl hK hP2 hD2 hS2 hA (n := nI 64) (N' := 64) (a0 := (64, .inl (fun _ => 0))) (fun _ => rfl) hn0 hn1 (by decide) (Nat.le_of_ble_eq_true rfl) (Nat.le_of_ble_eq_true rfl) (show decode code 10 = .ok (.newarray .int, 2) by decide +kernel) ?_
  intro h2 cA1 H3 hK1 hP3 hD3 hS3
  have e1 : cA1 = cA 0 := hcA (hK1.2 4 (cA1, .int) rfl).2
  subst e1
  refine lv_astore_n (lv' := [(2, .ref h2), (1, .ref h1), (0, .ref b)]) hx hb (show decode code 12 = .ok (.astore_n 2, 1) by decide +kernel) rfl hl (by decide) rfl (fun ls2 hl => ?_)
  refine lv_bipush (v := nI 64) hx hb (show decode code 13 = .ok (.bipush 64, 2) by decide +kernel) (by decide) ?_
  refine va_newa (atype := .int) hx hb (hts _ (lx_in lq_arrs _ (List.mem_of_getElem? (i := 0) rfl))) (ty := .int) rfl hK hP3 hD3 hS3 hA (n := nI 64) (N' := 64) (a0 := (64, .inl (fun _ => 0))) (fun _ => rfl) hn0 hn1 (by decide) (Nat.le_of_ble_eq_true rfl) (Nat.le_of_ble_eq_true rfl) (show decode code 15 = .ok (.newarray .int, 2) by decide +kernel) ?_
  intro h3 cA2 H4 hK2 hP4 hD4 hS4
  have e2 : cA2 = cA 0 := hcA (hK2.2 4 (cA2, .int) rfl).2
  subst e2
  refine lv_astore_n (lv' := [(3, .ref h3), (2, .ref h2), (1, .ref h1), (0, .ref b)]) hx hb (show decode code 17 = .ok (.astore_n 3, 1) by decide +kernel) rfl hl (by decide) rfl (fun ls3 hl => ?_)
  rw [w_C0] at hP4 hD4
  have hlo : ∀ q, q < 140 → zrI 140 141 (bgI zI (nI 5) (nI 5) (nI 1)) q = bgI zI (nI 5) (nI 5) (nI 1) q := fun q hq => if_neg (by omega)
  have hdz := dim_hi hlo
  have hL4 : fx_LH (exA (exA al 140 h2) 141 h3) ls3 14 [some (.ref 999), some (.ref 0), some (.ref 140), some (.ref 141)] := by
    have h9 : lv_has ls3 14 [(0, .ref (al 999)), (1, .ref (al 0)), (2, .ref h2), (3, .ref h3)] := by
      rw [ea9, ea0]
      exact lv_sub hl [3, 2, 1, 0] rfl
    exact h9
  have hws : ∀ w ∈ ws_Law_law, w.before #[Value.ref b] s = true := fun w hw => by
    rcases List.mem_cons.mp hw with rfl | h
    · exact hts _ (lt_C _ (w_C_h7 2 rfl))
    · exact hts _ (lt_C _ h)
  have hE : lwE p s m b meth c D cA (exA (exA al 140 h2) 141 h3) L xs := ⟨⟨hx, hb, hml, hown, hws, hret, hlocks, hN⟩, hK, ⟨hX, hbl, hL⟩, ea9⟩
  exact lw_18 hE (REL_hi REL_0 hlo) ⟨hdz.1.trans bg_dim.1, hdz.2.1.trans bg_dim.2.1, hdz.2.2.trans bg_dim.2.2⟩ bg_undo H4 locs2 ls3 hL4 hP4 hD4 hS4
