/-! the law from its entry (own work) -/
theorem whole_start {p : Program} {e : Env} {s : State} {m : MethodId} {below : List Frame} {meth : Method} {c : Code} (l : Launch) (hflags : l.flags = flags0) {b L : Nat} {xs : Nat → Int32} (hL : L ≤ 3072) (C0 : lw_At p s m meth c b L xs) : W p l e room_1 s m #[Value.ref b] below meth c s.heap [] 0 0 (lw_Z below #[Value.ref b] s) (entryFrame m ([Value.ref b] : List Value).toArray 4) := by
  obtain ⟨hx, hb, hret, hml, hown, hts, hX, hbl, hlocks, hnw⟩ := C0
  obtain ⟨D1, D2, cA, cM, hK1, hK2⟩ := lw_know hts
  obtain ⟨alS, hSt0⟩ := lw_str hts hnw
  have hN := lw_nest hts
  have hO := lw_ao hts
  have hB : lwB p s m #[Value.ref b] c := ⟨hx, hb, hml, hown, hts, hN⟩
  have hl := lv_entry [Value.ref b] (n := 4) (Nat.le_of_ble_eq_true rfl)
  rw [lg_entry_eq]
  have hl : lv_has _ 4 [(0, .ref b)] := hl
  revert hl
  generalize ((lg_sl [Value.ref b]) ++ _).toArray = ls
  intro hl
  have iO : ∀ (i : Nat) (w : Cond), [Cond.classLink R_law 7 R_Out, Cond.methodLink R_law 9 y_Out_init, Cond.instanceMethod y_Out_init, Cond.initialized R_Out, Cond.code y_Out_init b_Out_init 1 none][i]? = some w → w ∈ lw_tbl := fun i w hw => lx_in lq_init_Out w (List.mem_of_getElem? hw)
  have iM : ∀ (i : Nat) (w : Cond), [Cond.classLink R_law 10 R_M, Cond.methodLink R_law 12 y_M_init, Cond.instanceMethod y_M_init, Cond.initialized R_M, Cond.code y_M_init b_M_init 1 none][i]? = some w → w ∈ lw_tbl := fun i w hw => lx_in lq_init_M w (List.mem_of_getElem? hw)
  -- the class's object
  refine lw_new (ci := 0) (N := 9) (T := T_Out) hB (fun w hw => lt_C w (w_C_lay_Out w hw)) ty_Out tyok_Out (iO 0 _ rfl) (lx_in lq_inst _ (List.mem_of_getElem? (i := 0) rfl)) (iO 3 _ rfl) hK1 va_S.rf rfl (fs := (List.range (fx_nf (MC 256) 0)).map (fun j => match (MC 256).2.1 0 j with | 0 => Value.int 0 | 1 => Value.long 0 | _ => Value.null)) (by decide +kernel) (Nat.le_of_ble_eq_true rfl) (Nat.le_of_ble_eq_true rfl) (show decode code 0 = .ok (.new 7, 3) by decide +kernel) ?_
  intro h1 H1 hh1 hH1 hP1 hS1 hk1
  obtain ⟨al0, hal0⟩ : ∃ z : Nat → Nat, z = exA alS 0 h1 := ⟨_, rfl⟩
  have e00 : al0 0 = h1 := by rw [hal0]; exact if_pos rfl
  have e0 : ∀ q, q ≠ 0 → al0 q = alS q := fun q hq => by rw [hal0]; exact if_neg hq
  have ew0 : kW cA al0 mk0 0 1 = [(h1, .inr (0, (List.range (fx_nf (MC 256) 0)).map (fun j => match (MC 256).2.1 0 j with | 0 => Value.int 0 | 1 => Value.long 0 | _ => Value.null)))] := by
    rw [kW_zero (ci := 0) rfl (fun j => rfl), e00]
    rfl
  rw [← ew0] at hP1
  have hA1 : ∀ q, va_A (kW cA al0 mk0 0 1) H1.size q → aN s q := by
    rw [ew0]
    exact va_A_one hh1 hS1.1
  have hD1 : va_D (fun _ => True) (kW cA al0 mk0 0 1) := by
    rw [ew0]
    exact va_D_one trivial
  refine lv_dup hx hb (show decode code 3 = .ok (.dup, 1) by decide +kernel) rfl ?_
  refine lw_init (M := MC 256) (mc := 139) (ms := 7487) (va_runI (l := l) (e := e) (meth := meth) (below := below) (As := []) ⟨hx, hb, hml, hown, hts⟩ (k_Out_init l D1 cA al0 H1.size) (cwI (own := R_law) 0 hts (lw_IC lq_init_Out rfl) rfl rfl rfl (hts _ (iO 3 _ rfl)) (hts _ (iO 1 _ rfl)) (hts _ (iO 2 _ rfl)) rfl (by decide +kernel) ⟨Nat.le_of_ble_eq_true rfl, Nat.le_of_ble_eq_true rfl⟩) ⟨k_blind, fun U hU hW => ⟨rfl, by rw [hU], by rw [hU]; exact hP1, va_K.moved hW.alike hK1, hD1, hN.warm hW, hO.moved hW.alike⟩⟩ rfl rfl hl.1 (by rw [e00]; rfl) (lv_room (Nat.le_of_ble_eq_true rfl)) (show decode code 4 = .ok (.invokespecial 9, 3) by decide +kernel) ⟨Nat.le_of_ble_eq_true rfl, Nat.le_of_ble_eq_true rfl⟩) hS1 hA1 ?_
  intro al H2 locs2 hal hP2 hD2 hS2 _
  have ea0 : al 0 = h1 := (hal 0 (Or.inl rfl)).trans e00
  refine lv_astore_n (lv' := [(1, .ref h1), (0, .ref b)]) hx hb (show decode code 7 = .ok (.astore_n 1, 1) by decide +kernel) rfl hl (by decide) rfl (fun ls hl => ?_)
  -- the reference's object
  refine lw_new (ci := 0) (N := 30) (T := T_M) hB (fun w hw => lt_M w (w_M_lay w hw)) ty_M tyok_M (iM 0 _ rfl) (lx_in lq_inst _ (List.mem_of_getElem? (i := 12) rfl)) (iM 3 _ rfl) hK2 hS2 rfl (fs := (List.range (fx_nf MM 0)).map (fun j => match MM.2.1 0 j with | 0 => Value.int 0 | 1 => Value.long 0 | _ => Value.null)) (by decide +kernel) (Nat.le_of_ble_eq_true rfl) (Nat.le_of_ble_eq_true rfl) (show decode code 8 = .ok (.new 10, 3) by decide +kernel) ?_
  intro h3 H3 hh3 hH3 hP3 hS3 hk3
  obtain ⟨alM0, halM0⟩ : ∃ z : Nat → Nat, z = fun _ => h3 := ⟨_, rfl⟩
  have eM0 : alM0 0 = h3 := by rw [halM0]
  have ewM : jW cM alM0 mk0 0 1 = [(h3, .inr (0, (List.range (fx_nf MM 0)).map (fun j => match MM.2.1 0 j with | 0 => Value.int 0 | 1 => Value.long 0 | _ => Value.null)))] := by
    rw [jW_zero, eM0]
    rfl
  have hap0 : ap (jW cM alM0 mk0 0 1) (fx_w (MC 256) cA al (bgI zI (nI 5) (nI 5) (nI 1)) (bgJ zJ 5 5 (nI 1)) (R0C false)) := by
    rw [ewM]
    exact ap_one hP2 hH3
  have hP2' : va_P D1 (MC 256).1 (fx_w (MC 256) cA al (bgI zI (nI 5) (nI 5) (nI 1)) (bgJ zJ 5 5 (nI 1)) (R0C false)) H3 := hP2.kept fun k q hq => hk3 q.1 ((hP2 k q hq).lt)
  rw [← ewM] at hP3
  have hA3 : ∀ q, va_A (jW cM alM0 mk0 0 1) H3.size q → aN s q := by
    rw [ewM]
    exact va_A_one hh3 hS3.1
  have hD3 : va_D (fun _ => True) (jW cM alM0 mk0 0 1) := by
    rw [ewM]
    exact va_D_one trivial
  refine lv_dup hx hb (show decode code 11 = .ok (.dup, 1) by decide +kernel) rfl ?_
  refine lw_init (M := MM) (mc := 17) (ms := 5472) (va_runI (l := l) (e := e) (meth := meth) (below := below) (As := []) ⟨hx, hb, hml, hown, hts⟩ (k_M_init l D2 cM alM0 H3.size) (cwI (own := R_law) 0 hts (lw_IM lq_init_M rfl) rfl rfl rfl (hts _ (iM 3 _ rfl)) (hts _ (iM 1 _ rfl)) (hts _ (iM 2 _ rfl)) rfl (by decide +kernel) ⟨Nat.le_of_ble_eq_true rfl, Nat.le_of_ble_eq_true rfl⟩) ⟨j_blind, fun U hU hW => ⟨rfl, by rw [hU], by rw [hU]; exact hP3, va_K.moved hW.alike hK2, hD3, hN.warm hW⟩⟩ rfl rfl hl.1 (by rw [eM0]; rfl) (lv_room (Nat.le_of_ble_eq_true rfl)) (show decode code 12 = .ok (.invokespecial 12, 3) by decide +kernel) ⟨Nat.le_of_ble_eq_true rfl, Nat.le_of_ble_eq_true rfl⟩) hS3 hA3 ?_
  intro alM H4 locs4 halM hP4 hD4 hS4 hkeep
  have eM : alM 0 = h3 := (halM 0 (Or.inl rfl)).trans eM0
  obtain ⟨hP5, hap5⟩ := hkeep D1 (MC 256).1 _ hP2' hap0
  refine lv_astore_n (lv' := [(2, .ref h3), (1, .ref h1), (0, .ref b)]) hx hb (show decode code 15 = .ok (.astore_n 2, 1) by decide +kernel) rfl hl (by decide) rfl (fun ls hl => ?_)
  refine lv_iconst (v := nI 0) hx hb (show decode code 16 = .ok (.iconst 0, 1) by decide +kernel) (by decide) ?_
  refine lv_istore_n (lv' := lwV b h1 h3 0) hx hb (show decode code 17 = .ok (.istore_n 3, 1) by decide +kernel) rfl hl (by decide) rfl (fun ls hl => ?_)
  have hSt : fx_St al (aN s) s s.heap := hSt0.mvA ((hal 140 (Or.inr (Nat.le_refl 140))).trans (e0 140 (by omega))) ((hal 141 (Or.inr (Nat.le_of_ble_eq_true rfl))).trans (e0 141 (by omega)))
  refine lw_loop (x := h1) (mm := h3) ⟨⟨hB, hK1, hK2⟩, hX, hbl, hL⟩ ?_ L 0 (by omega) (by omega) ls hl 256 al alM _ _ false _ _ H4 locs4 _ _ ⟨hP5, hD2, hP4, hD4, ap_sym hap5, hS4, hSt, by omega, by omega, by omega, ea0, eM⟩ REL_0
  intro n al alM I J bb Ir Jr H locs cells slots hW ls'
  obtain ⟨-, -, -, -, -, hSe, -, hn, hc, hs, -⟩ := hW
  refine lv_iconst (v := 1) hx hb (show decode code 843 = .ok (.iconst 1, 1) by decide +kernel) (by decide) ?_
  refine va_forget hSe.2.2 ?_
  refine W.widen (k := 600000) (n := 7302250) (by omega) (by omega) ?_
  exact lw_ret hx hb hret hlocks (show decode code 844 = .ok (.ireturn, 1) by decide +kernel)
