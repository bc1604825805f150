/-! the JDK's length and charAt over the two words (own work) -/
def sx_len : List Nat := [3, 4]
def sx_byt : List (List Int32) := [[97, 110, 121], [110, 111, 110, 101]]
def sx_ch (i k : Nat) : Int32 := (sx_byt.getD i []).getD k 0
def sx_St (ad adV : Nat → Nat) (A : Nat → Prop) (U : State) (H : Heap) : Prop := vk_S 2 sx_len sx_byt ad adV A U H ∧ va_Z "java/lang/String" "COMPACT_STRINGS" "Z" (.int 1) A U H ∧ va_Zq "jdk/internal/util/Preconditions" "SIOOBE_FORMATTER" "Ljava/util/function/BiFunction;" A U H
section SX_
variable {ad adV : Nat → Nat} {A B : Nat → Prop} {u U : State} {H H1 : Heap}
theorem sx_St.moved (hvm : u.vm.Alike U.vm) (h : sx_St ad adV A u H) : sx_St ad adV A U H := ⟨vk_S.moved hvm h.1, va_Z.moved hvm h.2.1, va_Zq.moved hvm h.2.2⟩
theorem sx_St.kept (h : sx_St ad adV A U H) (hq : ∀ a : Nat, a < H.size → ¬ A a → H1[a]? = H[a]?) : sx_St ad adV A U H1 := ⟨h.1.kept hq, h.2.1.kept hq, h.2.2.kept hq⟩
theorem sx_St.narrow (h : sx_St ad adV A U H) (hAB : ∀ q, B q → A q) : sx_St ad adV B U H := ⟨h.1.narrow hAB, h.2.1.narrow hAB, h.2.2.narrow hAB⟩
end SX_
abbrev sx_Pc (av : List Value) (ad adV : Nat → Nat) : Array Value → State → Prop := va_Pc av (fun U => sx_St ad adV (fun _ => False) U U.heap)
theorem sx_blind {av : List Value} {ad adV : Nat → Nat} : FrameBlind (sx_Pc av ad adV) := by
  intro a U g mk q
  obtain ⟨q0, q1⟩ := q
  exact ⟨q0, sx_St.moved (u := U) (U := U.calling g mk a) (Vm.Alike.refl U.vm) q1⟩
abbrev ws_J0_coder : List Cond := Cond.code y_J0_coder_7d493 b_J0_coder_7d493 1 (some .byte) :: w_C
theorem c_J0_coder (l : Launch) {ad adV : Nat → Nat} {i : Nat} (hi : i < 2) : Met l y_J0_coder_7d493 ws_J0_coder { frames := 0, cells := 0, slots := 0, locals := 0 } (sx_Pc [.ref (ad i)] ad adV) (vp_Si (fun r => r = 0)) 0 0 (fun _ => False) := by
  refine Met.ofW (cc := b_J0_coder_7d493) (maxL := 1) (ret := some .byte) (by decide) rfl ?_
  intro p e s m args below meth c s₁ B hml hv
  obtain ⟨rfl, hSt⟩ := hv
  have hx := B.exec
  have hb := B.bytes
  have hr := B.returns
  have hts := atoms_spec (ws := ws_J0_coder) B.pre
  have hown : s.vm.findClass R_J0 = some m.cls := findClass_of_methodNamed B.named
  have hlocks := B.notSynchronized
  have hS : va_S (fun _ => False) s.heap s.heap [] := va_S.rf
  have hl := lv_entry ([.ref (ad i)]) (n := 1) (Nat.le_of_ble_eq_true rfl)
  rw [lg_entry_eq]
  generalize (lg_sl ([.ref (ad i)]) ++ List.replicate (1 - (lg_sl ([.ref (ad i)])).length) Slot.unset).toArray = ls at hl ⊢
  have hl : lv_has ls 1 [(0, .ref (ad i))] := hl
  refine va_gets hx hb hSt.2.1 hS hown (hts _ (List.mem_cons_of_mem _ (w_C_h4 41 rfl))) (fun _ h => h) (show decode b_J0_coder_7d493 0 = .ok (.getstatic 38, 3) by decide +kernel) ?_
  refine fx_ifc (cd := .eq) (off := 10) (tgt := 13) hx hb (show decode b_J0_coder_7d493 3 = .ok (.ifCond .eq 10, 3) by decide +kernel) (by decide) (fun z => absurd (show (1 : Int32) = 0 from z) (by decide)) (fun _ => ?_)
  refine lv_aload_n hx hb (show decode b_J0_coder_7d493 6 = .ok (.aload_n 0, 1) by decide +kernel) rfl (lv_at hl 0 rfl) ?_
  refine vk_getf hx hb (hSt.1.1 i hi).2.1 hS hown (hts _ (List.mem_cons_of_mem _ (w_C_h4 42 rfl))) (fun _ h => h) (show decode b_J0_coder_7d493 7 = .ok (.getfield 15, 3) by decide +kernel) ?_
  refine lv_goto (tgt := 14) hx hb (show decode b_J0_coder_7d493 10 = .ok (.goto 4, 3) by decide +kernel) (by decide) ?_
  exact W.zret hx hb (ty := .byte) hr (by decide +kernel) (fun t ht hW => ⟨0, rfl, rfl, ht⟩) hS.2.2 (show decode b_J0_coder_7d493 14 = .ok (.ireturn, 1) by decide +kernel) hlocks
abbrev ws_J0_isLatin1 : List Cond := Cond.code y_J0_isLatin1_aae02 b_J0_isLatin1_aae02 1 (some .boolean) :: w_C
theorem c_J0_isLatin1 (l : Launch) {ad adV : Nat → Nat} {i : Nat} (hi : i < 2) : Met l y_J0_isLatin1_aae02 ws_J0_isLatin1 { frames := 0, cells := 0, slots := 0, locals := 0 } (sx_Pc [.ref (ad i)] ad adV) (vp_Si (fun r => r = 1)) 0 0 (fun _ => False) := by
  refine Met.ofW (cc := b_J0_isLatin1_aae02) (maxL := 1) (ret := some .boolean) (by decide) rfl ?_
  intro p e s m args below meth c s₁ B hml hv
  obtain ⟨rfl, hSt⟩ := hv
  have hx := B.exec
  have hb := B.bytes
  have hr := B.returns
  have hts := atoms_spec (ws := ws_J0_isLatin1) B.pre
  have hown : s.vm.findClass R_J0 = some m.cls := findClass_of_methodNamed B.named
  have hlocks := B.notSynchronized
  have hS : va_S (fun _ => False) s.heap s.heap [] := va_S.rf
  have hl := lv_entry ([.ref (ad i)]) (n := 1) (Nat.le_of_ble_eq_true rfl)
  rw [lg_entry_eq]
  generalize (lg_sl ([.ref (ad i)]) ++ List.replicate (1 - (lg_sl ([.ref (ad i)])).length) Slot.unset).toArray = ls at hl ⊢
  have hl : lv_has ls 1 [(0, .ref (ad i))] := hl
  refine va_gets hx hb hSt.2.1 hS hown (hts _ (List.mem_cons_of_mem _ (w_C_h4 41 rfl))) (fun _ h => h) (show decode b_J0_isLatin1_aae02 0 = .ok (.getstatic 38, 3) by decide +kernel) ?_
  refine fx_ifc (cd := .eq) (off := 14) (tgt := 17) hx hb (show decode b_J0_isLatin1_aae02 3 = .ok (.ifCond .eq 14, 3) by decide +kernel) (by decide) (fun z => absurd (show (1 : Int32) = 0 from z) (by decide)) (fun _ => ?_)
  refine lv_aload_n hx hb (show decode b_J0_isLatin1_aae02 6 = .ok (.aload_n 0, 1) by decide +kernel) rfl (lv_at hl 0 rfl) ?_
  refine vk_getf hx hb (hSt.1.1 i hi).2.1 hS hown (hts _ (List.mem_cons_of_mem _ (w_C_h4 42 rfl))) (fun _ h => h) (show decode b_J0_isLatin1_aae02 7 = .ok (.getfield 15, 3) by decide +kernel) ?_
  refine fx_ifc (cd := .ne) (off := 7) (tgt := 17) hx hb (show decode b_J0_isLatin1_aae02 10 = .ok (.ifCond .ne 7, 3) by decide +kernel) (by decide) (fun z => absurd rfl (show ¬ (0 : Int32) = 0 from z)) (fun _ => ?_)
  refine lv_iconst (v := 1) hx hb (show decode b_J0_isLatin1_aae02 13 = .ok (.iconst 1, 1) by decide +kernel) (by decide) ?_
  refine lv_goto (tgt := 18) hx hb (show decode b_J0_isLatin1_aae02 14 = .ok (.goto 4, 3) by decide +kernel) (by decide) ?_
  exact W.zret hx hb (ty := .boolean) hr (by decide +kernel) (fun t ht hW => ⟨1, rfl, rfl, ht⟩) hS.2.2 (show decode b_J0_isLatin1_aae02 18 = .ok (.ireturn, 1) by decide +kernel) hlocks
theorem sx_l4 {i : Nat} (hi : i < 2) : sx_len.getD i 0 ≤ 4 := by
  rcases (show i = 0 ∨ i = 1 by omega) with rfl | rfl <;> decide
abbrev ws_J0_length : List Cond := Cond.code y_J0_length_8abf5 b_J0_length_8abf5 1 (some .int) :: w_C
theorem sx_shr : ∀ n, n < 5 → (nI n) >>> ((0 : Int32) &&& 31) = nI n := by decide +kernel
theorem c_J0_length (l : Launch) {ad adV : Nat → Nat} {i : Nat} (hi : i < 2) : Met l y_J0_length_8abf5 ws_J0_length { frames := 1, cells := 0, slots := 0, locals := 20 } (sx_Pc [.ref (ad i)] ad adV) (vp_Si (fun r => r = nI (sx_len.getD i 0))) 0 0 (fun _ => False) := by
  refine Met.ofW (cc := b_J0_length_8abf5) (maxL := 1) (ret := some .int) (by decide) rfl ?_
  intro p e s m args below meth c s₁ B hml hv
  obtain ⟨rfl, hSt⟩ := hv
  have hx := B.exec
  have hb := B.bytes
  have hr := B.returns
  have hts := atoms_spec (ws := ws_J0_length) B.pre
  have hown : s.vm.findClass R_J0 = some m.cls := findClass_of_methodNamed B.named
  have hlocks := B.notSynchronized
  have hS : va_S (fun _ => False) s.heap s.heap [] := va_S.rf
  have hl := lv_entry ([.ref (ad i)]) (n := 1) (Nat.le_of_ble_eq_true rfl)
  rw [lg_entry_eq]
  generalize (lg_sl ([.ref (ad i)]) ++ List.replicate (1 - (lg_sl ([.ref (ad i)])).length) Slot.unset).toArray = ls at hl ⊢
  have hl : lv_has ls 1 [(0, .ref (ad i))] := hl
  refine lv_aload_n hx hb (show decode b_J0_length_8abf5 0 = .ok (.aload_n 0, 1) by decide +kernel) rfl (lv_at hl 0 rfl) ?_
  refine vk_getf hx hb (hSt.1.1 i hi).2.2.1 hS hown (hts _ (List.mem_cons_of_mem _ (w_C_h4 36 rfl))) (fun _ h => h) (show decode b_J0_length_8abf5 1 = .ok (.getfield 9, 3) by decide +kernel) ?_
  refine va_tlen (v := nI (sx_len.getD i 0)) hx hb (hSt.1.1 i hi).2.2.2 hS rfl (show decode b_J0_length_8abf5 4 = .ok (.arraylength, 1) by decide +kernel) ?_
  refine lv_aload_n hx hb (show decode b_J0_length_8abf5 5 = .ok (.aload_n 0, 1) by decide +kernel) rfl (lv_at hl 0 rfl) ?_
  refine vp_callSi (va_runV (As := []) (rest := [.int (nI (sx_len.getD i 0))]) ⟨hx, hb, hml, hown, hts⟩ (c_J0_coder l (adV := adV) hi) (cwV 0 hts (w_C_G (w_C_h4 37 rfl) (w_C_h4 38 rfl) (w_C_h4 39 rfl) (w_C_h4 34 rfl) (w_C_h4 40 rfl)) rfl rfl rfl (by decide +kernel) ⟨Nat.le_of_ble_eq_true rfl, Nat.le_of_ble_eq_true rfl⟩) ⟨sx_blind, vk_recv hSt.1 hi hS, fun U hU hW => ⟨rfl, by show sx_St ad adV (fun _ => False) U U.heap; rw [hU]; exact sx_St.moved hW.alike hSt⟩⟩ rfl rfl hl.1 rfl (lv_room (Nat.le_of_ble_eq_true rfl)) (show decode b_J0_length_8abf5 6 = .ok (.invokevirtual 335, 3) by decide +kernel) ⟨Nat.le_refl _, Nat.le_refl _⟩).run (fun r hr0 => ?_)
  subst hr0
  refine lv_ishr hx hb (show decode b_J0_length_8abf5 9 = .ok (.ishr, 1) by decide +kernel) ?_
  rw [sx_shr _ (by have := sx_l4 hi; omega)]
  exact W.iret hx hb hr (fun t ht hW => ⟨_, rfl, rfl, ht⟩) hS.2.2 (show decode b_J0_length_8abf5 10 = .ok (.ireturn, 1) by decide +kernel)
abbrev ws_J3_check : List Cond := Cond.code y_J3_checkIndex_8e157 b_J3_checkIndex_8e157 3 (some .int) :: w_C
theorem c_J3_check (l : Launch) {ad adV : Nat → Nat} {n k : Nat} {v : Value} (hk : k < n) (hn : n ≤ 4) (hv0 : v = .null ∨ ∃ t, v = .ref t) : Met l y_J3_checkIndex_8e157 ws_J3_check { frames := 0, cells := 0, slots := 0, locals := 0 } (sx_Pc [.int (nI k), .int (nI n), v] ad adV) (vp_Si (fun _ => True)) 0 0 (fun _ => False) := by
  refine Met.ofW (cc := b_J3_checkIndex_8e157) (maxL := 3) (ret := some .int) (by decide) rfl ?_
  intro p e s m args below meth c s₁ B hml hv
  obtain ⟨rfl, hSt⟩ := hv
  have hx := B.exec
  have hb := B.bytes
  have hr := B.returns
  have hts := atoms_spec (ws := ws_J3_check) B.pre
  have hown : s.vm.findClass R_J3 = some m.cls := findClass_of_methodNamed B.named
  have hS : va_S (fun _ => False) s.heap s.heap [] := va_S.rf
  have hcat : v.category = 1 := by
    rcases hv0 with rfl | ⟨t, rfl⟩ <;> rfl
  have hl := lv_entry ([.int (nI k), .int (nI n), v]) (n := 3) (by
    rcases hv0 with rfl | ⟨t, rfl⟩ <;> exact Nat.le_of_ble_eq_true rfl)
  rw [lg_entry_eq]
  generalize (lg_sl ([.int (nI k), .int (nI n), v]) ++ List.replicate (3 - (lg_sl ([.int (nI k), .int (nI n), v])).length) Slot.unset).toArray = ls at hl ⊢
  have hl : lv_has ls 3 [(0, .int (nI k)), (1, .int (nI n)), (2, v)] := by
    rcases hv0 with rfl | ⟨t, rfl⟩ <;> exact hl
  refine lv_iload_n hx hb (show decode b_J3_checkIndex_8e157 0 = .ok (.iload_n 0, 1) by decide +kernel) rfl (lv_at hl 0 rfl) ?_
  refine fx_ifc (cd := .lt) (off := 8) (tgt := 9) hx hb (show decode b_J3_checkIndex_8e157 1 = .ok (.ifCond .lt 8, 3) by decide +kernel) (by decide) (fun z => absurd (show nI k < 0 from z) (nI_pos (by omega))) (fun _ => ?_)
  refine lv_iload_n hx hb (show decode b_J3_checkIndex_8e157 4 = .ok (.iload_n 0, 1) by decide +kernel) rfl (lv_at hl 0 rfl) ?_
  refine lv_iload_n hx hb (show decode b_J3_checkIndex_8e157 5 = .ok (.iload_n 1, 1) by decide +kernel) rfl (lv_at hl 1 rfl) ?_
  refine fx_icm (cd := .lt) (off := 10) (tgt := 16) hx hb (show decode b_J3_checkIndex_8e157 6 = .ok (.if_icmp .lt 10, 3) by decide +kernel) (by decide) (fun _ => ?_) (fun z => absurd (show nI k < nI n by rw [nI_lt' (by omega) (by omega)]; exact hk) z)
  refine lv_iload_n hx hb (show decode b_J3_checkIndex_8e157 16 = .ok (.iload_n 0, 1) by decide +kernel) rfl (lv_at hl 0 rfl) ?_
  exact W.iret hx hb hr (fun t ht hW => ⟨_, rfl, trivial, ht⟩) hS.2.2 (show decode b_J3_checkIndex_8e157 17 = .ok (.ireturn, 1) by decide +kernel)
abbrev ws_J0_check : List Cond := Cond.code y_J0_checkIndex_df160 b_J0_checkIndex_df160 2 none :: w_C
theorem c_J0_check (l : Launch) {ad adV : Nat → Nat} {n k : Nat} (hk : k < n) (hn : n ≤ 4) : Met l y_J0_checkIndex_df160 ws_J0_check { frames := 1, cells := 0, slots := 0, locals := 22 } (sx_Pc [.int (nI k), .int (nI n)] ad adV) (va_Sv (fun _ => True)) 0 0 (fun _ => False) := by
  refine Met.ofW (cc := b_J0_checkIndex_df160) (maxL := 2) (ret := none) (by decide) rfl ?_
  intro p e s m args below meth c s₁ B hml hv
  obtain ⟨rfl, hSt⟩ := hv
  have hx := B.exec
  have hb := B.bytes
  have hr := B.returns
  have hts := atoms_spec (ws := ws_J0_check) B.pre
  have hown : s.vm.findClass R_J0 = some m.cls := findClass_of_methodNamed B.named
  have hS : va_S (fun _ => False) s.heap s.heap [] := va_S.rf
  have hl := lv_entry ([.int (nI k), .int (nI n)]) (n := 2) (Nat.le_of_ble_eq_true rfl)
  rw [lg_entry_eq]
  generalize (lg_sl ([.int (nI k), .int (nI n)]) ++ List.replicate (2 - (lg_sl ([.int (nI k), .int (nI n)])).length) Slot.unset).toArray = ls at hl ⊢
  have hl : lv_has ls 2 [(0, .int (nI k)), (1, .int (nI n))] := hl
  refine lv_iload_n hx hb (show decode b_J0_checkIndex_df160 0 = .ok (.iload_n 0, 1) by decide +kernel) rfl (lv_at hl 0 rfl) ?_
  refine lv_iload_n hx hb (show decode b_J0_checkIndex_df160 1 = .ok (.iload_n 1, 1) by decide +kernel) rfl (lv_at hl 1 rfl) ?_
  obtain ⟨v, hv0, hZ⟩ : ∃ v, (v = .null ∨ ∃ t, v = .ref t) ∧ va_Z "jdk/internal/util/Preconditions" "SIOOBE_FORMATTER" "Ljava/util/function/BiFunction;" v (fun _ => False) s s.heap := by
    rcases hSt.2.2 with h | ⟨t, h⟩
    · exact ⟨_, Or.inl rfl, h⟩
    · exact ⟨_, Or.inr ⟨t, rfl⟩, h⟩
  refine va_gets hx hb hZ hS hown (hts _ (List.mem_cons_of_mem _ (w_C_h4 58 rfl))) (fun _ h => h) (show decode b_J0_checkIndex_df160 2 = .ok (.getstatic 1053, 3) by decide +kernel) ?_
  refine vp_callSi (va_runS (As := [.int (nI k), .int (nI n), v]) (rest := []) ⟨hx, hb, hml, hown, hts⟩ (c_J3_check l (ad := ad) (adV := adV) hk hn hv0) (va_cwS 3 hts (w_C_GS (w_C_h4 59 rfl) (w_C_h5 0 rfl) (w_C_h5 1 rfl) (w_C_h5 2 rfl)) rfl rfl rfl (by decide +kernel) ⟨Nat.le_of_ble_eq_true rfl, Nat.le_of_ble_eq_true rfl⟩) ⟨sx_blind, fun U hU hW => ⟨rfl, by show sx_St ad adV (fun _ => False) U U.heap; rw [hU]; exact sx_St.moved hW.alike hSt⟩⟩ rfl rfl hl.1 rfl (lv_room (Nat.le_of_ble_eq_true rfl)) (show decode b_J0_checkIndex_df160 5 = .ok (.invokestatic 1059, 3) by decide +kernel) ⟨Nat.le_refl _, Nat.le_refl _⟩).run (fun r _ => ?_)
  refine lv_pop hx hb (show decode b_J0_checkIndex_df160 8 = .ok (.pop, 1) by decide +kernel) rfl ?_
  exact W.vret hx hb hr (fun t ht hW => ⟨rfl, trivial, ht⟩) hS.2.2 (show decode b_J0_checkIndex_df160 9 = .ok (.return_, 1) by decide +kernel)
theorem sx_c : ∀ i, i < 2 → ∀ k, k < sx_len.getD i 0 → ((sx_ch i k &&& 255).toUInt32 % 65536).toInt32 = sx_ch i k ∧ narrow .char (.int (sx_ch i k)) = .int (sx_ch i k) := by decide +kernel
abbrev ws_J1_charAt : List Cond := Cond.code y_J1_charAt_3b067 b_J1_charAt_3b067 2 (some .char) :: w_C
theorem c_J1_charAt (l : Launch) {ad adV : Nat → Nat} {i k : Nat} (hi : i < 2) (hk : k < sx_len.getD i 0) : Met l y_J1_charAt_3b067 ws_J1_charAt { frames := 2, cells := 0, slots := 0, locals := 43 } (sx_Pc [.ref (adV i), .int (nI k)] ad adV) (vp_Si (fun r => r = sx_ch i k)) 0 0 (fun _ => False) := by
  refine Met.ofW (cc := b_J1_charAt_3b067) (maxL := 2) (ret := some .char) (by decide) rfl ?_
  intro p e s m args below meth c s₁ B hml hv
  obtain ⟨rfl, hSt⟩ := hv
  have hx := B.exec
  have hb := B.bytes
  have hr := B.returns
  have hts := atoms_spec (ws := ws_J1_charAt) B.pre
  have hown : s.vm.findClass R_J1 = some m.cls := findClass_of_methodNamed B.named
  have hlocks := B.notSynchronized
  have hS : va_S (fun _ => False) s.heap s.heap [] := va_S.rf
  have h4 := sx_l4 hi
  have hl := lv_entry ([.ref (adV i), .int (nI k)]) (n := 2) (Nat.le_of_ble_eq_true rfl)
  rw [lg_entry_eq]
  generalize (lg_sl ([.ref (adV i), .int (nI k)]) ++ List.replicate (2 - (lg_sl ([.ref (adV i), .int (nI k)])).length) Slot.unset).toArray = ls at hl ⊢
  have hl : lv_has ls 2 [(0, .ref (adV i)), (1, .int (nI k))] := hl
  refine lv_iload_n hx hb (show decode b_J1_charAt_3b067 0 = .ok (.iload_n 1, 1) by decide +kernel) rfl (lv_at hl 1 rfl) ?_
  refine lv_aload_n hx hb (show decode b_J1_charAt_3b067 1 = .ok (.aload_n 0, 1) by decide +kernel) rfl (lv_at hl 0 rfl) ?_
  refine va_tlen (v := nI (sx_len.getD i 0)) hx hb (hSt.1.1 i hi).2.2.2 hS rfl (show decode b_J1_charAt_3b067 2 = .ok (.arraylength, 1) by decide +kernel) ?_
  refine va_csv (va_runS (As := [.int (nI k), .int (nI (sx_len.getD i 0))]) (rest := []) ⟨hx, hb, hml, hown, hts⟩ (c_J0_check l (ad := ad) (adV := adV) hk h4) (va_cwS 2 hts (w_C_GS (w_C_h4 55 rfl) (w_C_h4 56 rfl) (w_C_h4 34 rfl) (w_C_h4 57 rfl)) rfl rfl rfl (by decide +kernel) ⟨Nat.le_of_ble_eq_true rfl, Nat.le_of_ble_eq_true rfl⟩) ⟨sx_blind, fun U hU hW => ⟨rfl, by show sx_St ad adV (fun _ => False) U U.heap; rw [hU]; exact sx_St.moved hW.alike hSt⟩⟩ rfl rfl hl.1 rfl (lv_room (Nat.le_of_ble_eq_true rfl)) (show decode b_J1_charAt_3b067 3 = .ok (.invokestatic 9, 3) by decide +kernel) ⟨Nat.le_refl _, Nat.le_refl _⟩).run (fun _ => ?_)
  refine lv_aload_n hx hb (show decode b_J1_charAt_3b067 6 = .ok (.aload_n 0, 1) by decide +kernel) rfl (lv_at hl 0 rfl) ?_
  refine lv_iload_n hx hb (show decode b_J1_charAt_3b067 7 = .ok (.iload_n 1, 1) by decide +kernel) rfl (lv_at hl 1 rfl) ?_
  obtain ⟨e1, e2⟩ := sx_c i hi k hk
  refine va_tb (v := .int (sx_ch i k)) hx hb (hSt.1.1 i hi).2.2.2 hS (by simp (disch := omega) only [nI_in']; try exact hk) (by show Value.int ((sx_byt.getD i []).getD (nI k).toNatClampNeg 0) = _; rw [nI_clamp (by omega)]; rfl) (show decode b_J1_charAt_3b067 8 = .ok (.baload, 1) by decide +kernel) ?_
  refine lv_sipush (v := 255) hx hb (show decode b_J1_charAt_3b067 9 = .ok (.sipush 255, 3) by decide +kernel) (by decide) ?_
  refine lv_iand hx hb (show decode b_J1_charAt_3b067 12 = .ok (.iand, 1) by decide +kernel) ?_
  refine lv_i2c (v := sx_ch i k) hx hb (show decode b_J1_charAt_3b067 13 = .ok (.i2c, 1) by decide +kernel) e1 ?_
  exact W.zret hx hb (ty := .char) hr e2 (fun t ht hW => ⟨_, rfl, rfl, ht⟩) hS.2.2 (show decode b_J1_charAt_3b067 14 = .ok (.ireturn, 1) by decide +kernel) hlocks
abbrev ws_J0_charAt : List Cond := Cond.code y_J0_charAt_5068e b_J0_charAt_5068e 2 (some .char) :: w_C
theorem c_J0_charAt (l : Launch) {ad adV : Nat → Nat} {i k : Nat} (hi : i < 2) (hk : k < sx_len.getD i 0) : Met l y_J0_charAt_5068e ws_J0_charAt { frames := 3, cells := 0, slots := 0, locals := 64 } (sx_Pc [.ref (ad i), .int (nI k)] ad adV) (vp_Si (fun r => r = sx_ch i k)) 0 0 (fun _ => False) := by
  refine Met.ofW (cc := b_J0_charAt_5068e) (maxL := 2) (ret := some .char) (by decide) rfl ?_
  intro p e s m args below meth c s₁ B hml hv
  obtain ⟨rfl, hSt⟩ := hv
  have hx := B.exec
  have hb := B.bytes
  have hr := B.returns
  have hts := atoms_spec (ws := ws_J0_charAt) B.pre
  have hown : s.vm.findClass R_J0 = some m.cls := findClass_of_methodNamed B.named
  have hlocks := B.notSynchronized
  have hS : va_S (fun _ => False) s.heap s.heap [] := va_S.rf
  have hl := lv_entry ([.ref (ad i), .int (nI k)]) (n := 2) (Nat.le_of_ble_eq_true rfl)
  rw [lg_entry_eq]
  generalize (lg_sl ([.ref (ad i), .int (nI k)]) ++ List.replicate (2 - (lg_sl ([.ref (ad i), .int (nI k)])).length) Slot.unset).toArray = ls at hl ⊢
  have hl : lv_has ls 2 [(0, .ref (ad i)), (1, .int (nI k))] := hl
  refine lv_aload_n hx hb (show decode b_J0_charAt_5068e 0 = .ok (.aload_n 0, 1) by decide +kernel) rfl (lv_at hl 0 rfl) ?_
  refine vp_callSi (va_runV (As := []) (rest := []) ⟨hx, hb, hml, hown, hts⟩ (c_J0_isLatin1 l (adV := adV) hi) (cwV 0 hts (w_C_G (w_C_h4 47 rfl) (w_C_h4 48 rfl) (w_C_h4 49 rfl) (w_C_h4 34 rfl) (w_C_h4 50 rfl)) rfl rfl rfl (by decide +kernel) ⟨Nat.le_of_ble_eq_true rfl, Nat.le_of_ble_eq_true rfl⟩) ⟨sx_blind, vk_recv hSt.1 hi hS, fun U hU hW => ⟨rfl, by show sx_St ad adV (fun _ => False) U U.heap; rw [hU]; exact sx_St.moved hW.alike hSt⟩⟩ rfl rfl hl.1 rfl (lv_room (Nat.le_of_ble_eq_true rfl)) (show decode b_J0_charAt_5068e 1 = .ok (.invokevirtual 492, 3) by decide +kernel) ⟨Nat.le_refl _, Nat.le_refl _⟩).run (fun r hr0 => ?_)
  subst hr0
  refine fx_ifc (cd := .eq) (off := 12) (tgt := 16) hx hb (show decode b_J0_charAt_5068e 4 = .ok (.ifCond .eq 12, 3) by decide +kernel) (by decide) (fun z => absurd (show (1 : Int32) = 0 from z) (by decide)) (fun _ => ?_)
  refine lv_aload_n hx hb (show decode b_J0_charAt_5068e 7 = .ok (.aload_n 0, 1) by decide +kernel) rfl (lv_at hl 0 rfl) ?_
  refine vk_getf hx hb (hSt.1.1 i hi).2.2.1 hS hown (hts _ (List.mem_cons_of_mem _ (w_C_h4 36 rfl))) (fun _ h => h) (show decode b_J0_charAt_5068e 8 = .ok (.getfield 9, 3) by decide +kernel) ?_
  refine lv_iload_n hx hb (show decode b_J0_charAt_5068e 11 = .ok (.iload_n 1, 1) by decide +kernel) rfl (lv_at hl 1 rfl) ?_
  refine vp_callSi (va_runS (As := [.ref (adV i), .int (nI k)]) (rest := []) ⟨hx, hb, hml, hown, hts⟩ (c_J1_charAt l (ad := ad) hi hk) (va_cwS 2 hts (w_C_GS (w_C_h4 51 rfl) (w_C_h4 52 rfl) (w_C_h4 53 rfl) (w_C_h4 54 rfl)) rfl rfl rfl (by decide +kernel) ⟨Nat.le_of_ble_eq_true rfl, Nat.le_of_ble_eq_true rfl⟩) ⟨sx_blind, fun U hU hW => ⟨rfl, by show sx_St ad adV (fun _ => False) U U.heap; rw [hU]; exact sx_St.moved hW.alike hSt⟩⟩ rfl rfl hl.1 rfl (lv_room (Nat.le_of_ble_eq_true rfl)) (show decode b_J0_charAt_5068e 12 = .ok (.invokestatic 495, 3) by decide +kernel) ⟨Nat.le_refl _, Nat.le_refl _⟩).run (fun r hr0 => ?_)
  subst hr0
  exact W.zret hx hb (ty := .char) hr (sx_c i hi k hk).2 (fun t ht hW => ⟨_, rfl, rfl, ht⟩) hS.2.2 (show decode b_J0_charAt_5068e 15 = .ok (.ireturn, 1) by decide +kernel) hlocks
