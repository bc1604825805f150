/-! the law reads its script (own work) -/
def cePc (b L : Nat) (xs : Nat → Int32) (k sz : Nat) : Array Value → State → Prop := va_Pc [.ref b, .int (nI k)] (fun U => U.heap.size = sz ∧ va_X b L xs U U.heap ∧ b < U.heap.size)
def ceQ (sz : Nat) : Array Value → State → Outcome → State → Prop := fun _ st0 oc t => (∃ x : Int32, oc = .returned (some (.int x))) ∧ va_F (fun q => sz ≤ q) st0 t
theorem ce_blind {b L k sz : Nat} {xs : Nat → Int32} : FrameBlind (cePc b L xs k sz) := by
  intro a U g mk q
  obtain ⟨q0, q1, qX, qb⟩ := q
  exact ⟨q0, q1, va_X.moved (u := U) (U := U.calling g mk a) (Vm.Alike.refl U.vm) qX, qb⟩
abbrev rm_Law_cell : Room := { frames := 0, cells := 0, slots := 0, locals := 0 }
abbrev ws_Law_cell : List Cond := Cond.code y_Law_cell b_Law_cell 2 (some .int) :: w_C
theorem l_cell (l : Launch) {b L k sz : Nat} {xs : Nat → Int32} (hL : L ≤ 260) (hk : k ≤ 14) : Met l y_Law_cell ws_Law_cell rm_Law_cell (cePc b L xs k sz) (ceQ sz) 0 0 (fun q => sz ≤ q) := by
  refine Met.ofW (cc := b_Law_cell) (maxL := 2) (ret := some .int) (by decide) rfl ?_
  intro p e s m args below meth c s₁ B hml hv
  obtain ⟨rfl, hsz, hX, hbl⟩ := hv
  subst hsz
  have hts := atoms_spec (ws := ws_Law_cell) B.pre
  have hown : s.vm.findClass R_Law = some m.cls := findClass_of_methodNamed B.named
  have hl := lv_entry [Value.ref b, .int (nI k)] (n := 2) (Nat.le_of_ble_eq_true rfl)
  rw [lg_entry_eq]
  have hl : lv_has _ 2 [(0, .ref b), (1, .int (nI k))] := hl
  revert hl
  generalize ((lg_sl [Value.ref b, .int (nI k)]) ++ _).toArray = ls
  intro hl
  have hx := B.exec
  have hb := B.bytes
  have hbA : ¬ s.heap.size ≤ b := by omega
  have hS : va_S (fun q : Nat => s.heap.size ≤ q) s.heap s.heap [] := va_S.rf
  have hend : ∀ x : Int32, W p l e rm_Law_cell s m #[Value.ref b, Value.int (nI k)] below meth c s.heap [] 0 0 (MQ below (ceQ s.heap.size) #[Value.ref b, Value.int (nI k)] s 0 0 (fun q => s.heap.size ≤ q)) (F0 m 18 ls [.int x]) := fun x => W.zret (ty := .int) hx hb B.returns rfl (fun t ht hW => ⟨⟨x, rfl⟩, hS.F ht⟩) hS.2.2 (show decode b_Law_cell 18 = .ok (.ireturn, 1) by decide +kernel) B.notSynchronized
  refine lv_iload_n hx hb (show decode b_Law_cell 0 = .ok (.iload_n 1, 1) by decide +kernel) rfl (lv_at hl 1 rfl) ?_
  refine lv_aload_n hx hb (show decode b_Law_cell 1 = .ok (.aload_n 0, 1) by decide +kernel) rfl (lv_at hl 0 rfl) ?_
  refine va_slen hx hb hX hbl hbA hS (show decode b_Law_cell 2 = .ok (.arraylength, 1) by decide +kernel) ?_
  refine lv_icmp_ge (tgt := 12) hx hb (show decode b_Law_cell 3 = .ok (.if_icmp .ge 9, 3) by decide +kernel) (by decide) (fun _ => ?_) (fun h => ?_)
  · refine lv_ldc hx hb hown (hts _ (List.mem_cons_of_mem _ (w_C_h7 45 rfl))) (show decode b_Law_cell 12 = .ok (.ldc 7, 2) by decide +kernel) ?_
    refine lv_iload_n hx hb (show decode b_Law_cell 14 = .ok (.iload_n 1, 1) by decide +kernel) rfl (lv_at hl 1 rfl) ?_
    refine lv_iconst (v := nI 1) hx hb (show decode b_Law_cell 15 = .ok (.iconst 1, 1) by decide +kernel) (by decide) ?_
    refine lv_iadd hx hb (show decode b_Law_cell 16 = .ok (.iadd, 1) by decide +kernel) ?_
    refine lv_imul hx hb (show decode b_Law_cell 17 = .ok (.imul, 1) by decide +kernel) ?_
    exact hend _
  · have hlt : k < L := by
      have h : ¬ nI L ≤ nI k := h
      rw [nI_le' (by omega) (by omega)] at h
      omega
    refine lv_aload_n hx hb (show decode b_Law_cell 6 = .ok (.aload_n 0, 1) by decide +kernel) rfl (lv_at hl 0 rfl) ?_
    refine lv_iload_n hx hb (show decode b_Law_cell 7 = .ok (.iload_n 1, 1) by decide +kernel) rfl (lv_at hl 1 rfl) ?_
    refine va_sld hx hb hX hbl hbA hS (nI_in hlt (by omega)) (show decode b_Law_cell 8 = .ok (.iaload, 1) by decide +kernel) ?_
    refine lv_goto (tgt := 18) hx hb (show decode b_Law_cell 9 = .ok (.goto 9, 3) by decide +kernel) (by decide) ?_
    exact hend _
section LCE
variable {p : Program} {l : Launch} {e : Env} {s : State} {m : MethodId} {args : Array Value} {below : List Frame} {meth : Method} {c : Code} {D : va_G} {cA : Nat → ClassId} {al : Nat → Nat} {kc ks b L k pc : Nat} {xs : Nat → Int32} {cc : ByteArray} {Q : State → Prop} {LL : List (Option Value)} {rest : List Value} {I : fx_MI} {J : fx_MJ} {R : fx_MR} {ws : List Cond} {ret : Option FieldType} {nL : Nat}
/-- the cells that the law made -/
def aN (s : State) : Nat → Prop := fun q => s.heap.size ≤ q
theorem lx_cell (hC : fx_Cx R_Law ws cc nL ret p s m args meth c) (hG : GoodIn ws (va_wsS R_Law 69 y_Law_cell ws_Law_cell)) (hX : va_X b L xs s s.heap) (hbl : b < s.heap.size) (hL : L ≤ 260) (hk : k ≤ 14) (hal : al 999 = b) (hkk : kc ≤ room_1.cells ∧ ks ≤ room_1.slots) (hcat : fx_cat rest ≤ 8) (hdg : decode cc pc = .ok (.invokestatic 69, 3))
    (kk : ∀ x : Int32, fx_W p l e room_1 s m args below meth c Q D (aN s) s.heap (MX 0) cA al nL kc ks (pc + 3) LL (.int x :: rest) I J R) : fx_W p l e room_1 s m args below meth c Q D (aN s) s.heap (MX 0) cA al nL kc ks pc LL (.int (nI k) :: .ref 999 :: rest) I J R := by
  intro H locs ls hl hP hD hS
  obtain ⟨hx, hb, hml, hown, hts, hr, hlocks, hN⟩ := hC
  have hbA : ¬ aN s b := fun z => absurd z (by show ¬ s.heap.size ≤ b; omega)
  have hm := l_cell l (b := b) (L := L) (k := k) (sz := H.size) (xs := xs) hL hk
  have hst : (Value.int (nI k) :: .ref 999 :: rest).map (fx_v al) = [Value.ref b, .int (nI k)].reverse ++ rest.map (fx_v al) := by
    show Value.int (nI k) :: .ref (al 999) :: rest.map (fx_v al) = _
    rw [hal]
    rfl
  have hpc : ∀ U : State, U.heap = H → s.WarmedH U.vm → cePc b L xs k H.size [Value.ref b, .int (nI k)].toArray U := by
    intro U hU hW
    exact ⟨rfl, by rw [hU], by rw [hU]; exact (hX.kept (hS.2.1 b hbl hbA)).moved hW.alike, by rw [hU]; exact Nat.lt_of_lt_of_le hbl hS.1⟩
  have hrun := va_runS (e := e) (meth := meth) (below := below) (As := [Value.ref b, .int (nI k)]) (rest := rest.map (fx_v al)) (g := F0 m pc ls ((Value.int (nI k) :: .ref 999 :: rest).map (fx_v al))) (cells := kc) (slots := ks) (locs := locs) ⟨hx, hb, hml, hown, hts⟩ hm (va_cwS 2 hts hG rfl rfl rfl (by decide +kernel) ⟨Nat.le_of_ble_eq_true rfl, Nat.le_of_ble_eq_true rfl⟩) ⟨ce_blind, hpc⟩ rfl rfl hl.1 hst (lv_room (by rw [fx_cat_map]; exact hcat)) hdg hkk
  intro T hT X
  obtain ⟨v, st₀, t, T', L', h0, X', hL', f1, f2, ⟨⟨x, hv⟩, hz, hk'⟩, stp⟩ := hrun T hT X
  cases hv
  rw [h0] at hz hk'
  have h9 := kk x T'.heap (locs ++ L') ls hl (hP.kept fun j q hq => by rw [f1]; exact hk' q.1 ((hP j q hq).lt) (fun z => absurd ((hP j q hq).lt) (by omega))) hD
    ⟨Nat.le_trans hS.1 (by rw [f1]; exact hz), fun q' g1 g2 => by rw [f1, hk' q' (Nat.lt_of_lt_of_le g1 hS.1) (fun z => absurd (Nat.lt_of_lt_of_le g1 hS.1) (by omega))]; exact hS.2.1 q' g1 g2, fun q' hq' => by
      rcases List.mem_append.mp hq' with h | h
      · exact hS.2.2 q' h
      · exact Nat.le_trans hS.1 (hL' q' h)⟩
  obtain ⟨t2, a1, b1⟩ := h9 T' rfl X'
  exact ⟨t2, stp t2 a1, b1⟩
end LCE
