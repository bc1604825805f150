/-! the law: the contract of isTold (own work) -/
theorem l_isTold (l : Launch) : lx_Met l y_Law_isTold ws_Law_isTold rm_Law_isTold 2 12 (pre_Law_isTold 0) (post_Law_isTold 0) := by
  refine lx_met (nL := 10) (cc := b_Law_isTold) (ret := some .boolean) (by decide) rfl fun st I J R h => ?_
  obtain ⟨⟨b, rfl⟩, o, a, d, v, rfl, rfl, rfl, rfl, w, h', c', l', hX, hl', rfl⟩ := pi_Law_isTold h
  refine ⟨Nat.le_of_ble_eq_true rfl, fun p e s m args below meth c D cA al A hAe hC hK => ?_⟩
  have hA : ∀ q : Nat, s.heap.size ≤ q → A q := fun q hq => by
    rw [hAe]
    exact Or.inr hq
  clear hAe
  intro H locs ls hl hP hD hS
  obtain ⟨hx, hb, hml, hown, hts, hr, hlocks, hN⟩ := id hC
  have hn0 : ¬ nI 6 < 0 := by decide +kernel
  have hn1 : (nI 6).toNatClampNeg = 6 := nI_clamp (by omega)
  have hcA : ∀ {x : ClassId}, s.vm.findClass ("[" ++ FieldType.int.toString) = some x → x = cA 0 := fun {x} h1 => by
    have h2 : s.vm.findClass ("[" ++ FieldType.int.toString) = some (cA 0) := (hK.2 0 (cA 0, .int) rfl).2
    exact Option.some.inj (h1.symm.trans h2)
  refine lv_bipush (v := nI 6) hx hb (show decode b_Law_isTold 0 = .ok (.bipush 6, 2) by decide +kernel) (by decide) ?_
  refine va_newa (atype := .int) hx hb (hts _ (List.mem_cons_of_mem _ (w_C_h0 4 rfl))) (ty := .int) rfl hK hP hD hS hA (n := nI 6) (N' := 6) (a0 := (6, .inl (fun _ => 0))) (fun _ => rfl) hn0 hn1 (by decide) (Nat.le_of_ble_eq_true rfl) (Nat.le_of_ble_eq_true rfl) (show decode b_Law_isTold 2 = .ok (.newarray .int, 2) by decide +kernel) ?_
  intro h1 cA1 H1 hK1 hP1 hD1 hS1
  have e1 : cA1 = cA 0 := hcA (hK1.2 4 (cA1, .int) rfl).2
  subst e1
  have hl1 : fx_LH (exA al 142 h1) ls 10 [some (.ref 0), some (.ref 140), some (.ref 141), some (.int (nI l'))] := hl
  refine lv_astore hx hb (show decode b_Law_isTold 4 = .ok (.astore 4, 2) by decide +kernel) hl1 (by decide) rfl (fun ls1 hl2 => ?_)
  have hl3 : fx_LH (exA al 142 h1) ls1 10 [some (.ref 0), some (.ref 140), some (.ref 141), some (.int (nI l')), some (.ref 142)] := fx_store1 (al := exA al 142 h1) (v := .ref 142) (L := [some (.ref 0), some (.ref 140), some (.ref 141), some (.int (nI l'))]) (i := 4) rfl hl2
  refine lv_bipush (v := nI 6) hx hb (show decode b_Law_isTold 6 = .ok (.bipush 6, 2) by decide +kernel) (by decide) ?_
  refine va_newa (atype := .int) hx hb (hts _ (List.mem_cons_of_mem _ (w_C_h0 4 rfl))) (ty := .int) rfl hK hP1 hD1 hS1 hA (n := nI 6) (N' := 6) (a0 := (6, .inl (fun _ => 0))) (fun _ => rfl) hn0 hn1 (by decide) (Nat.le_of_ble_eq_true rfl) (Nat.le_of_ble_eq_true rfl) (show decode b_Law_isTold 8 = .ok (.newarray .int, 2) by decide +kernel) ?_
  intro h2 cA2 H2 hK2 hP2 hD2 hS2
  have e2 : cA2 = cA 0 := hcA (hK2.2 4 (cA2, .int) rfl).2
  subst e2
  have hl4 : fx_LH (exA (exA al 142 h1) 143 h2) ls1 10 [some (.ref 0), some (.ref 140), some (.ref 141), some (.int (nI l')), some (.ref 142)] := hl3
  refine lv_astore hx hb (show decode b_Law_isTold 10 = .ok (.astore 5, 2) by decide +kernel) hl4 (by decide) rfl (fun ls2 hl5 => ?_)
  have hl6 : fx_LH (exA (exA al 142 h1) 143 h2) ls2 10 [some (.ref 0), some (.ref 140), some (.ref 141), some (.int (nI l')), some (.ref 142), some (.ref 143)] := fx_store1 (al := exA (exA al 142 h1) 143 h2) (v := .ref 143) (L := [some (.ref 0), some (.ref 140), some (.ref 141), some (.int (nI l')), some (.ref 142)]) (i := 5) rfl hl5
  rw [w_01] at hP2 hD2
  have m1 : (MX 1).1 = (MX 0).1 := rfl
  have m2 : (MX 1).2.2.2.2 = (MX 0).2.2.2.2 := rfl
  have hK1 : va_K D (MX 1).1 (fx_ty (MX 1) cA) s := by
    have m3 : fx_ty (MX 1) cA = fx_ty (MX 0) cA := by
      unfold fx_ty
      rw [m2]
    rw [m1, m3]
    exact hK
  rw [← m1] at hP2
  have hal : ∀ q, q < 142 → exA (exA al 142 h1) 143 h2 q = al q := fun q hq => by
    unfold exA
    rw [if_neg (by omega), if_neg (by omega)]
  have hlo : ∀ q, q < 142 → zrI 142 143 I q = I q := fun q hq => if_neg (by omega)
  have hdz := dim_hi (I := I) (I' := zrI 142 143 I) (fun q hq => hlo q (by omega))
  have hX1 : LX w h' c' (zrI 142 143 I) J := by
    obtain ⟨hd, Ir, hr1, hR⟩ := hX
    exact ⟨⟨hdz.1.trans hd.1, hdz.2.1.trans hd.2.1, hdz.2.2.trans hd.2.2⟩, Ir, REL_hi hr1 (fun q hq => hlo q (by omega)), by rw [hlo 140 (by omega), hlo 141 (by omega)]; exact hR⟩
  have hmain := tt_all hX1 hl' (b := b)
  refine fx_R_sound (M := MX 1) (al := exA (exA al 142 h1) 143 h2) (Qd := fx_Qc (MX 0) D cA al A (post_Law_isTold 0 [.ref 0, .ref 140, .ref 141, .int (nI l')] I J (R0C b))) (kc := 2) (ks := 12) (MX_ok 1) (MX_tys 1) hx hb hr hlocks hK1 ?_ (fun t ht => ht) (fun ins t ht => vk_Law_isTold ins t ht p e s m args below meth c _ D A s.heap cA _ 2 12 hx hb hml hown hts hK1 hN hA ⟨Nat.le_of_ble_eq_true rfl, Nat.le_of_ble_eq_true rfl⟩) pk_Law_isTold hmain H2 locs ls2 hl6 hP2 hD2 hS2
  rintro H3 locs3 I3 J3 R3 r3 ⟨b3, rfl, rfl, k1, k2, k3, k4⟩ hP3 hD3 hS3 t ht hW
  rw [m1] at hP3
  obtain ⟨hP4, hD4⟩ := w_10 hal hP3 hD3
  exact ⟨⟨some (.int (nI 1)), I3, J3, R0C b3, rfl, ⟨⟨rfl, b3, rfl⟩, fun Ir h9 => k1 Ir (REL_hi h9 (fun q hq => hlo q (by omega))), ⟨k2.1.trans hdz.1, k2.2.1.trans hdz.2.1, k2.2.2.trans hdz.2.2⟩, k3.trans (hlo 140 (by omega)), k4.trans (hlo 141 (by omega))⟩, by rw [ht]; exact hP4, va_K.moved hW.alike hK, hD4⟩, hS3.F ht⟩
