/-! the law's cases (own work) -/
section LQ_
variable {p : Program} {l : Launch} {e : Env} {s : State} {m : MethodId} {args : Array Value} {below : List Frame} {meth : Method} {c : Code} {D1 D2 : va_G} {cA cM : Nat → ClassId} {x mm b L i : Nat} {xs : Nat → Int32} {ls : Array Slot} {Q : State → Prop} {n : Nat} {al alM : Nat → Nat} {I : fx_MI} {J : fx_MJ} {bb : Bool} {Ir : fx_MI} {Jr : fx_MJ} {H : Heap} {locs : List Loc} {cells slots : Nat}
set_option maxHeartbeats 1000000 in
theorem ca_14 (E : lwEnv p s m args c D1 D2 cA cM b L xs) (hl : lwLs ls b x mm i) (hi : i + 5 < L) (K : lwK p l e s m args below meth c D1 D2 cA cM x mm Q ls) (hW : lwW s D1 D2 cA cM x mm n al alM I J bb Ir Jr H locs cells slots) (hR0 : REL I J Ir) : W p l e room_1 s m args below meth c H locs cells slots Q (F0 m 610 ls []) := by
  obtain ⟨hX, hS, hbl, hL⟩ := E
  obtain ⟨hls, hl0, hl1, hl2, hl3⟩ := hl
  have hx := hX.1.1
  have hb := hX.1.2.1
  exact la_pair (k := 1) (vs := [.int (xs (i + 1))]) (pm := (post_M_narrow [.ref 0, .int (xs (i + 1))])) (pc0 := 610) (pcC := 616) (pcM := 625) (idx := 78) (Sh := ShI) hX (cX_M (k := 1) (idx := 75) (pm := (post_M_narrow [.ref 0, .int (xs (i + 1))])) hX (fun n => c_Out_narrow l n) lg_Out_narrow rfl ⟨rfl, rfl⟩ (by decide +kernel) ⟨Nat.le_of_ble_eq_true rfl, Nat.le_of_ble_eq_true rfl⟩ rfl (fun al => rfl) (show decode code 616 = .ok (.invokevirtual 75, 3) by decide +kernel) (fun n I J bb Ir h => ⟨⟨bb, rfl⟩, REL_e h⟩) (fun n I J bb r I2 J2 R2 h => h)) (i_M_narrow l) lg_M_narrow rfl ⟨rfl, rfl⟩ (by decide +kernel) ⟨Nat.le_of_ble_eq_true rfl, Nat.le_of_ble_eq_true rfl⟩ rfl (fun al => rfl) (show decode code 625 = .ok (.invokevirtual 78, 3) by decide +kernel) (fun I J Ir Jr h => ⟨rfl, ⟨(REL_n h), (REL_ref h).2.2.2.2.2.1⟩⟩) (fun Ir Jr r2 Ir2 Jr2 Rr2 h => ⟨h.1, by obtain ⟨z, hz⟩ := h.2; exact ⟨_, hz, z, rfl⟩⟩) ShI_v
    (push_obj hx hb (show decode code 610 = .ok (.aload_n 1, 1) by decide +kernel) rfl hl1 (push_args hx hb hS hbl hl0 hl3 hL hi [1] 611 (by decide +kernel) (by decide)))
    (push_obj hx hb (show decode code 619 = .ok (.aload_n 2, 1) by decide +kernel) rfl hl2 (push_args hx hb hS hbl hl0 hl3 hL hi [1] 620 (by decide +kernel) (by decide)))
    (tail_I hx hb (show decode code 628 = .ok (.if_icmp .eq 209, 3) by decide +kernel) (by decide)) K hls hW hR0
set_option maxHeartbeats 1000000 in
theorem ca_15 (E : lwEnv p s m args c D1 D2 cA cM b L xs) (hl : lwLs ls b x mm i) (hi : i + 5 < L) (K : lwK p l e s m args below meth c D1 D2 cA cM x mm Q ls) (hW : lwW s D1 D2 cA cM x mm n al alM I J bb Ir Jr H locs cells slots) (hR0 : REL I J Ir) : W p l e room_1 s m args below meth c H locs cells slots Q (F0 m 633 ls []) := by
  obtain ⟨hX, hS, hbl, hL⟩ := E
  obtain ⟨hls, hl0, hl1, hl2, hl3⟩ := hl
  have hx := hX.1.1
  have hb := hX.1.2.1
  exact la_pair (k := 3) (vs := [.int (xs (i + 1)), .int (xs (i + 2)), .int (xs (i + 3))]) (pm := (post_M_trial [.ref 0, .int (xs (i + 1)), .int (xs (i + 2)), .int (xs (i + 3))])) (pc0 := 633) (pcC := 649) (pcM := 668) (idx := 82) (Sh := ShI) hX (cX_M (k := 3) (idx := 79) (pm := (post_M_trial [.ref 0, .int (xs (i + 1)), .int (xs (i + 2)), .int (xs (i + 3))])) hX (fun n => c_Out_trial l n) lg_Out_trial rfl ⟨rfl, rfl⟩ (by decide +kernel) ⟨Nat.le_of_ble_eq_true rfl, Nat.le_of_ble_eq_true rfl⟩ rfl (fun al => rfl) (show decode code 649 = .ok (.invokevirtual 79, 3) by decide +kernel) (fun n I J bb Ir h => ⟨⟨bb, rfl⟩, REL_e h⟩) (fun n I J bb r I2 J2 R2 h => h)) (i_M_trial l) lg_M_trial rfl ⟨rfl, rfl⟩ (by decide +kernel) ⟨Nat.le_of_ble_eq_true rfl, Nat.le_of_ble_eq_true rfl⟩ rfl (fun al => rfl) (show decode code 668 = .ok (.invokevirtual 82, 3) by decide +kernel) (fun I J Ir Jr h => ⟨rfl, ⟨(REL_n h), REL_u h⟩⟩) (fun Ir Jr r2 Ir2 Jr2 Rr2 h => ⟨h.1, by obtain ⟨z, hz⟩ := h.2; exact ⟨_, hz, z, rfl⟩⟩) ShI_v
    (push_obj hx hb (show decode code 633 = .ok (.aload_n 1, 1) by decide +kernel) rfl hl1 (push_args hx hb hS hbl hl0 hl3 hL hi [1, 2, 3] 634 (by decide +kernel) (by decide)))
    (push_obj hx hb (show decode code 652 = .ok (.aload_n 2, 1) by decide +kernel) rfl hl2 (push_args hx hb hS hbl hl0 hl3 hL hi [1, 2, 3] 653 (by decide +kernel) (by decide)))
    (tail_I hx hb (show decode code 671 = .ok (.if_icmp .eq 166, 3) by decide +kernel) (by decide)) K hls hW hR0
set_option maxHeartbeats 1000000 in
theorem ca_16 (E : lwEnv p s m args c D1 D2 cA cM b L xs) (hl : lwLs ls b x mm i) (hi : i + 5 < L) (K : lwK p l e s m args below meth c D1 D2 cA cM x mm Q ls) (hW : lwW s D1 D2 cA cM x mm n al alM I J bb Ir Jr H locs cells slots) (hR0 : REL I J Ir) : W p l e room_1 s m args below meth c H locs cells slots Q (F0 m 676 ls []) := by
  obtain ⟨hX, hS, hbl, hL⟩ := E
  obtain ⟨hls, hl0, hl1, hl2, hl3⟩ := hl
  have hx := hX.1.1
  have hb := hX.1.2.1
  exact la_pair (k := 1) (vs := [.int (xs (i + 1))]) (pm := (post_M_solutions [.ref 0, .int (xs (i + 1))])) (pc0 := 676) (pcC := 682) (pcM := 691) (idx := 86) (Sh := ShI) hX (cX_G (k := 1) (idx := 83) (pm := (post_M_solutions [.ref 0, .int (xs (i + 1))])) hX (g_Out_solutions l) lg_Out_solutions rfl ⟨rfl, rfl⟩ (by decide +kernel) ⟨Nat.le_of_ble_eq_true rfl, Nat.le_of_ble_eq_true rfl⟩ rfl (fun al => rfl) (show decode code 682 = .ok (.invokevirtual 83, 3) by decide +kernel) (fun n I J bb Ir hn h => ⟨⟨bb, rfl⟩, REL_e h, hn⟩) (fun n n2 I J bb r I2 J2 R2 h => h.2)) (i_M_solutions l) lg_M_solutions rfl ⟨rfl, rfl⟩ (by decide +kernel) ⟨Nat.le_of_ble_eq_true rfl, Nat.le_of_ble_eq_true rfl⟩ rfl (fun al => rfl) (show decode code 691 = .ok (.invokevirtual 86, 3) by decide +kernel) (fun I J Ir Jr h => ⟨rfl, (REL_ref h).2.2.1⟩) (fun Ir Jr r2 Ir2 Jr2 Rr2 h => ⟨h.1, by obtain ⟨z, hz⟩ := h.2; exact ⟨_, hz, z, rfl⟩⟩) ShI_v
    (push_obj hx hb (show decode code 676 = .ok (.aload_n 1, 1) by decide +kernel) rfl hl1 (push_args hx hb hS hbl hl0 hl3 hL hi [1] 677 (by decide +kernel) (by decide)))
    (push_obj hx hb (show decode code 685 = .ok (.aload_n 2, 1) by decide +kernel) rfl hl2 (push_args hx hb hS hbl hl0 hl3 hL hi [1] 686 (by decide +kernel) (by decide)))
    (tail_I hx hb (show decode code 694 = .ok (.if_icmp .eq 143, 3) by decide +kernel) (by decide)) K hls hW hR0
set_option maxHeartbeats 1000000 in
theorem ca_17 (E : lwEnv p s m args c D1 D2 cA cM b L xs) (hl : lwLs ls b x mm i) (hi : i + 5 < L) (K : lwK p l e s m args below meth c D1 D2 cA cM x mm Q ls) (hW : lwW s D1 D2 cA cM x mm n al alM I J bb Ir Jr H locs cells slots) (hR0 : REL I J Ir) : W p l e room_1 s m args below meth c H locs cells slots Q (F0 m 699 ls []) := by
  obtain ⟨hX, hS, hbl, hL⟩ := E
  obtain ⟨hls, hl0, hl1, hl2, hl3⟩ := hl
  have hx := hX.1.1
  have hb := hX.1.2.1
  exact la_pair (k := 0) (vs := []) (pm := (post_M_solve [.ref 0])) (pc0 := 699) (pcC := 700) (pcM := 704) (idx := 90) (Sh := ShI) hX (cX_G (k := 0) (idx := 87) (pm := (post_M_solve [.ref 0])) hX (g_Out_solve l) lg_Out_solve rfl ⟨rfl, rfl⟩ (by decide +kernel) ⟨Nat.le_of_ble_eq_true rfl, Nat.le_of_ble_eq_true rfl⟩ rfl (fun al => rfl) (show decode code 700 = .ok (.invokevirtual 87, 3) by decide +kernel) (fun n I J bb Ir hn h => ⟨⟨bb, rfl⟩, REL_e h, hn⟩) (fun n n2 I J bb r I2 J2 R2 h => h.2)) (i_M_solve l) lg_M_solve rfl ⟨rfl, rfl⟩ (by decide +kernel) ⟨Nat.le_of_ble_eq_true rfl, Nat.le_of_ble_eq_true rfl⟩ rfl (fun al => rfl) (show decode code 704 = .ok (.invokevirtual 90, 3) by decide +kernel) (fun I J Ir Jr h => ⟨rfl, ⟨(REL_ref h).2.2.1, (REL_ref h).2.2.2.2.2.1⟩⟩) (fun Ir Jr r2 Ir2 Jr2 Rr2 h => ⟨h.1, by obtain ⟨z, hz⟩ := h.2; exact ⟨_, hz, z, rfl⟩⟩) ShI_v
    (push_obj hx hb (show decode code 699 = .ok (.aload_n 1, 1) by decide +kernel) rfl hl1 (push_args hx hb hS hbl hl0 hl3 hL hi [] 700 (by decide +kernel) (by decide)))
    (push_obj hx hb (show decode code 703 = .ok (.aload_n 2, 1) by decide +kernel) rfl hl2 (push_args hx hb hS hbl hl0 hl3 hL hi [] 704 (by decide +kernel) (by decide)))
    (tail_I hx hb (show decode code 707 = .ok (.if_icmp .eq 130, 3) by decide +kernel) (by decide)) K hls hW hR0
set_option maxHeartbeats 1000000 in
theorem ca_18 (E : lwEnv p s m args c D1 D2 cA cM b L xs) (hl : lwLs ls b x mm i) (hi : i + 5 < L) (K : lwK p l e s m args below meth c D1 D2 cA cM x mm Q ls) (hW : lwW s D1 D2 cA cM x mm n al alM I J bb Ir Jr H locs cells slots) (hR0 : REL I J Ir) : W p l e room_1 s m args below meth c H locs cells slots Q (F0 m 712 ls []) := by
  obtain ⟨hX, hS, hbl, hL⟩ := E
  obtain ⟨hls, hl0, hl1, hl2, hl3⟩ := hl
  have hx := hX.1.1
  have hb := hX.1.2.1
  exact la_pair (k := 0) (vs := []) (pm := (post_M_difficulty [.ref 0])) (pc0 := 712) (pcC := 713) (pcM := 717) (idx := 94) (Sh := ShI) hX (cX_G (k := 0) (idx := 91) (pm := (post_M_difficulty [.ref 0])) hX (g_Out_difficulty l) lg_Out_difficulty rfl ⟨rfl, rfl⟩ (by decide +kernel) ⟨Nat.le_of_ble_eq_true rfl, Nat.le_of_ble_eq_true rfl⟩ rfl (fun al => rfl) (show decode code 713 = .ok (.invokevirtual 91, 3) by decide +kernel) (fun n I J bb Ir hn h => ⟨⟨bb, rfl⟩, REL_e h, hn⟩) (fun n n2 I J bb r I2 J2 R2 h => h.2)) (i_M_difficulty l) lg_M_difficulty rfl ⟨rfl, rfl⟩ (by decide +kernel) ⟨Nat.le_of_ble_eq_true rfl, Nat.le_of_ble_eq_true rfl⟩ rfl (fun al => rfl) (show decode code 717 = .ok (.invokevirtual 94, 3) by decide +kernel) (fun I J Ir Jr h => ⟨rfl, (REL_ref h).2.2.1⟩) (fun Ir Jr r2 Ir2 Jr2 Rr2 h => ⟨h.1, by obtain ⟨z, hz⟩ := h.2; exact ⟨_, hz, z, rfl⟩⟩) ShI_v
    (push_obj hx hb (show decode code 712 = .ok (.aload_n 1, 1) by decide +kernel) rfl hl1 (push_args hx hb hS hbl hl0 hl3 hL hi [] 713 (by decide +kernel) (by decide)))
    (push_obj hx hb (show decode code 716 = .ok (.aload_n 2, 1) by decide +kernel) rfl hl2 (push_args hx hb hS hbl hl0 hl3 hL hi [] 717 (by decide +kernel) (by decide)))
    (tail_I hx hb (show decode code 720 = .ok (.if_icmp .eq 117, 3) by decide +kernel) (by decide)) K hls hW hR0
set_option maxHeartbeats 1000000 in
theorem ca_19 (E : lwEnv p s m args c D1 D2 cA cM b L xs) (hl : lwLs ls b x mm i) (hi : i + 5 < L) (K : lwK p l e s m args below meth c D1 D2 cA cM x mm Q ls) (hW : lwW s D1 D2 cA cM x mm n al alM I J bb Ir Jr H locs cells slots) (hR0 : REL I J Ir) : W p l e room_1 s m args below meth c H locs cells slots Q (F0 m 725 ls []) := by
  obtain ⟨hX, hS, hbl, hL⟩ := E
  obtain ⟨hls, hl0, hl1, hl2, hl3⟩ := hl
  have hx := hX.1.1
  have hb := hX.1.2.1
  exact la_pair (k := 0) (vs := []) (pm := (post_M_mistakes [.ref 0])) (pc0 := 725) (pcC := 726) (pcM := 730) (idx := 98) (Sh := ShI) hX (cX_M (k := 0) (idx := 95) (pm := (post_M_mistakes [.ref 0])) hX (fun n => c_Out_mistakes l n) lg_Out_mistakes rfl ⟨rfl, rfl⟩ (by decide +kernel) ⟨Nat.le_of_ble_eq_true rfl, Nat.le_of_ble_eq_true rfl⟩ rfl (fun al => rfl) (show decode code 726 = .ok (.invokevirtual 95, 3) by decide +kernel) (fun n I J bb Ir h => ⟨⟨bb, rfl⟩, trivial⟩) (fun n I J bb r I2 J2 R2 h => si_mistakes h)) (i_M_mistakes l) lg_M_mistakes rfl ⟨rfl, rfl⟩ (by decide +kernel) ⟨Nat.le_of_ble_eq_true rfl, Nat.le_of_ble_eq_true rfl⟩ rfl (fun al => rfl) (show decode code 730 = .ok (.invokevirtual 98, 3) by decide +kernel) (fun I J Ir Jr h => ⟨rfl, (REL_ref h).2.1⟩) (fun Ir Jr r2 Ir2 Jr2 Rr2 h => ⟨h.1, by obtain ⟨z, hz⟩ := h.2; exact ⟨_, hz, z, rfl⟩⟩) ShI_v
    (push_obj hx hb (show decode code 725 = .ok (.aload_n 1, 1) by decide +kernel) rfl hl1 (push_args hx hb hS hbl hl0 hl3 hL hi [] 726 (by decide +kernel) (by decide)))
    (push_obj hx hb (show decode code 729 = .ok (.aload_n 2, 1) by decide +kernel) rfl hl2 (push_args hx hb hS hbl hl0 hl3 hL hi [] 730 (by decide +kernel) (by decide)))
    (tail_I hx hb (show decode code 733 = .ok (.if_icmp .eq 104, 3) by decide +kernel) (by decide)) K hls hW hR0
end LQ_
