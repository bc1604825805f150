/-! the law's cases (own work) -/
section LQ_
variable {p : Program} {l : Launch} {e : Env} {s : State} {m : MethodId} {args : Array Value} {below : List Frame} {meth : Method} {c : Code} {D1 D2 : va_G} {cA cM : Nat → ClassId} {x mm b L i : Nat} {xs : Nat → Int32} {ls : Array Slot} {Q : State → Prop} {n : Nat} {al alM : Nat → Nat} {I : fx_MI} {J : fx_MJ} {bb : Bool} {Ir : fx_MI} {Jr : fx_MJ} {H : Heap} {locs : List Loc} {cells slots : Nat}
set_option maxHeartbeats 1000000 in
theorem ca_7 (E : lwEnv p s m args c D1 D2 cA cM b L xs) (hl : lwLs ls b x mm i) (hi : i + 5 < L) (K : lwK p l e s m args below meth c D1 D2 cA cM x mm Q ls) (hW : lwW s D1 D2 cA cM x mm n al alM I J bb Ir Jr H locs cells slots) (hR0 : REL I J Ir) : W p l e room_1 s m args below meth c H locs cells slots Q (F0 m 439 ls []) := by
  obtain ⟨hX, hS, hbl, hL⟩ := E
  obtain ⟨hls, hl0, hl1, hl2, hl3⟩ := hl
  have hx := hX.1.1
  have hb := hX.1.2.1
  exact la_pair (k := 2) (vs := [.int (xs (i + 1)), .int (xs (i + 2))]) (pm := (post_M_picture [.ref 0, .int (xs (i + 1)), .int (xs (i + 2))])) (pc0 := 439) (pcC := 450) (pcM := 464) (idx := 49) (Sh := ShI) hX (cX_M (k := 2) (idx := 46) (pm := (post_M_picture [.ref 0, .int (xs (i + 1)), .int (xs (i + 2))])) hX (fun n => c_Out_picture l n) lg_Out_picture rfl ⟨rfl, rfl⟩ (by decide +kernel) ⟨Nat.le_of_ble_eq_true rfl, Nat.le_of_ble_eq_true rfl⟩ rfl (fun al => rfl) (show decode code 450 = .ok (.invokevirtual 46, 3) by decide +kernel) (fun n I J bb Ir h => ⟨⟨bb, rfl⟩, REL_c h⟩) (fun n I J bb r I2 J2 R2 h => si_picture h)) (i_M_picture l) lg_M_picture rfl ⟨rfl, rfl⟩ (by decide +kernel) ⟨Nat.le_of_ble_eq_true rfl, Nat.le_of_ble_eq_true rfl⟩ rfl (fun al => rfl) (show decode code 464 = .ok (.invokevirtual 49, 3) by decide +kernel) (fun I J Ir Jr h => ⟨rfl, (REL_ref h).2.1⟩) (fun Ir Jr r2 Ir2 Jr2 Rr2 h => ⟨h.1, by obtain ⟨z, hz⟩ := h.2; exact ⟨_, hz, z, rfl⟩⟩) ShI_v
    (push_obj hx hb (show decode code 439 = .ok (.aload_n 1, 1) by decide +kernel) rfl hl1 (push_args hx hb hS hbl hl0 hl3 hL hi [1, 2] 440 (by decide +kernel) (by decide)))
    (push_obj hx hb (show decode code 453 = .ok (.aload_n 2, 1) by decide +kernel) rfl hl2 (push_args hx hb hS hbl hl0 hl3 hL hi [1, 2] 454 (by decide +kernel) (by decide)))
    (tail_I hx hb (show decode code 467 = .ok (.if_icmp .eq 370, 3) by decide +kernel) (by decide)) K hls hW hR0
set_option maxHeartbeats 1000000 in
theorem ca_8 (E : lwEnv p s m args c D1 D2 cA cM b L xs) (hl : lwLs ls b x mm i) (hi : i + 5 < L) (K : lwK p l e s m args below meth c D1 D2 cA cM x mm Q ls) (hW : lwW s D1 D2 cA cM x mm n al alM I J bb Ir Jr H locs cells slots) (hR0 : REL I J Ir) : W p l e room_1 s m args below meth c H locs cells slots Q (F0 m 472 ls []) := by
  obtain ⟨hX, hS, hbl, hL⟩ := E
  obtain ⟨hls, hl0, hl1, hl2, hl3⟩ := hl
  have hx := hX.1.1
  have hb := hX.1.2.1
  exact la_pair (k := 1) (vs := [.int (xs (i + 1))]) (pm := (post_M_type [.ref 0, .int (xs (i + 1))])) (pc0 := 472) (pcC := 478) (pcM := 487) (idx := 54) (Sh := ShI) hX (cX_M (k := 1) (idx := 50) (pm := (post_M_type [.ref 0, .int (xs (i + 1))])) hX (fun n => c_Out_type l n) lg_Out_type rfl ⟨rfl, rfl⟩ (by decide +kernel) ⟨Nat.le_of_ble_eq_true rfl, Nat.le_of_ble_eq_true rfl⟩ rfl (fun al => rfl) (show decode code 478 = .ok (.invokevirtual 50, 3) by decide +kernel) (fun n I J bb Ir h => ⟨⟨bb, rfl⟩, REL_e h⟩) (fun n I J bb r I2 J2 R2 h => h)) (i_M_type l) lg_M_type rfl ⟨rfl, rfl⟩ (by decide +kernel) ⟨Nat.le_of_ble_eq_true rfl, Nat.le_of_ble_eq_true rfl⟩ rfl (fun al => rfl) (show decode code 487 = .ok (.invokevirtual 54, 3) by decide +kernel) (fun I J Ir Jr h => ⟨rfl, (REL_ref h).2.2.2.2.2.2.1.1⟩) (fun Ir Jr r2 Ir2 Jr2 Rr2 h => ⟨h.1, by obtain ⟨z, hz⟩ := h.2; exact ⟨_, hz, z, rfl⟩⟩) ShI_v
    (push_obj hx hb (show decode code 472 = .ok (.aload_n 1, 1) by decide +kernel) rfl hl1 (push_args hx hb hS hbl hl0 hl3 hL hi [1] 473 (by decide +kernel) (by decide)))
    (push_obj hx hb (show decode code 481 = .ok (.aload_n 2, 1) by decide +kernel) rfl hl2 (push_args hx hb hS hbl hl0 hl3 hL hi [1] 482 (by decide +kernel) (by decide)))
    (tail_I hx hb (show decode code 490 = .ok (.if_icmp .eq 347, 3) by decide +kernel) (by decide)) K hls hW hR0
set_option maxHeartbeats 1000000 in
theorem ca_9 (E : lwEnv p s m args c D1 D2 cA cM b L xs) (hl : lwLs ls b x mm i) (hi : i + 5 < L) (K : lwK p l e s m args below meth c D1 D2 cA cM x mm Q ls) (hW : lwW s D1 D2 cA cM x mm n al alM I J bb Ir Jr H locs cells slots) (hR0 : REL I J Ir) : W p l e room_1 s m args below meth c H locs cells slots Q (F0 m 495 ls []) := by
  obtain ⟨hX, hS, hbl, hL⟩ := E
  obtain ⟨hls, hl0, hl1, hl2, hl3⟩ := hl
  have hx := hX.1.1
  have hb := hX.1.2.1
  exact la_pair (k := 0) (vs := []) (pm := (post_M_clear [.ref 0])) (pc0 := 495) (pcC := 496) (pcM := 500) (idx := 58) (Sh := ShI) hX (cX_M (k := 0) (idx := 55) (pm := (post_M_clear [.ref 0])) hX (fun n => c_Out_clear l n) lg_Out_clear rfl ⟨rfl, rfl⟩ (by decide +kernel) ⟨Nat.le_of_ble_eq_true rfl, Nat.le_of_ble_eq_true rfl⟩ rfl (fun al => rfl) (show decode code 496 = .ok (.invokevirtual 55, 3) by decide +kernel) (fun n I J bb Ir h => ⟨⟨bb, rfl⟩, REL_e h⟩) (fun n I J bb r I2 J2 R2 h => h)) (i_M_clear l) lg_M_clear rfl ⟨rfl, rfl⟩ (by decide +kernel) ⟨Nat.le_of_ble_eq_true rfl, Nat.le_of_ble_eq_true rfl⟩ rfl (fun al => rfl) (show decode code 500 = .ok (.invokevirtual 58, 3) by decide +kernel) (fun I J Ir Jr h => ⟨rfl, trivial⟩) (fun Ir Jr r2 Ir2 Jr2 Rr2 h => ⟨h.1, by obtain ⟨z, hz⟩ := h.2; exact ⟨_, hz, z, rfl⟩⟩) ShI_v
    (push_obj hx hb (show decode code 495 = .ok (.aload_n 1, 1) by decide +kernel) rfl hl1 (push_args hx hb hS hbl hl0 hl3 hL hi [] 496 (by decide +kernel) (by decide)))
    (push_obj hx hb (show decode code 499 = .ok (.aload_n 2, 1) by decide +kernel) rfl hl2 (push_args hx hb hS hbl hl0 hl3 hL hi [] 500 (by decide +kernel) (by decide)))
    (tail_I hx hb (show decode code 503 = .ok (.if_icmp .eq 334, 3) by decide +kernel) (by decide)) K hls hW hR0
set_option maxHeartbeats 1000000 in
theorem ca_10 (E : lwEnv p s m args c D1 D2 cA cM b L xs) (hl : lwLs ls b x mm i) (hi : i + 5 < L) (K : lwK p l e s m args below meth c D1 D2 cA cM x mm Q ls) (hW : lwW s D1 D2 cA cM x mm n al alM I J bb Ir Jr H locs cells slots) (hR0 : REL I J Ir) : W p l e room_1 s m args below meth c H locs cells slots Q (F0 m 508 ls []) := by
  obtain ⟨hX, hS, hbl, hL⟩ := E
  obtain ⟨hls, hl0, hl1, hl2, hl3⟩ := hl
  have hx := hX.1.1
  have hb := hX.1.2.1
  exact la_pair (k := 0) (vs := []) (pm := (post_M_load [.ref 0])) (pc0 := 508) (pcC := 509) (pcM := 513) (idx := 62) (Sh := ShI) hX (cX_S (k := 0) (idx := 59) (pm := (post_M_load [.ref 0])) hX (fun n => c_Out_load l n) lg_Out_load rfl ⟨rfl, rfl⟩ (by decide +kernel) ⟨Nat.le_of_ble_eq_true rfl, Nat.le_of_ble_eq_true rfl⟩ rfl (fun al => rfl) (show decode code 509 = .ok (.invokevirtual 59, 3) by decide +kernel) (fun n I J bb Ir h => ⟨⟨bb, rfl⟩, REL_e h⟩) (fun n I J bb r I2 J2 R2 h => h)) (i_M_load l) lg_M_load rfl ⟨rfl, rfl⟩ (by decide +kernel) ⟨Nat.le_of_ble_eq_true rfl, Nat.le_of_ble_eq_true rfl⟩ rfl (fun al => rfl) (show decode code 513 = .ok (.invokevirtual 62, 3) by decide +kernel) (fun I J Ir Jr h => ⟨rfl, ⟨(REL_ref h).2.1, (REL_ref h).2.2.2.2.2.2.1, (REL_ref h).2.2.2.2.2.1⟩⟩) (fun Ir Jr r2 Ir2 Jr2 Rr2 h => ⟨h.1, by obtain ⟨z, hz⟩ := h.2; exact ⟨_, hz, z, rfl⟩⟩) ShI_v
    (push_obj hx hb (show decode code 508 = .ok (.aload_n 1, 1) by decide +kernel) rfl hl1 (push_args hx hb hS hbl hl0 hl3 hL hi [] 509 (by decide +kernel) (by decide)))
    (push_obj hx hb (show decode code 512 = .ok (.aload_n 2, 1) by decide +kernel) rfl hl2 (push_args hx hb hS hbl hl0 hl3 hL hi [] 513 (by decide +kernel) (by decide)))
    (tail_I hx hb (show decode code 516 = .ok (.if_icmp .eq 321, 3) by decide +kernel) (by decide)) K hls hW hR0
set_option maxHeartbeats 1000000 in
theorem ca_11 (E : lwEnv p s m args c D1 D2 cA cM b L xs) (hl : lwLs ls b x mm i) (hi : i + 5 < L) (K : lwK p l e s m args below meth c D1 D2 cA cM x mm Q ls) (hW : lwW s D1 D2 cA cM x mm n al alM I J bb Ir Jr H locs cells slots) (hR0 : REL I J Ir) : W p l e room_1 s m args below meth c H locs cells slots Q (F0 m 521 ls []) := by
  obtain ⟨hX, hS, hbl, hL⟩ := E
  obtain ⟨hls, hl0, hl1, hl2, hl3⟩ := hl
  have hx := hX.1.1
  have hb := hX.1.2.1
  exact la_pair (k := 3) (vs := [.int (xs (i + 1)), .int (xs (i + 2)), .int (xs (i + 3))]) (pm := (post_M_setMark [.ref 0, .int (xs (i + 1)), .int (xs (i + 2)), .int (xs (i + 3))])) (pc0 := 521) (pcC := 537) (pcM := 556) (idx := 66) (Sh := ShI) hX (cX_M (k := 3) (idx := 63) (pm := (post_M_setMark [.ref 0, .int (xs (i + 1)), .int (xs (i + 2)), .int (xs (i + 3))])) hX (fun n => c_Out_setMark l n) lg_Out_setMark rfl ⟨rfl, rfl⟩ (by decide +kernel) ⟨Nat.le_of_ble_eq_true rfl, Nat.le_of_ble_eq_true rfl⟩ rfl (fun al => rfl) (show decode code 537 = .ok (.invokevirtual 63, 3) by decide +kernel) (fun n I J bb Ir h => ⟨⟨bb, rfl⟩, REL_e h⟩) (fun n I J bb r I2 J2 R2 h => h)) (i_M_setMark l) lg_M_setMark rfl ⟨rfl, rfl⟩ (by decide +kernel) ⟨Nat.le_of_ble_eq_true rfl, Nat.le_of_ble_eq_true rfl⟩ rfl (fun al => rfl) (show decode code 556 = .ok (.invokevirtual 66, 3) by decide +kernel) (fun I J Ir Jr h => ⟨rfl, ⟨(REL_ref h).2.1, (REL_ref h).2.2.2.2.2.1⟩⟩) (fun Ir Jr r2 Ir2 Jr2 Rr2 h => ⟨h.1, by obtain ⟨z, hz⟩ := h.2; exact ⟨_, hz, z, rfl⟩⟩) ShI_v
    (push_obj hx hb (show decode code 521 = .ok (.aload_n 1, 1) by decide +kernel) rfl hl1 (push_args hx hb hS hbl hl0 hl3 hL hi [1, 2, 3] 522 (by decide +kernel) (by decide)))
    (push_obj hx hb (show decode code 540 = .ok (.aload_n 2, 1) by decide +kernel) rfl hl2 (push_args hx hb hS hbl hl0 hl3 hL hi [1, 2, 3] 541 (by decide +kernel) (by decide)))
    (tail_I hx hb (show decode code 559 = .ok (.if_icmp .eq 278, 3) by decide +kernel) (by decide)) K hls hW hR0
set_option maxHeartbeats 1000000 in
theorem ca_12 (E : lwEnv p s m args c D1 D2 cA cM b L xs) (hl : lwLs ls b x mm i) (hi : i + 5 < L) (K : lwK p l e s m args below meth c D1 D2 cA cM x mm Q ls) (hW : lwW s D1 D2 cA cM x mm n al alM I J bb Ir Jr H locs cells slots) (hR0 : REL I J Ir) : W p l e room_1 s m args below meth c H locs cells slots Q (F0 m 564 ls []) := by
  obtain ⟨hX, hS, hbl, hL⟩ := E
  obtain ⟨hls, hl0, hl1, hl2, hl3⟩ := hl
  have hx := hX.1.1
  have hb := hX.1.2.1
  exact la_pair (k := 2) (vs := [.int (xs (i + 1)), .int (xs (i + 2))]) (pm := (post_M_mark [.ref 0, .int (xs (i + 1)), .int (xs (i + 2))])) (pc0 := 564) (pcC := 575) (pcM := 589) (idx := 70) (Sh := ShI) hX (cX_M (k := 2) (idx := 67) (pm := (post_M_mark [.ref 0, .int (xs (i + 1)), .int (xs (i + 2))])) hX (fun n => c_Out_mark l n) lg_Out_mark rfl ⟨rfl, rfl⟩ (by decide +kernel) ⟨Nat.le_of_ble_eq_true rfl, Nat.le_of_ble_eq_true rfl⟩ rfl (fun al => rfl) (show decode code 575 = .ok (.invokevirtual 67, 3) by decide +kernel) (fun n I J bb Ir h => ⟨⟨bb, rfl⟩, REL_c h⟩) (fun n I J bb r I2 J2 R2 h => si_mark h)) (i_M_mark l) lg_M_mark rfl ⟨rfl, rfl⟩ (by decide +kernel) ⟨Nat.le_of_ble_eq_true rfl, Nat.le_of_ble_eq_true rfl⟩ rfl (fun al => rfl) (show decode code 589 = .ok (.invokevirtual 70, 3) by decide +kernel) (fun I J Ir Jr h => ⟨rfl, (REL_ref h).2.1⟩) (fun Ir Jr r2 Ir2 Jr2 Rr2 h => ⟨h.1, by obtain ⟨z, hz⟩ := h.2; exact ⟨_, hz, z, rfl⟩⟩) ShI_v
    (push_obj hx hb (show decode code 564 = .ok (.aload_n 1, 1) by decide +kernel) rfl hl1 (push_args hx hb hS hbl hl0 hl3 hL hi [1, 2] 565 (by decide +kernel) (by decide)))
    (push_obj hx hb (show decode code 578 = .ok (.aload_n 2, 1) by decide +kernel) rfl hl2 (push_args hx hb hS hbl hl0 hl3 hL hi [1, 2] 579 (by decide +kernel) (by decide)))
    (tail_I hx hb (show decode code 592 = .ok (.if_icmp .eq 245, 3) by decide +kernel) (by decide)) K hls hW hR0
set_option maxHeartbeats 1000000 in
theorem ca_13 (E : lwEnv p s m args c D1 D2 cA cM b L xs) (hl : lwLs ls b x mm i) (hi : i + 5 < L) (K : lwK p l e s m args below meth c D1 D2 cA cM x mm Q ls) (hW : lwW s D1 D2 cA cM x mm n al alM I J bb Ir Jr H locs cells slots) (hR0 : REL I J Ir) : W p l e room_1 s m args below meth c H locs cells slots Q (F0 m 597 ls []) := by
  obtain ⟨hX, hS, hbl, hL⟩ := E
  obtain ⟨hls, hl0, hl1, hl2, hl3⟩ := hl
  have hx := hX.1.1
  have hb := hX.1.2.1
  exact la_pair (k := 0) (vs := []) (pm := (post_M_clearMarks [.ref 0])) (pc0 := 597) (pcC := 598) (pcM := 602) (idx := 74) (Sh := ShI) hX (cX_M (k := 0) (idx := 71) (pm := (post_M_clearMarks [.ref 0])) hX (fun n => c_Out_clearMarks l n) lg_Out_clearMarks rfl ⟨rfl, rfl⟩ (by decide +kernel) ⟨Nat.le_of_ble_eq_true rfl, Nat.le_of_ble_eq_true rfl⟩ rfl (fun al => rfl) (show decode code 598 = .ok (.invokevirtual 71, 3) by decide +kernel) (fun n I J bb Ir h => ⟨⟨bb, rfl⟩, REL_e h⟩) (fun n I J bb r I2 J2 R2 h => h)) (i_M_clearMarks l) lg_M_clearMarks rfl ⟨rfl, rfl⟩ (by decide +kernel) ⟨Nat.le_of_ble_eq_true rfl, Nat.le_of_ble_eq_true rfl⟩ rfl (fun al => rfl) (show decode code 602 = .ok (.invokevirtual 74, 3) by decide +kernel) (fun I J Ir Jr h => ⟨rfl, ⟨(REL_ref h).2.1, (REL_ref h).2.2.2.2.2.1⟩⟩) (fun Ir Jr r2 Ir2 Jr2 Rr2 h => ⟨h.1, by obtain ⟨z, hz⟩ := h.2; exact ⟨_, hz, z, rfl⟩⟩) ShI_v
    (push_obj hx hb (show decode code 597 = .ok (.aload_n 1, 1) by decide +kernel) rfl hl1 (push_args hx hb hS hbl hl0 hl3 hL hi [] 598 (by decide +kernel) (by decide)))
    (push_obj hx hb (show decode code 601 = .ok (.aload_n 2, 1) by decide +kernel) rfl hl2 (push_args hx hb hS hbl hl0 hl3 hL hi [] 602 (by decide +kernel) (by decide)))
    (tail_I hx hb (show decode code 605 = .ok (.if_icmp .eq 232, 3) by decide +kernel) (by decide)) K hls hW hR0
end LQ_
