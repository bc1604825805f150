/-! the law's cases (own work) -/
section LQ_
variable {p : Program} {l : Launch} {e : Env} {s : State} {m : MethodId} {args : Array Value} {below : List Frame} {meth : Method} {c : Code} {D1 D2 : va_G} {cA cM : Nat → ClassId} {x mm b L i : Nat} {xs : Nat → Int32} {ls : Array Slot} {Q : State → Prop} {n : Nat} {al alM : Nat → Nat} {I : fx_MI} {J : fx_MJ} {bb : Bool} {Ir : fx_MI} {Jr : fx_MJ} {H : Heap} {locs : List Loc} {cells slots : Nat}
set_option maxHeartbeats 1000000 in
theorem ca_20 (E : lwEnv p s m args c D1 D2 cA cM b L xs) (hl : lwLs ls b x mm i) (hi : i + 5 < L) (K : lwK p l e s m args below meth c D1 D2 cA cM x mm Q ls) (hW : lwW s D1 D2 cA cM x mm n al alM I J bb Ir Jr H locs cells slots) (hR0 : REL I J Ir) : W p l e room_1 s m args below meth c H locs cells slots Q (F0 m 738 ls []) := by
  obtain ⟨hX, hS, hbl, hL⟩ := E
  obtain ⟨hls, hl0, hl1, hl2, hl3⟩ := hl
  have hx := hX.1.1
  have hb := hX.1.2.1
  exact la_pair (k := 0) (vs := []) (pm := (post_M_hint [.ref 0])) (pc0 := 738) (pcC := 739) (pcM := 743) (idx := 102) (Sh := ShI) hX (cX_M (k := 0) (idx := 99) (pm := (post_M_hint [.ref 0])) hX (fun n => c_Out_hint l n) lg_Out_hint rfl ⟨rfl, rfl⟩ (by decide +kernel) ⟨Nat.le_of_ble_eq_true rfl, Nat.le_of_ble_eq_true rfl⟩ rfl (fun al => rfl) (show decode code 739 = .ok (.invokevirtual 99, 3) by decide +kernel) (fun n I J bb Ir h => ⟨⟨bb, rfl⟩, REL_e h⟩) (fun n I J bb r I2 J2 R2 h => h)) (i_M_hint l) lg_M_hint rfl ⟨rfl, rfl⟩ (by decide +kernel) ⟨Nat.le_of_ble_eq_true rfl, Nat.le_of_ble_eq_true rfl⟩ rfl (fun al => rfl) (show decode code 743 = .ok (.invokevirtual 102, 3) by decide +kernel) (fun I J Ir Jr h => ⟨rfl, (REL_n h)⟩) (fun Ir Jr r2 Ir2 Jr2 Rr2 h => ⟨h.1, by obtain ⟨z, hz⟩ := h.2; exact ⟨_, hz, z, rfl⟩⟩) ShI_v
    (push_obj hx hb (show decode code 738 = .ok (.aload_n 1, 1) by decide +kernel) rfl hl1 (push_args hx hb hS hbl hl0 hl3 hL hi [] 739 (by decide +kernel) (by decide)))
    (push_obj hx hb (show decode code 742 = .ok (.aload_n 2, 1) by decide +kernel) rfl hl2 (push_args hx hb hS hbl hl0 hl3 hL hi [] 743 (by decide +kernel) (by decide)))
    (tail_I hx hb (show decode code 746 = .ok (.if_icmp .eq 91, 3) by decide +kernel) (by decide)) K hls hW hR0
set_option maxHeartbeats 1000000 in
theorem ca_21 (E : lwEnv p s m args c D1 D2 cA cM b L xs) (hl : lwLs ls b x mm i) (hi : i + 5 < L) (K : lwK p l e s m args below meth c D1 D2 cA cM x mm Q ls) (hW : lwW s D1 D2 cA cM x mm n al alM I J bb Ir Jr H locs cells slots) (hR0 : REL I J Ir) : W p l e room_1 s m args below meth c H locs cells slots Q (F0 m 751 ls []) := by
  obtain ⟨hX, hS, hbl, hL⟩ := E
  obtain ⟨hls, hl0, hl1, hl2, hl3⟩ := hl
  have hx := hX.1.1
  have hb := hX.1.2.1
  exact la_pair (k := 1) (vs := [.int (xs (i + 1))]) (pm := (post_M_hinted [.ref 0, .int (xs (i + 1))])) (pc0 := 751) (pcC := 757) (pcM := 766) (idx := 106) (Sh := ShI) hX (cX_M (k := 1) (idx := 103) (pm := (post_M_hinted [.ref 0, .int (xs (i + 1))])) hX (fun n => c_Out_hinted l n) lg_Out_hinted rfl ⟨rfl, rfl⟩ (by decide +kernel) ⟨Nat.le_of_ble_eq_true rfl, Nat.le_of_ble_eq_true rfl⟩ rfl (fun al => rfl) (show decode code 757 = .ok (.invokevirtual 103, 3) by decide +kernel) (fun n I J bb Ir h => ⟨⟨bb, rfl⟩, REL_i h⟩) (fun n I J bb r I2 J2 R2 h => si_hinted h)) (i_M_hinted l) lg_M_hinted rfl ⟨rfl, rfl⟩ (by decide +kernel) ⟨Nat.le_of_ble_eq_true rfl, Nat.le_of_ble_eq_true rfl⟩ rfl (fun al => rfl) (show decode code 766 = .ok (.invokevirtual 106, 3) by decide +kernel) (fun I J Ir Jr h => ⟨rfl, ⟨(REL_ref h).2.1, (REL_ref h).2.2.2.2.2.2.2.1⟩⟩) (fun Ir Jr r2 Ir2 Jr2 Rr2 h => ⟨h.1, by obtain ⟨z, hz⟩ := h.2; exact ⟨_, hz, z, rfl⟩⟩) ShI_v
    (push_obj hx hb (show decode code 751 = .ok (.aload_n 1, 1) by decide +kernel) rfl hl1 (push_args hx hb hS hbl hl0 hl3 hL hi [1] 752 (by decide +kernel) (by decide)))
    (push_obj hx hb (show decode code 760 = .ok (.aload_n 2, 1) by decide +kernel) rfl hl2 (push_args hx hb hS hbl hl0 hl3 hL hi [1] 761 (by decide +kernel) (by decide)))
    (tail_I hx hb (show decode code 769 = .ok (.if_icmp .eq 68, 3) by decide +kernel) (by decide)) K hls hW hR0
set_option maxHeartbeats 1000000 in
theorem ca_22 (E : lwEnv p s m args c D1 D2 cA cM b L xs) (hl : lwLs ls b x mm i) (hi : i + 5 < L) (K : lwK p l e s m args below meth c D1 D2 cA cM x mm Q ls) (hW : lwW s D1 D2 cA cM x mm n al alM I J bb Ir Jr H locs cells slots) (hR0 : REL I J Ir) : W p l e room_1 s m args below meth c H locs cells slots Q (F0 m 774 ls []) := by
  obtain ⟨hX, hS, hbl, hL⟩ := E
  obtain ⟨hls, hl0, hl1, hl2, hl3⟩ := hl
  have hx := hX.1.1
  have hb := hX.1.2.1
  exact la_pair (k := 0) (vs := []) (pm := (post_M_takeHint [.ref 0])) (pc0 := 774) (pcC := 775) (pcM := 779) (idx := 110) (Sh := ShI) hX (cX_M (k := 0) (idx := 107) (pm := (post_M_takeHint [.ref 0])) hX (fun n => c_Out_takeHint l n) lg_Out_takeHint rfl ⟨rfl, rfl⟩ (by decide +kernel) ⟨Nat.le_of_ble_eq_true rfl, Nat.le_of_ble_eq_true rfl⟩ rfl (fun al => rfl) (show decode code 775 = .ok (.invokevirtual 107, 3) by decide +kernel) (fun n I J bb Ir h => ⟨⟨bb, rfl⟩, REL_e h⟩) (fun n I J bb r I2 J2 R2 h => h)) (i_M_takeHint l) lg_M_takeHint rfl ⟨rfl, rfl⟩ (by decide +kernel) ⟨Nat.le_of_ble_eq_true rfl, Nat.le_of_ble_eq_true rfl⟩ rfl (fun al => rfl) (show decode code 779 = .ok (.invokevirtual 110, 3) by decide +kernel) (fun I J Ir Jr h => ⟨rfl, ⟨(REL_ref h).2.2.2.2.2.1, (REL_ref h).2.2.2.2.2.2.2.1⟩⟩) (fun Ir Jr r2 Ir2 Jr2 Rr2 h => ⟨h.1, by obtain ⟨z, hz⟩ := h.2; exact ⟨_, hz, z, rfl⟩⟩) ShI_v
    (push_obj hx hb (show decode code 774 = .ok (.aload_n 1, 1) by decide +kernel) rfl hl1 (push_args hx hb hS hbl hl0 hl3 hL hi [] 775 (by decide +kernel) (by decide)))
    (push_obj hx hb (show decode code 778 = .ok (.aload_n 2, 1) by decide +kernel) rfl hl2 (push_args hx hb hS hbl hl0 hl3 hL hi [] 779 (by decide +kernel) (by decide)))
    (tail_I hx hb (show decode code 782 = .ok (.if_icmp .eq 55, 3) by decide +kernel) (by decide)) K hls hW hR0
set_option maxHeartbeats 1000000 in
theorem ca_23 (E : lwEnv p s m args c D1 D2 cA cM b L xs) (hl : lwLs ls b x mm i) (hi : i + 5 < L) (K : lwK p l e s m args below meth c D1 D2 cA cM x mm Q ls) (hW : lwW s D1 D2 cA cM x mm n al alM I J bb Ir Jr H locs cells slots) (hR0 : REL I J Ir) : W p l e room_1 s m args below meth c H locs cells slots Q (F0 m 787 ls []) := by
  obtain ⟨hX, hS, hbl, hL⟩ := E
  obtain ⟨hls, hl0, hl1, hl2, hl3⟩ := hl
  have hx := hX.1.1
  have hb := hX.1.2.1
  exact la_pair (k := 0) (vs := []) (pm := (post_M_undo [.ref 0])) (pc0 := 787) (pcC := 788) (pcM := 792) (idx := 114) (Sh := ShI) hX (cX_M (k := 0) (idx := 111) (pm := (post_M_undo [.ref 0])) hX (fun n => c_Out_undo l n) lg_Out_undo rfl ⟨rfl, rfl⟩ (by decide +kernel) ⟨Nat.le_of_ble_eq_true rfl, Nat.le_of_ble_eq_true rfl⟩ rfl (fun al => rfl) (show decode code 788 = .ok (.invokevirtual 111, 3) by decide +kernel) (fun n I J bb Ir h => ⟨⟨bb, rfl⟩, REL_e h⟩) (fun n I J bb r I2 J2 R2 h => h)) (i_M_undo l) lg_M_undo rfl ⟨rfl, rfl⟩ (by decide +kernel) ⟨Nat.le_of_ble_eq_true rfl, Nat.le_of_ble_eq_true rfl⟩ rfl (fun al => rfl) (show decode code 792 = .ok (.invokevirtual 114, 3) by decide +kernel) (fun I J Ir Jr h => ⟨rfl, (REL_ref h).2.2.2.2.2.1⟩) (fun Ir Jr r2 Ir2 Jr2 Rr2 h => ⟨h.1, by obtain ⟨z, hz⟩ := h.2; exact ⟨_, hz, z, rfl⟩⟩) ShI_v
    (push_obj hx hb (show decode code 787 = .ok (.aload_n 1, 1) by decide +kernel) rfl hl1 (push_args hx hb hS hbl hl0 hl3 hL hi [] 788 (by decide +kernel) (by decide)))
    (push_obj hx hb (show decode code 791 = .ok (.aload_n 2, 1) by decide +kernel) rfl hl2 (push_args hx hb hS hbl hl0 hl3 hL hi [] 792 (by decide +kernel) (by decide)))
    (tail_I hx hb (show decode code 795 = .ok (.if_icmp .eq 42, 3) by decide +kernel) (by decide)) K hls hW hR0
set_option maxHeartbeats 1000000 in
theorem ca_24 (E : lwEnv p s m args c D1 D2 cA cM b L xs) (hl : lwLs ls b x mm i) (hi : i + 5 < L) (K : lwK p l e s m args below meth c D1 D2 cA cM x mm Q ls) (hW : lwW s D1 D2 cA cM x mm n al alM I J bb Ir Jr H locs cells slots) (hR0 : REL I J Ir) : W p l e room_1 s m args below meth c H locs cells slots Q (F0 m 800 ls []) := by
  obtain ⟨hX, hS, hbl, hL⟩ := E
  obtain ⟨hls, hl0, hl1, hl2, hl3⟩ := hl
  have hx := hX.1.1
  have hb := hX.1.2.1
  exact la_pair (k := 1) (vs := [.int (xs (i + 1))]) (pm := (post_M_count [.ref 0, .int (xs (i + 1))])) (pc0 := 800) (pcC := 806) (pcM := 815) (idx := 118) (Sh := ShI) hX (cX_M (k := 1) (idx := 115) (pm := (post_M_count [.ref 0, .int (xs (i + 1))])) hX (fun n => c_Out_count l n) lg_Out_count rfl ⟨rfl, rfl⟩ (by decide +kernel) ⟨Nat.le_of_ble_eq_true rfl, Nat.le_of_ble_eq_true rfl⟩ rfl (fun al => rfl) (show decode code 806 = .ok (.invokevirtual 115, 3) by decide +kernel) (fun n I J bb Ir h => ⟨⟨bb, rfl⟩, REL_c h⟩) (fun n I J bb r I2 J2 R2 h => si_count h)) (i_M_count l) lg_M_count rfl ⟨rfl, rfl⟩ (by decide +kernel) ⟨Nat.le_of_ble_eq_true rfl, Nat.le_of_ble_eq_true rfl⟩ rfl (fun al => rfl) (show decode code 815 = .ok (.invokevirtual 118, 3) by decide +kernel) (fun I J Ir Jr h => ⟨rfl, (REL_ref h).2.2.2.1⟩) (fun Ir Jr r2 Ir2 Jr2 Rr2 h => ⟨h.1, by obtain ⟨z, hz⟩ := h.2; exact ⟨_, hz, z, rfl⟩⟩) ShI_v
    (push_obj hx hb (show decode code 800 = .ok (.aload_n 1, 1) by decide +kernel) rfl hl1 (push_args hx hb hS hbl hl0 hl3 hL hi [1] 801 (by decide +kernel) (by decide)))
    (push_obj hx hb (show decode code 809 = .ok (.aload_n 2, 1) by decide +kernel) rfl hl2 (push_args hx hb hS hbl hl0 hl3 hL hi [1] 810 (by decide +kernel) (by decide)))
    (tail_I hx hb (show decode code 818 = .ok (.if_icmp .eq 19, 3) by decide +kernel) (by decide)) K hls hW hR0
set_option maxHeartbeats 1000000 in
theorem ca_25 (E : lwEnv p s m args c D1 D2 cA cM b L xs) (hl : lwLs ls b x mm i) (hi : i + 5 < L) (K : lwK p l e s m args below meth c D1 D2 cA cM x mm Q ls) (hW : lwW s D1 D2 cA cM x mm n al alM I J bb Ir Jr H locs cells slots) (hR0 : REL I J Ir) : W p l e room_1 s m args below meth c H locs cells slots Q (F0 m 823 ls []) := by
  obtain ⟨hX, hS, hbl, hL⟩ := E
  obtain ⟨hls, hl0, hl1, hl2, hl3⟩ := hl
  have hx := hX.1.1
  have hb := hX.1.2.1
  exact la_pair (k := 0) (vs := []) (pm := (post_M_digest [.ref 0])) (pc0 := 823) (pcC := 824) (pcM := 828) (idx := 123) (Sh := ShL) hX (cX_M (k := 0) (idx := 119) (pm := (post_M_digest [.ref 0])) hX (fun n => c_Out_digest l n) lg_Out_digest rfl ⟨rfl, rfl⟩ (by decide +kernel) ⟨Nat.le_of_ble_eq_true rfl, Nat.le_of_ble_eq_true rfl⟩ rfl (fun al => rfl) (show decode code 824 = .ok (.invokevirtual 119, 3) by decide +kernel) (fun n I J bb Ir h => ⟨⟨bb, rfl⟩, ⟨REL_c h, REL_i h, REL_x h⟩⟩) (fun n I J bb r I2 J2 R2 h => si_digest h)) (c_M_digest l) lg_M_digest rfl ⟨rfl, rfl⟩ (by decide +kernel) ⟨Nat.le_of_ble_eq_true rfl, Nat.le_of_ble_eq_true rfl⟩ rfl (fun al => rfl) (show decode code 828 = .ok (.invokevirtual 123, 3) by decide +kernel) (fun I J Ir Jr h => ⟨rfl, ⟨(REL_ref h).2.2.2.1, (REL_ref h).2.2.2.2.2.2.2.1, (REL_ref h).2.2.2.2.2.2.2.2, (REL_ref h).2.2.2.2.2.2.1.1⟩⟩) (fun Ir Jr r2 Ir2 Jr2 Rr2 h => ⟨h, _, h.2.2.2, _, rfl⟩) ShL_v
    (push_obj hx hb (show decode code 823 = .ok (.aload_n 1, 1) by decide +kernel) rfl hl1 (push_args hx hb hS hbl hl0 hl3 hL hi [] 824 (by decide +kernel) (by decide)))
    (push_obj hx hb (show decode code 827 = .ok (.aload_n 2, 1) by decide +kernel) rfl hl2 (push_args hx hb hS hbl hl0 hl3 hL hi [] 828 (by decide +kernel) (by decide)))
    (tail_L hx hb (show decode code 831 = .ok (.lcmp, 1) by decide +kernel) (show decode code 832 = .ok (.ifCond .eq 5, 3) by decide +kernel) (by decide)) K hls hW hR0
end LQ_
