/-! the law: its switch and its loop (own work) -/
theorem nI_low : ∀ L, L < 6 → ∀ i, i < 6 → nI L - nI 6 < nI i := by decide +kernel
section LL_
variable {p : Program} {l : Launch} {e : Env} {s : State} {m : MethodId} {args : Array Value} {below : List Frame} {meth : Method} {c : Code} {D1 D2 : va_G} {cA cM : Nat → ClassId} {x mm b L i : Nat} {xs : Nat → Int32} {Q : State → Prop} {n : Nat} {al alM : Nat → Nat} {I : fx_MI} {J : fx_MJ} {bb : Bool} {Ir : fx_MI} {Jr : fx_MJ} {H : Heap} {locs : List Loc} {cells slots : Nat}
abbrev lwV (b x mm i : Nat) : List (Nat × Value) := [(3, .int (nI i)), (2, .ref mm), (1, .ref x), (0, .ref b)]
theorem lwLs_of {ls : Array Slot} (hl : lv_has ls 4 (lwV b x mm i)) : lwLs ls b x mm i := ⟨hl.1, lv_at hl 3 rfl, lv_at hl 2 rfl, lv_at hl 1 rfl, lv_at hl 0 rfl⟩
/-- one turn of the law's loop -/
theorem lw_turn (E : lwEnv p s m args c D1 D2 cA cM b L xs) (hi : i ≤ L) {ls : Array Slot} (hl : lv_has ls 4 (lwV b x mm i))
    (hEnd : ∀ ls', W p l e room_1 s m args below meth c H locs cells slots Q (F0 m 843 ls' []))
    (hNext : i + 6 ≤ L → ∀ ls', lv_has ls' 4 (lwV b x mm (i + 6)) → ∀ (n : Nat) (al alM : Nat → Nat) (I : fx_MI) (J : fx_MJ) (bb : Bool) (Ir : fx_MI) (Jr : fx_MJ) (H : Heap) (locs : List Loc) (cells slots : Nat), lwW s D1 D2 cA cM x mm n al alM I J bb Ir Jr H locs cells slots → REL I J Ir → W p l e room_1 s m args below meth c H locs cells slots Q (F0 m 18 ls' []))
    (hW : lwW s D1 D2 cA cM x mm n al alM I J bb Ir Jr H locs cells slots) (hR0 : REL I J Ir) : W p l e room_1 s m args below meth c H locs cells slots Q (F0 m 18 ls []) := by
  obtain ⟨hX, hS, hbl, hL⟩ := id E
  have hx := hX.1.1
  have hb := hX.1.2.1
  have hLs := lwLs_of hl
  obtain ⟨hls, hl0, hl1, hl2, hl3⟩ := id hLs
  have hVS := hW.2.2.2.2.2.1
  have hbA : ¬ aN s b := fun z => absurd z (by show ¬ s.heap.size ≤ b; omega)
  refine lv_iload_n hx hb (show decode code 18 = .ok (.iload_n 3, 1) by decide +kernel) rfl hl3 ?_
  refine lv_aload_n hx hb (show decode code 19 = .ok (.aload_n 0, 1) by decide +kernel) rfl hl0 ?_
  refine va_slen hx hb hS hbl hbA hVS (show decode code 20 = .ok (.arraylength, 1) by decide +kernel) ?_
  refine lv_bipush (v := nI 6) hx hb (show decode code 21 = .ok (.bipush 6, 2) by decide +kernel) (by decide) ?_
  refine lv_isub hx hb (show decode code 23 = .ok (.isub, 1) by decide +kernel) ?_
  refine lv_icmp_gt (tgt := 843) hx hb (show decode code 24 = .ok (.if_icmp .gt 819, 3) by decide +kernel) (by decide) (fun _ => hEnd ls) (fun h => ?_)
  have h6 : i + 6 ≤ L := by
    have h : ¬ nI L - nI 6 < nI i := h
    by_cases h1 : L < 6
    · exact absurd (nI_low L h1 i (by omega)) h
    · rw [nI_sub' (by omega), nI_ltI (by omega) (by omega)] at h
      omega
  have hK : lwK p l e s m args below meth c D1 D2 cA cM x mm Q ls := by
    intro n al alM I J bb Ir Jr H locs cells slots hW hR
    refine lv_iinc (v := nI (i + 6)) (lv' := lwV b x mm (i + 6)) hx hb (show decode code 837 = .ok (.iinc 3 6, 3) by decide +kernel) hl (k := 0) rfl (by rw [show Int32.ofInt 6 = nI 6 from by decide, nI_add]) (by decide) rfl (fun ls' hl' => ?_)
    exact lv_goto (tgt := 18) hx hb (show decode code 840 = .ok (.goto (-822), 3) by decide +kernel) (by decide) (hNext h6 ls' hl' n al alM I J bb Ir Jr H locs cells slots hW hR)
  refine lv_aload_n hx hb (show decode code 27 = .ok (.aload_n 0, 1) by decide +kernel) rfl hl0 ?_
  refine lv_iload_n hx hb (show decode code 28 = .ok (.iload_n 3, 1) by decide +kernel) rfl hl3 ?_
  refine va_sld hx hb hS hbl hbA hVS (nI_in (by omega) (by omega)) (show decode code 29 = .ok (.iaload, 1) by decide +kernel) ?_
  refine lv_bipush (v := 31) hx hb (show decode code 30 = .ok (.bipush 31, 2) by decide +kernel) (by decide) ?_
  refine lv_iand hx hb (show decode code 32 = .ok (.iand, 1) by decide +kernel) ?_
  have h5 : i + 5 < L := by omega
  refine fx_tsw (tgt := 837) hx hb (d := 804) (lo := 0) (hi := 25) (offs := #[119, 162, 205, 254, 287, 330, 393, 406, 439, 462, 475, 488, 531, 564, 577, 600, 643, 666, 679, 692, 705, 718, 741, 754, 767, 790]) (Or.inr ⟨rfl, 119, by decide +kernel⟩) (by decide) (by decide) (fun _ => hK n al alM I J bb Ir Jr H locs cells slots hW hR0) ?_
  exact ⟨fun _ => ⟨by decide, ca_0 E hLs h5 hK hW hR0⟩, fun _ => ⟨by decide, ca_1 E hLs h5 hK hW hR0⟩, fun _ => ⟨by decide, ca_2 E hLs h5 hK hW hR0⟩, fun _ => ⟨by decide, ca_3 E hLs h5 hK hW hR0⟩, fun _ => ⟨by decide, ca_4 E hLs h5 hK hW hR0⟩, fun _ => ⟨by decide, ca_5 E hLs h5 hK hW hR0⟩, fun _ => ⟨by decide, ca_6 E hLs h5 hK hW hR0⟩, fun _ => ⟨by decide, ca_7 E hLs h5 hK hW hR0⟩, fun _ => ⟨by decide, ca_8 E hLs h5 hK hW hR0⟩, fun _ => ⟨by decide, ca_9 E hLs h5 hK hW hR0⟩, fun _ => ⟨by decide, ca_10 E hLs h5 hK hW hR0⟩, fun _ => ⟨by decide, ca_11 E hLs h5 hK hW hR0⟩, fun _ => ⟨by decide, ca_12 E hLs h5 hK hW hR0⟩, fun _ => ⟨by decide, ca_13 E hLs h5 hK hW hR0⟩, fun _ => ⟨by decide, ca_14 E hLs h5 hK hW hR0⟩, fun _ => ⟨by decide, ca_15 E hLs h5 hK hW hR0⟩, fun _ => ⟨by decide, ca_16 E hLs h5 hK hW hR0⟩, fun _ => ⟨by decide, ca_17 E hLs h5 hK hW hR0⟩, fun _ => ⟨by decide, ca_18 E hLs h5 hK hW hR0⟩, fun _ => ⟨by decide, ca_19 E hLs h5 hK hW hR0⟩, fun _ => ⟨by decide, ca_20 E hLs h5 hK hW hR0⟩, fun _ => ⟨by decide, ca_21 E hLs h5 hK hW hR0⟩, fun _ => ⟨by decide, ca_22 E hLs h5 hK hW hR0⟩, fun _ => ⟨by decide, ca_23 E hLs h5 hK hW hR0⟩, fun _ => ⟨by decide, ca_24 E hLs h5 hK hW hR0⟩, fun _ => ⟨by decide, ca_25 E hLs h5 hK hW hR0⟩, trivial⟩
theorem lw_loop (E : lwEnv p s m args c D1 D2 cA cM b L xs) (hEnd : ∀ (n : Nat) (al alM : Nat → Nat) (I : fx_MI) (J : fx_MJ) (bb : Bool) (Ir : fx_MI) (Jr : fx_MJ) (H : Heap) (locs : List Loc) (cells slots : Nat), lwW s D1 D2 cA cM x mm n al alM I J bb Ir Jr H locs cells slots → ∀ ls', W p l e room_1 s m args below meth c H locs cells slots Q (F0 m 843 ls' [])) : ∀ (f i : Nat), L ≤ i + f → i ≤ L → ∀ ls, lv_has ls 4 (lwV b x mm i) → ∀ (n : Nat) (al alM : Nat → Nat) (I : fx_MI) (J : fx_MJ) (bb : Bool) (Ir : fx_MI) (Jr : fx_MJ) (H : Heap) (locs : List Loc) (cells slots : Nat), lwW s D1 D2 cA cM x mm n al alM I J bb Ir Jr H locs cells slots → REL I J Ir → W p l e room_1 s m args below meth c H locs cells slots Q (F0 m 18 ls [])
  | 0, i, h1, h2, ls, hl, n, al, alM, I, J, bb, Ir, Jr, H, locs, cells, slots, hW, hR => lw_turn E h2 hl (hEnd n al alM I J bb Ir Jr H locs cells slots hW) (fun h => absurd h (by omega)) hW hR
  | f + 1, i, h1, h2, ls, hl, n, al, alM, I, J, bb, Ir, Jr, H, locs, cells, slots, hW, hR => lw_turn E h2 hl (hEnd n al alM I J bb Ir Jr H locs cells slots hW) (fun h ls' hl' => lw_loop E hEnd f (i + 6) (by omega) h ls' hl') hW hR
end LL_
