/-! the law: what REL gives each call, its ends, a flag pushed (own work) -/
section LS_
variable {I Ir : fx_MI} {J : fx_MJ}
theorem REL_c (h : REL I J Ir) : cpre I J := relE_c ⟨Ir, h⟩
theorem REL_e (h : REL I J Ir) : relE I J := ⟨Ir, h⟩
theorem REL_i (h : REL I J Ir) : ¬ I 138 5 = nI 0 → rg (I 138 6) 64 := by
  intro h5
  obtain ⟨⟨⟨d1, -⟩, -⟩, -, -, -, n1, n2, n3, n4⟩ := h
  rw [n1] at h5
  obtain ⟨⟨k, k1, k2, k3⟩, -⟩ := n4 h5
  obtain ⟨hw, hh, -⟩ := dimC_of d1
  obtain ⟨hm, hdv⟩ := k_dm k1
  have := idx_dm (k := k) hw
  exact ⟨_, by omega, k3⟩
theorem REL_x (h : REL I J Ir) : rg (I 94 1) 121 := by
  obtain ⟨-, -, -, ⟨t1, t2, -⟩, -⟩ := h
  rw [t2]
  exact t1.1
theorem REL_n (h : REL I J Ir) : preN Ir := (REL_ref h).2.2.1.1
theorem REL_u (h : REL I J Ir) : ∀ k, k < 64 → 1 ≤ mkN (Ir 1) k := fun k hk => (h.2.1.2.2.2 k hk).1.2
end LS_
section LT_
variable {p : Program} {l : Launch} {e : Env} {s : State} {m : MethodId} {args : Array Value} {below : List Frame} {meth : Method} {c : Code} {pc b L i : Nat} {xs : Nat → Int32} {ls : Array Slot} {Q : State → Prop}
def ShI (v : Value) : Prop := ∃ x, v = .int x
def ShL (v : Value) : Prop := ∃ x, v = .long x
theorem ShI_v : ∀ z, ShI z → ∀ al, fx_v al z = z := by
  rintro _ ⟨x, rfl⟩ al
  rfl
theorem ShL_v : ∀ z, ShL z → ∀ al, fx_v al z = z := by
  rintro _ ⟨x, rfl⟩ al
  rfl
theorem tail_I {off : Int} (hx : p.tables.exec = Jvm.exec) (hb : c.code = code) (hd : decode code pc = .ok (.if_icmp .eq off, 3)) (ht : (pc : Int) + off = (837 : Nat)) : ∀ (H : Heap) (locs : List Loc) (cells slots : Nat) (z : Value), ShI z → W p l e room_1 s m args below meth c H locs cells slots Q (F0 m 837 ls []) → W p l e room_1 s m args below meth c H locs cells slots Q (F0 m pc ls [z, z]) := by
  rintro H locs cells slots _ ⟨x, rfl⟩ kk
  exact lv_icmp_eq hx hb hd ht (fun _ => kk) (fun h => absurd rfl h)
theorem tail_L {off : Int} (hx : p.tables.exec = Jvm.exec) (hb : c.code = code) (hd0 : decode code pc = .ok (.lcmp, 1)) (hd : decode code (pc + 1) = .ok (.ifCond .eq off, 3)) (ht : ((pc + 1 : Nat) : Int) + off = (837 : Nat)) : ∀ (H : Heap) (locs : List Loc) (cells slots : Nat) (z : Value), ShL z → W p l e room_1 s m args below meth c H locs cells slots Q (F0 m 837 ls []) → W p l e room_1 s m args below meth c H locs cells slots Q (F0 m pc ls [z, z]) := by
  rintro H locs cells slots _ ⟨x, rfl⟩ kk
  refine W.lcmp hx hb hd0 ?_
  have e0 : lg_cmp x x = 0 := by
    unfold lg_cmp
    simp
  rw [e0]
  exact lv_if_eq hx hb hd ht (fun _ => kk) (fun h => absurd rfl h)
theorem push_Z (hx : p.tables.exec = Jvm.exec) (hb : c.code = code) (hX : va_X b L xs s s.heap) (hbl : b < s.heap.size) (hl0 : ls[0]? = some (.val (.ref b))) (hl3 : ls[3]? = some (.val (.int (nI i)))) (hL : L ≤ 3072) (hi : i + 5 < L) (hd : ∀ q ∈ aRows [1, 2] pc, decode code q.1 = .ok (q.2, 1)) (h0 : decode code (pc + 10) = .ok (.ifCond .eq 7, 3)) (h1 : decode code (pc + 13) = .ok (.iconst 1, 1)) (h2 : decode code (pc + 14) = .ok (.goto 4, 3)) (h3 : decode code (pc + 17) = .ok (.iconst 0, 1)) :
    lwPush p l e s m args below meth c ls pc (pc + 18) [.int (xs (i + 1)), .int (if xs (i + 2) = 0 then 0 else 1)] := fun H locs cells slots rest Q hS kk => by
  refine push_args hx hb hX hbl hl0 hl3 hL hi [1, 2] pc hd (by decide) H locs cells slots rest Q hS ?_
  show W p l e room_1 s m args below meth c H locs cells slots Q (F0 m (pc + 10) ls (.int (xs (i + 2)) :: .int (xs (i + 1)) :: rest))
  have kk : W p l e room_1 s m args below meth c H locs cells slots Q (F0 m (pc + 18) ls (.int (if xs (i + 2) = 0 then 0 else 1) :: .int (xs (i + 1)) :: rest)) := kk
  refine lv_if_eq (tgt := pc + 17) hx hb h0 (by omega) (fun h => ?_) (fun h => ?_)
  · rw [if_pos h] at kk
    exact lv_iconst (v := 0) hx hb h3 (by decide) kk
  · rw [if_neg h] at kk
    refine lv_iconst (v := 1) hx hb h1 (by decide) ?_
    exact lv_goto (tgt := pc + 18) hx hb h2 (by omega) kk
end LT_
