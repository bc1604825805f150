/-! the law: pushes, and a pair of calls (own work) -/
def lwX (p : Program) (s : State) (m : MethodId) (args : Array Value) (c : Code) (D1 D2 : va_G) (cA cM : Nat → ClassId) : Prop := lwB p s m args c ∧ va_K D1 (MC 256).1 (fx_ty (MC 256) cA) s ∧ va_K D2 MM.1 (fx_ty MM cM) s
/-- both worlds, and what was made of the law's room -/
def lwW (s : State) (D1 D2 : va_G) (cA cM : Nat → ClassId) (x mm n : Nat) (al alM : Nat → Nat) (I : fx_MI) (J : fx_MJ) (bb : Bool) (Ir : fx_MI) (Jr : fx_MJ) (H : Heap) (locs : List Loc) (cells slots : Nat) : Prop :=
  va_P D1 (MC n).1 (fx_w (MC n) cA al I J (R0C bb)) H ∧ va_D (aN s) (fx_w (MC n) cA al I J (R0C bb)) ∧ va_P D2 MM.1 (fx_w MM cM alM Ir Jr R0_M) H ∧ va_D (aN s) (fx_w MM cM alM Ir Jr R0_M) ∧ ap (fx_w (MC n) cA al I J (R0C bb)) (fx_w MM cM alM Ir Jr R0_M) ∧ va_S (aN s) s.heap H locs ∧ fx_St al (aN s) s s.heap ∧ (256 ≤ n ∧ n ≤ 2343752) ∧ cells ≤ 200 + n / 256 ∧ slots ≤ 20000 + 2 * n ∧ al 0 = x ∧ alM 0 = mm
def aRows : List Nat → Nat → List (Nat × Instr)
  | [], _ => []
  | k :: r, pc => [(pc, .aload_n 0), (pc + 1, .iload_n 3), (pc + 2, .iconst k), (pc + 3, .iadd), (pc + 4, .iaload)] ++ aRows r (pc + 5)
theorem cat_le (v : Value) : v.category ≤ 2 := by
  unfold Value.category
  split <;> omega
theorem cat_o (f : Value → Value) (r : Option Value) : (((r.map f).toList).map fun v => v.category).sum ≤ 8 := by
  cases r with
  | none => exact Nat.zero_le _
  | some v =>
    have := cat_le (f v)
    show (f v).category + 0 ≤ 8
    omega
section LP_
variable {p : Program} {l : Launch} {e : Env} {s : State} {m : MethodId} {args : Array Value} {below : List Frame} {meth : Method} {c : Code} {D1 D2 : va_G} {cA cM : Nat → ClassId} {ws0 ws0' : List Cond} {rm0 : Room} {y : MethodName} {bytes : ByteArray} {maxL idx k pc : Nat} {ret : Option FieldType} {vs : List Value} {x mm b L : Nat} {xs : Nat → Int32} {i : Nat}
/-- values pushed, between two places of the code -/
def lwPush (p : Program) (l : Launch) (e : Env) (s : State) (m : MethodId) (args : Array Value) (below : List Frame) (meth : Method) (c : Code) (ls : Array Slot) (pc pc' : Nat) (vs : List Value) : Prop :=
  ∀ (H : Heap) (locs : List Loc) (cells slots : Nat) (rest : List Value) (Q : State → Prop), va_S (aN s) s.heap H locs → W p l e room_1 s m args below meth c H locs cells slots Q (F0 m pc' ls (vs.reverse ++ rest)) → W p l e room_1 s m args below meth c H locs cells slots Q (F0 m pc ls rest)
theorem push_args {ls : Array Slot} (hx : p.tables.exec = Jvm.exec) (hb : c.code = code) (hX : va_X b L xs s s.heap) (hbl : b < s.heap.size) (hl0 : ls[0]? = some (.val (.ref b))) (hl3 : ls[3]? = some (.val (.int (nI i)))) (hL : L ≤ 3072) (hi : i + 5 < L) : ∀ (ks : List Nat) (pc : Nat), (∀ q ∈ aRows ks pc, decode code q.1 = .ok (q.2, 1)) → (∀ k ∈ ks, Int32.ofInt (k : Int) = nI k ∧ k < 6) → lwPush p l e s m args below meth c ls pc (pc + 5 * ks.length) (ks.map (fun k => .int (xs (i + k))))
  | [], pc, _, _ => fun H locs cells slots rest Q hS kk => kk
  | k :: r, pc, hd, hk => fun H locs cells slots rest Q hS kk => by
    have hk1 := hk k List.mem_cons_self
    have hm : ∀ q ∈ [((pc, .aload_n 0) : Nat × Instr), (pc + 1, .iload_n 3), (pc + 2, .iconst k), (pc + 3, .iadd), (pc + 4, .iaload)], decode code q.1 = .ok (q.2, 1) := fun q hq => hd q (List.mem_append_left _ hq)
    refine lv_aload_n hx hb (hm (pc, .aload_n 0) (by simp)) rfl hl0 ?_
    refine lv_iload_n hx hb (hm (pc + 1, .iload_n 3) (by simp)) rfl hl3 ?_
    refine lv_iconst (v := nI k) hx hb (hm (pc + 2, .iconst k) (by simp)) hk1.1 ?_
    refine lv_iadd hx hb (hm (pc + 3, .iadd) (by simp)) ?_
    rw [nI_add]
    refine va_sld hx hb hX hbl (fun z => absurd z (by show ¬ s.heap.size ≤ b; omega)) hS (nI_in (by omega) (by omega)) (hm (pc + 4, .iaload) (by simp)) ?_
    rw [nI_clamp (by omega)]
    refine push_args hx hb hX hbl hl0 hl3 hL hi r (pc + 5) (fun q hq => hd q (List.mem_append_right _ hq)) (fun k' h' => hk k' (List.mem_cons_of_mem _ h')) H locs cells slots (.int (xs (i + k)) :: rest) Q hS ?_
    rw [show pc + 5 + 5 * r.length = pc + 5 * (k :: r).length by rw [List.length_cons]; omega]
    have e1 : ((k :: r).map (fun k => Value.int (xs (i + k)))).reverse ++ rest = (r.map (fun k => Value.int (xs (i + k)))).reverse ++ (Value.int (xs (i + k)) :: rest) := by simp
    rw [← e1]
    exact kk
theorem push_obj {ls : Array Slot} {A : Fin 4} {a : Nat} {j pc' : Nat} (hx : p.tables.exec = Jvm.exec) (hb : c.code = code) (hd : decode code pc = .ok (.aload_n A, 1)) (hA : (A : Nat) = j) (hl : ls[j]? = some (.val (.ref a))) (h : lwPush p l e s m args below meth c ls (pc + 1) pc' vs) : lwPush p l e s m args below meth c ls pc pc' (.ref a :: vs) := fun H locs cells slots rest Q hS kk => by
  refine lv_aload_n hx hb hd hA hl ?_
  refine h H locs cells slots (.ref a :: rest) Q hS ?_
  have e1 : (Value.ref a :: vs).reverse ++ rest = vs.reverse ++ (Value.ref a :: rest) := by simp
  rw [← e1]
  exact kk
/-- a call of the class, whichever way its contract is written -/
def lwCX (p : Program) (l : Launch) (e : Env) (s : State) (m : MethodId) (args : Array Value) (below : List Frame) (meth : Method) (c : Code) (D1 D2 : va_G) (cA cM : Nat → ClassId) (x mm pc : Nat) (vs : List Value) (pm : fx_MI → fx_MJ → fx_MR → Option Value → fx_MI → fx_MJ → fx_MR → Prop) : Prop :=
  ∀ (n : Nat) (al alM : Nat → Nat) (I : fx_MI) (J : fx_MJ) (bb : Bool) (Ir : fx_MI) (Jr : fx_MJ) (H : Heap) (locs : List Loc) (cells slots : Nat) (Q : State → Prop) (ls : Array Slot), lwW s D1 D2 cA cM x mm n al alM I J bb Ir Jr H locs cells slots → REL I J Ir → ls.size = 4 →
    (∀ (r' : Option Value) (n' : Nat) (al' : Nat → Nat) (I' : fx_MI) (J' : fx_MJ) (b' : Bool) (H1 : Heap) (locs1 : List Loc) (cells1 slots1 : Nat), lwW s D1 D2 cA cM x mm n' al' alM I' J' b' Ir Jr H1 locs1 cells1 slots1 → (∀ r2 Ir2 Jr2 Rr2, pm Ir Jr R0_M r2 Ir2 Jr2 Rr2 → Rr2 = R0_M ∧ r' = r2 ∧ REL I' J' Ir2) → W p l e room_1 s m args below meth c H1 locs1 cells1 slots1 Q (F0 m (pc + 3) ls ((r'.map (fx_v al')).toList))) →
    W p l e room_1 s m args below meth c H locs cells slots Q (F0 m pc ls (vs.reverse ++ [.ref x]))
theorem cX_M {pm : fx_MI → fx_MJ → fx_MR → Option Value → fx_MI → fx_MJ → fx_MR → Prop} {Pre : Nat → fx_Pre} {Post : Nat → fx_Post} (hX : lwX p s m args c D1 D2 cA cM) (hM : ∀ n, fx_Met l y ws0 rm0 (MC n) (Pre n) (Post n)) (hG : GoodIn lw_tbl (wsV R_law idx R_Out y ws0)) (hw : ws0 = Cond.code y bytes maxL ret :: ws0') (hr0 : rm0.cells = 0 ∧ rm0.slots = 0)
    (hd : y.cls = R_Out ∧ y.cls ≠ "java/lang/invoke/MethodHandle" ∧ y.cls ≠ "java/lang/invoke/VarHandle" ∧ (parseMethodDescriptor y.desc).map (fun d => d.parameters.length) = some k) (hR : rm0.frames + 1 ≤ room_1.frames ∧ 8 + (maxL + 11) + rm0.locals ≤ room_1.locals) (hrl : vs.length = k) (hv : ∀ al, vs.map (fx_v al) = vs) (hdg : decode code pc = .ok (.invokevirtual idx, 3))
    (hpre : ∀ n I J bb Ir, REL I J Ir → Pre n (.ref 0 :: vs) I J (R0C bb)) (hsim : ∀ n I J bb r I' J' R', Post n (.ref 0 :: vs) I J (R0C bb) r I' J' R' → simP pm I J r I' J' R') : lwCX p l e s m args below meth c D1 D2 cA cM x mm pc vs pm := by
  intro n al alM I J bb Ir Jr H locs cells slots Q ls hW hR0 hls kk
  obtain ⟨hP, hD, hPm, hDm, hap, hS, hSt, hn, hc, hs, e0, e1⟩ := hW
  refine la_M (M := MC n) (rest := []) (D := D1) (cA := cA) (al := al) (I := I) (J := J) (R := R0C bb) hX.1 hX.2.1 (MC_ok n) rfl rfl (hM n) hG hw hr0 hd hR hrl (hpre n I J bb Ir hR0) hP hD hS hls (Nat.zero_le _) hdg ⟨show cells ≤ 600000 by omega, show slots ≤ 7302250 by omega⟩ (by rw [hv, e0]) ?_
  intro r' I' J' R' H1 locs1 hp hP1 hD1 hS1 hkeep
  obtain ⟨⟨b', rfl⟩, hs2⟩ := hsim _ _ _ _ _ _ _ _ hp
  obtain ⟨hPm1, hap1⟩ := hkeep D2 MM.1 _ hPm hap
  rw [List.append_nil]
  exact kk r' n al I' J' b' H1 locs1 cells slots ⟨hP1, hD1, hPm1, hDm, hap1, hS1, hSt, hn, hc, hs, e0, e1⟩ (fun r2 Ir2 Jr2 Rr2 hpm => hs2 Ir hR0 Jr r2 Ir2 Jr2 Rr2 hpm)
theorem cX_S {pm : fx_MI → fx_MJ → fx_MR → Option Value → fx_MI → fx_MJ → fx_MR → Prop} {Pre : Nat → fx_Pre} {Post : Nat → fx_Post} (hX : lwX p s m args c D1 D2 cA cM) (hM : ∀ n, fx_MetS l y ws0 rm0 (MC n) (Pre n) (Post n)) (hG : GoodIn lw_tbl (wsV R_law idx R_Out y ws0)) (hw : ws0 = Cond.code y bytes maxL ret :: ws0') (hr0 : rm0.cells = 0 ∧ rm0.slots = 0)
    (hd : y.cls = R_Out ∧ y.cls ≠ "java/lang/invoke/MethodHandle" ∧ y.cls ≠ "java/lang/invoke/VarHandle" ∧ (parseMethodDescriptor y.desc).map (fun d => d.parameters.length) = some k) (hR : rm0.frames + 1 ≤ room_1.frames ∧ 8 + (maxL + 11) + rm0.locals ≤ room_1.locals) (hrl : vs.length = k) (hv : ∀ al, vs.map (fx_v al) = vs) (hdg : decode code pc = .ok (.invokevirtual idx, 3))
    (hpre : ∀ n I J bb Ir, REL I J Ir → Pre n (.ref 0 :: vs) I J (R0C bb)) (hsim : ∀ n I J bb r I' J' R', Post n (.ref 0 :: vs) I J (R0C bb) r I' J' R' → simP pm I J r I' J' R') : lwCX p l e s m args below meth c D1 D2 cA cM x mm pc vs pm := by
  intro n al alM I J bb Ir Jr H locs cells slots Q ls hW hR0 hls kk
  obtain ⟨hP, hD, hPm, hDm, hap, hS, hSt, hn, hc, hs, e0, e1⟩ := hW
  refine la_S (M := MC n) (rest := []) (D := D1) (cA := cA) (al := al) (I := I) (J := J) (R := R0C bb) hX.1 hX.2.1 (MC_ok n) rfl rfl (hM n) hG hw hr0 hd hR hrl (hpre n I J bb Ir hR0) hSt hP hD hS hls (Nat.zero_le _) hdg ⟨show cells ≤ 600000 by omega, show slots ≤ 7302250 by omega⟩ (by rw [hv, e0]) ?_
  intro r' I' J' R' H1 locs1 hp hP1 hD1 hS1 hkeep
  obtain ⟨⟨b', rfl⟩, hs2⟩ := hsim _ _ _ _ _ _ _ _ hp
  obtain ⟨hPm1, hap1⟩ := hkeep D2 MM.1 _ hPm hap
  rw [List.append_nil]
  exact kk r' n al I' J' b' H1 locs1 cells slots ⟨hP1, hD1, hPm1, hDm, hap1, hS1, hSt, hn, hc, hs, e0, e1⟩ (fun r2 Ir2 Jr2 Rr2 hpm => hs2 Ir hR0 Jr r2 Ir2 Jr2 Rr2 hpm)
theorem cX_G {pm : fx_MI → fx_MJ → fx_MR → Option Value → fx_MI → fx_MJ → fx_MR → Prop} {Pre : Nat → fx_Pre} {Post : Nat → List Value → fx_MI → fx_MJ → fx_MR → Nat → Option Value → fx_MI → fx_MJ → fx_MR → Prop} (hX : lwX p s m args c D1 D2 cA cM) (hM : fx_MetG l y ws0 rm0 Pre Post) (hG : GoodIn lw_tbl (wsV R_law idx R_Out y ws0)) (hw : ws0 = Cond.code y bytes maxL ret :: ws0') (hr0 : rm0.cells = 1 ∧ rm0.slots = 2343752)
    (hd : y.cls = R_Out ∧ y.cls ≠ "java/lang/invoke/MethodHandle" ∧ y.cls ≠ "java/lang/invoke/VarHandle" ∧ (parseMethodDescriptor y.desc).map (fun d => d.parameters.length) = some k) (hR : rm0.frames + 1 ≤ room_1.frames ∧ 8 + (maxL + 11) + rm0.locals ≤ room_1.locals) (hrl : vs.length = k) (hv : ∀ al, vs.map (fx_v al) = vs) (hdg : decode code pc = .ok (.invokevirtual idx, 3))
    (hpre : ∀ n I J bb Ir, n ≤ 2343752 → REL I J Ir → Pre n (.ref 0 :: vs) I J (R0C bb)) (hsim : ∀ n n' I J bb r I' J' R', Post n (.ref 0 :: vs) I J (R0C bb) n' r I' J' R' → simP pm I J r I' J' R') : lwCX p l e s m args below meth c D1 D2 cA cM x mm pc vs pm := by
  intro n al alM I J bb Ir Jr H locs cells slots Q ls hW hR0 hls kk
  obtain ⟨hP, hD, hPm, hDm, hap, hS, hSt, hn, hc, hs, e0, e1⟩ := hW
  refine la_G (n := n) (rest := []) (D := D1) (cA := cA) (al := al) (I := I) (J := J) (R := R0C bb) hX.1 hX.2.1 rfl hM hG hw hr0 hd hR hrl (hpre n I J bb Ir hn.2 hR0) hP hD hS hls (Nat.zero_le _) hdg ⟨show cells + 1 ≤ 600000 by omega, show slots + 2343752 ≤ 7302250 by omega⟩ (by rw [hv, e0]) ?_
  intro r' I' J' R' n' al' kc ks H1 locs1 hp hP1 hD1 hS1 hkeep hal hg
  obtain ⟨⟨b', rfl⟩, hs2⟩ := hsim _ _ _ _ _ _ _ _ _ hp
  obtain ⟨hPm1, hap1⟩ := hkeep D2 MM.1 _ hPm hap
  unfold gwN at hg
  rw [List.append_nil]
  exact kk r' n' al' I' J' b' H1 locs1 (cells + kc) (slots + ks) ⟨hP1, hD1, hPm1, hDm, hap1, hS1, hSt.mvA (hal 140 (by decide)) (hal 141 (by decide)), by omega, by omega, by omega, by rw [hal 0 (by decide)]; exact e0, e1⟩ (fun r2 Ir2 Jr2 Rr2 hpm => hs2 Ir hR0 Jr r2 Ir2 Jr2 Rr2 hpm)
/-- the law's two calls, and the answers alike -/
theorem la_pair {pm : fx_MI → fx_MJ → fx_MR → Option Value → fx_MI → fx_MJ → fx_MR → Prop} {Pre : fx_Pre} {Post : fx_Post} {pc0 pcC pcM : Nat} {ls : Array Slot} {Q : State → Prop} {Sh : Value → Prop} (hX : lwX p s m args c D1 D2 cA cM) (hCX : lwCX p l e s m args below meth c D1 D2 cA cM x mm pcC vs pm) (hM : fx_Met l y ws0 rm0 MM Pre Post) (hG : GoodIn lw_tbl (wsV R_law idx R_M y ws0)) (hw : ws0 = Cond.code y bytes maxL ret :: ws0') (hr0 : rm0.cells = 0 ∧ rm0.slots = 0)
    (hd : y.cls = R_M ∧ y.cls ≠ "java/lang/invoke/MethodHandle" ∧ y.cls ≠ "java/lang/invoke/VarHandle" ∧ (parseMethodDescriptor y.desc).map (fun d => d.parameters.length) = some k) (hR : rm0.frames + 1 ≤ room_1.frames ∧ 8 + (maxL + 11) + rm0.locals ≤ room_1.locals) (hrl : vs.length = k) (hv : ∀ al, vs.map (fx_v al) = vs) (hdg : decode code pcM = .ok (.invokevirtual idx, 3))
    (hpre : ∀ I J Ir Jr, REL I J Ir → Pre (.ref 0 :: vs) Ir Jr R0_M) (hpost : ∀ Ir Jr r2 Ir2 Jr2 Rr2, Post (.ref 0 :: vs) Ir Jr R0_M r2 Ir2 Jr2 Rr2 → pm Ir Jr R0_M r2 Ir2 Jr2 Rr2 ∧ ∃ z, r2 = some z ∧ Sh z) (hSh : ∀ z, Sh z → ∀ al, fx_v al z = z)
    (hpC : lwPush p l e s m args below meth c ls pc0 pcC (.ref x :: vs)) (hpM : lwPush p l e s m args below meth c ls (pcC + 3) pcM (.ref mm :: vs))
    (tail : ∀ (H : Heap) (locs : List Loc) (cells slots : Nat) (z : Value), Sh z → W p l e room_1 s m args below meth c H locs cells slots Q (F0 m 837 ls []) → W p l e room_1 s m args below meth c H locs cells slots Q (F0 m (pcM + 3) ls [z, z]))
    (K : ∀ (n : Nat) (al alM : Nat → Nat) (I : fx_MI) (J : fx_MJ) (bb : Bool) (Ir : fx_MI) (Jr : fx_MJ) (H : Heap) (locs : List Loc) (cells slots : Nat), lwW s D1 D2 cA cM x mm n al alM I J bb Ir Jr H locs cells slots → REL I J Ir → W p l e room_1 s m args below meth c H locs cells slots Q (F0 m 837 ls [])) (hls : ls.size = 4)
    {n : Nat} {al alM : Nat → Nat} {I : fx_MI} {J : fx_MJ} {bb : Bool} {Ir : fx_MI} {Jr : fx_MJ} {H : Heap} {locs : List Loc} {cells slots : Nat} (hW : lwW s D1 D2 cA cM x mm n al alM I J bb Ir Jr H locs cells slots) (hR0 : REL I J Ir) : W p l e room_1 s m args below meth c H locs cells slots Q (F0 m pc0 ls []) := by
  refine hpC H locs cells slots [] Q hW.2.2.2.2.2.1 ?_
  rw [List.append_nil, List.reverse_cons]
  refine hCX n al alM I J bb Ir Jr H locs cells slots Q ls hW hR0 hls ?_
  intro r' n' al' I' J' b' H1 locs1 cells1 slots1 hW1 hs
  refine hpM H1 locs1 cells1 slots1 _ Q hW1.2.2.2.2.2.1 ?_
  obtain ⟨hP, hD, hPm, hDm, hap, hS, hSt, hn, hc, hsl, e0, e1⟩ := hW1
  refine la_M (M := MM) (rest := (r'.map (fx_v al')).toList) (D := D2) (cA := cM) (al := alM) (I := Ir) (J := Jr) (R := R0_M) hX.1 hX.2.2 MM_ok rfl rfl hM hG hw hr0 hd hR hrl (hpre I J Ir Jr hR0) hPm hDm hS hls (cat_o _ _) hdg ⟨show cells1 ≤ 600000 by omega, show slots1 ≤ 7302250 by omega⟩ (by rw [hv, e1, List.reverse_cons, List.append_assoc]; rfl) ?_
  intro r2 Ir2 Jr2 Rr2 H2 locs2 hp hPm2 hDm2 hS2 hkeep
  obtain ⟨hpm, z, rfl, hz⟩ := hpost _ _ _ _ _ _ hp
  obtain ⟨rfl, rfl, hrel⟩ := hs _ _ _ _ hpm
  obtain ⟨hP2, hap2⟩ := hkeep D1 (MC n').1 _ hP (ap_sym hap)
  have ez : ((some z).map (fx_v alM)).toList ++ ((some z).map (fx_v al')).toList = [z, z] := by
    show [fx_v alM z, fx_v al' z] = [z, z]
    rw [hSh z hz, hSh z hz]
  rw [ez]
  exact tail H2 locs2 cells1 slots1 z hz (K n' al' alM I' J' b' Ir2 Jr2 H2 locs2 cells1 slots1 ⟨hP2, hD, hPm2, hDm2, ap_sym hap2, hS2, hSt, hn, hc, hsl, e0, e1⟩ hrel)
end LP_
