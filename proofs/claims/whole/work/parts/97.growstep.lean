/-! a new dead table is made; a growing method is called (own work) -/
section GS
variable {p : Program} {l : Launch} {e : Env} {rm : Room} {s : State} {m : MethodId} {args : Array Value} {below : List Frame} {meth : Method} {c : Code} {n0 n : Nat} {D : va_G} {cA : Nat → ClassId} {al0 al : Nat → Nat} {A : Nat → Prop} {Post : Nat → Option Value → fx_MI → fx_MJ → fx_MR → Prop} {nL kc ks : Nat} {ws : List Cond} {cc : ByteArray} {ret : Option FieldType}
theorem fx_growW {n' idx pc : Nat} {L : List (Option Value)} {st : List Value} {I : fx_MI} {J : fx_MJ} {b : Bool} (hC : fx_Cx R_Search ws cc nL ret p s m args meth c) (hK : va_K D (MC n).1 (fx_ty (MC n) cA) s) (hA : ∀ q : Nat, s.heap.size ≤ q → A q) (hkk : kc + 1 ≤ rm.cells ∧ ks + n' ≤ rm.slots)
    (harr : Cond.arrayClass .long ∈ ws) (hin : ∀ w ∈ u_ws R_Search T_Search 16, w ∈ ws) (hlink : Cond.fieldLink R_Search idx R_Search (T_Search 5).2.1 (T_Search 5).2.2.1 ∈ ws) (hd1 : decode cc pc = .ok (.newarray .long, 2)) (hd2 : decode cc (pc + 2) = .ok (.putfield idx, 3)) (hn' : n' ≤ 2343752)
    (hL : ∀ h, fx_as (alN al h) L 0 = fx_as al L 0) (hst : ∀ h, st.map (fx_v (alN al h)) = st.map (fx_v al))
    (kk : ∀ h, fx_WG p l e rm s m args below meth c n0 D cA al0 A Post nL n' (alN al h) (kc + 1) (ks + n') (pc + 5) L st I (JoN J) (R0C b)) :
    fx_WG p l e rm s m args below meth c n0 D cA al0 A Post nL n al kc ks pc L (.int (nI n') :: .ref 117 :: st) I J (R0C b) := by
  intro H locs ls hl hP hD hS
  obtain ⟨hx, hb, hml, hown, hts, hr, hlocks, hN⟩ := hC
  refine va_newa (atype := .long) hx hb (hts _ harr) (ty := .long) rfl hK hP hD hS hA (n := nI n') (N' := n') (a0 := (n', .inr (.inl (fun _ => 0)))) (fun _ => rfl) (by rw [show (0 : Int32) = nI 0 from rfl, nI_ltI (by omega) (by omega)]; omega) (by exact nv_nI (by omega)) (by show n' * 8 ≤ 536870912; omega) hkk.1 hkk.2 hd1 ?_
  intro h cA' H1 hK1 hP1 hD1 hS1
  have hcA : cA' = cA 1 := by
    have h1 := (hK1.2 4 (cA', .long) rfl).2
    have h2 := (hK1.2 1 (cA 1, .long) rfl).2
    have h1' : s.vm.findClass ("[" ++ FieldType.long.toString) = some cA' := h1
    have h2' : s.vm.findClass ("[" ++ FieldType.long.toString) = some (cA 1) := h2
    exact Option.some.inj (h1'.symm.trans h2')
  subst hcA
  have hlen : (fx_w (MC n) cA al I J (R0C b)).length = 140 := fx_w_len
  refine va_put hx hb hts hin ty_Search tyok_Search nm_Search hown hK hP1 hD1 hS1 117 (by rw [List.getElem?_append_left (by omega), fx_w_at (show 117 < 140 by decide)]; rfl) rfl 5 (by decide) (hts _ hlink) (fun x hx => hx) rfl (ty := .array .long) rfl (v := .ref h) rfl rfl (by unfold fx_o; rw [List.length_map, List.length_range]; exact (show 5 < 16 by decide)) hd2 ?_
  intro H2 locs2 hP2 hD2 hS2
  obtain ⟨hP3, hD3⟩ := P_N (n := n) (n' := n') (h := h) (cA := cA) (al := al) (I := I) (J := J) (b := b) hP2 hD2
  have hl2 : fx_LH (alN al h) ls nL L := by
    unfold fx_LH at hl ⊢
    rw [hL h]
    exact hl
  have := kk h H2 locs2 ls hl2 hP3 hD3 hS2
  rw [hst h] at this
  exact this
/-- behind a call of a growing method -/
theorem fx_callxG {H : Heap} {locs : List Loc} {Q : State → Prop} {pc : Nat} {ls : Array Slot} {rest st0 : List Value} {a : Array Value} {A1 : Nat → Prop} {H0 : Heap} {free : Addr → Prop} {PostC : Nat → Option Value → fx_MI → fx_MJ → fx_MR → Prop} {cells slots mc ms : Nat}
    (hr : va_Run p l e rm s m args below meth c H locs cells slots mc ms (F0 m pc ls st0) rest (fx_QG n D cA al A1 PostC a) free) (hS : va_S A H0 H locs) (hA : ∀ q, q < H.size → A1 q → A q) (hf : ∀ q, free q → A q)
    (kk : ∀ r I' J' R' n' al' kc ks (H1 : Heap) (locs1 : List Loc), PostC n' r I' J' R' → va_P D (MC n').1 (fx_w (MC n') cA al' I' J' R') H1 → va_D A1 (fx_w (MC n') cA al' I' J' R') → (∀ q, q ≠ 120 → al' q = al q) → gwN n n' kc ks → va_S A H0 H1 locs1 → W p l e rm s m args below meth c H1 locs1 (cells + kc) (slots + ks) Q (F0 m (pc + 3) ls ((r.map (fx_v al')).toList ++ rest))) : W p l e rm s m args below meth c H locs cells slots Q (F0 m pc ls st0) := by
  intro T hT X
  obtain ⟨v, st₀, t, T', L, h0, X', hL, e1, e2, ⟨⟨r, I', J', R', n', al', kc, ks, L', hv, hp, hP1, hK1, hD1, hal, hg, hFE⟩, hz, hk⟩, st⟩ := hr T hT X
  cases hv
  have X2 := X_tight X X' (h0.trans hT.symm) e1 hFE
  rw [h0] at hz hk
  obtain ⟨t2, a1, b1⟩ := kk r I' J' R' n' al' kc ks T'.heap (locs ++ L) hp (by rw [e1]; exact hP1) hD1 hal hg
    ⟨Nat.le_trans hS.1 (by rw [e1]; exact hz), fun q h1 h2 => by rw [e1, hk q (Nat.lt_of_lt_of_le h1 hS.1) (fun z => h2 (hA q (Nat.lt_of_lt_of_le h1 hS.1) z))]; exact hS.2.1 q h1 h2, fun q hq => by
      rcases List.mem_append.mp hq with h | h
      · exact hS.2.2 q h
      · exact hf _ (hL q h)⟩ T' rfl X2
  exact ⟨t2, st t2 a1, b1⟩
/-- a growing method called, before anything has grown -/
theorem fx_callVG {own C : String} {ws0 ws0' : List Cond} {rm0 : Room} {y : MethodName} {bytes : ByteArray} {maxL ci idx k pc q : Nat} {ret0 : Option FieldType} {T : u_T} {N : Nat} {Pre : Nat → fx_Pre} {PostC : Nat → List Value → fx_MI → fx_MJ → fx_MR → Nat → Option Value → fx_MI → fx_MJ → fx_MR → Prop} {L : List (Option Value)} {as rest : List Value} {I : fx_MI} {J : fx_MJ} {R : fx_MR}
    (hC : fx_Cx own ws cc nL ret p s m args meth c) (hK : va_K D (MC n).1 (fx_ty (MC n) cA) s) (hA : ∀ q : Nat, s.heap.size ≤ q → A q)
    (hcl : (MC n).1[ci]? = some (C, T, N)) (hM : fx_MetG l y ws0 rm0 Pre PostC) (hG : GoodIn ws (wsV own idx C y ws0)) (hw : ws0 = Cond.code y bytes maxL ret0 :: ws0') (hr0 : rm0.cells = 1 ∧ rm0.slots = 2343752)
    (hd : y.cls = C ∧ y.cls ≠ "java/lang/invoke/MethodHandle" ∧ y.cls ≠ "java/lang/invoke/VarHandle" ∧ (parseMethodDescriptor y.desc).map (fun d => d.parameters.length) = some k) (hR : rm0.frames + 1 ≤ rm.frames ∧ 8 + (maxL + 11) + rm0.locals ≤ rm.locals) (hkk : 1 ≤ rm.cells ∧ 2343752 ≤ rm.slots)
    (hdg : decode cc pc = .ok (.invokevirtual idx, 3)) (hpre : Pre n (.ref q :: as) I J R) (hq : (MC n).2.2.1 q = some (.inl ci)) (hk : as.length = k) (hcat : fx_cat rest ≤ 8)
    (hL : ∀ al', (∀ q, q ≠ 120 → al' q = al q) → fx_as al' L 0 = fx_as al L 0 ∧ rest.map (fx_v al') = rest.map (fx_v al))
    (kk : ∀ r I' J' R' n' al' kc' ks', PostC n (.ref q :: as) I J R n' r I' J' R' → (∀ q, q ≠ 120 → al' q = al q) → gwN n n' kc' ks' → fx_WG p l e rm s m args below meth c n0 D cA al0 A Post nL n' al' kc' ks' (pc + 3) L (r.toList ++ rest) I' J' R') :
    fx_WG p l e rm s m args below meth c n0 D cA al0 A Post nL n al 0 0 pc L (as.reverse ++ .ref q :: rest) I J R := by
  intro H locs ls hl hP hD hS
  obtain ⟨hx, hb, hml, hown, hts, hr, hlocks, hN⟩ := hC
  have hq2 := (MC_ok n).1 _ _ hq
  have hm := hM n D cA al _ I J R H.size hpre
  have hrv := va_recv hK hP hcl (by rw [fx_w_at hq2, fx_e, hq])
  have hst : (as.reverse ++ .ref q :: rest).map (fx_v al) = (as.map (fx_v al)).reverse ++ .ref (al q) :: rest.map (fx_v al) := by
    rw [List.map_append, List.map_cons, List.map_reverse]
    rfl
  have hpc : ∀ U : State, U.heap = H → s.WarmedH U.vm → fx_Pc (MC n) D cA al (.ref q :: as) I J R H.size (Value.ref (al q) :: as.map (fx_v al)).toArray U := by
    intro U hU hW
    refine ⟨rfl, by rw [hU], by rw [hU]; exact hP, va_K.moved hW.alike hK, hD.weaken (fun _ _ _ _ => trivial), hN.warm hW⟩
  have hrun := va_runV (e := e) (meth := meth) (below := below) (As := as.map (fx_v al)) (rest := rest.map (fx_v al)) (g := F0 m pc ls ((as.reverse ++ .ref q :: rest).map (fx_v al))) (cells := 0) (slots := 0) (locs := locs) ⟨hx, hb, hml, hown, hts⟩ hm (cwV k hts hG hw hr0.1 hr0.2 hd hR) ⟨fx_blind, hrv, hpc⟩ rfl (by rw [List.length_map, hk]) hl.1 hst (lv_room (by rw [fx_cat_map]; exact hcat)) hdg ⟨by omega, by omega⟩
  refine fx_callxG hrun hS (fun q' _ h => fx_A_in hD hS hA q' h) (fun q' h => fx_A_in hD hS hA q' h) ?_
  intro r I' J' R' n' al' kc' ks' H1 locs1 hp1 hP1 hD1 hal hg hS1
  obtain ⟨e1, e2⟩ := hL al' hal
  have hl2 : fx_LH al' ls nL L := by
    unfold fx_LH at hl ⊢
    rw [e1]
    exact hl
  have h9 := kk r I' J' R' n' al' kc' ks' hp1 hal hg H1 locs1 ls hl2 hP1 (hD1.weaken (fun _ q' _ h => fx_A_in hD hS hA q'.1 h)) hS1
  rw [List.map_append, e2] at h9
  rw [Nat.zero_add, Nat.zero_add]
  cases r <;> exact h9
end GS
