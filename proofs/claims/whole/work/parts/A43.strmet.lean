/-! contracts of methods that meet the two words, at the pseudo-places 140 and 141 (own work) -/
def fx_St (al : Nat → Nat) (A : Nat → Prop) (U : State) (H : Heap) : Prop := (∃ adV, sx_St (fun i => al (140 + i)) adV A U H) ∧ vk_R R_ClueText 57 "any" (al 140) U ∧ vk_R R_ClueText 63 "none" (al 141) U
section FT_
variable {al : Nat → Nat} {A B : Nat → Prop} {s u U : State} {H H1 : Heap}
theorem fx_St.warm (hW : s.WarmedH U.vm) (h : fx_St al A s H) : fx_St al A U H := by
  obtain ⟨⟨adV, h1⟩, h2, h3⟩ := h
  exact ⟨⟨adV, h1.moved hW.alike⟩, h2.warm hW, h3.warm hW⟩
theorem fx_St.same (hv : U.vm = u.vm) (h : fx_St al A u H) : fx_St al A U H := by
  obtain ⟨⟨adV, h1⟩, h2, h3⟩ := h
  exact ⟨⟨adV, h1.moved (by rw [hv]; exact Vm.Alike.refl _)⟩, h2.same hv, h3.same hv⟩
theorem fx_St.kept (h : fx_St al A U H) (hq : ∀ a : Nat, a < H.size → ¬ A a → H1[a]? = H[a]?) : fx_St al A U H1 := by
  obtain ⟨⟨adV, h1⟩, h2⟩ := h
  exact ⟨⟨adV, h1.kept hq⟩, h2⟩
theorem fx_St.narrow (h : fx_St al A U H) (hAB : ∀ q, B q → A q) : fx_St al B U H := by
  obtain ⟨⟨adV, h1⟩, h2⟩ := h
  exact ⟨⟨adV, h1.narrow hAB⟩, h2⟩
theorem fx_St.mvA {al' : Nat → Nat} (h : fx_St al A U H) (e0 : al' 140 = al 140) (e1 : al' 141 = al 141) : fx_St al' A U H := by
  obtain ⟨⟨adV, h1, h4, h5⟩, h2, h3⟩ := h
  have e : ∀ i, i < 2 → al' (140 + i) = al (140 + i) := fun i hi => by
    rcases (show i = 0 ∨ i = 1 by omega) with rfl | rfl
    · exact e0
    · exact e1
  refine ⟨⟨adV, ⟨fun i hi => ?_, fun i j hi hj he => ?_⟩, h4, h5⟩, by rw [e0]; exact h2, by rw [e1]; exact h3⟩
  · have := h1.1 i hi
    dsimp only at this ⊢
    rw [← e i hi] at this
    exact this
  · dsimp only at he
    rw [e i hi, e j hj] at he
    exact h1.2 i j hi hj he
end FT_
def fx_PcS (M : fx_M) (D : va_G) (cA : Nat → ClassId) (al : Nat → Nat) (st : List Value) (I : fx_MI) (J : fx_MJ) (R : fx_MR) (sz : Nat) : Array Value → State → Prop := fun a U => fx_Pc M D cA al st I J R sz a U ∧ fx_St al (va_A (fx_w M cA al I J R) sz) U U.heap
def fx_MetS (l : Launch) (y : MethodName) (ws : List Cond) (rm : Room) (M : fx_M) (Pre : fx_Pre) (Post : fx_Post) : Prop :=
  ∀ (D : va_G) (cA : Nat → ClassId) (al : Nat → Nat) (st : List Value) (I : fx_MI) (J : fx_MJ) (R : fx_MR) (sz : Nat), Pre st I J R → Met l y ws rm (fx_PcS M D cA al st I J R sz) (fx_Qc M D cA al (va_A (fx_w M cA al I J R) sz) (Post st I J R)) 0 0 (va_A (fx_w M cA al I J R) sz)
def fx_E1S (l : Launch) (own : String) (ws : List Cond) (rm : Room) (M : fx_M) (nL : Nat) (cc : ByteArray) (ins : Instr) (t : fx_T) : Prop :=
  ∀ (p : Program) (e : Env) (s : State) (m : MethodId) (args : Array Value) (below : List Frame) (meth : Method) (c : Code) (Qc : State → Prop) (D : va_G) (A : Nat → Prop) (cA : Nat → ClassId) (al : Nat → Nat) (kc ks : Nat),
    p.tables.exec = Jvm.exec → c.code = cc → c.maxLocals = nL → s.vm.findClass own = some m.cls → (∀ w ∈ ws, w.before args s = true) → va_K D M.1 (fx_ty M cA) s → fx_Nw s → (∀ q : Nat, s.heap.size ≤ q → A q) → (kc ≤ rm.cells ∧ ks ≤ rm.slots) → fx_St al A s s.heap → fx_TOK cc p l e rm s m args below meth c Qc D A s.heap M cA al nL kc ks ins t
def fx_EVS (l : Launch) (own : String) (ws : List Cond) (rm : Room) (M : fx_M) (nL : Nat) (cc : ByteArray) (ev : fx_Env) : Prop := ∀ ins t, fx_lk ev ins = some t → fx_E1S l own ws rm M nL cc ins t
section FS_
variable {l : Launch} {Rm : Room} {M : fx_M} {nL : Nat} {cc : ByteArray} {own : String} {ws : List Cond}
theorem fx_E1.S {ins : Instr} {t : fx_T} (h : fx_E1 l own ws Rm M nL cc ins t) : fx_E1S l own ws Rm M nL cc ins t :=
  fun p e s m args below meth c Qc D A cA al kc ks hx hb hml hown hts hK hN hA hkk _ => h p e s m args below meth c Qc D A s.heap cA al kc ks hx hb hml hown hts hK hN hA hkk
theorem fx_EVS_nil : fx_EVS l own ws Rm M nL cc [] := fun ins t h => by cases h
theorem fx_EVS_cons {i : Instr} {t : fx_T} {ev : fx_Env} (h1 : fx_E1S l own ws Rm M nL cc i t) (h2 : fx_EVS l own ws Rm M nL cc ev) : fx_EVS l own ws Rm M nL cc ((i, t) :: ev) := by
  intro ins t' h
  unfold fx_lk at h
  split at h
  · rename_i hi
    cases h
    rw [← hi]
    exact h1
  · exact h2 ins t' h
theorem fx_blindS {D : va_G} {cA : Nat → ClassId} {al : Nat → Nat} {st : List Value} {I : fx_MI} {J : fx_MJ} {R : fx_MR} {sz : Nat} : FrameBlind (fx_PcS M D cA al st I J R sz) := by
  intro a U g mk q
  exact ⟨fx_blind a U g mk q.1, fx_St.same (u := U) (U := U.calling g mk a) rfl q.2⟩
/-- the contract of such a method out of its run -/
theorem fx_metS {y : MethodName} {ws' : List Cond} {Pre : fx_Pre} {Post : fx_Post} {ret : Option FieldType} {pr : fx_Pr} {ev : fx_Env} (hM : fx_ok M) (hTy : fx_tys M) (hy : plainName y.cls = true) (hw : ws = Cond.code y cc nL ret :: ws') (hpr : fx_prOK cc pr) (hev : fx_EVS l y.cls ws Rm M nL cc ev)
    (h : ∀ st I J R, Pre st I J R → fx_sz st ≤ nL ∧ fx_R nL M ev ret (Post st I J R) pr 0 (fx_en st) [] I J R) : fx_MetS l y ws Rm M Pre Post := by
  intro D cA al st I J R sz hPre
  obtain ⟨h1, h2⟩ := h st I J R hPre
  refine Met.ofW (cc := cc) (maxL := nL) (ret := ret) hy hw ?_
  intro p e s m args below meth c s₁ B hml hv
  obtain ⟨⟨rfl, hsz, hP, hK, hD0, hN⟩, hSt⟩ := hv
  have hts := atoms_spec (ws := ws) B.pre
  have hown : s.vm.findClass y.cls = some m.cls := findClass_of_methodNamed B.named
  subst hsz
  have hD := hD0.self (sz := s.heap.size)
  have hl := lv_entry (st.map (fx_v al)) (n := nL) (by rw [fx_sz_sl]; exact h1)
  rw [lg_entry_eq]
  refine fx_R_sound hM hTy B.exec B.bytes B.returns B.notSynchronized hK ?_ (fun _ z => z) (fun ins t ht => hev ins t ht p e s m _ below meth c _ D _ cA al 0 0 B.exec B.bytes hml hown hts hK hN (fun q hq => Or.inr hq) ⟨Nat.zero_le _, Nat.zero_le _⟩ hSt) hpr h2 s.heap [] _ ?_ hP hD va_S.rf
  · intro H locs I' J' R' r hp hP' hD' hS t ht hW
    exact ⟨⟨r, I', J', R', rfl, hp, by rw [ht]; exact hP', va_K.moved hW.alike hK, hD'⟩, hS.F ht⟩
  · unfold fx_LH
    rw [fx_en_as]
    exact hl
theorem fx_callVS {C : String} {ws0 ws0' : List Cond} {rm0 : Room} {y : MethodName} {bytes : ByteArray} {maxL ci idx n : Nat} {ret : Option FieldType} {T : u_T} {N : Nat} {Pre : fx_Pre} {Post : fx_Post} (hC : M.1[ci]? = some (C, T, N)) (hM : fx_MetS l y ws0 rm0 M Pre Post) (hG : GoodIn ws (wsV own idx C y ws0)) (hw : ws0 = Cond.code y bytes maxL ret :: ws0') (hr0 : rm0.cells = 0 ∧ rm0.slots = 0)
    (hd : y.cls = C ∧ y.cls ≠ "java/lang/invoke/MethodHandle" ∧ y.cls ≠ "java/lang/invoke/VarHandle" ∧ (parseMethodDescriptor y.desc).map (fun d => d.parameters.length) = some n) (hR : rm0.frames + 1 ≤ Rm.frames ∧ 8 + (maxL + 11) + rm0.locals ≤ Rm.locals)
    (hp : ∀ st I J R, Pre st I J R → ∃ q r, st = .ref q :: r ∧ M.2.2.1 q = some (.inl ci) ∧ r.length = n) (hok : fx_ok M) : fx_E1S l own ws Rm M nL cc (.invokevirtual idx) (fx_tcall (n + 1) Pre Post) := by
  intro p e s m args below meth c Qc D A cA al kc ks hx hb hml hown hts hK hN hA hkk hSt pc L st I J R k hdg ht hk H locs ls hl hP hD hS
  obtain ⟨h1, h2, h3, h4⟩ := ht
  obtain ⟨q, r, e1, e2, e3⟩ := hp _ _ _ _ h3
  have hq := hok.1 _ _ e2
  have hm := hM D cA al _ I J R H.size h3
  have hrv := va_recv hK hP hC (by rw [fx_w_at hq, fx_e, e2])
  have hst : st.map (fx_v al) = (r.map (fx_v al)).reverse ++ .ref (al q) :: (st.drop (n + 1)).map (fx_v al) := fx_rev_take (fx_v al) e1
  have hSt1 : fx_St al (va_A (fx_w M cA al I J R) H.size) s H := (hSt.kept hS.2.1).narrow (fun q' h => fx_A_in hD hS hA q' h)
  have hpc : ∀ U : State, U.heap = H → s.WarmedH U.vm → fx_PcS M D cA al (st.take (n + 1)).reverse I J R H.size (Value.ref (al q) :: r.map (fx_v al)).toArray U := by
    intro U hU hW
    refine ⟨⟨by rw [e1]; rfl, by rw [hU], by rw [hU]; exact hP, va_K.moved hW.alike hK, hD.weaken (fun _ _ _ _ => trivial), hN.warm hW⟩, by rw [hU]; exact hSt1.warm hW⟩
  have hrun := va_runV (e := e) (meth := meth) (below := below) (As := r.map (fx_v al)) (rest := (st.drop (n + 1)).map (fx_v al)) (g := F0 m pc ls (st.map (fx_v al))) (cells := kc) (slots := ks) (locs := locs) ⟨hx, hb, hml, hown, hts⟩ hm (cwV n hts hG hw hr0.1 hr0.2 hd hR) ⟨fx_blindS, hrv, hpc⟩ rfl (by rw [List.length_map, e3]) hl.1 hst (lv_room (by rw [fx_cat_map]; exact h2)) hdg hkk
  refine fx_callx hrun hS (fun q' _ h => fx_A_in hD hS hA q' h) (fun q' h => fx_A_in hD hS hA q' h) ?_
  intro r' I' J' R' H1 locs1 hp1 hP1 hD1 hS1
  have h9 := hk _ _ _ _ (h4 r' I' J' R' hp1) H1 locs1 ls hl hP1 (fx_w_D hD hD1) hS1
  rw [List.map_append] at h9
  cases r' <;> exact h9
end FS_
/-! the words' own instructions: the constants, their lengths, their letters -/
def wdQ (q : Nat) : Prop := 140 ≤ q ∧ q < 142
def wdX (q : Nat) : Nat := q - 140
def fx_tslen : fx_T := fun st I J R k => match st with
  | .ref q :: r => wdQ q ∧ fx_cat r ≤ 8 ∧ k (.int (nI (sx_len.getD (wdX q) 0)) :: r) I J R
  | _ => False
def fx_tchar : fx_T := fun st I J R k => match st with
  | .int x :: .ref q :: r => wdQ q ∧ (∃ j, j < sx_len.getD (wdX q) 0 ∧ x = nI j) ∧ fx_cat r ≤ 8 ∧ k (.int (sx_ch (wdX q) (nv x)) :: r) I J R
  | _ => False
section SI_
variable {l : Launch} {c0 : Cond} {rm : Room} {n nL : Nat} {cc : ByteArray}
theorem e_sx_140 : fx_E1S l R_ClueText (c0 :: w_C) rm (MC n) nL cc (.ldc 57) (fx_tldc (.ref 140)) := by
  intro p e s m args below meth c Qc D A cA al kc ks hx hb hml hown hts hK hN hA hkk hSt pc L st I J R k hdg ht hk H locs ls hl hP hD hS
  exact va_ldcS hx hb hown hSt.2.1 hdg (hk _ _ _ _ ht H locs ls hl hP hD hS)
theorem e_sx_141 : fx_E1S l R_ClueText (c0 :: w_C) rm (MC n) nL cc (.ldc 63) (fx_tldc (.ref 141)) := by
  intro p e s m args below meth c Qc D A cA al kc ks hx hb hml hown hts hK hN hA hkk hSt pc L st I J R k hdg ht hk H locs ls hl hP hD hS
  exact va_ldcS hx hb hown hSt.2.2 hdg (hk _ _ _ _ ht H locs ls hl hP hD hS)
theorem e_sx_length (hR : 2 ≤ rm.frames ∧ 40 ≤ rm.locals) : fx_E1S l R_ClueText (c0 :: w_C) rm (MC n) nL cc (.invokevirtual 84) fx_tslen := by
  intro p e s m args below meth c Qc D A cA al kc ks hx hb hml hown hts hK hN hA hkk hSt pc L st I J R k hdg ht hk H locs ls hl hP hD hS
  unfold fx_tslen at ht
  split at ht
  · rename_i q r
    obtain ⟨h0, h3, h4⟩ := ht
    obtain ⟨adV, hq⟩ := ((hSt.kept hS.2.1).narrow (B := fun _ => False) (fun q' h => h.elim)).1
    have e0 : 140 + wdX q = q := by unfold wdX; unfold wdQ at h0; omega
    have e : al (140 + wdX q) = al q := by rw [e0]
    have hi : wdX q < 2 := by unfold wdX; unfold wdQ at h0; omega
    have hq' : sx_St (fun i => al (140 + i)) adV (fun _ => False) s H := hq
    have hrv2 : ∃ cell : Cell, H[al q]? = some cell ∧ cell.vm.isStatics = false ∧ s.vm.findClass R_J0 = some cell.cls := by
      obtain ⟨cell, g1, g2, g3, -⟩ := (hq'.1.1 (wdX q) hi).1
      exact ⟨cell, by rw [← e]; exact g1, g2, g3⟩
    have hm : Met l y_J0_length_8abf5 ws_J0_length { frames := 1, cells := 0, slots := 0, locals := 20 } (sx_Pc [.ref (al q)] (fun i => al (140 + i)) adV) (vp_Si (fun r => r = nI (sx_len.getD (wdX q) 0))) 0 0 (fun _ => False) := by
      rw [← e]
      exact c_J0_length l (ad := fun i => al (140 + i)) (adV := adV) hi
    refine vp_callSi (va_runV (As := []) (rest := r.map (fx_v al)) ⟨hx, hb, hml, hown, hts⟩ hm (cwV 0 hts (w_C_G (w_C_h4 31 rfl) (w_C_h4 32 rfl) (w_C_h4 33 rfl) (w_C_h4 34 rfl) (w_C_h4 35 rfl)) rfl rfl rfl (by decide +kernel) ⟨hR.1, hR.2⟩) ⟨sx_blind, hrv2, fun U hU hW => ⟨rfl, by show sx_St (fun i => al (140 + i)) adV (fun _ => False) U U.heap; rw [hU]; exact sx_St.moved hW.alike hq'⟩⟩ rfl rfl hl.1 rfl (lv_room (by rw [fx_cat_map]; exact h3)) hdg hkk).run (fun r0 hr0 => ?_)
    subst hr0
    exact hk _ _ _ _ h4 H locs ls hl hP hD hS
  · cases ht
theorem e_sx_charAt (hR : 4 ≤ rm.frames ∧ 85 ≤ rm.locals) : fx_E1S l R_ClueText (c0 :: w_C) rm (MC n) nL cc (.invokevirtual 88) fx_tchar := by
  intro p e s m args below meth c Qc D A cA al kc ks hx hb hml hown hts hK hN hA hkk hSt pc L st I J R k hdg ht hk H locs ls hl hP hD hS
  unfold fx_tchar at ht
  split at ht
  · rename_i x q r
    obtain ⟨h0, ⟨j, hj, rfl⟩, h3, h4⟩ := ht
    obtain ⟨adV, hq⟩ := ((hSt.kept hS.2.1).narrow (B := fun _ => False) (fun q' h => h.elim)).1
    have e0 : 140 + wdX q = q := by unfold wdX; unfold wdQ at h0; omega
    have e : al (140 + wdX q) = al q := by rw [e0]
    have hi : wdX q < 2 := by unfold wdX; unfold wdQ at h0; omega
    have hq' : sx_St (fun i => al (140 + i)) adV (fun _ => False) s H := hq
    have hrv2 : ∃ cell : Cell, H[al q]? = some cell ∧ cell.vm.isStatics = false ∧ s.vm.findClass R_J0 = some cell.cls := by
      obtain ⟨cell, g1, g2, g3, -⟩ := (hq'.1.1 (wdX q) hi).1
      exact ⟨cell, by rw [← e]; exact g1, g2, g3⟩
    have hm : Met l y_J0_charAt_5068e ws_J0_charAt { frames := 3, cells := 0, slots := 0, locals := 64 } (sx_Pc [.ref (al q), .int (nI j)] (fun i => al (140 + i)) adV) (vp_Si (fun r => r = sx_ch (wdX q) j)) 0 0 (fun _ => False) := by
      rw [← e]
      exact c_J0_charAt l (ad := fun i => al (140 + i)) (adV := adV) hi hj
    have hj4 := sx_l4 hi
    refine vp_callSi (va_runV (As := [.int (nI j)]) (rest := r.map (fx_v al)) ⟨hx, hb, hml, hown, hts⟩ hm (cwV 1 hts (w_C_G (w_C_h4 43 rfl) (w_C_h4 44 rfl) (w_C_h4 45 rfl) (w_C_h4 34 rfl) (w_C_h4 46 rfl)) rfl rfl rfl (by decide +kernel) ⟨hR.1, hR.2⟩) ⟨sx_blind, hrv2, fun U hU hW => ⟨rfl, by show sx_St (fun i => al (140 + i)) adV (fun _ => False) U U.heap; rw [hU]; exact sx_St.moved hW.alike hq'⟩⟩ rfl rfl hl.1 rfl (lv_room (by rw [fx_cat_map]; exact h3)) hdg hkk).run (fun r0 hr0 => ?_)
    rw [hr0]
    rw [nv_nI (by omega)] at h4
    exact hk _ _ _ _ h4 H locs ls hl hP hD hS
  · cases ht
end SI_
