/-! contracts in the law's world that may make rows (own work) -/
def lx_Met (l : Launch) (y : MethodName) (ws : List Cond) (rm : Room) (mc ms : Nat) (Pre : fx_Pre) (Post : fx_Post) : Prop :=
  ∀ (D : va_G) (cA : Nat → ClassId) (al : Nat → Nat) (st : List Value) (I : fx_MI) (J : fx_MJ) (R : fx_MR) (sz : Nat), Pre st I J R → Met l y ws rm (fx_Pc (MX 0) D cA al st I J R sz) (fx_Qc (MX 0) D cA al (va_A (fx_w (MX 0) cA al I J R) sz) (Post st I J R)) mc ms (va_A (fx_w (MX 0) cA al I J R) sz)
theorem lx_met {l : Launch} {y : MethodName} {ws ws' : List Cond} {rm : Room} {mc ms : Nat} {Pre : fx_Pre} {Post : fx_Post} {ret : Option FieldType} {nL : Nat} {cc : ByteArray} (hy : plainName y.cls = true) (hw : ws = Cond.code y cc nL ret :: ws')
    (h : ∀ st I J R, Pre st I J R → fx_sz st ≤ nL ∧ ∀ p e s m args below meth c D cA al A, A = va_A (fx_w (MX 0) cA al I J R) s.heap.size → fx_Cx y.cls ws cc nL ret p s m args meth c → va_K D (MX 0).1 (fx_ty (MX 0) cA) s → fx_W p l e rm s m args below meth c (MQ below (fx_Qc (MX 0) D cA al A (Post st I J R)) args s mc ms A) D A s.heap (MX 0) cA al nL 0 0 0 (fx_en st) [] I J R) : lx_Met l y ws rm mc ms Pre Post := by
  intro D cA al st I J R sz hPre
  obtain ⟨h1, h2⟩ := h st I J R hPre
  refine Met.ofW (cc := cc) (maxL := nL) (ret := ret) hy hw ?_
  intro p e s m args below meth c s₁ B hml hv
  obtain ⟨rfl, hsz, hP, hK, hD0, hN⟩ := hv
  have hts := atoms_spec (ws := ws) B.pre
  have hown : s.vm.findClass y.cls = some m.cls := findClass_of_methodNamed B.named
  subst hsz
  have hD := hD0.self (sz := s.heap.size)
  have hl := lv_entry (st.map (fx_v al)) (n := nL) (by rw [fx_sz_sl]; exact h1)
  rw [lg_entry_eq]
  refine h2 p e s m _ below meth c D cA al _ rfl ⟨B.exec, B.bytes, hml, hown, hts, B.returns, B.notSynchronized, hN⟩ hK s.heap [] _ ?_ hP hD va_S.rf
  unfold fx_LH
  rw [fx_en_as]
  exact hl
section LXM
variable {p : Program} {l : Launch} {e : Env} {rm : Room} {s : State} {m : MethodId} {args : Array Value} {below : List Frame} {meth : Method} {c : Code} {D : va_G} {cA : Nat → ClassId} {al : Nat → Nat} {A : Nat → Prop} {Post : Option Value → fx_MI → fx_MJ → fx_MR → Prop} {nL kc ks mc ms : Nat} {own : String} {ws : List Cond} {cc : ByteArray} {ret : Option FieldType} {ev : fx_Env} {pr : fx_Pr}
/-- a body's runs are closed under steps -/
theorem lx_cl (hC : fx_Cx own ws cc nL ret p s m args meth c) (hK : va_K D (MX 0).1 (fx_ty (MX 0) cA) s) (hev : fx_EV l own ws rm (MX 0) nL cc ev) (hpr : fx_prOK cc pr) (hA : ∀ q : Nat, s.heap.size ≤ q → A q) (hkk : kc ≤ rm.cells ∧ ks ≤ rm.slots) (hm : kc ≤ mc ∧ ks ≤ ms) :
    fx_cl nL (MX 0) ev ret Post pr (fx_W p l e rm s m args below meth c (MQ below (fx_Qc (MX 0) D cA al A Post) args s mc ms A) D A s.heap (MX 0) cA al nL kc ks) := by
  obtain ⟨hx, hb, hml, hown, hts, hr, hlocks, hN⟩ := hC
  refine fx_W_cl (Qd := fx_Qc (MX 0) D cA al A Post) (MX_ok 0) (MX_tys 0) hx hb hr hlocks hK ?_ ?_ (fun ins t ht => hev ins t ht p e s m args below meth c _ D A s.heap cA al kc ks hx hb hml hown hts hK hN hA hkk) hpr
  · intro H locs I' J' R' r hp hP' hD' hS t ht hW
    exact ⟨⟨r, I', J', R', rfl, hp, by rw [ht]; exact hP', va_K.moved hW.alike hK, hD'⟩, hS.F ht⟩
  · intro t ht
    exact MQ_more hm.1 hm.2 (fun o t L h1 _ => h1) ht
/-- a static method of the law called, that may make rows -/
theorem lx_callS {y : MethodName} {ws0 ws0' : List Cond} {rm0 : Room} {mc0 ms0 idx k maxL pc : Nat} {bytes : ByteArray} {ret0 : Option FieldType} {Pre : fx_Pre} {PostC : fx_Post} {Q : State → Prop} {L : List (Option Value)} {as rest : List Value} {I : fx_MI} {J : fx_MJ} {R : fx_MR} (hC : fx_Cx own ws cc nL ret p s m args meth c) (hK : va_K D (MX 0).1 (fx_ty (MX 0) cA) s) (hA : ∀ q : Nat, s.heap.size ≤ q → A q) (hM : lx_Met l y ws0 rm0 mc0 ms0 Pre PostC) (hG : GoodIn ws (va_wsS own idx y ws0)) (hw : ws0 = Cond.code y bytes maxL ret0 :: ws0') (hr0 : rm0.cells = mc0 ∧ rm0.slots = ms0)
    (hd : y.cls ≠ "java/lang/invoke/MethodHandle" ∧ y.cls ≠ "java/lang/invoke/VarHandle" ∧ (parseMethodDescriptor y.desc).map (fun d => d.parameters.length) = some k) (hR : rm0.frames + 1 ≤ rm.frames ∧ 8 + (maxL + 11) + rm0.locals ≤ rm.locals) (hkk : kc + mc0 ≤ rm.cells ∧ ks + ms0 ≤ rm.slots) (hdg : decode cc pc = .ok (.invokestatic idx, 3)) (hpre : Pre as I J R) (hk : as.length = k) (hcat : fx_cat rest ≤ 8)
    (kk : ∀ r I' J' R', PostC as I J R r I' J' R' → fx_W p l e rm s m args below meth c Q D A s.heap (MX 0) cA al nL (kc + mc0) (ks + ms0) (pc + 3) L (r.toList ++ rest) I' J' R') :
    fx_W p l e rm s m args below meth c Q D A s.heap (MX 0) cA al nL kc ks pc L (as.reverse ++ rest) I J R := by
  intro H locs ls hl hP hD hS
  obtain ⟨hx, hb, hml, hown, hts, hr, hlocks, hN⟩ := hC
  have hm := hM D cA al _ I J R H.size hpre
  have hst : (as.reverse ++ rest).map (fx_v al) = (as.map (fx_v al)).reverse ++ rest.map (fx_v al) := by
    rw [List.map_append, List.map_reverse]
  have hpc : ∀ U : State, U.heap = H → s.WarmedH U.vm → fx_Pc (MX 0) D cA al as I J R H.size (as.map (fx_v al)).toArray U := by
    intro U hU hW
    exact ⟨rfl, by rw [hU], by rw [hU]; exact hP, va_K.moved hW.alike hK, hD.weaken (fun _ _ _ _ => trivial), hN.warm hW⟩
  have hrun := va_runS (e := e) (meth := meth) (below := below) (As := as.map (fx_v al)) (rest := rest.map (fx_v al)) (g := F0 m pc ls ((as.reverse ++ rest).map (fx_v al))) (cells := kc) (slots := ks) (locs := locs) ⟨hx, hb, hml, hown, hts⟩ hm (va_cwS k hts hG hw hr0.1 hr0.2 hd hR) ⟨fx_blind, hpc⟩ rfl (by rw [List.length_map, hk]) hl.1 hst (lv_room (by rw [fx_cat_map]; exact hcat)) hdg hkk
  have hF : ∀ q', va_A (fx_w (MX 0) cA al I J R) H.size q' → A q' := fun q' h => fx_A_in hD hS hA q' h
  intro T hT X
  obtain ⟨v, st₀, t, T', L', h0, X', hL, f1, f2, ⟨⟨r', I', J', R', hv, hp1, hP1, hK1, hD1⟩, hz, hk'⟩, stp⟩ := hrun T hT X
  cases hv
  rw [h0] at hz hk'
  have h9 := kk r' I' J' R' hp1 T'.heap (locs ++ L') ls hl (by rw [f1]; exact hP1) (fx_w_D hD hD1)
    ⟨Nat.le_trans hS.1 (by rw [f1]; exact hz), fun q' g1 g2 => by rw [f1, hk' q' (Nat.lt_of_lt_of_le g1 hS.1) (fun z => g2 (hF q' z))]; exact hS.2.1 q' g1 g2, fun q' hq' => by
      rcases List.mem_append.mp hq' with h | h
      · exact hS.2.2 q' h
      · exact hF _ (hL q' h)⟩
  rw [List.map_append] at h9
  have h10 : W p l e rm s m args below meth c T'.heap (locs ++ L') (kc + mc0) (ks + ms0) Q (F0 m (pc + 3) ls ((r'.map (fx_v al)).toList ++ rest.map (fx_v al))) := by cases r' <;> exact h9
  obtain ⟨t2, a1, b1⟩ := h10 T' rfl X'
  exact ⟨t2, stp t2 a1, b1⟩
end LXM
/-! two rows more (own work) -/
def zrI (a b : Nat) (I : fx_MI) : fx_MI := fun q => if q = a ∨ q = b then (fun _ => 0) else I q
theorem pl_X_01 {q : Nat} (h : q < 142) : (MX 1).2.2.1 q = (MX 0).2.2.1 q := by
  by_cases h1 : q < 140
  · rw [pl_X_lo h1, pl_X_lo h1]
  · rcases (show q = 140 ∨ q = 141 by omega) with rfl | rfl <;> rfl
section NX_
variable {cA : Nat → ClassId} {al al' : Nat → Nat} {I I' : fx_MI} {J J' : fx_MJ} {b : Bool} {q h1 h2 : Nat}
theorem R0C_al (hal : ∀ q, q < 140 → al' q = al q) : ∀ j, (R0C b q j).map al' = (R0C b q j).map al := fun j => by
  cases e : R0C b q j with
  | none => rfl
  | some x =>
    show some (al' x) = some (al x)
    rw [hal x (R0C_ran e)]
theorem fe_01 (hq : q < 142) (hal : ∀ q, q < 140 → al' q = al q) (hI : I' q = I q) (hJ : J' q = J q) : fx_e (MX 1) cA al' I' J' (R0C b) q = fx_e (MX 0) cA al I J (R0C b) q := by
  have e1 : fx_e (MX 1) cA al' I' J' (R0C b) q = fx_e (MX 0) cA al' I' J' (R0C b) q := by
    have e : (MX 1).2.2.1 q = (MX 0).2.2.1 q := pl_X_01 hq
    have ho : ∀ ci k, fx_o (MX 1) al' I' J' (R0C b) ci k = fx_o (MX 0) al' I' J' (R0C b) ci k := fun ci k => by
      have e1 : (MX 1).1 = (MC 256).1 := rfl
      have e2 : (MX 0).1 = (MC 256).1 := rfl
      have e3 : (MX 1).2.1 = (MC 256).2.1 := rfl
      have e4 : (MX 0).2.1 = (MC 256).2.1 := rfl
      unfold fx_o fx_nf
      rw [e1, e2, e3, e4]
    unfold fx_e
    rw [e]
    split
    · rw [ho]
    · rfl
    · rfl
  rw [e1, fe_c (R := R0C b) (al := al) (R0C_al hal)]
  exact fe_row hI hJ rfl
theorem fe_C0 (hq : q < 140) (hal : ∀ q, q < 140 → al' q = al q) (hI : I' q = I q) (hJ : J' q = J q) : fx_e (MX 0) cA al' I' J' (R0C b) q = fx_e (MC 256) cA al I J (R0C b) q := by
  rw [fe_X hq, fe_c (R := R0C b) (al := al) (R0C_al hal)]
  exact fe_row hI hJ rfl
theorem w_01 : fx_w (MX 0) cA al I J (R0C b) ++ [((h1, Sum.inl (cA 0, (6, .inl (fun _ => 0)))) : Nat × va_E)] ++ [((h2, Sum.inl (cA 0, (6, .inl (fun _ => 0)))) : Nat × va_E)] = fx_w (MX 1) cA (exA (exA al 142 h1) 143 h2) (zrI 142 143 I) J (R0C b) := by
  have hlen : (fx_w (MX 0) cA al I J (R0C b)).length = 142 := fx_w_len
  have hal : ∀ q, q < 140 → exA (exA al 142 h1) 143 h2 q = al q := fun q hq => by
    unfold exA
    rw [if_neg (by omega), if_neg (by omega)]
  apply List.ext_getElem?
  intro i
  by_cases hi : i < 142
  · rw [List.append_assoc, List.getElem?_append_left (by omega), fx_w_at (show i < (MX 0).2.2.2.1 from hi), fx_w_at (show i < (MX 1).2.2.2.1 from Nat.lt_of_lt_of_le hi (by decide)), fe_01 (al := al) (I := I) (J := J) hi hal (by unfold zrI; rw [if_neg (by omega)]) rfl]
    have e : exA (exA al 142 h1) 143 h2 i = al i := by
      unfold exA
      rw [if_neg (by omega), if_neg (by omega)]
    rw [e]
  · by_cases h3 : i = 142
    · subst h3
      rw [List.append_assoc, List.getElem?_append_right (by omega), hlen, fx_w_at (show 142 < (MX 1).2.2.2.1 by decide)]
      rfl
    · by_cases h4 : i = 143
      · subst h4
        rw [List.append_assoc, List.getElem?_append_right (by omega), hlen, fx_w_at (show 143 < (MX 1).2.2.2.1 by decide)]
        rfl
      · rw [List.getElem?_eq_none (by rw [List.length_append, List.length_append, hlen]; show 142 + 1 + 1 ≤ i; omega), List.getElem?_eq_none (by rw [fx_w_len]; show 144 ≤ i; omega)]
theorem w_C0 : fx_w (MC 256) cA al I J (R0C b) ++ [((h1, Sum.inl (cA 0, (64, .inl (fun _ => 0)))) : Nat × va_E)] ++ [((h2, Sum.inl (cA 0, (64, .inl (fun _ => 0)))) : Nat × va_E)] = fx_w (MX 0) cA (exA (exA al 140 h1) 141 h2) (zrI 140 141 I) J (R0C b) := by
  have hlen : (fx_w (MC 256) cA al I J (R0C b)).length = 140 := fx_w_len
  have hal : ∀ q, q < 140 → exA (exA al 140 h1) 141 h2 q = al q := fun q hq => by
    unfold exA
    rw [if_neg (by omega), if_neg (by omega)]
  apply List.ext_getElem?
  intro i
  by_cases hi : i < 140
  · rw [List.append_assoc, List.getElem?_append_left (by omega), fx_w_at (show i < (MC 256).2.2.2.1 from hi), fx_w_at (show i < (MX 0).2.2.2.1 from Nat.lt_of_lt_of_le hi (by decide)), fe_C0 (al := al) (I := I) (J := J) hi hal (by unfold zrI; rw [if_neg (by omega)]) rfl, hal i hi]
  · by_cases h3 : i = 140
    · subst h3
      rw [List.append_assoc, List.getElem?_append_right (by omega), hlen, fx_w_at (show 140 < (MX 0).2.2.2.1 by decide)]
      rfl
    · by_cases h4 : i = 141
      · subst h4
        rw [List.append_assoc, List.getElem?_append_right (by omega), hlen, fx_w_at (show 141 < (MX 0).2.2.2.1 by decide)]
        rfl
      · rw [List.getElem?_eq_none (by rw [List.length_append, List.length_append, hlen]; show 140 + 1 + 1 ≤ i; omega), List.getElem?_eq_none (by rw [fx_w_len]; show 142 ≤ i; omega)]
/-- the rows forgotten again -/
theorem w_10 {D : va_G} {cl : List vw_C} {A : Nat → Prop} {H : Heap} (hal : ∀ q, q < 142 → al' q = al q) (hP : va_P D cl (fx_w (MX 1) cA al' I J (R0C b)) H) (hD : va_D A (fx_w (MX 1) cA al' I J (R0C b))) : va_P D cl (fx_w (MX 0) cA al I J (R0C b)) H ∧ va_D A (fx_w (MX 0) cA al I J (R0C b)) := by
  have hs : (List.range 142).map (fun i => (fx_w (MX 1) cA al' I J (R0C b))[i]?) = (fx_w (MX 0) cA al I J (R0C b)).map some := by
    have e : fx_w (MX 0) cA al I J (R0C b) = (List.range 142).map (fun k => (al k, fx_e (MX 0) cA al I J (R0C b) k)) := rfl
    rw [e, List.map_map]
    refine List.map_congr_left fun i hi => ?_
    have hi := List.mem_range.mp hi
    rw [fx_w_at (show i < (MX 1).2.2.2.1 from Nat.lt_of_lt_of_le hi (by decide)), fe_01 (al := al) (I := I) (J := J) hi (fun q hq => hal q (by omega)) rfl rfl, hal i hi]
    rfl
  exact ⟨hP.sub (List.range 142) (fm_of _ _ _ hs), hD.sub (List.range 142) (by decide +kernel) hs⟩
end NX_
