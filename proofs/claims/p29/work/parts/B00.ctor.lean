/-! constructors: the world grows place by place (own work) -/
def zI : fx_MI := fun _ _ => 0
def zJ : fx_MJ := fun _ _ => 0
def mR (mk : Nat → Nat → Bool) : fx_MR := fun q j => if mk q j then R0C false q j else none
def mk0 : Nat → Nat → Bool := fun _ _ => false
def mk1 : Nat → Nat → Bool := fun _ _ => true
def mkS (a : Nat) (S : List Nat) (K : Nat) : Nat → Nat → Bool := fun q j => if q = a then S.contains j else decide (q < a + K)
def exA (al : Nat → Nat) (p h : Nat) : Nat → Nat := fun q => if q = p then h else al q
def kW (cA : Nat → ClassId) (al : Nat → Nat) (mk : Nat → Nat → Bool) (a k : Nat) : va_W := (List.range k).map (fun i => (al (a + i), fx_e (MC 256) cA al zI zJ (mR mk) (a + i)))
def clo (mk : Nat → Nat → Bool) (a k : Nat) : Prop := ∀ i, i < k → ∀ j x, mR mk (a + i) j = some x → x < a + k
theorem fe_c {M : fx_M} {cA : Nat → ClassId} {al al' : Nat → Nat} {I : fx_MI} {J : fx_MJ} {R R' : fx_MR} {q : Nat} (h : ∀ j, (R' q j).map al' = (R q j).map al) : fx_e M cA al' I J R' q = fx_e M cA al I J R q := by
  have hv : ∀ kd j, fx_v al' (fx_fv I J R' kd q j) = fx_v al (fx_fv I J R kd q j) := by
    intro kd j
    match kd with
    | 0 => rfl
    | 1 => rfl
    | kd + 2 =>
      show fx_v al' (va_rf (R' q j)) = fx_v al (va_rf (R q j))
      have := h j
      cases e1 : R' q j with
      | none =>
        cases e2 : R q j with
        | none => rfl
        | some y => rw [e1, e2] at this; cases this
      | some x =>
        cases e2 : R q j with
        | none => rw [e1, e2] at this; cases this
        | some y =>
          rw [e1, e2] at this
          have h3 : al' x = al y := Option.some.inj this
          show Value.ref (al' x) = .ref (al y)
          rw [h3]
  unfold fx_e
  split
  · unfold fx_o
    simp only [hv]
  · unfold fx_a
    split
    · rfl
    · rfl
    · rfl
    · simp only [h]
  · rfl
theorem R0C_lt {b : Bool} {q j x : Nat} (h : R0C b q j = some x) : q < 140 ∧ j < 20 := by
  unfold R0C at h
  split at h
  · rename_i h1
    omega
  · split at h
    · rename_i h1
      omega
    · have hl : ∀ q, q < 140 → ((fx_nth rfL q).map List.length).getD 0 ≤ 20 := by decide +kernel
      have hn : rfL.length ≤ 140 := by decide +kernel
      cases e : fx_nth rfL q with
      | none => rw [e] at h; cases h
      | some l =>
        have hq := fx_nth_lt e
        cases e2 : fx_nth l j with
        | none => rw [e] at h; simp [e2] at h
        | some y =>
          have hj := fx_nth_lt e2
          have hl2 := hl q (by omega)
          rw [e] at hl2
          exact ⟨by omega, Nat.lt_of_lt_of_le hj hl2⟩
theorem clo_of {mk : Nat → Nat → Bool} {a k : Nat} (h : ((List.range k).all fun i => (List.range 20).all fun j => match mR mk (a + i) j with | some x => decide (x < a + k) | none => true) = true) : clo mk a k := by
  intro i hi j x hx
  have h1 := List.all_eq_true.mp h i (List.mem_range.mpr hi)
  have hj : j < 20 := by
    unfold mR at hx
    split at hx
    · exact (R0C_lt hx).2
    · cases hx
  have h2 := List.all_eq_true.mp h1 j (List.mem_range.mpr hj)
  rw [hx] at h2
  exact of_decide_eq_true h2
section KW_
variable {cA : Nat → ClassId} {al al' : Nat → Nat} {mk mk' : Nat → Nat → Bool} {a k m h : Nat}
theorem kW_at {i : Nat} (h : i < k) : (kW cA al mk a k)[i]? = some (al (a + i), fx_e (MC 256) cA al zI zJ (mR mk) (a + i)) := by
  simp [kW, List.getElem?_map, List.getElem?_range h]
theorem kW_len : (kW cA al mk a k).length = k := by simp [kW]
theorem kW_app : kW cA al mk a k ++ kW cA al mk (a + k) m = kW cA al mk a (k + m) := by
  apply List.ext_getElem?
  intro i
  by_cases h1 : i < k
  · rw [List.getElem?_append_left (by rw [kW_len]; exact h1), kW_at h1, kW_at (by omega)]
  · rw [List.getElem?_append_right (by rw [kW_len]; omega), kW_len]
    by_cases h2 : i < k + m
    · rw [kW_at (by omega), kW_at h2, show a + k + (i - k) = a + i by omega]
    · rw [List.getElem?_eq_none (by rw [kW_len]; omega), List.getElem?_eq_none (by rw [kW_len]; omega)]
theorem kW_cong (h : ∀ i, i < k → al' (a + i) = al (a + i) ∧ ∀ j, (mR mk' (a + i) j).map al' = (mR mk (a + i) j).map al) : kW cA al' mk' a k = kW cA al mk a k := by
  unfold kW
  refine List.map_congr_left fun i hi => ?_
  obtain ⟨h1, h2⟩ := h i (List.mem_range.mp hi)
  rw [h1, fe_c h2]
theorem mR_c (h : ∀ q, a ≤ q → q < a + k → ∀ j, mk' q j = mk q j) {i : Nat} (hi : i < k) (j : Nat) : mR mk' (a + i) j = mR mk (a + i) j := by
  unfold mR
  rw [h (a + i) (by omega) (by omega) j]
theorem kW_al (hc : clo mk a k) (hk : ∀ q, a ≤ q → q < a + k → ∀ j, mk' q j = mk q j) (ha : ∀ q, q < a + k → al' q = al q) : kW cA al' mk' a k = kW cA al mk a k := kW_cong fun i hi => ⟨ha _ (by omega), fun j => by
  rw [mR_c hk hi]
  cases e : mR mk (a + i) j with
  | none => rfl
  | some x =>
    show some (al' x) = some (al x)
    rw [ha x (hc i hi j x e)]⟩
theorem kW_ext (hc : clo mk a k) (hk : ∀ q, a ≤ q → q < a + k → ∀ j, mk' q j = mk q j) : kW cA (exA al (a + k) h) mk' a k = kW cA al mk a k := kW_al hc hk fun q hq => if_neg (by omega)
theorem kW_one {b : Nat} : kW cA al mk b 1 = [(al b, fx_e (MC 256) cA al zI zJ (mR mk) b)] := rfl
theorem kW_put {ci j x N : Nat} {C : String} {T : u_T} (hC : (MC 256).1[ci]? = some (C, T, N)) (hpl : (MC 256).2.2.1 a = some (.inl ci)) (h0 : 0 < k) (hj : j < N) (hkd : (MC 256).2.1 ci j = 2) (hx : mR mk' a j = some x) (ho : ∀ j', j' ≠ j → mk' a j' = mk a j') (hk : ∀ q, a < q → q < a + k → ∀ j, mk' q j = mk q j) :
    (kW cA al mk a k).set 0 (al a, .inr (ci, (fx_o (MC 256) al zI zJ (mR mk) ci a).set j (.ref (al x)))) = kW cA al mk' a k := by
  apply List.ext_getElem?
  intro i
  rw [List.getElem?_set]
  by_cases hi : i < k
  · rw [kW_at (mk := mk') hi]
    by_cases h : 0 = i
    · subst h
      rw [if_pos rfl, if_pos (by rw [kW_len]; exact h0)]
      show some (al a, _) = some (al a, fx_e (MC 256) cA al zI zJ (mR mk') a)
      unfold fx_e
      rw [hpl]
      have hv : fx_fv zI zJ (mR mk') ((MC 256).2.1 ci j) a j = .ref x := by
        rw [hkd]
        show va_rf (mR mk' a j) = _
        rw [hx]
        rfl
      have := fx_o_set (M := MC 256) (al := al) (I := zI) (I' := zI) (J := zJ) (J' := zJ) (R := mR mk) (R' := mR mk') (ci := ci) (k := a) hC hj hv (fun j' hj' => by
        have e : mR mk' a j' = mR mk a j' := by
          unfold mR
          rw [ho j' hj']
        unfold fx_fv
        split
        · rfl
        · rfl
        · rw [e])
      show _ = some (al a, Sum.inr (ci, fx_o (MC 256) al zI zJ (mR mk') ci a))
      rw [this]
      rfl
    · rw [if_neg h, kW_at (mk := mk) hi]
      have : fx_e (MC 256) cA al zI zJ (mR mk') (a + i) = fx_e (MC 256) cA al zI zJ (mR mk) (a + i) := fe_c fun j' => by
        unfold mR
        rw [hk (a + i) (by omega) (by omega) j']
      rw [this]
  · rw [List.getElem?_eq_none (l := kW cA al mk' a k) (by rw [kW_len]; omega), List.getElem?_eq_none (l := kW cA al mk a k) (by rw [kW_len]; omega), if_neg (by omega)]
theorem kW_zero {ci b : Nat} (hpl : (MC 256).2.2.1 b = some (.inl ci)) (h0 : ∀ j, mR mk b j = none) : kW cA al mk b 1 = [(al b, .inr (ci, (List.range (fx_nf (MC 256) ci)).map (fun j => match (MC 256).2.1 ci j with | 0 => Value.int 0 | 1 => Value.long 0 | _ => Value.null)))] := by
  have e : fx_e (MC 256) cA al zI zJ (mR mk) b = .inr (ci, fx_o (MC 256) al zI zJ (mR mk) ci b) := by
    unfold fx_e
    rw [hpl]
  have e2 : fx_o (MC 256) al zI zJ (mR mk) ci b = (List.range (fx_nf (MC 256) ci)).map (fun j => match (MC 256).2.1 ci j with | 0 => Value.int 0 | 1 => Value.long 0 | _ => Value.null) := by
    unfold fx_o
    refine List.map_congr_left fun j _ => ?_
    generalize (MC 256).2.1 ci j = kd
    match kd with
    | 0 => rfl
    | 1 => rfl
    | kd + 2 =>
      show fx_v al (va_rf (mR mk b j)) = .null
      rw [h0]
      rfl
  rw [kW_one, e, e2]
end KW_
def kPc (D : va_G) (cA : Nat → ClassId) (al : Nat → Nat) (a : Nat) (xs : List Nat) (sz : Nat) : Array Value → State → Prop :=
  va_Pc (.ref (al a) :: xs.map (fun x => Value.ref (al x))) (fun U => U.heap.size = sz ∧ va_P D (MC 256).1 (kW cA al mk0 a 1) U.heap ∧ va_K D (MC 256).1 (fx_ty (MC 256) cA) U ∧ va_D (fun _ => True) (kW cA al mk0 a 1) ∧ fx_Nw U ∧ va_AO R_Situation U)
def kQc (D : va_G) (cA : Nat → ClassId) (al : Nat → Nat) (a len : Nat) (A : Nat → Prop) : Array Value → State → Outcome → State → Prop := fun _ st0 oc t =>
  (oc = .returned none ∧ ∃ al', (∀ q, q ≤ a ∨ a + len ≤ q → al' q = al q) ∧ va_P D (MC 256).1 (kW cA al' mk1 a len) t.heap ∧ va_K D (MC 256).1 (fx_ty (MC 256) cA) t ∧ va_D A (kW cA al' mk1 a len)) ∧ va_F A st0 t
def kMet (l : Launch) (y : MethodName) (ws : List Cond) (rm : Room) (a len : Nat) (xs : List Nat) (mc ms : Nat) : Prop :=
  ∀ (D : va_G) (cA : Nat → ClassId) (al : Nat → Nat) (sz : Nat), Met l y ws rm (kPc D cA al a xs sz) (kQc D cA al a len (va_A (kW cA al mk0 a 1) sz)) mc ms (va_A (kW cA al mk0 a 1) sz)
theorem k_blind {D : va_G} {cA : Nat → ClassId} {al : Nat → Nat} {a sz : Nat} {xs : List Nat} : FrameBlind (kPc D cA al a xs sz) := by
  intro a U g mk q
  obtain ⟨q0, q1, qP, qK, qD, qN, qO⟩ := q
  exact ⟨q0, q1, qP, va_K.moved (u := U) (U := U.calling g mk a) (Vm.Alike.refl U.vm) qK, qD, qN.same rfl, va_AO.moved (u := U) (U := U.calling g mk a) (Vm.Alike.refl U.vm) qO⟩
/-- where a constructor's body stands -/
def kCx (own : String) (ws : List Cond) (cc : ByteArray) (nL : Nat) (p : Program) (s : State) (m : MethodId) (args : Array Value) (meth : Method) (c : Code) (D : va_G) (cA : Nat → ClassId) (A : Nat → Prop) : Prop :=
  fx_Cx own ws cc nL none p s m args meth c ∧ meth.name = "<init>" ∧ va_AO R_Situation s ∧ va_K D (MC 256).1 (fx_ty (MC 256) cA) s ∧ ∀ q : Nat, s.heap.size ≤ q → A q
theorem kmet {l : Launch} {y : MethodName} {ws ws' : List Cond} {rm : Room} {a len mc ms nL : Nat} {xs : List Nat} {cc : ByteArray} (hy : plainName y.cls = true) (hin : y.name = "<init>") (hw : ws = Cond.code y cc nL none :: ws') (hxs : 1 + xs.length ≤ nL)
    (h : ∀ p e s m args below meth c D cA al A ls, kCx y.cls ws cc nL p s m args meth c D cA A → va_P D (MC 256).1 (kW cA al mk0 a 1) s.heap → va_D A (kW cA al mk0 a 1) → lv_has ls nL (lv_args 0 (.ref (al a) :: xs.map (fun x => Value.ref (al x)))) → W p l e rm s m args below meth c s.heap [] 0 0 (MQ below (kQc D cA al a len A) args s mc ms A) (F0 m 0 ls [])) : kMet l y ws rm a len xs mc ms := by
  intro D cA al sz
  refine Met.ofW (cc := cc) (maxL := nL) (ret := none) hy hw ?_
  intro p e s m args below meth c s₁ B hml hv
  obtain ⟨rfl, hsz, hP, hK, hD0, hN, hO⟩ := hv
  have hts := atoms_spec (ws := ws) B.pre
  have hown : s.vm.findClass y.cls = some m.cls := findClass_of_methodNamed B.named
  have hnm : meth.name = "<init>" := (name_of_methodNamed B.named B.method).1.trans hin
  subst hsz
  have hD := hD0.self (sz := s.heap.size)
  have hlen : (lg_sl (.ref (al a) :: xs.map (fun x => Value.ref (al x)))).length ≤ nL := by
    have : ∀ ys : List Nat, (lg_sl (ys.map (fun x => Value.ref (al x)))).length = ys.length := by
      intro ys
      induction ys with
      | nil => rfl
      | cons z zs ih =>
        show _ = zs.length + 1
        rw [← ih]
        unfold lg_sl
        rw [List.map_cons, List.flatMap_cons, List.length_append, if_neg (show ¬ (Value.ref (al z)).category = 2 by simp [Value.category]), Nat.add_comm]
        rfl
    have h2 := this (a :: xs)
    have h3 : (lg_sl (.ref (al a) :: xs.map (fun x => Value.ref (al x)))).length = (a :: xs).length := h2
    rw [h3, List.length_cons]
    omega
  have hl := lv_entry (.ref (al a) :: xs.map (fun x => Value.ref (al x))) (n := nL) hlen
  rw [lg_entry_eq]
  exact h p e s m _ below meth c D cA al _ _ ⟨⟨B.exec, B.bytes, hml, hown, hts, B.returns, B.notSynchronized, hN⟩, hnm, hO, hK, fun q hq => Or.inr hq⟩ hP hD hl
/-! the steps of a constructor -/
section KS_
variable {p : Program} {l : Launch} {e : Env} {Rm : Room} {s : State} {m : MethodId} {args : Array Value} {below : List Frame} {meth : Method} {c : Code} {D : va_G} {A : Nat → Prop} {cA : Nat → ClassId} {al : Nat → Nat} {mk mk' : Nat → Nat → Bool} {a k nL cells slots pc : Nat} {own : String} {ws : List Cond} {cc : ByteArray} {Q : State → Prop} {H : Heap} {locs : List Loc} {ls : Array Slot} {rest : List Value}
/-- a new row -/
theorem k_arr {n t : Nat} {nn : Int32} {atype : ArrayType} {ty : FieldType} (hC : kCx own ws cc nL p s m args meth c D cA A) (hP : va_P D (MC 256).1 (kW cA al mk a k) H) (hD : va_D A (kW cA al mk a k)) (hS : va_S A s.heap H locs) (harr : Cond.arrayClass ty ∈ ws) (hty : newarray.typeOf atype = ty) (ht : (t = 0 ∧ ty = .int) ∨ (t = 1 ∧ ty = .long) ∨ (t = 2 ∧ ty = .byte)) (hclo : clo mk a k) (hpl : (MC 256).2.2.1 (a + k) = some (.inr (t, n))) (hmk : ∀ q, a ≤ q → q < a + k → ∀ j, mk' q j = mk q j) (hno : ∀ j, mR mk' (a + k) j = none) (hn : nn = nI n) (hn2 : n ≤ 4000) (hcells : cells + 1 ≤ Rm.cells) (hslots : slots + n ≤ Rm.slots) (hdg : decode cc pc = .ok (.newarray atype, 2))
    (kk : ∀ (h : Nat) (H1 : Heap), va_P D (MC 256).1 (kW cA (exA al (a + k) h) mk' a (k + 1)) H1 → va_D A (kW cA (exA al (a + k) h) mk' a (k + 1)) → va_S A s.heap H1 locs → W p l e Rm s m args below meth c H1 locs (cells + 1) (slots + n) Q (F0 m (pc + 2) ls (.ref h :: rest))) : W p l e Rm s m args below meth c H locs cells slots Q (F0 m pc ls (.int nn :: rest)) := by
  obtain ⟨⟨hx, hb, hml, hown, hts, hr, hlocks, hN⟩, hnm, hO, hK, hA⟩ := hC
  subst hn
  have hworld : ∀ h, kW cA al mk a k ++ [(h, fx_e (MC 256) cA (exA al (a + k) h) zI zJ (mR mk') (a + k))] = kW cA (exA al (a + k) h) mk' a (k + 1) := fun h => by
    rw [← kW_app, kW_ext hclo hmk, kW_one]
    show _ = _ ++ [(exA al (a + k) h (a + k), _)]
    rw [show exA al (a + k) h (a + k) = h from if_pos rfl]
  have hent : ∀ (h : Nat) (x : va_E), fx_a cA (exA al (a + k) h) zI zJ (mR mk') (a + k) t n = x → fx_e (MC 256) cA (exA al (a + k) h) zI zJ (mR mk') (a + k) = x := fun h x hx => by
    unfold fx_e
    rw [hpl]
    exact hx
  have hn0 : ¬ nI n < 0 := by
    rw [show (0 : Int32) = nI 0 from rfl, nI_ltI (by omega) (by omega)]
    omega
  have hn1 : (nI n).toNatClampNeg = n := nI_clamp (by omega)
  rcases ht with ⟨rfl, rfl⟩ | ⟨rfl, rfl⟩ | ⟨rfl, rfl⟩
  · refine va_newa (atype := atype) hx hb (hts _ (by rw [hty]; exact harr)) hty hK hP hD hS hA (n := nI n) (N' := n) (a0 := (n, .inl (fun _ => 0))) (fun _ => rfl) hn0 hn1 (by show n * 4 ≤ 536870912; omega) hcells hslots hdg ?_
    intro h cA' H1 hK1 hP1 hD1 hS1
    have hcA : cA' = cA 0 := by
      have h1 : s.vm.findClass ("[" ++ FieldType.int.toString) = some cA' := (hK1.2 4 (cA', .int) rfl).2
      have h2 : s.vm.findClass ("[" ++ FieldType.int.toString) = some (cA 0) := (hK1.2 0 (cA 0, .int) rfl).2
      exact Option.some.inj (h1.symm.trans h2)
    subst hcA
    rw [← hent h (.inl (cA 0, n, .inl (fun _ => 0))) rfl, hworld h] at hP1 hD1
    exact kk h H1 hP1 hD1 hS1
  · refine va_newa (atype := atype) hx hb (hts _ (by rw [hty]; exact harr)) hty hK hP hD hS hA (n := nI n) (N' := n) (a0 := (n, .inr (.inl (fun _ => 0)))) (fun _ => rfl) hn0 hn1 (by show n * 8 ≤ 536870912; omega) hcells hslots hdg ?_
    intro h cA' H1 hK1 hP1 hD1 hS1
    have hcA : cA' = cA 1 := by
      have h1 : s.vm.findClass ("[" ++ FieldType.long.toString) = some cA' := (hK1.2 4 (cA', .long) rfl).2
      have h2 : s.vm.findClass ("[" ++ FieldType.long.toString) = some (cA 1) := (hK1.2 1 (cA 1, .long) rfl).2
      exact Option.some.inj (h1.symm.trans h2)
    subst hcA
    rw [← hent h (.inl (cA 1, n, .inr (.inl (fun _ => 0)))) rfl, hworld h] at hP1 hD1
    exact kk h H1 hP1 hD1 hS1
  · refine va_newa (atype := atype) hx hb (hts _ (by rw [hty]; exact harr)) hty hK hP hD hS hA (n := nI n) (N' := n) (a0 := (n, .inl (fun _ => 0))) (fun _ => rfl) hn0 hn1 (by show n * 1 ≤ 536870912; omega) hcells hslots hdg ?_
    intro h cA' H1 hK1 hP1 hD1 hS1
    have hcA : cA' = cA 2 := by
      have h1 : s.vm.findClass ("[" ++ FieldType.byte.toString) = some cA' := (hK1.2 4 (cA', .byte) rfl).2
      have h2 : s.vm.findClass ("[" ++ FieldType.byte.toString) = some (cA 2) := (hK1.2 2 (cA 2, .byte) rfl).2
      exact Option.some.inj (h1.symm.trans h2)
    subst hcA
    rw [← hent h (.inl (cA 2, n, .inl (fun _ => 0))) rfl, hworld h] at hP1 hD1
    exact kk h H1 hP1 hD1 hS1
/-- a reference put, a final field -/
theorem k_putF {ci idx j x N : Nat} {T : u_T} {ty : FieldType} {h t0 : Nat} (hC : kCx own ws cc nL p s m args meth c D cA A) (hP : va_P D (MC 256).1 (kW cA al mk a k) H) (hD : va_D A (kW cA al mk a k)) (hS : va_S A s.heap H locs) (hh : al x = h) (hth : al a = t0) (hcl : (MC 256).1[ci]? = some (own, T, N)) (hpl : (MC 256).2.2.1 a = some (.inl ci)) (hin : ∀ w ∈ u_ws own T N, w ∈ ws) (ty0 : Nat → FieldType) (hty : ∀ k, k < N → parseFieldDescriptor (T k).2.2.1 = some (ty0 k)) (hnmT : ∀ a, a < N → ∀ b, b < N → a ≠ b → (T a).2.1 ≠ (T b).2.1) (hj : j < N) (hlink : Cond.fieldLink own idx own (T j).2.1 (T j).2.2.1 ∈ ws) (hT1 : (T j).1 = own) (hfin : (T j).2.2.2 = true) (hkd : (MC 256).2.1 ci j = 2) (hd : parseFieldDescriptor (T j).2.2.1 = some ty) (hn : ∀ a, narrow ty (.ref a) = .ref a) (hf : ∀ a, fits ty (.ref a) = true)
    (h0 : 0 < k) (hx : mR mk' a j = some x) (ho : ∀ j', j' ≠ j → mk' a j' = mk a j') (hk : ∀ q, a < q → q < a + k → ∀ j, mk' q j = mk q j) (hdg : decode cc pc = .ok (.putfield idx, 3))
    (kk : ∀ (H1 : Heap) (locs1 : List Loc), va_P D (MC 256).1 (kW cA al mk' a k) H1 → va_D A (kW cA al mk' a k) → va_S A s.heap H1 locs1 → W p l e Rm s m args below meth c H1 locs1 cells slots Q (F0 m (pc + 3) ls rest)) : W p l e Rm s m args below meth c H locs cells slots Q (F0 m pc ls (.ref h :: .ref t0 :: rest)) := by
  obtain ⟨⟨hx0, hb, hml, hown, hts, hr, hlocks, hN⟩, hnm, hO, hK, hA⟩ := hC
  subst hh
  subst hth
  have he : (kW cA al mk a k)[0]? = some (al a, .inr (ci, fx_o (MC 256) al zI zJ (mR mk) ci a)) := by
    rw [kW_at h0]
    show some (al a, fx_e (MC 256) cA al zI zJ (mR mk) a) = _
    unfold fx_e
    rw [hpl]
  refine va_putF hx0 hb hts hin ty0 hty hnmT hown hK hP hD hS 0 he hcl j hj (hts _ hlink) (fun y hy => by rw [← hT1]; exact hy) hfin hnm hT1 hd (v := .ref (al x)) (hn _) (hf _) (by simp [fx_o, fx_nf, hcl, hj]) hdg ?_
  intro H1 locs1 hP1 hD1 hS1
  rw [kW_put hcl hpl h0 hj hkd hx ho hk] at hP1 hD1
  exact kk H1 locs1 hP1 hD1 hS1
/-- a reference put, a field that may change -/
theorem k_putV {ci idx j x N : Nat} {T : u_T} {ty : FieldType} {h t0 : Nat} (hC : kCx own ws cc nL p s m args meth c D cA A) (hP : va_P D (MC 256).1 (kW cA al mk a k) H) (hD : va_D A (kW cA al mk a k)) (hS : va_S A s.heap H locs) (hh : al x = h) (hth : al a = t0) (hcl : (MC 256).1[ci]? = some (own, T, N)) (hpl : (MC 256).2.2.1 a = some (.inl ci)) (hin : ∀ w ∈ u_ws own T N, w ∈ ws) (ty0 : Nat → FieldType) (hty : ∀ k, k < N → parseFieldDescriptor (T k).2.2.1 = some (ty0 k)) (hnmT : ∀ a, a < N → ∀ b, b < N → a ≠ b → (T a).2.1 ≠ (T b).2.1) (hj : j < N) (hlink : Cond.fieldLink own idx own (T j).2.1 (T j).2.2.1 ∈ ws) (hT1 : (T j).1 = own) (hfin : (T j).2.2.2 = false) (hkd : (MC 256).2.1 ci j = 2) (hd : parseFieldDescriptor (T j).2.2.1 = some ty) (hn : ∀ a, narrow ty (.ref a) = .ref a) (hf : ∀ a, fits ty (.ref a) = true)
    (h0 : 0 < k) (hx : mR mk' a j = some x) (ho : ∀ j', j' ≠ j → mk' a j' = mk a j') (hk : ∀ q, a < q → q < a + k → ∀ j, mk' q j = mk q j) (hdg : decode cc pc = .ok (.putfield idx, 3))
    (kk : ∀ (H1 : Heap) (locs1 : List Loc), va_P D (MC 256).1 (kW cA al mk' a k) H1 → va_D A (kW cA al mk' a k) → va_S A s.heap H1 locs1 → W p l e Rm s m args below meth c H1 locs1 cells slots Q (F0 m (pc + 3) ls rest)) : W p l e Rm s m args below meth c H locs cells slots Q (F0 m pc ls (.ref h :: .ref t0 :: rest)) := by
  obtain ⟨⟨hx0, hb, hml, hown, hts, hr, hlocks, hN⟩, hnm, hO, hK, hA⟩ := hC
  subst hh
  subst hth
  have he : (kW cA al mk a k)[0]? = some (al a, .inr (ci, fx_o (MC 256) al zI zJ (mR mk) ci a)) := by
    rw [kW_at h0]
    show some (al a, fx_e (MC 256) cA al zI zJ (mR mk) a) = _
    unfold fx_e
    rw [hpl]
  refine va_put hx0 hb hts hin ty0 hty hnmT hown hK hP hD hS 0 he hcl j hj (hts _ hlink) (fun y hy => by rw [← hT1]; exact hy) hfin hd (v := .ref (al x)) (hn _) (hf _) (by simp [fx_o, fx_nf, hcl, hj]) hdg ?_
  intro H1 locs1 hP1 hD1 hS1
  rw [kW_put hcl hpl h0 hj hkd hx ho hk] at hP1 hD1
  exact kk H1 locs1 hP1 hD1 hS1
/-- a new object -/
theorem k_new {ci idx N : Nat} {C : String} {T : u_T} (hC : kCx own ws cc nL p s m args meth c D cA A) (hP : va_P D (MC 256).1 (kW cA al mk a k) H) (hD : va_D A (kW cA al mk a k)) (hS : va_S A s.heap H locs) (hcl : (MC 256).1[ci]? = some (C, T, N)) (hpl : (MC 256).2.2.1 (a + k) = some (.inl ci)) (hin : ∀ w ∈ u_ws C T N, w ∈ ws) (ty0 : Nat → FieldType) (hty : ∀ k, k < N → parseFieldDescriptor (T k).2.2.1 = some (ty0 k)) (hlk : Cond.classLink own idx C ∈ ws) (hinst : Cond.instantiable C N ∈ ws) (hini : Cond.initialized C ∈ ws) (hfs : ∀ j, j < N → defaultValue (ty0 j) = vp_V ((List.range (fx_nf (MC 256) ci)).map (fun j => match (MC 256).2.1 ci j with | 0 => Value.int 0 | 1 => Value.long 0 | _ => Value.null)) j)
    (hclo : clo mk a k) (hno : ∀ j, mR mk (a + k) j = none) (hcells : cells + 1 ≤ Rm.cells) (hslots : slots + N ≤ Rm.slots) (hdg : decode cc pc = .ok (.new idx, 3))
    (kk : ∀ (h : Nat) (H1 : Heap), va_P D (MC 256).1 (kW cA (exA al (a + k) h) mk a (k + 1)) H1 → va_D A (kW cA (exA al (a + k) h) mk a (k + 1)) → va_S A s.heap H1 locs → W p l e Rm s m args below meth c H1 locs (cells + 1) (slots + N) Q (F0 m (pc + 3) ls (.ref h :: rest))) : W p l e Rm s m args below meth c H locs cells slots Q (F0 m pc ls rest) := by
  obtain ⟨⟨hx, hb, hml, hown, hts, hr, hlocks, hN⟩, hnm, hO, hK, hA⟩ := hC
  refine va_new hx hb hts hin ty0 hty hown (hts _ hlk) (hts _ hinst) (hts _ hini) hK hP hD hS hA hcl hfs hcells hslots hdg ?_
  intro h H1 hP1 hD1 hS1
  have hworld : kW cA al mk a k ++ [(h, .inr (ci, (List.range (fx_nf (MC 256) ci)).map (fun j => match (MC 256).2.1 ci j with | 0 => Value.int 0 | 1 => Value.long 0 | _ => Value.null)))] = kW cA (exA al (a + k) h) mk a (k + 1) := by
    rw [← kW_app, kW_ext hclo (fun _ _ _ _ => rfl), kW_zero (al := exA al (a + k) h) hpl hno]
    rw [show exA al (a + k) h (a + k) = h from if_pos rfl]
  rw [hworld] at hP1 hD1
  exact kk h H1 hP1 hD1 hS1
/-- a reference read out of a place -/
theorem k_get {i ci idx j x N t : Nat} {C : String} {T : u_T} (hC : kCx own ws cc nL p s m args meth c D cA A) (hP : va_P D (MC 256).1 (kW cA al mk a k) H) (hi : i < k) (ht : al (a + i) = t) (hpl : (MC 256).2.2.1 (a + i) = some (.inl ci)) (hcl : (MC 256).1[ci]? = some (C, T, N)) (hin : ∀ w ∈ u_ws C T N, w ∈ ws) (hj : j < N) (hlink : Cond.fieldLink own idx C (T j).2.1 (T j).2.2.1 ∈ ws) (hT1 : (T j).1 = C) (hkd : (MC 256).2.1 ci j = 2) (hx : mR mk (a + i) j = some x) (hdg : decode cc pc = .ok (.getfield idx, 3))
    (kk : W p l e Rm s m args below meth c H locs cells slots Q (F0 m (pc + 3) ls (.ref (al x) :: rest))) : W p l e Rm s m args below meth c H locs cells slots Q (F0 m pc ls (.ref t :: rest)) := by
  obtain ⟨⟨hx0, hb, hml, hown, hts, hr, hlocks, hN⟩, hnm, hO, hK, hA⟩ := hC
  subst ht
  have he : (kW cA al mk a k)[i]? = some (al (a + i), .inr (ci, fx_o (MC 256) al zI zJ (mR mk) ci (a + i))) := by
    rw [kW_at hi]
    unfold fx_e
    rw [hpl]
  have hv : (fx_o (MC 256) al zI zJ (mR mk) ci (a + i))[j]? = some (Value.ref (al x)) := by
    rw [fx_o_at hcl hj, hkd]
    show some (fx_v al (va_rf (mR mk (a + i) j))) = _
    rw [hx]
    rfl
  exact va_get hx0 hb hts hin hown hK hP i he hcl j hj (hts _ hlink) (fun y hy => by rw [← hT1]; exact hy) hv hdg kk
theorem k_getN {i ci idx j x N t : Nat} {C : String} {T : u_T} (hC : kCx own ws cc nL p s m args meth c D cA A) (hP : va_P D (MC 256).1 (kW cA al mk a k) H) (hi : i < k) (ht : al (a + i) = t) (hpl : (MC 256).2.2.1 (a + i) = some (.inl ci)) (hcl : (MC 256).1[ci]? = some (C, T, N)) (hin : ∀ w ∈ u_ws C T N, w ∈ ws) (hj : j < N) (hlink : (own, idx, C, (T j).2.1, (T j).2.2.1) ∈ fx_NF) (hT1 : (T j).1 = C) (hkd : (MC 256).2.1 ci j = 2) (hx : mR mk (a + i) j = some x) (hdg : decode cc pc = .ok (.getfield idx, 3))
    (kk : W p l e Rm s m args below meth c H locs cells slots Q (F0 m (pc + 3) ls (.ref (al x) :: rest))) : W p l e Rm s m args below meth c H locs cells slots Q (F0 m pc ls (.ref t :: rest)) := by
  obtain ⟨⟨hx0, hb, hml, hown, hts, hr, hlocks, hN⟩, hnm, hO, hK, hA⟩ := hC
  subst ht
  have he : (kW cA al mk a k)[i]? = some (al (a + i), .inr (ci, fx_o (MC 256) al zI zJ (mR mk) ci (a + i))) := by
    rw [kW_at hi]
    unfold fx_e
    rw [hpl]
  have hv : (fx_o (MC 256) al zI zJ (mR mk) ci (a + i))[j]? = some (Value.ref (al x)) := by
    rw [fx_o_at hcl hj, hkd]
    show some (fx_v al (va_rf (mR mk (a + i) j))) = _
    rw [hx]
    rfl
  exact va_getN hx0 hb hts hin hown hK hP i he hcl j hj (va_Nw.use rfl (hN.1 _ hlink)) (fun y hy => by rw [← hT1]; exact hy) hv hdg kk
/-- the ring's row -/
theorem k_anew {n idx : Nat} {nn : Int32} (hC : kCx own ws cc nL p s m args meth c D cA A) (hP : va_P D (MC 256).1 (kW cA al mk a k) H) (hD : va_D A (kW cA al mk a k)) (hS : va_S A s.heap H locs) (hlk : Cond.classLink own idx R_Situation ∈ ws) (hclo : clo mk a k) (hpl : (MC 256).2.2.1 (a + k) = some (.inr (3, n))) (hmk : ∀ q, a ≤ q → q < a + k → ∀ j, mk' q j = mk q j) (hno : ∀ j, mR mk' (a + k) j = none) (hn : nn = nI n) (hn2 : n ≤ 4000) (hcells : cells + 1 ≤ Rm.cells) (hslots : slots + n ≤ Rm.slots) (hdg : decode cc pc = .ok (.anewarray idx, 3))
    (kk : ∀ (h : Nat) (H1 : Heap), va_P D (MC 256).1 (kW cA (exA al (a + k) h) mk' a (k + 1)) H1 → va_D A (kW cA (exA al (a + k) h) mk' a (k + 1)) → va_S A s.heap H1 locs → W p l e Rm s m args below meth c H1 locs (cells + 1) (slots + n) Q (F0 m (pc + 3) ls (.ref h :: rest))) : W p l e Rm s m args below meth c H locs cells slots Q (F0 m pc ls (.int nn :: rest)) := by
  obtain ⟨⟨hx, hb, hml, hown, hts, hr, hlocks, hN⟩, hnm, hO, hK, hA⟩ := hC
  subst hn
  have hworld : ∀ h, kW cA al mk a k ++ [(h, fx_e (MC 256) cA (exA al (a + k) h) zI zJ (mR mk') (a + k))] = kW cA (exA al (a + k) h) mk' a (k + 1) := fun h => by
    rw [← kW_app, kW_ext hclo hmk, kW_one]
    show _ = _ ++ [(exA al (a + k) h (a + k), _)]
    rw [show exA al (a + k) h (a + k) = h from if_pos rfl]
  have hent : ∀ (h : Nat), fx_e (MC 256) cA (exA al (a + k) h) zI zJ (mR mk') (a + k) = .inl (cA 3, n, .inr (.inr (.inr (.inr (fun _ => none))))) := fun h => by
    unfold fx_e
    rw [hpl]
    show Sum.inl (cA 3, n, Sum.inr (Sum.inr (Sum.inr (Sum.inr (fun j => (mR mk' (a + k) j).map (exA al (a + k) h)))))) = _
    simp only [hno]
    rfl
  have hn0 : ¬ nI n < 0 := by
    rw [show (0 : Int32) = nI 0 from rfl, nI_ltI (by omega) (by omega)]
    omega
  have hn1 : (nI n).toNatClampNeg = n := nI_clamp (by omega)
  refine va_newq hx hb hown (hts _ hlk) hO hK hP hD hS hA (n := nI n) (N' := n) hn0 hn1 (by omega) hcells hslots hdg ?_
  intro h cA' H1 hK1 hP1 hD1 hS1
  have hcA : cA' = cA 3 := by
    obtain ⟨_, _, _, _, _, h1⟩ := (hK1.2 4 (cA', .object R_Situation) rfl).2
    obtain ⟨_, _, _, _, _, h2⟩ := (hK1.2 3 (cA 3, .object R_Situation) rfl).2
    exact Option.some.inj (h1.symm.trans h2)
  subst hcA
  rw [← hent h, hworld h] at hP1 hD1
  exact kk h H1 hP1 hD1 hS1
/-- a situation put into the ring -/
theorem k_aast {i n x h t1 : Nat} {ii : Int32} (hC : kCx own ws cc nL p s m args meth c D cA A) (hP : va_P D (MC 256).1 (kW cA al mk a k) H) (hD : va_D A (kW cA al mk a k)) (hS : va_S A s.heap H locs) (hpl : (MC 256).2.2.1 (a + 1) = some (.inr (3, n))) (hk : 1 < k) (hi : i < n) (hn : n ≤ 100) (hx : x < k) (hplx : (MC 256).2.2.1 (a + x) = some (.inl 2)) (hh : al (a + x) = h) (ht : al (a + 1) = t1) (hii : ii = nI i) (hmx : mR mk' (a + 1) i = some (a + x)) (ho : ∀ j, j ≠ i → mk' (a + 1) j = mk (a + 1) j) (hk' : ∀ q, a ≤ q → q < a + k → q ≠ a + 1 → ∀ j, mk' q j = mk q j) (hdg : decode cc pc = .ok (.aastore, 1))
    (kk : ∀ (H1 : Heap) (locs1 : List Loc), va_P D (MC 256).1 (kW cA al mk' a k) H1 → va_D A (kW cA al mk' a k) → va_S A s.heap H1 locs1 → W p l e Rm s m args below meth c H1 locs1 cells slots Q (F0 m (pc + 1) ls rest)) : W p l e Rm s m args below meth c H locs cells slots Q (F0 m pc ls (.ref h :: .int ii :: .ref t1 :: rest)) := by
  obtain ⟨⟨hx0, hb, hml, hown, hts, hr, hlocks, hN⟩, hnm, hO, hK, hA⟩ := hC
  subst hh
  subst ht
  subst hii
  have he1 : (kW cA al mk a k)[1]? = some (al (a + 1), .inl (cA 3, n, .inr (.inr (.inr (.inr (fun j => (mR mk (a + 1) j).map al)))))) := by
    rw [kW_at hk]
    unfold fx_e
    rw [hpl]
    rfl
  have hex : (kW cA al mk a k)[x]? = some (al (a + x), .inr (2, fx_o (MC 256) al zI zJ (mR mk) 2 (a + x))) := by
    rw [kW_at hx]
    unfold fx_e
    rw [hplx]
  refine va_astq hx0 hb hK hP hD hS 1 3 x 2 (r := (R_Situation, T_Situation, 3)) he1 rfl hex rfl (by simp (disch := omega) only [nI_in']) hdg ?_
  intro H1 locs1 hP1 hD1 hS1
  have hset : (kW cA al mk a k).set 1 (al (a + 1), .inl (cA 3, n, .inr (.inr (.inr (.inr (va_up (fun j => (mR mk (a + 1) j).map al) (nI i).toNatClampNeg (some (al (a + x))))))))) = kW cA al mk' a k := by
    apply List.ext_getElem?
    intro i'
    rw [List.getElem?_set]
    by_cases hi' : i' < k
    · rw [kW_at (mk := mk') hi']
      by_cases h1 : 1 = i'
      · subst h1
        rw [if_pos rfl, if_pos (by rw [kW_len]; exact hk)]
        have hf : va_up (fun j => (mR mk (a + 1) j).map al) (nI i).toNatClampNeg (some (al (a + x))) = fun j => (mR mk' (a + 1) j).map al := by
          funext j
          rw [nI_clamp (by omega)]
          unfold va_up
          by_cases hj : j = i
          · rw [if_pos hj, hj, hmx]
            rfl
          · rw [if_neg hj]
            have e : mR mk' (a + 1) j = mR mk (a + 1) j := by
              unfold mR
              rw [ho j hj]
            rw [e]
        rw [hf]
        unfold fx_e
        rw [hpl]
        rfl
      · rw [if_neg h1, kW_at (mk := mk) hi']
        have : fx_e (MC 256) cA al zI zJ (mR mk') (a + i') = fx_e (MC 256) cA al zI zJ (mR mk) (a + i') := fe_c fun j' => by
          unfold mR
          rw [hk' (a + i') (by omega) (by omega) (by omega) j']
        rw [this]
    · rw [List.getElem?_eq_none (l := kW cA al mk' a k) (by rw [kW_len]; omega), List.getElem?_eq_none (l := kW cA al mk a k) (by rw [kW_len]; omega), if_neg (by omega)]
  rw [hset] at hP1 hD1
  exact kk H1 locs1 hP1 hD1 hS1
/-- behind a constructor's call -/
theorem k_back {len mc ms : Nat} {st0 : List Value} {a' : Array Value} (hC : kCx own ws cc nL p s m args meth c D cA A) (hP : va_P D (MC 256).1 (kW cA al mk a (k + 1)) H) (hD : va_D A (kW cA al mk a (k + 1))) (hS : va_S A s.heap H locs) (hno : ∀ j, mR mk (a + k) j = none)
    (hr : va_P D (MC 256).1 (kW cA al mk0 (a + k) 1) H → va_D (fun _ => True) (kW cA al mk0 (a + k) 1) → va_Run p l e Rm s m args below meth c H locs cells slots mc ms (F0 m pc ls st0) rest (kQc D cA al (a + k) len (va_A (kW cA al mk0 (a + k) 1) H.size) a') (va_A (kW cA al mk0 (a + k) 1) H.size))
    (hclo : clo mk a k) (hmk : ∀ q, a ≤ q → q < a + k → ∀ j, mk' q j = mk q j) (hmk1 : ∀ q, a + k ≤ q → q < a + k + len → ∀ j, mk' q j = true) (hnd : va_nd (List.range k) = true)
    (kk : ∀ (al' : Nat → Nat) (H1 : Heap) (locs1 : List Loc), (∀ q, q ≤ a + k ∨ a + k + len ≤ q → al' q = al q) → va_P D (MC 256).1 (kW cA al' mk' a (k + len)) H1 → va_D A (kW cA al' mk' a (k + len)) → va_S A s.heap H1 locs1 → W p l e Rm s m args below meth c H1 locs1 (cells + mc) (slots + ms) Q (F0 m (pc + 3) ls rest)) : W p l e Rm s m args below meth c H locs cells slots Q (F0 m pc ls st0) := by
  obtain ⟨⟨hx, hb, hml, hown, hts, hr0, hlocks, hN⟩, hnm, hO, hK, hA⟩ := hC
  have e0 : kW cA al mk0 (a + k) 1 = kW cA al mk (a + k) 1 := kW_cong fun i hi => ⟨rfl, fun j => by
    have : i = 0 := by omega
    subst this
    show (mR mk0 (a + k) j).map al = (mR mk (a + k) j).map al
    rw [hno j]
    rfl⟩
  have hisC : [k].map (fun i => (kW cA al mk a (k + 1))[i]?) = (kW cA al mk0 (a + k) 1).map some := by
    rw [e0, kW_one, List.map_cons, kW_at (by omega)]
    rfl
  have hisR : (List.range k).map (fun i => (kW cA al mk a (k + 1))[i]?) = (kW cA al mk a k).map some := by
    unfold kW
    rw [List.map_map]
    refine List.map_congr_left fun i hi => ?_
    have hi := List.mem_range.mp hi
    have := kW_at (cA := cA) (al := al) (mk := mk) (a := a) (k := k + 1) (i := i) (by omega)
    unfold kW at this
    exact this
  have hPc : va_P D (MC 256).1 (kW cA al mk0 (a + k) 1) H := hP.sub [k] (by
    rw [e0, kW_one, List.filterMap_cons, kW_at (by omega)]
    rfl)
  have hDc : va_D (fun _ => True) (kW cA al mk0 (a + k) 1) := (hD.sub [k] (by simp [va_nd]) hisC).weaken (fun _ _ _ _ => trivial)
  have hF : ∀ q, va_A (kW cA al mk0 (a + k) 1) H.size q → A q := va_free hD hS hA [k] hisC
  intro T hT X
  obtain ⟨v, st₀, t, T', L, h0, X', hL, e1, e2, ⟨⟨hv, al', hal, hP1, hK1, hD1⟩, hz, hk⟩, st⟩ := hr hPc hDc T hT X
  cases hv
  rw [h0] at hz hk
  have hj := va_join hP hD [k] (List.range k) hisC hisR hnd (fun i hi h9 => by
    have h1 := List.mem_range.mp hi
    have h2 : i = k := by simpa using h9
    omega) (H1 := T'.heap) (fun q h1 h2 => by rw [e1]; exact hk q h1 h2) hF (by rw [e1]; exact hP1) hD1
  have hworld : kW cA al mk a k ++ kW cA al' mk1 (a + k) len = kW cA al' mk' a (k + len) := by
    rw [← kW_app, kW_al hclo hmk (fun q hq => hal q (Or.inl (by omega)))]
    congr 1
    refine kW_cong fun i hi => ⟨rfl, fun j => ?_⟩
    unfold mR mk1
    rw [hmk1 (a + k + i) (by omega) (by omega)]
  rw [hworld] at hj
  obtain ⟨t2, a1, b1⟩ := kk al' T'.heap (locs ++ L) hal hj.1 hj.2
    ⟨Nat.le_trans hS.1 (by rw [e1]; exact hz), fun q h1 h2 => by rw [e1, hk q (Nat.lt_of_lt_of_le h1 hS.1) (fun z => h2 (hF q z))]; exact hS.2.1 q h1 h2, fun q hq => by
      rcases List.mem_append.mp hq with h | h
      · exact hS.2.2 q h
      · exact hF _ (hL q h)⟩ T' rfl X'
  exact ⟨t2, st t2 a1, b1⟩
/-- a constructor called: one of the nest -/
theorem k_callN {idx len mc ms maxL b : Nat} {y : MethodName} {bytes : ByteArray} {rm0 : Room} {xs : List Nat} {st0 : List Value} (hC : kCx own ws cc nL p s m args meth c D cA A) (hP : va_P D (MC 256).1 (kW cA al mk0 b 1) H) (hD : va_D (fun _ => True) (kW cA al mk0 b 1)) (hM : kMet l y (Cond.code y bytes maxL none :: w_C) rm0 b len xs mc ms) (hG : GoodIn ws (Cond.code y bytes maxL none :: w_C)) (hlink : (own, idx, y) ∈ fx_NM) (hi : y.name = "<init>") (hinst : Cond.instanceMethod y ∈ ws) (hini : Cond.initialized y.cls ∈ ws) (hr0 : rm0.cells = mc ∧ rm0.slots = ms)
    (hd : y.cls ≠ "java/lang/invoke/MethodHandle" ∧ y.cls ≠ "java/lang/invoke/VarHandle" ∧ (parseMethodDescriptor y.desc).map (fun d => d.parameters.length) = some xs.length) (hR : rm0.frames + 1 ≤ Rm.frames ∧ 8 + (maxL + 11) + rm0.locals ≤ Rm.locals) (hsz : ls.size = nL) (hcat : (rest.map fun v => v.category).sum ≤ 8) (hdg : decode cc pc = .ok (.invokespecial idx, 3)) (hf : cells + mc ≤ Rm.cells ∧ slots + ms ≤ Rm.slots) (hst : st0 = (xs.map (fun x => Value.ref (al x))).reverse ++ .ref (al b) :: rest) :
    va_Run p l e Rm s m args below meth c H locs cells slots mc ms (F0 m pc ls st0) rest (kQc D cA al b len (va_A (kW cA al mk0 b 1) H.size) (Value.ref (al b) :: xs.map (fun x => Value.ref (al x))).toArray) (va_A (kW cA al mk0 b 1) H.size) := by
  obtain ⟨⟨hx, hb, hml, hown, hts, hr, hlocks, hN⟩, hnm, hO, hK, hA⟩ := hC
  subst hst
  exact va_runIN (e := e) (meth := meth) (below := below) (locs := locs) ⟨hx, hb, hml, hown, hts⟩ (hM D cA al H.size) ⟨va_cnB xs.length hts hG rfl hr0.1 hr0.2 (hN.2 _ hlink) (hts _ hini) hd hR, hi, hts _ hinst⟩ ⟨k_blind, fun U hU hW => ⟨rfl, by rw [hU], by rw [hU]; exact hP, va_K.moved hW.alike hK, hD, hN.warm hW, hO.moved hW.alike⟩⟩ rfl (by rw [List.length_map]) hsz rfl (lv_room hcat) hdg hf
/-- a constructor called: one with a plain link -/
theorem k_callI {idx len mc ms maxL b : Nat} {y : MethodName} {bytes : ByteArray} {rm0 : Room} {xs : List Nat} {st0 : List Value} (hC : kCx own ws cc nL p s m args meth c D cA A) (hP : va_P D (MC 256).1 (kW cA al mk0 b 1) H) (hD : va_D (fun _ => True) (kW cA al mk0 b 1)) (hM : kMet l y (Cond.code y bytes maxL none :: w_C) rm0 b len xs mc ms) (hG : GoodIn ws (Cond.code y bytes maxL none :: w_C)) (hlink : Cond.methodLink own idx y ∈ ws) (hi : y.name = "<init>") (hinst : Cond.instanceMethod y ∈ ws) (hini : Cond.initialized y.cls ∈ ws) (hr0 : rm0.cells = mc ∧ rm0.slots = ms)
    (hd : y.cls ≠ "java/lang/invoke/MethodHandle" ∧ y.cls ≠ "java/lang/invoke/VarHandle" ∧ (parseMethodDescriptor y.desc).map (fun d => d.parameters.length) = some xs.length) (hR : rm0.frames + 1 ≤ Rm.frames ∧ 8 + (maxL + 11) + rm0.locals ≤ Rm.locals) (hsz : ls.size = nL) (hcat : (rest.map fun v => v.category).sum ≤ 8) (hdg : decode cc pc = .ok (.invokespecial idx, 3)) (hf : cells + mc ≤ Rm.cells ∧ slots + ms ≤ Rm.slots) (hst : st0 = (xs.map (fun x => Value.ref (al x))).reverse ++ .ref (al b) :: rest) :
    va_Run p l e Rm s m args below meth c H locs cells slots mc ms (F0 m pc ls st0) rest (kQc D cA al b len (va_A (kW cA al mk0 b 1) H.size) (Value.ref (al b) :: xs.map (fun x => Value.ref (al x))).toArray) (va_A (kW cA al mk0 b 1) H.size) := by
  obtain ⟨⟨hx, hb, hml, hown, hts, hr, hlocks, hN⟩, hnm, hO, hK, hA⟩ := hC
  subst hst
  exact va_runI (e := e) (meth := meth) (below := below) (locs := locs) ⟨hx, hb, hml, hown, hts⟩ (hM D cA al H.size) (cwI xs.length hts hG rfl hr0.1 hr0.2 (hts _ hini) (hts _ hlink) (hts _ hinst) hi hd hR) ⟨k_blind, fun U hU hW => ⟨rfl, by rw [hU], by rw [hU]; exact hP, va_K.moved hW.alike hK, hD, hN.warm hW, hO.moved hW.alike⟩⟩ rfl (by rw [List.length_map]) hsz rfl (lv_room hcat) hdg hf
end KS_
