/-! the constructor of the reference (own work) -/
def jR (mk : Nat → Nat → Bool) : fx_MR := fun q j => if mk q j then R0_M q j else none
def jW (cA : Nat → ClassId) (al : Nat → Nat) (mk : Nat → Nat → Bool) (a k : Nat) : va_W := (List.range k).map (fun i => (al (a + i), fx_e MM cA al zI zJ (jR mk) (a + i)))
def jclo (mk : Nat → Nat → Bool) (a k : Nat) : Prop := ∀ i, i < k → ∀ j x, jR mk (a + i) j = some x → x < a + k

theorem R0M_lt {q j x : Nat} (h : R0_M q j = some x) : q < 18 ∧ j < 30 := by
  unfold R0_M at h
  split at h <;> first | (constructor <;> omega) | cases h
theorem jclo_of {mk : Nat → Nat → Bool} {a k : Nat} (h : ((List.range k).all fun i => (List.range 30).all fun j => match jR mk (a + i) j with | some x => decide (x < a + k) | none => true) = true) : jclo mk a k := by
  intro i hi j x hx
  have h1 := List.all_eq_true.mp h i (List.mem_range.mpr hi)
  have hj : j < 30 := by
    unfold jR at hx
    split at hx
    · exact (R0M_lt hx).2
    · cases hx
  have h2 := List.all_eq_true.mp h1 j (List.mem_range.mpr hj)
  rw [hx] at h2
  exact of_decide_eq_true h2

section KW_
variable {cA : Nat → ClassId} {al al' : Nat → Nat} {mk mk' : Nat → Nat → Bool} {a k m h : Nat}
theorem jW_at {i : Nat} (h : i < k) : (jW cA al mk a k)[i]? = some (al (a + i), fx_e MM cA al zI zJ (jR mk) (a + i)) := by
  simp [jW, List.getElem?_map, List.getElem?_range h]
theorem jW_len : (jW cA al mk a k).length = k := by simp [jW]
theorem jW_app : jW cA al mk a k ++ jW cA al mk (a + k) m = jW cA al mk a (k + m) := by
  apply List.ext_getElem?
  intro i
  by_cases h1 : i < k
  · rw [List.getElem?_append_left (by rw [jW_len]; exact h1), jW_at h1, jW_at (by omega)]
  · rw [List.getElem?_append_right (by rw [jW_len]; omega), jW_len]
    by_cases h2 : i < k + m
    · rw [jW_at (by omega), jW_at h2, show a + k + (i - k) = a + i by omega]
    · rw [List.getElem?_eq_none (by rw [jW_len]; omega), List.getElem?_eq_none (by rw [jW_len]; omega)]
theorem jW_cong (h : ∀ i, i < k → al' (a + i) = al (a + i) ∧ ∀ j, (jR mk' (a + i) j).map al' = (jR mk (a + i) j).map al) : jW cA al' mk' a k = jW cA al mk a k := by
  unfold jW
  refine List.map_congr_left fun i hi => ?_
  obtain ⟨h1, h2⟩ := h i (List.mem_range.mp hi)
  rw [h1, fe_c h2]
theorem jR_c (h : ∀ q, a ≤ q → q < a + k → ∀ j, mk' q j = mk q j) {i : Nat} (hi : i < k) (j : Nat) : jR mk' (a + i) j = jR mk (a + i) j := by
  unfold jR
  rw [h (a + i) (by omega) (by omega) j]
theorem jW_al (hc : jclo mk a k) (hk : ∀ q, a ≤ q → q < a + k → ∀ j, mk' q j = mk q j) (ha : ∀ q, q < a + k → al' q = al q) : jW cA al' mk' a k = jW cA al mk a k := jW_cong fun i hi => ⟨ha _ (by omega), fun j => by
  rw [jR_c hk hi]
  cases e : jR mk (a + i) j with
  | none => rfl
  | some x =>
    show some (al' x) = some (al x)
    rw [ha x (hc i hi j x e)]⟩
theorem jW_ext (hc : jclo mk a k) (hk : ∀ q, a ≤ q → q < a + k → ∀ j, mk' q j = mk q j) : jW cA (exA al (a + k) h) mk' a k = jW cA al mk a k := jW_al hc hk fun q hq => if_neg (by omega)
theorem jW_one {b : Nat} : jW cA al mk b 1 = [(al b, fx_e MM cA al zI zJ (jR mk) b)] := rfl
theorem jW_put {ci j x N : Nat} {C : String} {T : u_T} (hC : MM.1[ci]? = some (C, T, N)) (hpl : MM.2.2.1 a = some (.inl ci)) (h0 : 0 < k) (hj : j < N) (hkd : MM.2.1 ci j = 2) (hx : jR mk' a j = some x) (ho : ∀ j', j' ≠ j → mk' a j' = mk a j') (hk : ∀ q, a < q → q < a + k → ∀ j, mk' q j = mk q j) :
    (jW cA al mk a k).set 0 (al a, .inr (ci, (fx_o MM al zI zJ (jR mk) ci a).set j (.ref (al x)))) = jW cA al mk' a k := by
  apply List.ext_getElem?
  intro i
  rw [List.getElem?_set]
  by_cases hi : i < k
  · rw [jW_at (mk := mk') hi]
    by_cases h : 0 = i
    · subst h
      rw [if_pos rfl, if_pos (by rw [jW_len]; exact h0)]
      show some (al a, _) = some (al a, fx_e MM cA al zI zJ (jR mk') a)
      unfold fx_e
      rw [hpl]
      have hv : fx_fv zI zJ (jR mk') (MM.2.1 ci j) a j = .ref x := by
        rw [hkd]
        show va_rf (jR mk' a j) = _
        rw [hx]
        rfl
      have := fx_o_set (M := MM) (al := al) (I := zI) (I' := zI) (J := zJ) (J' := zJ) (R := jR mk) (R' := jR mk') (ci := ci) (k := a) hC hj hv (fun j' hj' => by
        have e : jR mk' a j' = jR mk a j' := by
          unfold jR
          rw [ho j' hj']
        unfold fx_fv
        split
        · rfl
        · rfl
        · rw [e])
      show _ = some (al a, Sum.inr (ci, fx_o MM al zI zJ (jR mk') ci a))
      rw [this]
      rfl
    · rw [if_neg h, jW_at (mk := mk) hi]
      have : fx_e MM cA al zI zJ (jR mk') (a + i) = fx_e MM cA al zI zJ (jR mk) (a + i) := fe_c fun j' => by
        unfold jR
        rw [hk (a + i) (by omega) (by omega) j']
      rw [this]
  · rw [List.getElem?_eq_none (l := jW cA al mk' a k) (by rw [jW_len]; omega), List.getElem?_eq_none (l := jW cA al mk a k) (by rw [jW_len]; omega), if_neg (by omega)]

end KW_
section MK_
variable {cA : Nat → ClassId} {al : Nat → Nat} {a k K j : Nat} {S : List Nat}
theorem jS_0 : jW cA al mk0 a 1 = jW cA al (mkS a [] 1) a 1 := jW_cong fun i hi => ⟨rfl, fun j => by
  have : i = 0 := by omega
  subst this
  show (jR mk0 (a + 0) j).map al = (jR (mkS a [] 1) (a + 0) j).map al
  unfold jR mk0 mkS
  rw [if_pos (show a + 0 = a from rfl)]
  rfl⟩
theorem jS_up {K' : Nat} (h : k ≤ K) (h' : k ≤ K') : ∀ q, a ≤ q → q < a + k → ∀ j, mkS a S K' q j = mkS a S K q j := fun q h1 h2 j => by
  unfold mkS
  split
  · rfl
  · rw [decide_eq_true (by omega), decide_eq_true (by omega)]
theorem jS_in {len : Nat} (hk : 0 < k) : ∀ q, a + k ≤ q → q < a + k + len → ∀ j, mkS a S (k + len) q j = true := fun q h1 h2 j => by
  unfold mkS
  rw [if_neg (by omega), decide_eq_true (by omega)]
theorem jS_no (hk : 0 < k) : ∀ j, jR (mkS a S k) (a + k) j = none := fun j => by
  unfold jR mkS
  rw [if_neg (show ¬ a + k = a by omega), decide_eq_false (by omega)]
  rfl
theorem jS_ho : ∀ j', j' ≠ j → mkS a (j :: S) K a j' = mkS a S K a j' := fun j' h => by
  unfold mkS
  rw [if_pos rfl, if_pos rfl, List.contains_cons, beq_false_of_ne h, Bool.false_or]
theorem jS_hk : ∀ q, a < q → q < a + k → ∀ j', mkS a (j :: S) K q j' = mkS a S K q j' := fun q h1 h2 j' => by
  unfold mkS
  rw [if_neg (by omega), if_neg (by omega)]
theorem jS_hx {x : Nat} (h : R0_M a j = some x) : jR (mkS a (j :: S) K) a j = some x := by
  unfold jR mkS
  rw [if_pos rfl, List.contains_cons, BEq.rfl, Bool.true_or, if_pos rfl]
  exact h
def jnoB (q : Nat) : Bool := (List.range 30).all fun j => (R0_M q j).isNone
theorem jno_of {mk : Nat → Nat → Bool} {q : Nat} (h : jnoB q = true) : ∀ j, jR mk q j = none := fun j => by
  unfold jR
  split
  · cases e : R0_M q j with
    | none => rfl
    | some x =>
      have := List.all_eq_true.mp h j (List.mem_range.mpr (R0M_lt e).2)
      rw [e] at this
      cases this
  · rfl
def jcloB (mk : Nat → Nat → Bool) (a k : Nat) : Bool := (List.range k).all fun i => (List.range 30).all fun j => match jR mk (a + i) j with | some x => decide (x < a + k) | none => true
theorem jclo_b {mk : Nat → Nat → Bool} (h : jcloB mk a k = true) : jclo mk a k := jclo_of h
theorem jclo_0 : jclo (mkS a [] 1) a 1 := fun i hi j x hx => by
  have : i = 0 := by omega
  subst this
  unfold jR mkS at hx
  rw [if_pos (show a + 0 = a from rfl)] at hx
  cases hx
def jfulB (a : Nat) (S : List Nat) : Bool := (List.range 30).all fun j => S.contains j || (R0_M a j).isNone

theorem jS_full (h : jfulB a S = true) : jW cA al (mkS a S k) a k = jW cA al mk1 a k := jW_cong fun i hi => ⟨rfl, fun j => by
  congr 1
  show (if mkS a S k (a + i) j = true then R0_M (a + i) j else none) = R0_M (a + i) j
  by_cases h0 : i = 0
  · subst h0
    have e : mkS a S k (a + 0) j = S.contains j := by
      unfold mkS
      rw [if_pos (show a + 0 = a from rfl)]
    rw [e]
    by_cases hc : S.contains j = true
    · rw [if_pos hc]
    · rw [if_neg hc]
      cases e : R0_M (a + 0) j with
      | none => rfl
      | some x =>
        have := List.all_eq_true.mp h j (List.mem_range.mpr (R0M_lt e).2)
        rw [show R0_M a j = some x from e, Bool.eq_false_iff.mpr hc] at this
        cases this
  · have hm : mkS a S k (a + i) j = true := by
      unfold mkS
      rw [if_neg (by omega), decide_eq_true (by omega)]
    rw [hm, if_pos rfl]⟩
end MK_
def jPc (D : va_G) (cA : Nat → ClassId) (al : Nat → Nat) (sz : Nat) : Array Value → State → Prop :=
  va_Pc [.ref (al 0)] (fun U => U.heap.size = sz ∧ va_P D MM.1 (jW cA al mk0 0 1) U.heap ∧ va_K D MM.1 (fx_ty MM cA) U ∧ va_D (fun _ => True) (jW cA al mk0 0 1) ∧ fx_Nw U)
theorem j_blind {D : va_G} {cA : Nat → ClassId} {al : Nat → Nat} {sz : Nat} : FrameBlind (jPc D cA al sz) := by
  intro a U g mk q
  obtain ⟨q0, q1, qP, qK, qD, qN⟩ := q
  exact ⟨q0, q1, qP, va_K.moved (u := U) (U := U.calling g mk a) (Vm.Alike.refl U.vm) qK, qD, qN.same rfl⟩
theorem jW_fx {cA : Nat → ClassId} {al : Nat → Nat} : jW cA al mk1 0 18 = fx_w MM cA al zI zJ R0_M := by
  unfold jW fx_w
  refine List.map_congr_left fun i hi => ?_
  rw [Nat.zero_add]
  have : fx_e MM cA al zI zJ (jR mk1) i = fx_e MM cA al zI zJ R0_M i := fe_c fun j => rfl
  rw [this]
def jCx (own : String) (ws : List Cond) (cc : ByteArray) (nL : Nat) (p : Program) (s : State) (m : MethodId) (args : Array Value) (meth : Method) (c : Code) (D : va_G) (cA : Nat → ClassId) (A : Nat → Prop) : Prop :=
  fx_Cx own ws cc nL none p s m args meth c ∧ meth.name = "<init>" ∧ True ∧ va_K D MM.1 (fx_ty MM cA) s ∧ ∀ q : Nat, s.heap.size ≤ q → A q
section KS_
variable {p : Program} {l : Launch} {e : Env} {Rm : Room} {s : State} {m : MethodId} {args : Array Value} {below : List Frame} {meth : Method} {c : Code} {D : va_G} {A : Nat → Prop} {cA : Nat → ClassId} {al : Nat → Nat} {mk mk' : Nat → Nat → Bool} {a k nL cells slots pc : Nat} {own : String} {ws : List Cond} {cc : ByteArray} {Q : State → Prop} {H : Heap} {locs : List Loc} {ls : Array Slot} {rest : List Value}

/-- a new row -/
theorem j_arr {n t : Nat} {nn : Int32} {atype : ArrayType} {ty : FieldType} (hC : jCx own ws cc nL p s m args meth c D cA A) (hP : va_P D MM.1 (jW cA al mk a k) H) (hD : va_D A (jW cA al mk a k)) (hS : va_S A s.heap H locs) (harr : Cond.arrayClass ty ∈ ws) (hty : newarray.typeOf atype = ty) (ht : (t = 0 ∧ ty = .int) ∨ (t = 1 ∧ ty = .long)) (hclo : jclo mk a k) (hpl : MM.2.2.1 (a + k) = some (.inr (t, n))) (hmk : ∀ q, a ≤ q → q < a + k → ∀ j, mk' q j = mk q j) (hno : ∀ j, jR mk' (a + k) j = none) (hn : nn = nI n) (hn2 : n ≤ 4000) (hcells : cells + 1 ≤ Rm.cells) (hslots : slots + n ≤ Rm.slots) (hdg : decode cc pc = .ok (.newarray atype, 2))
    (kk : ∀ (h : Nat) (H1 : Heap), va_P D MM.1 (jW cA (exA al (a + k) h) mk' a (k + 1)) H1 → va_D A (jW cA (exA al (a + k) h) mk' a (k + 1)) → va_S A s.heap H1 locs → W p l e Rm s m args below meth c H1 locs (cells + 1) (slots + n) Q (F0 m (pc + 2) ls (.ref h :: rest))) : W p l e Rm s m args below meth c H locs cells slots Q (F0 m pc ls (.int nn :: rest)) := by
  obtain ⟨⟨hx, hb, hml, hown, hts, hr, hlocks, hN⟩, hnm, hO, hK, hA⟩ := hC
  subst hn
  have hworld : ∀ h, jW cA al mk a k ++ [(h, fx_e MM cA (exA al (a + k) h) zI zJ (jR mk') (a + k))] = jW cA (exA al (a + k) h) mk' a (k + 1) := fun h => by
    rw [← jW_app, jW_ext hclo hmk, jW_one]
    show _ = _ ++ [(exA al (a + k) h (a + k), _)]
    rw [show exA al (a + k) h (a + k) = h from if_pos rfl]
  have hent : ∀ (h : Nat) (x : va_E), fx_a cA (exA al (a + k) h) zI zJ (jR mk') (a + k) t n = x → fx_e MM cA (exA al (a + k) h) zI zJ (jR mk') (a + k) = x := fun h x hx => by
    unfold fx_e
    rw [hpl]
    exact hx
  have hn0 : ¬ nI n < 0 := by
    rw [show (0 : Int32) = nI 0 from rfl, nI_ltI (by omega) (by omega)]
    omega
  have hn1 : (nI n).toNatClampNeg = n := nI_clamp (by omega)
  rcases ht with ⟨rfl, rfl⟩ | ⟨rfl, rfl⟩
  · refine va_newa (atype := atype) hx hb (hts _ (by rw [hty]; exact harr)) hty hK hP hD hS hA (n := nI n) (N' := n) (a0 := (n, .inl (fun _ => 0))) (fun _ => rfl) hn0 hn1 (by show n * 4 ≤ 536870912; omega) hcells hslots hdg ?_
    intro h cA' H1 hK1 hP1 hD1 hS1
    have hcA : cA' = cA 0 := by
      have h1 : s.vm.findClass ("[" ++ FieldType.int.toString) = some cA' := (hK1.2 2 (cA', .int) rfl).2
      have h2 : s.vm.findClass ("[" ++ FieldType.int.toString) = some (cA 0) := (hK1.2 0 (cA 0, .int) rfl).2
      exact Option.some.inj (h1.symm.trans h2)
    subst hcA
    rw [← hent h (.inl (cA 0, n, .inl (fun _ => 0))) rfl, hworld h] at hP1 hD1
    exact kk h H1 hP1 hD1 hS1
  · refine va_newa (atype := atype) hx hb (hts _ (by rw [hty]; exact harr)) hty hK hP hD hS hA (n := nI n) (N' := n) (a0 := (n, .inr (.inl (fun _ => 0)))) (fun _ => rfl) hn0 hn1 (by show n * 8 ≤ 536870912; omega) hcells hslots hdg ?_
    intro h cA' H1 hK1 hP1 hD1 hS1
    have hcA : cA' = cA 1 := by
      have h1 : s.vm.findClass ("[" ++ FieldType.long.toString) = some cA' := (hK1.2 2 (cA', .long) rfl).2
      have h2 : s.vm.findClass ("[" ++ FieldType.long.toString) = some (cA 1) := (hK1.2 1 (cA 1, .long) rfl).2
      exact Option.some.inj (h1.symm.trans h2)
    subst hcA
    rw [← hent h (.inl (cA 1, n, .inr (.inl (fun _ => 0)))) rfl, hworld h] at hP1 hD1
    exact kk h H1 hP1 hD1 hS1

/-- a reference put, a final field -/
theorem j_putF {ci idx j x N : Nat} {T : u_T} {ty : FieldType} {h t0 : Nat} (hC : jCx own ws cc nL p s m args meth c D cA A) (hP : va_P D MM.1 (jW cA al mk a k) H) (hD : va_D A (jW cA al mk a k)) (hS : va_S A s.heap H locs) (hh : al x = h) (hth : al a = t0) (hcl : MM.1[ci]? = some (own, T, N)) (hpl : MM.2.2.1 a = some (.inl ci)) (hin : ∀ w ∈ u_ws own T N, w ∈ ws) (ty0 : Nat → FieldType) (hty : ∀ k, k < N → parseFieldDescriptor (T k).2.2.1 = some (ty0 k)) (hnmT : ∀ a, a < N → ∀ b, b < N → a ≠ b → (T a).2.1 ≠ (T b).2.1) (hj : j < N) (hlink : Cond.fieldLink own idx own (T j).2.1 (T j).2.2.1 ∈ ws) (hT1 : (T j).1 = own) (hfin : (T j).2.2.2 = true) (hkd : MM.2.1 ci j = 2) (hd : parseFieldDescriptor (T j).2.2.1 = some ty) (hn : ∀ a, narrow ty (.ref a) = .ref a) (hf : ∀ a, fits ty (.ref a) = true)
    (h0 : 0 < k) (hx : jR mk' a j = some x) (ho : ∀ j', j' ≠ j → mk' a j' = mk a j') (hk : ∀ q, a < q → q < a + k → ∀ j, mk' q j = mk q j) (hdg : decode cc pc = .ok (.putfield idx, 3))
    (kk : ∀ (H1 : Heap) (locs1 : List Loc), va_P D MM.1 (jW cA al mk' a k) H1 → va_D A (jW cA al mk' a k) → va_S A s.heap H1 locs1 → W p l e Rm s m args below meth c H1 locs1 cells slots Q (F0 m (pc + 3) ls rest)) : W p l e Rm s m args below meth c H locs cells slots Q (F0 m pc ls (.ref h :: .ref t0 :: rest)) := by
  obtain ⟨⟨hx0, hb, hml, hown, hts, hr, hlocks, hN⟩, hnm, hO, hK, hA⟩ := hC
  subst hh
  subst hth
  have he : (jW cA al mk a k)[0]? = some (al a, .inr (ci, fx_o MM al zI zJ (jR mk) ci a)) := by
    rw [jW_at h0]
    show some (al a, fx_e MM cA al zI zJ (jR mk) a) = _
    unfold fx_e
    rw [hpl]
  refine va_putF hx0 hb hts hin ty0 hty hnmT hown hK hP hD hS 0 he hcl j hj (hts _ hlink) (fun y hy => by rw [← hT1]; exact hy) hfin hnm hT1 hd (v := .ref (al x)) (hn _) (hf _) (by simp [fx_o, fx_nf, hcl, hj]) hdg ?_
  intro H1 locs1 hP1 hD1 hS1
  rw [jW_put hcl hpl h0 hj hkd hx ho hk] at hP1 hD1
  exact kk H1 locs1 hP1 hD1 hS1

end KS_
set_option maxRecDepth 100000 in
set_option maxHeartbeats 4000000 in
theorem k_M_init (l : Launch) (D : va_G) (cA : Nat → ClassId) (al : Nat → Nat) (sz : Nat) : Met l y_M_init (Cond.code y_M_init b_M_init 1 none :: w_M) { frames := 3, cells := 17, slots := 5472, locals := 65 } (jPc D cA al sz) (oQ MM D cA al (beginsM zI (nI 5) (nI 5) (nI 1)) zJ R0_M (va_A (jW cA al mk0 0 1) sz)) 17 5472 (va_A (jW cA al mk0 0 1) sz) := by
  refine Met.ofW (cc := b_M_init) (maxL := 1) (ret := none) (by decide) rfl ?_
  intro p e s m args below meth c s₁ B hml hv
  obtain ⟨rfl, hsz, hP, hK, hD0, hN⟩ := hv
  have hts := atoms_spec (ws := Cond.code y_M_init b_M_init 1 none :: w_M) B.pre
  have hown : s.vm.findClass R_M = some m.cls := findClass_of_methodNamed B.named
  have hnm : meth.name = "<init>" := (name_of_methodNamed B.named B.method).1.trans rfl
  subst hsz
  have hD := hD0.self (sz := s.heap.size)
  have hl := lv_entry [Value.ref (al 0)] (n := 1) (Nat.le_refl _)
  show W p l e _ s m _ below meth c s.heap [] 0 0 _ (entryFrame m ([Value.ref (al 0)] : List Value).toArray 1)
  rw [lg_entry_eq]
  have hC : jCx R_M (Cond.code y_M_init b_M_init 1 none :: w_M) b_M_init 1 p s m _ meth c D cA (va_A (jW cA al mk0 0 1) s.heap.size) := ⟨⟨B.exec, B.bytes, hml, hown, hts, B.returns, B.notSynchronized, hN⟩, hnm, trivial, hK, fun q hq => Or.inr hq⟩
  have hret := B.returns
  have hx := B.exec
  have hb := B.bytes
  have e0 : ∃ z, z = al := ⟨_, rfl⟩
  obtain ⟨al0, e0⟩ := e0
  have hA0 : ∃ z, z = va_A (jW cA al mk0 0 1) s.heap.size := ⟨_, rfl⟩
  obtain ⟨A, hA0⟩ := hA0
  rw [← hA0] at hC hD ⊢
  clear hA0
  have hl : lv_has _ 1 [(0, .ref (al 0))] := hl
  revert hl
  generalize ((lg_sl [Value.ref (al 0)]) ++ _).toArray = ls
  intro hl
  subst e0
  have hS : va_S A s.heap s.heap [] := va_S.rf
  rw [jS_0] at hP hD
  have ho0 : ∀ q, q ≤ 0 ∨ 0 + 18 ≤ q → al0 q = al0 q := fun _ _ => rfl
  refine lv_aload_n hx hb (show decode b_M_init 0 = .ok (.aload_n 0, 1) by decide +kernel) rfl (lv_at hl 0 rfl) ?_
  refine W.objInit hx hb hown (hts _ (List.mem_cons_of_mem _ (w_M_has 16 rfl))) (hts _ (List.mem_cons_of_mem _ (w_M_has 17 rfl))) (hts _ (List.mem_cons_of_mem _ (w_M_has 18 rfl))) rfl (by rw [hml]; exact hl.1) rfl (show decode b_M_init 1 = .ok (.invokespecial 1, 3) by decide +kernel) (Nat.le_of_ble_eq_true rfl) (Nat.le_of_ble_eq_true rfl) ?_
  refine W.eq (g2 := F0 m 4 ls []) rfl ?_
  refine lv_aload_n hx hb (show decode b_M_init 4 = .ok (.aload_n 0, 1) by decide +kernel) rfl (lv_at hl 0 rfl) ?_
  refine lv_sipush (v := 416) hx hb (show decode b_M_init 5 = .ok (.sipush 416, 3) by decide +kernel) (by decide) ?_
  refine j_arr (k := 1) (t := 0) (n := 416) (ty := .int) (mk := mkS 0 [] 1) (mk' := mkS 0 [] 2) hC hP hD hS (List.mem_cons_of_mem _ (w_M_has 19 rfl)) rfl (Or.inl ⟨rfl, rfl⟩) jclo_0 rfl (jS_up (Nat.le_refl _) (by decide)) (jno_of (by decide +kernel)) rfl (by decide) (Nat.le_of_ble_eq_true rfl) (Nat.le_of_ble_eq_true rfl) (show decode b_M_init 8 = .ok (.newarray .int, 2) by decide +kernel) (fun hh H hP hD hS => ?_)
  obtain ⟨al1, ha1⟩ : ∃ z, z = exA al0 (0 + 1) hh := ⟨_, rfl⟩
  rw [← ha1] at hP hD
  have ho1 : ∀ q, q ≤ 0 ∨ 0 + 18 ≤ q → al1 q = al0 q := by rw [ha1]; exact exA_out (by decide) (by decide) ho0
  have eh : al1 (0 + 1) = hh := by rw [ha1]; exact if_pos rfl
  clear ha1
  refine j_putF (k := 2) (j := 0) (x := 1) (mk := mkS 0 [] 2) (mk' := mkS 0 [0] 2) hC hP hD hS eh (ho1 0 (Or.inl (Nat.le_refl _))) rfl rfl (fun w hw => List.mem_cons_of_mem _ (w_M_lay w hw)) ty_M tyok_M nm_M (by decide) (List.mem_cons_of_mem _ (w_M_has 3 rfl)) rfl rfl rfl rfl (fun _ => rfl) (fun _ => rfl) (by decide) (jS_hx rfl) jS_ho jS_hk (show decode b_M_init 10 = .ok (.putfield 7, 3) by decide +kernel) (fun H locs hP hD hS => ?_)
  refine lv_aload_n hx hb (show decode b_M_init 13 = .ok (.aload_n 0, 1) by decide +kernel) rfl (lv_at hl 0 rfl) ?_
  refine lv_sipush (v := 3328) hx hb (show decode b_M_init 14 = .ok (.sipush 3328, 3) by decide +kernel) (by decide) ?_
  refine j_arr (k := 2) (t := 0) (n := 3328) (ty := .int) (mk := mkS 0 [0] 2) (mk' := mkS 0 [0] 3) hC hP hD hS (List.mem_cons_of_mem _ (w_M_has 19 rfl)) rfl (Or.inl ⟨rfl, rfl⟩) (jclo_b (by decide +kernel)) rfl (jS_up (Nat.le_refl _) (by decide)) (jno_of (by decide +kernel)) rfl (by decide) (Nat.le_of_ble_eq_true rfl) (Nat.le_of_ble_eq_true rfl) (show decode b_M_init 17 = .ok (.newarray .int, 2) by decide +kernel) (fun hh H hP hD hS => ?_)
  obtain ⟨al2, ha2⟩ : ∃ z, z = exA al1 (0 + 2) hh := ⟨_, rfl⟩
  rw [← ha2] at hP hD
  have ho2 : ∀ q, q ≤ 0 ∨ 0 + 18 ≤ q → al2 q = al0 q := by rw [ha2]; exact exA_out (by decide) (by decide) ho1
  have eh : al2 (0 + 2) = hh := by rw [ha2]; exact if_pos rfl
  clear ha2
  refine j_putF (k := 3) (j := 1) (x := 2) (mk := mkS 0 [0] 3) (mk' := mkS 0 [1, 0] 3) hC hP hD hS eh (ho2 0 (Or.inl (Nat.le_refl _))) rfl rfl (fun w hw => List.mem_cons_of_mem _ (w_M_lay w hw)) ty_M tyok_M nm_M (by decide) (List.mem_cons_of_mem _ (w_M_has 20 rfl)) rfl rfl rfl rfl (fun _ => rfl) (fun _ => rfl) (by decide) (jS_hx rfl) jS_ho jS_hk (show decode b_M_init 19 = .ok (.putfield 13, 3) by decide +kernel) (fun H locs hP hD hS => ?_)
  refine lv_aload_n hx hb (show decode b_M_init 22 = .ok (.aload_n 0, 1) by decide +kernel) rfl (lv_at hl 0 rfl) ?_
  refine lv_bipush (v := 8) hx hb (show decode b_M_init 23 = .ok (.bipush 8, 2) by decide +kernel) (by decide) ?_
  refine j_arr (k := 3) (t := 0) (n := 8) (ty := .int) (mk := mkS 0 [1, 0] 3) (mk' := mkS 0 [1, 0] 4) hC hP hD hS (List.mem_cons_of_mem _ (w_M_has 19 rfl)) rfl (Or.inl ⟨rfl, rfl⟩) (jclo_b (by decide +kernel)) rfl (jS_up (Nat.le_refl _) (by decide)) (jno_of (by decide +kernel)) rfl (by decide) (Nat.le_of_ble_eq_true rfl) (Nat.le_of_ble_eq_true rfl) (show decode b_M_init 25 = .ok (.newarray .int, 2) by decide +kernel) (fun hh H hP hD hS => ?_)
  obtain ⟨al3, ha3⟩ : ∃ z, z = exA al2 (0 + 3) hh := ⟨_, rfl⟩
  rw [← ha3] at hP hD
  have ho3 : ∀ q, q ≤ 0 ∨ 0 + 18 ≤ q → al3 q = al0 q := by rw [ha3]; exact exA_out (by decide) (by decide) ho2
  have eh : al3 (0 + 3) = hh := by rw [ha3]; exact if_pos rfl
  clear ha3
  refine j_putF (k := 4) (j := 10) (x := 3) (mk := mkS 0 [1, 0] 4) (mk' := mkS 0 [10, 1, 0] 4) hC hP hD hS eh (ho3 0 (Or.inl (Nat.le_refl _))) rfl rfl (fun w hw => List.mem_cons_of_mem _ (w_M_lay w hw)) ty_M tyok_M nm_M (by decide) (List.mem_cons_of_mem _ (w_M_has 21 rfl)) rfl rfl rfl rfl (fun _ => rfl) (fun _ => rfl) (by decide) (jS_hx rfl) jS_ho jS_hk (show decode b_M_init 27 = .ok (.putfield 16, 3) by decide +kernel) (fun H locs hP hD hS => ?_)
  refine lv_aload_n hx hb (show decode b_M_init 30 = .ok (.aload_n 0, 1) by decide +kernel) rfl (lv_at hl 0 rfl) ?_
  refine lv_bipush (v := 70) hx hb (show decode b_M_init 31 = .ok (.bipush 70, 2) by decide +kernel) (by decide) ?_
  refine j_arr (k := 4) (t := 0) (n := 70) (ty := .int) (mk := mkS 0 [10, 1, 0] 4) (mk' := mkS 0 [10, 1, 0] 5) hC hP hD hS (List.mem_cons_of_mem _ (w_M_has 19 rfl)) rfl (Or.inl ⟨rfl, rfl⟩) (jclo_b (by decide +kernel)) rfl (jS_up (Nat.le_refl _) (by decide)) (jno_of (by decide +kernel)) rfl (by decide) (Nat.le_of_ble_eq_true rfl) (Nat.le_of_ble_eq_true rfl) (show decode b_M_init 33 = .ok (.newarray .int, 2) by decide +kernel) (fun hh H hP hD hS => ?_)
  obtain ⟨al4, ha4⟩ : ∃ z, z = exA al3 (0 + 4) hh := ⟨_, rfl⟩
  rw [← ha4] at hP hD
  have ho4 : ∀ q, q ≤ 0 ∨ 0 + 18 ≤ q → al4 q = al0 q := by rw [ha4]; exact exA_out (by decide) (by decide) ho3
  have eh : al4 (0 + 4) = hh := by rw [ha4]; exact if_pos rfl
  clear ha4
  refine j_putF (k := 5) (j := 11) (x := 4) (mk := mkS 0 [10, 1, 0] 5) (mk' := mkS 0 [11, 10, 1, 0] 5) hC hP hD hS eh (ho4 0 (Or.inl (Nat.le_refl _))) rfl rfl (fun w hw => List.mem_cons_of_mem _ (w_M_lay w hw)) ty_M tyok_M nm_M (by decide) (List.mem_cons_of_mem _ (w_M_has 22 rfl)) rfl rfl rfl rfl (fun _ => rfl) (fun _ => rfl) (by decide) (jS_hx rfl) jS_ho jS_hk (show decode b_M_init 35 = .ok (.putfield 19, 3) by decide +kernel) (fun H locs hP hD hS => ?_)
  refine lv_aload_n hx hb (show decode b_M_init 38 = .ok (.aload_n 0, 1) by decide +kernel) rfl (lv_at hl 0 rfl) ?_
  refine lv_sipush (v := 560) hx hb (show decode b_M_init 39 = .ok (.sipush 560, 3) by decide +kernel) (by decide) ?_
  refine j_arr (k := 5) (t := 0) (n := 560) (ty := .int) (mk := mkS 0 [11, 10, 1, 0] 5) (mk' := mkS 0 [11, 10, 1, 0] 6) hC hP hD hS (List.mem_cons_of_mem _ (w_M_has 19 rfl)) rfl (Or.inl ⟨rfl, rfl⟩) (jclo_b (by decide +kernel)) rfl (jS_up (Nat.le_refl _) (by decide)) (jno_of (by decide +kernel)) rfl (by decide) (Nat.le_of_ble_eq_true rfl) (Nat.le_of_ble_eq_true rfl) (show decode b_M_init 42 = .ok (.newarray .int, 2) by decide +kernel) (fun hh H hP hD hS => ?_)
  obtain ⟨al5, ha5⟩ : ∃ z, z = exA al4 (0 + 5) hh := ⟨_, rfl⟩
  rw [← ha5] at hP hD
  have ho5 : ∀ q, q ≤ 0 ∨ 0 + 18 ≤ q → al5 q = al0 q := by rw [ha5]; exact exA_out (by decide) (by decide) ho4
  have eh : al5 (0 + 5) = hh := by rw [ha5]; exact if_pos rfl
  clear ha5
  refine j_putF (k := 6) (j := 12) (x := 5) (mk := mkS 0 [11, 10, 1, 0] 6) (mk' := mkS 0 [12, 11, 10, 1, 0] 6) hC hP hD hS eh (ho5 0 (Or.inl (Nat.le_refl _))) rfl rfl (fun w hw => List.mem_cons_of_mem _ (w_M_lay w hw)) ty_M tyok_M nm_M (by decide) (List.mem_cons_of_mem _ (w_M_has 23 rfl)) rfl rfl rfl rfl (fun _ => rfl) (fun _ => rfl) (by decide) (jS_hx rfl) jS_ho jS_hk (show decode b_M_init 44 = .ok (.putfield 22, 3) by decide +kernel) (fun H locs hP hD hS => ?_)
  refine lv_aload_n hx hb (show decode b_M_init 47 = .ok (.aload_n 0, 1) by decide +kernel) rfl (lv_at hl 0 rfl) ?_
  refine lv_bipush (v := 8) hx hb (show decode b_M_init 48 = .ok (.bipush 8, 2) by decide +kernel) (by decide) ?_
  refine j_arr (k := 6) (t := 0) (n := 8) (ty := .int) (mk := mkS 0 [12, 11, 10, 1, 0] 6) (mk' := mkS 0 [12, 11, 10, 1, 0] 7) hC hP hD hS (List.mem_cons_of_mem _ (w_M_has 19 rfl)) rfl (Or.inl ⟨rfl, rfl⟩) (jclo_b (by decide +kernel)) rfl (jS_up (Nat.le_refl _) (by decide)) (jno_of (by decide +kernel)) rfl (by decide) (Nat.le_of_ble_eq_true rfl) (Nat.le_of_ble_eq_true rfl) (show decode b_M_init 50 = .ok (.newarray .int, 2) by decide +kernel) (fun hh H hP hD hS => ?_)
  obtain ⟨al6, ha6⟩ : ∃ z, z = exA al5 (0 + 6) hh := ⟨_, rfl⟩
  rw [← ha6] at hP hD
  have ho6 : ∀ q, q ≤ 0 ∨ 0 + 18 ≤ q → al6 q = al0 q := by rw [ha6]; exact exA_out (by decide) (by decide) ho5
  have eh : al6 (0 + 6) = hh := by rw [ha6]; exact if_pos rfl
  clear ha6
  refine j_putF (k := 7) (j := 14) (x := 6) (mk := mkS 0 [12, 11, 10, 1, 0] 7) (mk' := mkS 0 [14, 12, 11, 10, 1, 0] 7) hC hP hD hS eh (ho6 0 (Or.inl (Nat.le_refl _))) rfl rfl (fun w hw => List.mem_cons_of_mem _ (w_M_lay w hw)) ty_M tyok_M nm_M (by decide) (List.mem_cons_of_mem _ (w_M_has 24 rfl)) rfl rfl rfl rfl (fun _ => rfl) (fun _ => rfl) (by decide) (jS_hx rfl) jS_ho jS_hk (show decode b_M_init 52 = .ok (.putfield 25, 3) by decide +kernel) (fun H locs hP hD hS => ?_)
  refine lv_aload_n hx hb (show decode b_M_init 55 = .ok (.aload_n 0, 1) by decide +kernel) rfl (lv_at hl 0 rfl) ?_
  refine lv_bipush (v := 8) hx hb (show decode b_M_init 56 = .ok (.bipush 8, 2) by decide +kernel) (by decide) ?_
  refine j_arr (k := 7) (t := 0) (n := 8) (ty := .int) (mk := mkS 0 [14, 12, 11, 10, 1, 0] 7) (mk' := mkS 0 [14, 12, 11, 10, 1, 0] 8) hC hP hD hS (List.mem_cons_of_mem _ (w_M_has 19 rfl)) rfl (Or.inl ⟨rfl, rfl⟩) (jclo_b (by decide +kernel)) rfl (jS_up (Nat.le_refl _) (by decide)) (jno_of (by decide +kernel)) rfl (by decide) (Nat.le_of_ble_eq_true rfl) (Nat.le_of_ble_eq_true rfl) (show decode b_M_init 58 = .ok (.newarray .int, 2) by decide +kernel) (fun hh H hP hD hS => ?_)
  obtain ⟨al7, ha7⟩ : ∃ z, z = exA al6 (0 + 7) hh := ⟨_, rfl⟩
  rw [← ha7] at hP hD
  have ho7 : ∀ q, q ≤ 0 ∨ 0 + 18 ≤ q → al7 q = al0 q := by rw [ha7]; exact exA_out (by decide) (by decide) ho6
  have eh : al7 (0 + 7) = hh := by rw [ha7]; exact if_pos rfl
  clear ha7
  refine j_putF (k := 8) (j := 15) (x := 7) (mk := mkS 0 [14, 12, 11, 10, 1, 0] 8) (mk' := mkS 0 [15, 14, 12, 11, 10, 1, 0] 8) hC hP hD hS eh (ho7 0 (Or.inl (Nat.le_refl _))) rfl rfl (fun w hw => List.mem_cons_of_mem _ (w_M_lay w hw)) ty_M tyok_M nm_M (by decide) (List.mem_cons_of_mem _ (w_M_has 25 rfl)) rfl rfl rfl rfl (fun _ => rfl) (fun _ => rfl) (by decide) (jS_hx rfl) jS_ho jS_hk (show decode b_M_init 60 = .ok (.putfield 28, 3) by decide +kernel) (fun H locs hP hD hS => ?_)
  refine lv_aload_n hx hb (show decode b_M_init 63 = .ok (.aload_n 0, 1) by decide +kernel) rfl (lv_at hl 0 rfl) ?_
  refine lv_bipush (v := 8) hx hb (show decode b_M_init 64 = .ok (.bipush 8, 2) by decide +kernel) (by decide) ?_
  refine j_arr (k := 8) (t := 0) (n := 8) (ty := .int) (mk := mkS 0 [15, 14, 12, 11, 10, 1, 0] 8) (mk' := mkS 0 [15, 14, 12, 11, 10, 1, 0] 9) hC hP hD hS (List.mem_cons_of_mem _ (w_M_has 19 rfl)) rfl (Or.inl ⟨rfl, rfl⟩) (jclo_b (by decide +kernel)) rfl (jS_up (Nat.le_refl _) (by decide)) (jno_of (by decide +kernel)) rfl (by decide) (Nat.le_of_ble_eq_true rfl) (Nat.le_of_ble_eq_true rfl) (show decode b_M_init 66 = .ok (.newarray .int, 2) by decide +kernel) (fun hh H hP hD hS => ?_)
  obtain ⟨al8, ha8⟩ : ∃ z, z = exA al7 (0 + 8) hh := ⟨_, rfl⟩
  rw [← ha8] at hP hD
  have ho8 : ∀ q, q ≤ 0 ∨ 0 + 18 ≤ q → al8 q = al0 q := by rw [ha8]; exact exA_out (by decide) (by decide) ho7
  have eh : al8 (0 + 8) = hh := by rw [ha8]; exact if_pos rfl
  clear ha8
  refine j_putF (k := 9) (j := 16) (x := 8) (mk := mkS 0 [15, 14, 12, 11, 10, 1, 0] 9) (mk' := mkS 0 [16, 15, 14, 12, 11, 10, 1, 0] 9) hC hP hD hS eh (ho8 0 (Or.inl (Nat.le_refl _))) rfl rfl (fun w hw => List.mem_cons_of_mem _ (w_M_lay w hw)) ty_M tyok_M nm_M (by decide) (List.mem_cons_of_mem _ (w_M_has 26 rfl)) rfl rfl rfl rfl (fun _ => rfl) (fun _ => rfl) (by decide) (jS_hx rfl) jS_ho jS_hk (show decode b_M_init 68 = .ok (.putfield 31, 3) by decide +kernel) (fun H locs hP hD hS => ?_)
  refine lv_aload_n hx hb (show decode b_M_init 71 = .ok (.aload_n 0, 1) by decide +kernel) rfl (lv_at hl 0 rfl) ?_
  refine lv_bipush (v := 64) hx hb (show decode b_M_init 72 = .ok (.bipush 64, 2) by decide +kernel) (by decide) ?_
  refine j_arr (k := 9) (t := 0) (n := 64) (ty := .int) (mk := mkS 0 [16, 15, 14, 12, 11, 10, 1, 0] 9) (mk' := mkS 0 [16, 15, 14, 12, 11, 10, 1, 0] 10) hC hP hD hS (List.mem_cons_of_mem _ (w_M_has 19 rfl)) rfl (Or.inl ⟨rfl, rfl⟩) (jclo_b (by decide +kernel)) rfl (jS_up (Nat.le_refl _) (by decide)) (jno_of (by decide +kernel)) rfl (by decide) (Nat.le_of_ble_eq_true rfl) (Nat.le_of_ble_eq_true rfl) (show decode b_M_init 74 = .ok (.newarray .int, 2) by decide +kernel) (fun hh H hP hD hS => ?_)
  obtain ⟨al9, ha9⟩ : ∃ z, z = exA al8 (0 + 9) hh := ⟨_, rfl⟩
  rw [← ha9] at hP hD
  have ho9 : ∀ q, q ≤ 0 ∨ 0 + 18 ≤ q → al9 q = al0 q := by rw [ha9]; exact exA_out (by decide) (by decide) ho8
  have eh : al9 (0 + 9) = hh := by rw [ha9]; exact if_pos rfl
  clear ha9
  refine j_putF (k := 10) (j := 17) (x := 9) (mk := mkS 0 [16, 15, 14, 12, 11, 10, 1, 0] 10) (mk' := mkS 0 [17, 16, 15, 14, 12, 11, 10, 1, 0] 10) hC hP hD hS eh (ho9 0 (Or.inl (Nat.le_refl _))) rfl rfl (fun w hw => List.mem_cons_of_mem _ (w_M_lay w hw)) ty_M tyok_M nm_M (by decide) (List.mem_cons_of_mem _ (w_M_has 27 rfl)) rfl rfl rfl rfl (fun _ => rfl) (fun _ => rfl) (by decide) (jS_hx rfl) jS_ho jS_hk (show decode b_M_init 76 = .ok (.putfield 34, 3) by decide +kernel) (fun H locs hP hD hS => ?_)
  refine lv_aload_n hx hb (show decode b_M_init 79 = .ok (.aload_n 0, 1) by decide +kernel) rfl (lv_at hl 0 rfl) ?_
  refine lv_bipush (v := 120) hx hb (show decode b_M_init 80 = .ok (.bipush 120, 2) by decide +kernel) (by decide) ?_
  refine j_arr (k := 10) (t := 0) (n := 120) (ty := .int) (mk := mkS 0 [17, 16, 15, 14, 12, 11, 10, 1, 0] 10) (mk' := mkS 0 [17, 16, 15, 14, 12, 11, 10, 1, 0] 11) hC hP hD hS (List.mem_cons_of_mem _ (w_M_has 19 rfl)) rfl (Or.inl ⟨rfl, rfl⟩) (jclo_b (by decide +kernel)) rfl (jS_up (Nat.le_refl _) (by decide)) (jno_of (by decide +kernel)) rfl (by decide) (Nat.le_of_ble_eq_true rfl) (Nat.le_of_ble_eq_true rfl) (show decode b_M_init 82 = .ok (.newarray .int, 2) by decide +kernel) (fun hh H hP hD hS => ?_)
  obtain ⟨al10, ha10⟩ : ∃ z, z = exA al9 (0 + 10) hh := ⟨_, rfl⟩
  rw [← ha10] at hP hD
  have ho10 : ∀ q, q ≤ 0 ∨ 0 + 18 ≤ q → al10 q = al0 q := by rw [ha10]; exact exA_out (by decide) (by decide) ho9
  have eh : al10 (0 + 10) = hh := by rw [ha10]; exact if_pos rfl
  clear ha10
  refine j_putF (k := 11) (j := 18) (x := 10) (mk := mkS 0 [17, 16, 15, 14, 12, 11, 10, 1, 0] 11) (mk' := mkS 0 [18, 17, 16, 15, 14, 12, 11, 10, 1, 0] 11) hC hP hD hS eh (ho10 0 (Or.inl (Nat.le_refl _))) rfl rfl (fun w hw => List.mem_cons_of_mem _ (w_M_lay w hw)) ty_M tyok_M nm_M (by decide) (List.mem_cons_of_mem _ (w_M_has 28 rfl)) rfl rfl rfl rfl (fun _ => rfl) (fun _ => rfl) (by decide) (jS_hx rfl) jS_ho jS_hk (show decode b_M_init 84 = .ok (.putfield 37, 3) by decide +kernel) (fun H locs hP hD hS => ?_)
  refine lv_aload_n hx hb (show decode b_M_init 87 = .ok (.aload_n 0, 1) by decide +kernel) rfl (lv_at hl 0 rfl) ?_
  refine lv_sipush (v := 288) hx hb (show decode b_M_init 88 = .ok (.sipush 288, 3) by decide +kernel) (by decide) ?_
  refine j_arr (k := 11) (t := 0) (n := 288) (ty := .int) (mk := mkS 0 [18, 17, 16, 15, 14, 12, 11, 10, 1, 0] 11) (mk' := mkS 0 [18, 17, 16, 15, 14, 12, 11, 10, 1, 0] 12) hC hP hD hS (List.mem_cons_of_mem _ (w_M_has 19 rfl)) rfl (Or.inl ⟨rfl, rfl⟩) (jclo_b (by decide +kernel)) rfl (jS_up (Nat.le_refl _) (by decide)) (jno_of (by decide +kernel)) rfl (by decide) (Nat.le_of_ble_eq_true rfl) (Nat.le_of_ble_eq_true rfl) (show decode b_M_init 91 = .ok (.newarray .int, 2) by decide +kernel) (fun hh H hP hD hS => ?_)
  obtain ⟨al11, ha11⟩ : ∃ z, z = exA al10 (0 + 11) hh := ⟨_, rfl⟩
  rw [← ha11] at hP hD
  have ho11 : ∀ q, q ≤ 0 ∨ 0 + 18 ≤ q → al11 q = al0 q := by rw [ha11]; exact exA_out (by decide) (by decide) ho10
  have eh : al11 (0 + 11) = hh := by rw [ha11]; exact if_pos rfl
  clear ha11
  refine j_putF (k := 12) (j := 22) (x := 11) (mk := mkS 0 [18, 17, 16, 15, 14, 12, 11, 10, 1, 0] 12) (mk' := mkS 0 [22, 18, 17, 16, 15, 14, 12, 11, 10, 1, 0] 12) hC hP hD hS eh (ho11 0 (Or.inl (Nat.le_refl _))) rfl rfl (fun w hw => List.mem_cons_of_mem _ (w_M_lay w hw)) ty_M tyok_M nm_M (by decide) (List.mem_cons_of_mem _ (w_M_has 29 rfl)) rfl rfl rfl rfl (fun _ => rfl) (fun _ => rfl) (by decide) (jS_hx rfl) jS_ho jS_hk (show decode b_M_init 93 = .ok (.putfield 40, 3) by decide +kernel) (fun H locs hP hD hS => ?_)
  refine lv_aload_n hx hb (show decode b_M_init 96 = .ok (.aload_n 0, 1) by decide +kernel) rfl (lv_at hl 0 rfl) ?_
  refine lv_bipush (v := 64) hx hb (show decode b_M_init 97 = .ok (.bipush 64, 2) by decide +kernel) (by decide) ?_
  refine j_arr (k := 12) (t := 0) (n := 64) (ty := .int) (mk := mkS 0 [22, 18, 17, 16, 15, 14, 12, 11, 10, 1, 0] 12) (mk' := mkS 0 [22, 18, 17, 16, 15, 14, 12, 11, 10, 1, 0] 13) hC hP hD hS (List.mem_cons_of_mem _ (w_M_has 19 rfl)) rfl (Or.inl ⟨rfl, rfl⟩) (jclo_b (by decide +kernel)) rfl (jS_up (Nat.le_refl _) (by decide)) (jno_of (by decide +kernel)) rfl (by decide) (Nat.le_of_ble_eq_true rfl) (Nat.le_of_ble_eq_true rfl) (show decode b_M_init 99 = .ok (.newarray .int, 2) by decide +kernel) (fun hh H hP hD hS => ?_)
  obtain ⟨al12, ha12⟩ : ∃ z, z = exA al11 (0 + 12) hh := ⟨_, rfl⟩
  rw [← ha12] at hP hD
  have ho12 : ∀ q, q ≤ 0 ∨ 0 + 18 ≤ q → al12 q = al0 q := by rw [ha12]; exact exA_out (by decide) (by decide) ho11
  have eh : al12 (0 + 12) = hh := by rw [ha12]; exact if_pos rfl
  clear ha12
  refine j_putF (k := 13) (j := 23) (x := 12) (mk := mkS 0 [22, 18, 17, 16, 15, 14, 12, 11, 10, 1, 0] 13) (mk' := mkS 0 [23, 22, 18, 17, 16, 15, 14, 12, 11, 10, 1, 0] 13) hC hP hD hS eh (ho12 0 (Or.inl (Nat.le_refl _))) rfl rfl (fun w hw => List.mem_cons_of_mem _ (w_M_lay w hw)) ty_M tyok_M nm_M (by decide) (List.mem_cons_of_mem _ (w_M_has 30 rfl)) rfl rfl rfl rfl (fun _ => rfl) (fun _ => rfl) (by decide) (jS_hx rfl) jS_ho jS_hk (show decode b_M_init 101 = .ok (.putfield 43, 3) by decide +kernel) (fun H locs hP hD hS => ?_)
  refine lv_aload_n hx hb (show decode b_M_init 104 = .ok (.aload_n 0, 1) by decide +kernel) rfl (lv_at hl 0 rfl) ?_
  refine lv_bipush (v := 64) hx hb (show decode b_M_init 105 = .ok (.bipush 64, 2) by decide +kernel) (by decide) ?_
  refine j_arr (k := 13) (t := 0) (n := 64) (ty := .int) (mk := mkS 0 [23, 22, 18, 17, 16, 15, 14, 12, 11, 10, 1, 0] 13) (mk' := mkS 0 [23, 22, 18, 17, 16, 15, 14, 12, 11, 10, 1, 0] 14) hC hP hD hS (List.mem_cons_of_mem _ (w_M_has 19 rfl)) rfl (Or.inl ⟨rfl, rfl⟩) (jclo_b (by decide +kernel)) rfl (jS_up (Nat.le_refl _) (by decide)) (jno_of (by decide +kernel)) rfl (by decide) (Nat.le_of_ble_eq_true rfl) (Nat.le_of_ble_eq_true rfl) (show decode b_M_init 107 = .ok (.newarray .int, 2) by decide +kernel) (fun hh H hP hD hS => ?_)
  obtain ⟨al13, ha13⟩ : ∃ z, z = exA al12 (0 + 13) hh := ⟨_, rfl⟩
  rw [← ha13] at hP hD
  have ho13 : ∀ q, q ≤ 0 ∨ 0 + 18 ≤ q → al13 q = al0 q := by rw [ha13]; exact exA_out (by decide) (by decide) ho12
  have eh : al13 (0 + 13) = hh := by rw [ha13]; exact if_pos rfl
  clear ha13
  refine j_putF (k := 14) (j := 24) (x := 13) (mk := mkS 0 [23, 22, 18, 17, 16, 15, 14, 12, 11, 10, 1, 0] 14) (mk' := mkS 0 [24, 23, 22, 18, 17, 16, 15, 14, 12, 11, 10, 1, 0] 14) hC hP hD hS eh (ho13 0 (Or.inl (Nat.le_refl _))) rfl rfl (fun w hw => List.mem_cons_of_mem _ (w_M_lay w hw)) ty_M tyok_M nm_M (by decide) (List.mem_cons_of_mem _ (w_M_has 31 rfl)) rfl rfl rfl rfl (fun _ => rfl) (fun _ => rfl) (by decide) (jS_hx rfl) jS_ho jS_hk (show decode b_M_init 109 = .ok (.putfield 46, 3) by decide +kernel) (fun H locs hP hD hS => ?_)
  refine lv_aload_n hx hb (show decode b_M_init 112 = .ok (.aload_n 0, 1) by decide +kernel) rfl (lv_at hl 0 rfl) ?_
  refine lv_bipush (v := 64) hx hb (show decode b_M_init 113 = .ok (.bipush 64, 2) by decide +kernel) (by decide) ?_
  refine j_arr (k := 14) (t := 0) (n := 64) (ty := .int) (mk := mkS 0 [24, 23, 22, 18, 17, 16, 15, 14, 12, 11, 10, 1, 0] 14) (mk' := mkS 0 [24, 23, 22, 18, 17, 16, 15, 14, 12, 11, 10, 1, 0] 15) hC hP hD hS (List.mem_cons_of_mem _ (w_M_has 19 rfl)) rfl (Or.inl ⟨rfl, rfl⟩) (jclo_b (by decide +kernel)) rfl (jS_up (Nat.le_refl _) (by decide)) (jno_of (by decide +kernel)) rfl (by decide) (Nat.le_of_ble_eq_true rfl) (Nat.le_of_ble_eq_true rfl) (show decode b_M_init 115 = .ok (.newarray .int, 2) by decide +kernel) (fun hh H hP hD hS => ?_)
  obtain ⟨al14, ha14⟩ : ∃ z, z = exA al13 (0 + 14) hh := ⟨_, rfl⟩
  rw [← ha14] at hP hD
  have ho14 : ∀ q, q ≤ 0 ∨ 0 + 18 ≤ q → al14 q = al0 q := by rw [ha14]; exact exA_out (by decide) (by decide) ho13
  have eh : al14 (0 + 14) = hh := by rw [ha14]; exact if_pos rfl
  clear ha14
  refine j_putF (k := 15) (j := 25) (x := 14) (mk := mkS 0 [24, 23, 22, 18, 17, 16, 15, 14, 12, 11, 10, 1, 0] 15) (mk' := mkS 0 [25, 24, 23, 22, 18, 17, 16, 15, 14, 12, 11, 10, 1, 0] 15) hC hP hD hS eh (ho14 0 (Or.inl (Nat.le_refl _))) rfl rfl (fun w hw => List.mem_cons_of_mem _ (w_M_lay w hw)) ty_M tyok_M nm_M (by decide) (List.mem_cons_of_mem _ (w_M_has 32 rfl)) rfl rfl rfl rfl (fun _ => rfl) (fun _ => rfl) (by decide) (jS_hx rfl) jS_ho jS_hk (show decode b_M_init 117 = .ok (.putfield 49, 3) by decide +kernel) (fun H locs hP hD hS => ?_)
  refine lv_aload_n hx hb (show decode b_M_init 120 = .ok (.aload_n 0, 1) by decide +kernel) rfl (lv_at hl 0 rfl) ?_
  refine lv_sipush (v := 272) hx hb (show decode b_M_init 121 = .ok (.sipush 272, 3) by decide +kernel) (by decide) ?_
  refine j_arr (k := 15) (t := 1) (n := 272) (ty := .long) (mk := mkS 0 [25, 24, 23, 22, 18, 17, 16, 15, 14, 12, 11, 10, 1, 0] 15) (mk' := mkS 0 [25, 24, 23, 22, 18, 17, 16, 15, 14, 12, 11, 10, 1, 0] 16) hC hP hD hS (List.mem_cons_of_mem _ (w_M_has 33 rfl)) rfl (Or.inr ⟨rfl, rfl⟩) (jclo_b (by decide +kernel)) rfl (jS_up (Nat.le_refl _) (by decide)) (jno_of (by decide +kernel)) rfl (by decide) (Nat.le_of_ble_eq_true rfl) (Nat.le_of_ble_eq_true rfl) (show decode b_M_init 124 = .ok (.newarray .long, 2) by decide +kernel) (fun hh H hP hD hS => ?_)
  obtain ⟨al15, ha15⟩ : ∃ z, z = exA al14 (0 + 15) hh := ⟨_, rfl⟩
  rw [← ha15] at hP hD
  have ho15 : ∀ q, q ≤ 0 ∨ 0 + 18 ≤ q → al15 q = al0 q := by rw [ha15]; exact exA_out (by decide) (by decide) ho14
  have eh : al15 (0 + 15) = hh := by rw [ha15]; exact if_pos rfl
  clear ha15
  refine j_putF (k := 16) (j := 26) (x := 15) (mk := mkS 0 [25, 24, 23, 22, 18, 17, 16, 15, 14, 12, 11, 10, 1, 0] 16) (mk' := mkS 0 [26, 25, 24, 23, 22, 18, 17, 16, 15, 14, 12, 11, 10, 1, 0] 16) hC hP hD hS eh (ho15 0 (Or.inl (Nat.le_refl _))) rfl rfl (fun w hw => List.mem_cons_of_mem _ (w_M_lay w hw)) ty_M tyok_M nm_M (by decide) (List.mem_cons_of_mem _ (w_M_has 34 rfl)) rfl rfl rfl rfl (fun _ => rfl) (fun _ => rfl) (by decide) (jS_hx rfl) jS_ho jS_hk (show decode b_M_init 126 = .ok (.putfield 52, 3) by decide +kernel) (fun H locs hP hD hS => ?_)
  refine lv_aload_n hx hb (show decode b_M_init 129 = .ok (.aload_n 0, 1) by decide +kernel) rfl (lv_at hl 0 rfl) ?_
  refine lv_bipush (v := 65) hx hb (show decode b_M_init 130 = .ok (.bipush 65, 2) by decide +kernel) (by decide) ?_
  refine j_arr (k := 16) (t := 0) (n := 65) (ty := .int) (mk := mkS 0 [26, 25, 24, 23, 22, 18, 17, 16, 15, 14, 12, 11, 10, 1, 0] 16) (mk' := mkS 0 [26, 25, 24, 23, 22, 18, 17, 16, 15, 14, 12, 11, 10, 1, 0] 17) hC hP hD hS (List.mem_cons_of_mem _ (w_M_has 19 rfl)) rfl (Or.inl ⟨rfl, rfl⟩) (jclo_b (by decide +kernel)) rfl (jS_up (Nat.le_refl _) (by decide)) (jno_of (by decide +kernel)) rfl (by decide) (Nat.le_of_ble_eq_true rfl) (Nat.le_of_ble_eq_true rfl) (show decode b_M_init 132 = .ok (.newarray .int, 2) by decide +kernel) (fun hh H hP hD hS => ?_)
  obtain ⟨al16, ha16⟩ : ∃ z, z = exA al15 (0 + 16) hh := ⟨_, rfl⟩
  rw [← ha16] at hP hD
  have ho16 : ∀ q, q ≤ 0 ∨ 0 + 18 ≤ q → al16 q = al0 q := by rw [ha16]; exact exA_out (by decide) (by decide) ho15
  have eh : al16 (0 + 16) = hh := by rw [ha16]; exact if_pos rfl
  clear ha16
  refine j_putF (k := 17) (j := 27) (x := 16) (mk := mkS 0 [26, 25, 24, 23, 22, 18, 17, 16, 15, 14, 12, 11, 10, 1, 0] 17) (mk' := mkS 0 [27, 26, 25, 24, 23, 22, 18, 17, 16, 15, 14, 12, 11, 10, 1, 0] 17) hC hP hD hS eh (ho16 0 (Or.inl (Nat.le_refl _))) rfl rfl (fun w hw => List.mem_cons_of_mem _ (w_M_lay w hw)) ty_M tyok_M nm_M (by decide) (List.mem_cons_of_mem _ (w_M_has 35 rfl)) rfl rfl rfl rfl (fun _ => rfl) (fun _ => rfl) (by decide) (jS_hx rfl) jS_ho jS_hk (show decode b_M_init 134 = .ok (.putfield 56, 3) by decide +kernel) (fun H locs hP hD hS => ?_)
  refine lv_aload_n hx hb (show decode b_M_init 137 = .ok (.aload_n 0, 1) by decide +kernel) rfl (lv_at hl 0 rfl) ?_
  refine lv_bipush (v := 65) hx hb (show decode b_M_init 138 = .ok (.bipush 65, 2) by decide +kernel) (by decide) ?_
  refine j_arr (k := 17) (t := 0) (n := 65) (ty := .int) (mk := mkS 0 [27, 26, 25, 24, 23, 22, 18, 17, 16, 15, 14, 12, 11, 10, 1, 0] 17) (mk' := mkS 0 [27, 26, 25, 24, 23, 22, 18, 17, 16, 15, 14, 12, 11, 10, 1, 0] 18) hC hP hD hS (List.mem_cons_of_mem _ (w_M_has 19 rfl)) rfl (Or.inl ⟨rfl, rfl⟩) (jclo_b (by decide +kernel)) rfl (jS_up (Nat.le_refl _) (by decide)) (jno_of (by decide +kernel)) rfl (by decide) (Nat.le_of_ble_eq_true rfl) (Nat.le_of_ble_eq_true rfl) (show decode b_M_init 140 = .ok (.newarray .int, 2) by decide +kernel) (fun hh H hP hD hS => ?_)
  obtain ⟨al17, ha17⟩ : ∃ z, z = exA al16 (0 + 17) hh := ⟨_, rfl⟩
  rw [← ha17] at hP hD
  have ho17 : ∀ q, q ≤ 0 ∨ 0 + 18 ≤ q → al17 q = al0 q := by rw [ha17]; exact exA_out (by decide) (by decide) ho16
  have eh : al17 (0 + 17) = hh := by rw [ha17]; exact if_pos rfl
  clear ha17
  refine j_putF (k := 18) (j := 28) (x := 17) (mk := mkS 0 [27, 26, 25, 24, 23, 22, 18, 17, 16, 15, 14, 12, 11, 10, 1, 0] 18) (mk' := mkS 0 [28, 27, 26, 25, 24, 23, 22, 18, 17, 16, 15, 14, 12, 11, 10, 1, 0] 18) hC hP hD hS eh (ho17 0 (Or.inl (Nat.le_refl _))) rfl rfl (fun w hw => List.mem_cons_of_mem _ (w_M_lay w hw)) ty_M tyok_M nm_M (by decide) (List.mem_cons_of_mem _ (w_M_has 36 rfl)) rfl rfl rfl rfl (fun _ => rfl) (fun _ => rfl) (by decide) (jS_hx rfl) jS_ho jS_hk (show decode b_M_init 142 = .ok (.putfield 59, 3) by decide +kernel) (fun H locs hP hD hS => ?_)
  refine lv_aload_n hx hb (show decode b_M_init 145 = .ok (.aload_n 0, 1) by decide +kernel) rfl (lv_at hl 0 rfl) ?_
  refine lv_iconst (v := 5) hx hb (show decode b_M_init 146 = .ok (.iconst 5, 1) by decide +kernel) (by decide) ?_
  refine lv_iconst (v := 5) hx hb (show decode b_M_init 147 = .ok (.iconst 5, 1) by decide +kernel) (by decide) ?_
  refine lv_iconst (v := 1) hx hb (show decode b_M_init 148 = .ok (.iconst 1, 1) by decide +kernel) (by decide) ?_
  rw [jS_full (by decide +kernel), jW_fx] at hP hD
  have e0 : al17 0 = al0 0 := ho17 0 (Or.inl (Nat.le_refl _))
  have hl2 : fx_LH al17 ls 1 [some (.ref 0)] := by
    show lv_has ls 1 [(0, .ref (al17 0))]
    rw [e0]
    exact hl
  refine W.eq (g2 := F0 m 149 ls [.int 1, .int 5, .int 5, .ref (al17 0)]) (by rw [e0]) ?_
  refine e_M_begins (l := l) (c0 := Cond.code y_M_init b_M_init 1 none) (rm := { frames := 3, cells := 17, slots := 5472, locals := 65 }) (nL := 1) (cc := b_M_init) ⟨Nat.le_of_ble_eq_true rfl, Nat.le_of_ble_eq_true rfl⟩ p e s m _ below meth c _ D A s.heap cA al17 17 5472 hx hb hml hown hts hK hN hC.2.2.2.2 ⟨Nat.le_of_ble_eq_true rfl, Nat.le_of_ble_eq_true rfl⟩ 149 [some (.ref 0)] [.int (nI 1), .int (nI 5), .int (nI 5), .ref 0] zI zJ R0_M (fun st I J R => st = [] ∧ I = beginsM zI (nI 5) (nI 5) (nI 1) ∧ J = zJ ∧ R = R0_M) (show decode b_M_init 149 = .ok (.invokevirtual 62, 3) by decide +kernel) ⟨Nat.le_of_ble_eq_true rfl, Nat.le_of_ble_eq_true rfl, ⟨rfl, trivial⟩, fun r I2 J2 R2 hp => ?_⟩ ?_ H locs ls hl2 hP hD hS
  · obtain ⟨rfl, rfl, rfl, rfl⟩ := hp
    exact ⟨rfl, rfl, rfl, rfl⟩
  · rintro st2 I2 J2 R2 ⟨rfl, rfl, rfl, rfl⟩ H2 locs2 ls2 hl3 hP2 hD2 hS2
    exact W.vret hx hb hret (fun t ht hW => ⟨⟨rfl, al17, fun q hq => ho17 q (by rcases hq with h | h; exact Or.inl (by omega); exact Or.inr (by have : 18 ≤ q := h; omega)), by rw [ht]; exact hP2, va_K.moved hW.alike hK, hD2⟩, hS2.F ht⟩) hS2.2.2 (show decode b_M_init 152 = .ok (.return_, 1) by decide +kernel)
