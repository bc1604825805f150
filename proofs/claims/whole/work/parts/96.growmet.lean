/-! contracts of methods that may make a new dead table (own work) -/
def gwN (n n' kc ks : Nat) : Prop := (n' = n ∧ kc = 0 ∧ ks = 0) ∨ ((n < 1171876 ∧ 2 * n ≤ n' ∧ n' ≤ 2343752) ∧ kc = 1 ∧ ks = n')
def fx_QG (n : Nat) (D : va_G) (cA : Nat → ClassId) (al : Nat → Nat) (A : Nat → Prop) (Post : Nat → Option Value → fx_MI → fx_MJ → fx_MR → Prop) : Array Value → State → Outcome → State → Prop := fun _ st0 oc t =>
  (∃ r I J R n' al' kc ks L, oc = .returned (r.map (fx_v al')) ∧ Post n' r I J R ∧ va_P D (MC n').1 (fx_w (MC n') cA al' I J R) t.heap ∧ va_K D (MC n').1 (fx_ty (MC n') cA) t ∧ va_D A (fx_w (MC n') cA al' I J R) ∧ (∀ q, q ≠ 120 → al' q = al q) ∧ gwN n n' kc ks ∧ FrameEnd st0 oc t L kc ks) ∧ va_F A st0 t
def fx_MetG (l : Launch) (y : MethodName) (ws : List Cond) (rm : Room) (Pre : Nat → fx_Pre) (Post : Nat → List Value → fx_MI → fx_MJ → fx_MR → Nat → Option Value → fx_MI → fx_MJ → fx_MR → Prop) : Prop :=
  ∀ (n : Nat) (D : va_G) (cA : Nat → ClassId) (al : Nat → Nat) (st : List Value) (I : fx_MI) (J : fx_MJ) (R : fx_MR) (sz : Nat), Pre n st I J R → Met l y ws rm (fx_Pc (MC n) D cA al st I J R sz) (fx_QG n D cA al (va_A (fx_w (MC n) cA al I J R) sz) (Post n st I J R)) 1 2343752 (va_A (fx_w (MC n) cA al I J R) sz)
/-- where a method's body stands -/
def fx_Cx (own : String) (ws : List Cond) (cc : ByteArray) (nL : Nat) (ret : Option FieldType) (p : Program) (s : State) (m : MethodId) (args : Array Value) (meth : Method) (c : Code) : Prop :=
  p.tables.exec = Jvm.exec ∧ c.code = cc ∧ c.maxLocals = nL ∧ s.vm.findClass own = some m.cls ∧ (∀ w ∈ ws, w.before args s = true) ∧ meth.sig.returnType = ret ∧ meth.locks = false ∧ fx_Nw s
/-- a body's run, to the answer of a growing contract -/
def fx_WG (p : Program) (l : Launch) (e : Env) (rm : Room) (s : State) (m : MethodId) (args : Array Value) (below : List Frame) (meth : Method) (c : Code) (n0 : Nat) (D : va_G) (cA : Nat → ClassId) (al0 : Nat → Nat) (A : Nat → Prop) (Post : Nat → Option Value → fx_MI → fx_MJ → fx_MR → Prop) (nL n : Nat) (al : Nat → Nat) (kc ks : Nat) : fx_K :=
  fx_W p l e rm s m args below meth c (MQ below (fx_QG n0 D cA al0 A Post) args s 1 2343752 A) D A s.heap (MC n) cA al nL kc ks
theorem fx_metG {l : Launch} {y : MethodName} {ws ws' : List Cond} {rm : Room} {Pre : Nat → fx_Pre} {Post : Nat → List Value → fx_MI → fx_MJ → fx_MR → Nat → Option Value → fx_MI → fx_MJ → fx_MR → Prop} {ret : Option FieldType} {nL : Nat} {cc : ByteArray} (hy : plainName y.cls = true) (hw : ws = Cond.code y cc nL ret :: ws')
    (h : ∀ n st I J R, Pre n st I J R → fx_sz st ≤ nL ∧ ∀ p e s m args below meth c D cA al, fx_Cx y.cls ws cc nL ret p s m args meth c → va_K D (MC n).1 (fx_ty (MC n) cA) s → fx_WG p l e rm s m args below meth c n D cA al (va_A (fx_w (MC n) cA al I J R) s.heap.size) (Post n st I J R) nL n al 0 0 0 (fx_en st) [] I J R) : fx_MetG l y ws rm Pre Post := by
  intro n D cA al st I J R sz hPre
  obtain ⟨h1, h2⟩ := h n st I J R hPre
  refine Met.ofW (cc := cc) (maxL := nL) (ret := ret) hy hw ?_
  intro p e s m args below meth c s₁ B hml hv
  obtain ⟨rfl, hsz, hP, hK, hD0, hN⟩ := hv
  have hts := atoms_spec (ws := ws) B.pre
  have hown : s.vm.findClass y.cls = some m.cls := findClass_of_methodNamed B.named
  subst hsz
  have hD := hD0.self (sz := s.heap.size)
  have hl := lv_entry (st.map (fx_v al)) (n := nL) (by rw [fx_sz_sl]; exact h1)
  rw [lg_entry_eq]
  refine h2 p e s m _ below meth c D cA al ⟨B.exec, B.bytes, hml, hown, hts, B.returns, B.notSynchronized, hN⟩ hK s.heap [] _ ?_ hP hD va_S.rf
  unfold fx_LH
  rw [fx_en_as]
  exact hl
section GM
variable {p : Program} {l : Launch} {e : Env} {rm : Room} {s : State} {m : MethodId} {args : Array Value} {below : List Frame} {meth : Method} {c : Code} {n0 n : Nat} {D : va_G} {cA : Nat → ClassId} {al0 al : Nat → Nat} {A : Nat → Prop} {Post : Nat → Option Value → fx_MI → fx_MJ → fx_MR → Prop} {nL kc ks : Nat} {own : String} {ws : List Cond} {cc : ByteArray} {ret : Option FieldType} {ev : fx_Env} {P : fx_P} {pr : fx_Pr}
theorem gw_le {n' : Nat} (h : gwN n n' kc ks) : kc ≤ 1 ∧ ks ≤ 2343752 := by
  unfold gwN at h
  omega
/-- a body's runs are closed under steps -/
theorem fx_clG (hC : fx_Cx own ws cc nL ret p s m args meth c) (hK : va_K D (MC n).1 (fx_ty (MC n) cA) s) (hev : fx_EV l own ws rm (MC n) nL cc ev) (hpr : fx_prOK cc pr) (hA : ∀ q : Nat, s.heap.size ≤ q → A q) (hkk : kc ≤ rm.cells ∧ ks ≤ rm.slots) (hg : gwN n0 n kc ks) (hal : ∀ q, q ≠ 120 → al q = al0 q) (hP : ∀ r I J R, P r I J R → Post n r I J R) :
    fx_cl nL (MC n) ev ret P pr (fx_WG p l e rm s m args below meth c n0 D cA al0 A Post nL n al kc ks) := by
  obtain ⟨hx, hb, hml, hown, hts, hr, hlocks, hN⟩ := hC
  refine fx_W_cl (Qd := fx_Qc (MC n) D cA al A P) (MC_ok n) (MC_tys n) hx hb hr hlocks hK ?_ ?_ (fun ins t ht => hev ins t ht p e s m args below meth c _ D A s.heap cA al kc ks hx hb hml hown hts hK hN hA hkk) hpr
  · intro H locs I' J' R' r hp hP' hD' hS t ht hW
    exact ⟨⟨r, I', J', R', rfl, hp, by rw [ht]; exact hP', va_K.moved hW.alike hK, hD'⟩, hS.F ht⟩
  · intro t ht
    refine MQ_more (gw_le hg).1 (gw_le hg).2 ?_ ht
    rintro o t L ⟨⟨r, I, J, R, h1, h2, h3, h4, h5⟩, h6⟩ h7
    exact ⟨⟨r, I, J, R, n, al, kc, ks, L, h1, hP _ _ _ _ h2, h3, h4, h5, hal, hg, h7⟩, h6⟩
/-- the rest of a body, in its new world -/
theorem fx_tailG (hC : fx_Cx own ws cc nL ret p s m args meth c) (hK : va_K D (MC n).1 (fx_ty (MC n) cA) s) (hev : fx_EV l own ws rm (MC n) nL cc ev) (hpr : fx_prOK cc pr) (hA : ∀ q : Nat, s.heap.size ≤ q → A q) (hkk : kc ≤ rm.cells ∧ ks ≤ rm.slots) (hg : gwN n0 n kc ks) (hal : ∀ q, q ≠ 120 → al q = al0 q) (hP : ∀ r I J R, P r I J R → Post n r I J R) {pc : Nat} {L : List (Option Value)} {st : List Value} {I : fx_MI} {J : fx_MJ} {R : fx_MR} (h : fx_R nL (MC n) ev ret P pr pc L st I J R) : fx_WG p l e rm s m args below meth c n0 D cA al0 A Post nL n al kc ks pc L st I J R :=
  h _ (fx_clG hC hK hev hpr hA hkk hg hal hP)
end GM
