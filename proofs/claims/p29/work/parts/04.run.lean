/-! THE RUN: the least predicate closed under steps; loops; its soundness; contracts and calls (own work) -/
def fx_cl (nL : Nat) (M : fx_M) (ev : fx_Env) (ret : Option FieldType) (P : fx_P) (pr : fx_Pr) (V : fx_K) : Prop :=
  (∀ pc ins tgt L st I J R (k : fx_K), pr pc = some (ins, tgt) → fx_S nL M ev ret P ins tgt pc L st I J R k → (∀ pc L st I J R, k pc L st I J R → V pc L st I J R) → V pc L st I J R) ∧
  (∀ pc L b st I J R, V pc (L.take b) st I J R → V pc L st I J R)
def fx_R (nL : Nat) (M : fx_M) (ev : fx_Env) (ret : Option FieldType) (P : fx_P) (pr : fx_Pr) : fx_K := fun pc L st I J R => ∀ V : fx_K, fx_cl nL M ev ret P pr V → V pc L st I J R
section FR
variable {nL : Nat} {M : fx_M} {ev : fx_Env} {ret : Option FieldType} {P : fx_P} {pr : fx_Pr}
theorem fx_R_step {pc : Nat} {ins : Instr} {tgt : Nat} {L : List (Option Value)} {st : List Value} {I : fx_MI} {J : fx_MJ} {R : fx_MR} {k : fx_K} (hp : pr pc = some (ins, tgt)) (hs : fx_S nL M ev ret P ins tgt pc L st I J R k) (hk : ∀ pc L st I J R, k pc L st I J R → fx_R nL M ev ret P pr pc L st I J R) : fx_R nL M ev ret P pr pc L st I J R :=
  fun V hV => hV.1 _ _ _ _ _ _ _ _ k hp hs (fun pc L st I J R h => hk pc L st I J R h V hV)
theorem fx_R_take {pc : Nat} {L : List (Option Value)} {b : Nat} {st : List Value} {I : fx_MI} {J : fx_MJ} {R : fx_MR} (h : fx_R nL M ev ret P pr pc (L.take b) st I J R) : fx_R nL M ev ret P pr pc L st I J R :=
  fun V hV => hV.2 _ _ _ _ _ _ _ (h V hV)
theorem fx_X_R {stops : List (Nat × Nat)} {K : fx_K} (hK : ∀ pc L st I J R, K pc L st I J R → fx_R nL M ev ret P pr pc L st I J R) : ∀ (n pc : Nat) (L : List (Option Value)) (st : List Value) (I : fx_MI) (J : fx_MJ) (R : fx_MR), fx_X nL M ev ret P pr stops K n pc L st I J R → fx_R nL M ev ret P pr pc L st I J R := by
  intro n
  induction n with
  | zero => intro pc L st I J R h; exact hK _ _ _ _ _ _ h
  | succ n ih =>
    intro pc L st I J R h
    unfold fx_X at h
    split at h
    · exact fx_R_take (hK _ _ _ _ _ _ h)
    · split at h
      · rename_i hp
        exact fx_R_step hp h ih
      · cases h
theorem fx_X1_R {stops : List (Nat × Nat)} {K : fx_K} (hK : ∀ pc L st I J R, K pc L st I J R → fx_R nL M ev ret P pr pc L st I J R) {n pc : Nat} {L : List (Option Value)} {st : List Value} {I : fx_MI} {J : fx_MJ} {R : fx_MR} (h : fx_X1 nL M ev ret P pr stops K n pc L st I J R) : fx_R nL M ev ret P pr pc L st I J R := by
  unfold fx_X1 at h
  split at h
  · rename_i hp
    exact fx_R_step hp h (fun pc L st I J R h => fx_X_R hK n pc L st I J R h)
  · cases h
/-- loops: an invariant with a measure -/
theorem fx_cut {α : Type} {lt : α → α → Prop} (hwf : WellFounded lt) {stops : List (Nat × Nat)} {K0 : fx_K} {Inv : α → fx_K} (n : Nat) (hK0 : ∀ pc L st I J R, K0 pc L st I J R → fx_R nL M ev ret P pr pc L st I J R)
    (h : ∀ a pc L st I J R, Inv a pc L st I J R → fx_X1 nL M ev ret P pr stops (fun pc L st I J R => (∃ b, lt b a ∧ Inv b pc L st I J R) ∨ K0 pc L st I J R) n pc L st I J R) :
    ∀ a pc L st I J R, Inv a pc L st I J R → fx_R nL M ev ret P pr pc L st I J R := by
  intro a
  induction a using hwf.induction with
  | _ a ih =>
    intro pc L st I J R hi
    refine fx_X1_R ?_ (h a pc L st I J R hi)
    intro pc L st I J R h
    rcases h with ⟨b, hb, h⟩ | h
    · exact ih b hb _ _ _ _ _ _ h
    · exact hK0 _ _ _ _ _ _ h
theorem fx_cutN {stops : List (Nat × Nat)} {K0 : fx_K} {Inv : Nat → fx_K} (n : Nat) (hK0 : ∀ pc L st I J R, K0 pc L st I J R → fx_R nL M ev ret P pr pc L st I J R)
    (h : ∀ a pc L st I J R, Inv a pc L st I J R → fx_X1 nL M ev ret P pr stops (fun pc L st I J R => (∃ b, b < a ∧ Inv b pc L st I J R) ∨ K0 pc L st I J R) n pc L st I J R) :
    ∀ a pc L st I J R, Inv a pc L st I J R → fx_R nL M ev ret P pr pc L st I J R := fx_cut (lt := fun a b : Nat => a < b) Nat.lt_wfRel.wf n hK0 h
end FR
section FS
variable {p : Program} {l : Launch} {e : Env} {Rm : Room} {s : State} {m : MethodId} {args : Array Value} {below : List Frame} {meth : Method} {c : Code} {D : va_G} {A : Nat → Prop} {H0 : Heap} {M : fx_M} {cA : Nat → ClassId} {al : Nat → Nat} {nL kc ks : Nat} {cc : ByteArray} {Qc : State → Prop} {Qd : Array Value → State → Outcome → State → Prop}
def fx_tys (M : fx_M) : Prop := ∀ q i n, M.2.2.1 q = some (.inr (i, n)) → (i = 0 ∧ M.2.2.2.2[0]? = some .int) ∨ (i = 1 ∧ M.2.2.2.2[1]? = some .long) ∨ (i = 2 ∧ M.2.2.2.2[2]? = some .byte) ∨ (i = 3 ∧ ∃ C, M.2.2.2.2[3]? = some (.object C))
theorem fx_R_sound {ev : fx_Env} {ret : Option FieldType} {P : fx_P} {pr : fx_Pr} (hM : fx_ok M) (hTy : fx_tys M)
    (hx : p.tables.exec = Jvm.exec) (hb : c.code = cc) (hr : meth.sig.returnType = ret) (hlocks : meth.locks = false) (hK : va_K D M.1 (fx_ty M cA) s)
    (hret : fx_RetOK s args Qd D A H0 M cA al P) (hQ : ∀ t, MQ below Qd args s kc ks A t → Qc t) (hev : ∀ ins t, fx_lk ev ins = some t → fx_TOK cc p l e Rm s m args below meth c Qc D A H0 M cA al nL kc ks ins t) (hpr : fx_prOK cc pr)
    {pc : Nat} {L : List (Option Value)} {st : List Value} {I : fx_MI} {J : fx_MJ} {R : fx_MR} (h : fx_R nL M ev ret P pr pc L st I J R) : fx_W p l e Rm s m args below meth c Qc D A H0 M cA al nL kc ks pc L st I J R :=
  h _ ⟨fun pc ins tgt L st I J R k hp hs hk => fx_S_sound hM (fun _ _ _ _ _ _ _ => trivial) hTy hx hb hr hlocks hK hret hQ hev (hpr _ _ _ hp) hs hk,
    fun pc L b st I J R h => fun H locs ls hl hP hD hS => h H locs ls (hl.less (fun i v => fx_lg_take L b i v)) hP hD hS⟩
/-- the locals with which a method begins -/
def fx_en : List Value → List (Option Value)
  | [] => []
  | v :: r => if v.category = 2 then some v :: none :: fx_en r else some v :: fx_en r
def fx_sz : List Value → Nat
  | [] => 0
  | v :: r => (if v.category = 2 then 2 else 1) + fx_sz r
theorem fx_en_as {al : Nat → Nat} : ∀ (st : List Value) (k : Nat), fx_as al (fx_en st) k = lv_args k (st.map (fx_v al))
  | [], _ => rfl
  | v :: r, k => by
    by_cases h : v.category = 2
    · have h' : (fx_v al v).category = 2 := by rw [fx_v_cat]; exact h
      simp only [fx_en, if_pos h, fx_as, List.map_cons, lv_args, if_pos h', fx_en_as r]
    · have h' : ¬ (fx_v al v).category = 2 := by rw [fx_v_cat]; exact h
      simp only [fx_en, if_neg h, fx_as, List.map_cons, lv_args, if_neg h', fx_en_as r]
theorem fx_sz_sl {al : Nat → Nat} : ∀ st : List Value, (lg_sl (st.map (fx_v al))).length = fx_sz st
  | [] => rfl
  | v :: r => by
    have ih := fx_sz_sl (al := al) r
    unfold lg_sl at ih ⊢
    rw [List.map_cons, List.flatMap_cons, List.length_append, ih, fx_sz, fx_v_cat]
    by_cases h : v.category = 2
    · simp [h]
    · simp [h]
/-- the links between nest mates, which hold in every state of the law -/
def fx_NF : List (String × Nat × String × String × String) := [("PictureClues", 175, "PictureClues$Grid", "width", "I"), ("PictureClues", 178, "PictureClues$Grid", "height", "I"), ("PictureClues", 99, "PictureClues$Grid", "colors", "I"), ("PictureClues", 242, "PictureClues$Grid", "all", "J"), ("PictureClues", 254, "PictureClues$Clues", "clued", "I"), ("PictureClues", 118, "PictureClues$Clues", "sizes", "[I"), ("PictureClues$Fillings", 133, "PictureClues$Clues", "sizes", "[I"), ("PictureClues", 129, "PictureClues$Clues", "rooms", "[I"), ("PictureClues", 191, "PictureClues$Layer", "cells", "[J"), ("PictureClues$Fillings", 117, "PictureClues$Layer", "cells", "[J"), ("PictureClues", 46, "PictureClues$Situation", "clues", "LPictureClues$Clues;"), ("PictureClues", 132, "PictureClues$Situation", "marks", "LPictureClues$Layer;"), ("PictureClues", 188, "PictureClues$Situation", "picture", "LPictureClues$Layer;"), ("PictureClues", 307, "PictureClues$History", "states", "I"), ("PictureClues", 216, "PictureClues$ClueText", "length", "I"), ("PictureClues", 238, "PictureClues$Narrower", "marks", "LPictureClues$Layer;"), ("PictureClues", 290, "PictureClues$Advice", "level", "I")]
def fx_NM : List (String × Nat × MethodName) := [("PictureClues", 11, ⟨"PictureClues$Grid", "<init>", "()V"⟩), ("PictureClues", 18, ⟨"PictureClues$Situation", "<init>", "()V"⟩), ("PictureClues$Situation", 9, ⟨"PictureClues$Clues", "<init>", "()V"⟩), ("PictureClues$Situation", 18, ⟨"PictureClues$Layer", "<init>", "()V"⟩), ("PictureClues$History", 17, ⟨"PictureClues$Situation", "<init>", "()V"⟩), ("PictureClues", 32, ⟨"PictureClues$ClueText", "<init>", "()V"⟩), ("PictureClues", 39, ⟨"PictureClues$Clues", "<init>", "()V"⟩), ("PictureClues$Narrower", 11, ⟨"PictureClues$Layer", "<init>", "()V"⟩), ("PictureClues$Search", 11, ⟨"PictureClues$Layer", "<init>", "()V"⟩), ("PictureClues$Grid", 39, ⟨"PictureClues", "isWithin", "(III)Z"⟩), ("PictureClues$Fillings", 67, ⟨"PictureClues", "lowestBit", "(J)I"⟩), ("PictureClues$Fillings", 71, ⟨"PictureClues", "highestBit", "(I)I"⟩)]
def fx_Nw (U : State) : Prop := (∀ q ∈ fx_NF, va_Nw (.fieldLinkNest q.1 q.2.1 q.2.2.1 q.2.2.2.1 q.2.2.2.2 "PictureClues") U) ∧ ∀ q ∈ fx_NM, va_Nw (.methodLinkNest q.1 q.2.1 q.2.2 "PictureClues") U
theorem fx_Nw.warm {s U : State} (hW : s.WarmedH U.vm) (h : fx_Nw s) : fx_Nw U := ⟨fun q hq => va_Nw.warmF hW (h.1 q hq), fun q hq => va_Nw.warmM hW (h.2 q hq)⟩
theorem fx_Nw.same {u U : State} (hv : u.vm = U.vm) (h : fx_Nw u) : fx_Nw U := ⟨fun q hq => va_Nw.same rfl hv (h.1 q hq), fun q hq => va_Nw.same rfl hv (h.2 q hq)⟩
def fx_Pc (M : fx_M) (D : va_G) (cA : Nat → ClassId) (al : Nat → Nat) (st : List Value) (I : fx_MI) (J : fx_MJ) (R : fx_MR) (sz : Nat) : Array Value → State → Prop :=
  va_Pc (st.map (fx_v al)) (fun U => U.heap.size = sz ∧ va_P D M.1 (fx_w M cA al I J R) U.heap ∧ va_K D M.1 (fx_ty M cA) U ∧ va_D (fun _ => True) (fx_w M cA al I J R) ∧ fx_Nw U)
def fx_Qc (M : fx_M) (D : va_G) (cA : Nat → ClassId) (al : Nat → Nat) (A : Nat → Prop) (Post : Option Value → fx_MI → fx_MJ → fx_MR → Prop) : Array Value → State → Outcome → State → Prop := fun _ st0 oc t =>
  (∃ r I J R, oc = .returned (r.map (fx_v al)) ∧ Post r I J R ∧ va_P D M.1 (fx_w M cA al I J R) t.heap ∧ va_K D M.1 (fx_ty M cA) t ∧ va_D A (fx_w M cA al I J R)) ∧ va_F A st0 t
/-- a contract over a world of fixed places -/
def fx_Met (l : Launch) (y : MethodName) (ws : List Cond) (rm : Room) (M : fx_M) (Pre : fx_Pre) (Post : fx_Post) : Prop :=
  ∀ (D : va_G) (cA : Nat → ClassId) (al : Nat → Nat) (st : List Value) (I : fx_MI) (J : fx_MJ) (R : fx_MR) (sz : Nat), Pre st I J R → Met l y ws rm (fx_Pc M D cA al st I J R sz) (fx_Qc M D cA al (va_A (fx_w M cA al I J R) sz) (Post st I J R)) 0 0 (va_A (fx_w M cA al I J R) sz)
/-- one link-dependent instruction of a method, in any context of it -/
def fx_E1 (l : Launch) (own : String) (ws : List Cond) (rm : Room) (M : fx_M) (nL : Nat) (cc : ByteArray) (ins : Instr) (t : fx_T) : Prop :=
  ∀ (p : Program) (e : Env) (s : State) (m : MethodId) (args : Array Value) (below : List Frame) (meth : Method) (c : Code) (Qc : State → Prop) (D : va_G) (A : Nat → Prop) (H0 : Heap) (cA : Nat → ClassId) (al : Nat → Nat) (kc ks : Nat),
    p.tables.exec = Jvm.exec → c.code = cc → c.maxLocals = nL → s.vm.findClass own = some m.cls → (∀ w ∈ ws, w.before args s = true) → va_K D M.1 (fx_ty M cA) s → fx_Nw s → (∀ q : Nat, H0.size ≤ q → A q) → (kc ≤ rm.cells ∧ ks ≤ rm.slots) → fx_TOK cc p l e rm s m args below meth c Qc D A H0 M cA al nL kc ks ins t
def fx_EV (l : Launch) (own : String) (ws : List Cond) (rm : Room) (M : fx_M) (nL : Nat) (cc : ByteArray) (ev : fx_Env) : Prop := ∀ ins t, fx_lk ev ins = some t → fx_E1 l own ws rm M nL cc ins t
theorem fx_EV_nil {own : String} {ws : List Cond} : fx_EV l own ws Rm M nL cc [] := fun ins t h => by cases h
theorem fx_EV_cons {own : String} {ws : List Cond} {i : Instr} {t : fx_T} {ev : fx_Env} (h1 : fx_E1 l own ws Rm M nL cc i t) (h2 : fx_EV l own ws Rm M nL cc ev) : fx_EV l own ws Rm M nL cc ((i, t) :: ev) := by
  intro ins t' h
  unfold fx_lk at h
  split at h
  · rename_i hi
    cases h
    rw [← hi]
    exact h1
  · exact h2 ins t' h
/-- the contract of a method out of its run -/
theorem fx_met {y : MethodName} {ws ws' : List Cond} {rm : Room} {Pre : fx_Pre} {Post : fx_Post} {ret : Option FieldType} {pr : fx_Pr} {ev : fx_Env} (hM : fx_ok M) (hTy : fx_tys M) (hy : plainName y.cls = true) (hw : ws = Cond.code y cc nL ret :: ws') (hpr : fx_prOK cc pr) (hev : fx_EV l y.cls ws rm M nL cc ev)
    (h : ∀ st I J R, Pre st I J R → fx_sz st ≤ nL ∧ fx_R nL M ev ret (Post st I J R) pr 0 (fx_en st) [] I J R) : fx_Met l y ws rm M Pre Post := by
  intro D cA al st I J R sz hPre
  obtain ⟨h1, h2⟩ := h st I J R hPre
  refine Met.ofW (cc := cc) (maxL := nL) (ret := ret) hy hw ?_
  intro p e s m args below meth c s₁ B hml hv
  obtain ⟨rfl, hsz, hP, hK, hD0, hN⟩ := hv
  have hts := atoms_spec (ws := ws) B.pre
  have hown : s.vm.findClass y.cls = some m.cls := findClass_of_methodNamed B.named
  subst hsz
  have hD := hD0.self (sz := s.heap.size)
  have hl := lv_entry (st.map (fx_v al)) (n := nL) (by rw [fx_sz_sl]; exact h1)
  rw [lg_entry_eq]
  refine fx_R_sound hM hTy B.exec B.bytes B.returns B.notSynchronized hK ?_ (fun _ z => z) (fun ins t ht => hev ins t ht p e s m _ below meth c _ D _ s.heap cA al 0 0 B.exec B.bytes hml hown hts hK hN (fun q hq => Or.inr hq) ⟨Nat.zero_le _, Nat.zero_le _⟩) hpr h2 s.heap [] _ ?_ hP hD va_S.rf
  · intro H locs I' J' R' r hp hP' hD' hS t ht hW
    exact ⟨⟨r, I', J', R', rfl, hp, by rw [ht]; exact hP', va_K.moved hW.alike hK, hD'⟩, hS.F ht⟩
  · unfold fx_LH
    rw [fx_en_as]
    exact hl
/-- behind a call -/
theorem fx_callx {H : Heap} {locs : List Loc} {Q : State → Prop} {pc : Nat} {ls : Array Slot} {rest st0 : List Value} {a : Array Value} {A1 : Nat → Prop} {free : Addr → Prop} {Post : Option Value → fx_MI → fx_MJ → fx_MR → Prop} {cells slots : Nat}
    (hr : va_Run p l e Rm s m args below meth c H locs cells slots 0 0 (F0 m pc ls st0) rest (fx_Qc M D cA al A1 Post a) free) (hS : va_S A H0 H locs) (hA : ∀ q, q < H.size → A1 q → A q) (hf : ∀ q, free q → A q)
    (kk : ∀ r I' J' R' (H1 : Heap) (locs1 : List Loc), Post r I' J' R' → va_P D M.1 (fx_w M cA al I' J' R') H1 → va_D A1 (fx_w M cA al I' J' R') → va_S A H0 H1 locs1 → W p l e Rm s m args below meth c H1 locs1 cells slots Q (F0 m (pc + 3) ls ((r.map (fx_v al)).toList ++ rest))) : W p l e Rm s m args below meth c H locs cells slots Q (F0 m pc ls st0) := by
  intro T hT X
  obtain ⟨v, st₀, t, T', L, h0, X', hL, e1, e2, ⟨⟨r, I', J', R', hv, hp, hP1, hK1, hD1⟩, hz, hk⟩, st⟩ := hr T hT X
  cases hv
  rw [h0] at hz hk
  obtain ⟨t2, a1, b1⟩ := kk r I' J' R' T'.heap (locs ++ L) hp (by rw [e1]; exact hP1) hD1
    ⟨Nat.le_trans hS.1 (by rw [e1]; exact hz), fun q h1 h2 => by rw [e1, hk q (Nat.lt_of_lt_of_le h1 hS.1) (fun z => h2 (hA q (Nat.lt_of_lt_of_le h1 hS.1) z))]; exact hS.2.1 q h1 h2, fun q hq => by
      rcases List.mem_append.mp hq with h | h
      · exact hS.2.2 q h
      · exact hf _ (hL q h)⟩ T' rfl X'
  exact ⟨t2, st t2 a1, b1⟩
theorem fx_blind {st : List Value} {I : fx_MI} {J : fx_MJ} {R : fx_MR} {sz : Nat} : FrameBlind (fx_Pc M D cA al st I J R sz) := by
  intro a U g mk q
  obtain ⟨q0, q1, qP, qK, qD, qN⟩ := q
  exact ⟨q0, q1, qP, va_K.moved (u := U) (U := U.calling g mk a) (Vm.Alike.refl U.vm) qK, qD, qN.same rfl⟩
theorem fx_A_in {A : Nat → Prop} {I : fx_MI} {J : fx_MJ} {R : fx_MR} {H : Heap} {locs : List Loc} (hD : va_D A (fx_w M cA al I J R)) (hS : va_S A H0 H locs) (hA : ∀ q : Nat, H0.size ≤ q → A q) : ∀ q, va_A (fx_w M cA al I J R) H.size q → A q := by
  intro q h
  rcases h with ⟨k, x, h⟩ | h
  · exact hD.2 k (q, x) h
  · exact hA q (Nat.le_trans hS.1 h)
theorem fx_rev_take {α β : Type} (f : α → β) {st : List α} {n : Nat} {q : α} {r : List α} (h : (st.take n).reverse = q :: r) : st.map f = (r.map f).reverse ++ f q :: (st.drop n).map f := by
  have h1 : st.take n = (q :: r).reverse := by rw [← h, List.reverse_reverse]
  have h2 : st = (q :: r).reverse ++ st.drop n := by rw [← h1, List.take_append_drop]
  conv => lhs; rw [h2]
  rw [List.map_append, List.reverse_cons, List.map_append, List.append_assoc, List.map_reverse]
  rfl
theorem fx_cat_map (st : List Value) : ((st.map (fx_v al)).map fun v => v.category).sum = fx_cat st := by
  unfold fx_cat
  rw [List.map_map]
  congr 1
  apply List.map_congr_left
  intro v _
  exact fx_v_cat al v
theorem fx_callV {own C : String} {ws ws0 ws0' : List Cond} {rm0 : Room} {y : MethodName} {bytes : ByteArray} {maxL ci idx n : Nat} {ret : Option FieldType} {T : u_T} {N : Nat} {Pre : fx_Pre} {Post : fx_Post} (hC : M.1[ci]? = some (C, T, N)) (hM : fx_Met l y ws0 rm0 M Pre Post) (hG : GoodIn ws (wsV own idx C y ws0)) (hw : ws0 = Cond.code y bytes maxL ret :: ws0') (hr0 : rm0.cells = 0 ∧ rm0.slots = 0)
    (hd : y.cls = C ∧ y.cls ≠ "java/lang/invoke/MethodHandle" ∧ y.cls ≠ "java/lang/invoke/VarHandle" ∧ (parseMethodDescriptor y.desc).map (fun d => d.parameters.length) = some n) (hR : rm0.frames + 1 ≤ Rm.frames ∧ 8 + (maxL + 11) + rm0.locals ≤ Rm.locals)
    (hp : ∀ st I J R, Pre st I J R → ∃ q r, st = .ref q :: r ∧ M.2.2.1 q = some (.inl ci) ∧ r.length = n) (hok : fx_ok M) : fx_E1 l own ws Rm M nL cc (.invokevirtual idx) (fx_tcall (n + 1) Pre Post) := by
  intro p e s m args below meth c Qc D A H0 cA al kc ks hx hb hml hown hts hK hN hA hkk pc L st I J R k hdg ht hk H locs ls hl hP hD hS
  obtain ⟨h1, h2, h3, h4⟩ := ht
  obtain ⟨q, r, e1, e2, e3⟩ := hp _ _ _ _ h3
  have hq := hok.1 _ _ e2
  have hm := hM D cA al _ I J R H.size h3
  have hrv := va_recv hK hP hC (by rw [fx_w_at hq, fx_e, e2])
  have hst : st.map (fx_v al) = (r.map (fx_v al)).reverse ++ .ref (al q) :: (st.drop (n + 1)).map (fx_v al) := fx_rev_take (fx_v al) e1
  have hpc : ∀ U : State, U.heap = H → s.WarmedH U.vm → fx_Pc M D cA al (st.take (n + 1)).reverse I J R H.size (Value.ref (al q) :: r.map (fx_v al)).toArray U := by
    intro U hU hW
    refine ⟨by rw [e1]; rfl, by rw [hU], by rw [hU]; exact hP, va_K.moved hW.alike hK, hD.weaken (fun _ _ _ _ => trivial), hN.warm hW⟩
  have hrun := va_runV (e := e) (meth := meth) (below := below) (As := r.map (fx_v al)) (rest := (st.drop (n + 1)).map (fx_v al)) (g := F0 m pc ls (st.map (fx_v al))) (cells := kc) (slots := ks) (locs := locs) ⟨hx, hb, hml, hown, hts⟩ hm (cwV n hts hG hw hr0.1 hr0.2 hd hR) ⟨fx_blind, hrv, hpc⟩ rfl (by rw [List.length_map, e3]) hl.1 hst (lv_room (by rw [fx_cat_map]; exact h2)) hdg hkk
  refine fx_callx hrun hS (fun q' _ h => fx_A_in hD hS hA q' h) (fun q' h => fx_A_in hD hS hA q' h) ?_
  intro r' I' J' R' H1 locs1 hp1 hP1 hD1 hS1
  have h9 := hk _ _ _ _ (h4 r' I' J' R' hp1) H1 locs1 ls hl hP1 (fx_w_D hD hD1) hS1
  rw [List.map_append] at h9
  cases r' <;> exact h9
theorem fx_callS {own : String} {ws ws0 ws0' : List Cond} {rm0 : Room} {y : MethodName} {bytes : ByteArray} {maxL idx n : Nat} {ret : Option FieldType} {Pre : fx_Pre} {Post : fx_Post} (hM : fx_Met l y ws0 rm0 M Pre Post) (hG : GoodIn ws (wsS own idx y ws0)) (hw : ws0 = Cond.code y bytes maxL ret :: ws0') (hr0 : rm0.cells = 0 ∧ rm0.slots = 0)
    (hd : y.cls = own ∧ y.cls ≠ "java/lang/invoke/MethodHandle" ∧ y.cls ≠ "java/lang/invoke/VarHandle" ∧ (parseMethodDescriptor y.desc).map (fun d => d.parameters.length) = some n) (hR : rm0.frames + 1 ≤ Rm.frames ∧ 8 + (maxL + 11) + rm0.locals ≤ Rm.locals)
    (hp : ∀ st I J R, Pre st I J R → st.length = n) : fx_E1 l own ws Rm M nL cc (.invokestatic idx) (fx_tcall n Pre Post) := by
  intro p e s m args below meth c Qc D A H0 cA al kc ks hx hb hml hown hts hK hN hA hkk pc L st I J R k hdg ht hk H locs ls hl hP hD hS
  obtain ⟨h1, h2, h3, h4⟩ := ht
  have e3 := hp _ _ _ _ h3
  have hm := hM D cA al _ I J R H.size h3
  have hst : st.map (fx_v al) = (((st.take n).reverse).map (fx_v al)).reverse ++ (st.drop n).map (fx_v al) := by
    rw [← List.map_reverse, List.reverse_reverse, ← List.map_append, List.take_append_drop]
  have hpc : ∀ U : State, U.heap = H → s.WarmedH U.vm → fx_Pc M D cA al (st.take n).reverse I J R H.size (((st.take n).reverse).map (fx_v al)).toArray U := by
    intro U hU hW
    exact ⟨rfl, by rw [hU], by rw [hU]; exact hP, va_K.moved hW.alike hK, hD.weaken (fun _ _ _ _ => trivial), hN.warm hW⟩
  have hrun := va_runS (e := e) (meth := meth) (below := below) (As := ((st.take n).reverse).map (fx_v al)) (rest := (st.drop n).map (fx_v al)) (g := F0 m pc ls (st.map (fx_v al))) (cells := kc) (slots := ks) (locs := locs) ⟨hx, hb, hml, hown, hts⟩ hm (cwS n hts hG hw hr0.1 hr0.2 hd hR) ⟨fx_blind, hpc⟩ rfl (by rw [List.length_map, e3]) hl.1 hst (lv_room (by rw [fx_cat_map]; exact h2)) hdg hkk
  refine fx_callx hrun hS (fun q' _ h => fx_A_in hD hS hA q' h) (fun q' h => fx_A_in hD hS hA q' h) ?_
  intro r' I' J' R' H1 locs1 hp1 hP1 hD1 hS1
  have h9 := hk _ _ _ _ (h4 r' I' J' R' hp1) H1 locs1 ls hl hP1 (fx_w_D hD hD1) hS1
  rw [List.map_append] at h9
  cases r' <;> exact h9
theorem fx_o_at {I : fx_MI} {J : fx_MJ} {R : fx_MR} {ci k j : Nat} {C : String} {T : u_T} {N : Nat} (hC : M.1[ci]? = some (C, T, N)) (hj : j < N) : (fx_o M al I J R ci k)[j]? = some (fx_v al (fx_fv I J R (M.2.1 ci j) k j)) := by
  simp [fx_o, fx_nf, hC, List.getElem?_map, List.getElem?_range hj]
theorem fx_getf {own C : String} {ws : List Cond} {ci idx j : Nat} {T : u_T} {N : Nat} (hC : M.1[ci]? = some (C, T, N)) (hin : ∀ w ∈ u_ws C T N, w ∈ ws) (hj : j < N) (hlink : Cond.fieldLink own idx C (T j).2.1 (T j).2.2.1 ∈ ws) (hsame : (T j).1 = C) (hok : fx_ok M) : fx_E1 l own ws Rm M nL cc (.getfield idx) (fx_tget M ci j) := by
  intro p e s m args below meth c Qc D A H0 cA al kc ks hx hb hml hown hts hK hN hA hkk pc L st I J R k hdg ht hk H locs ls hl hP hD hS
  unfold fx_tget at ht
  split at ht
  · rename_i q r
    have hq := hok.1 _ _ ht.1
    have h9 := hk _ _ _ _ ht.2 H locs ls hl hP hD hS
    exact va_get hx hb hts hin hown hK hP q (by rw [fx_w_at hq, fx_e, ht.1]) hC j hj (hts _ hlink) (fun x hx => by rw [← hsame]; exact hx) (fx_o_at hC hj) hdg h9
  · cases ht
theorem fx_o_set {I I' : fx_MI} {J J' : fx_MJ} {R R' : fx_MR} {ci k j : Nat} {v : Value} {C : String} {T : u_T} {N : Nat} (hC : M.1[ci]? = some (C, T, N)) (hj : j < N) (hv : fx_fv I' J' R' (M.2.1 ci j) k j = v) (ho : ∀ j', j' ≠ j → fx_fv I' J' R' (M.2.1 ci j') k j' = fx_fv I J R (M.2.1 ci j') k j') : fx_o M al I' J' R' ci k = (fx_o M al I J R ci k).set j (fx_v al v) := by
  apply List.ext_getElem?
  intro i
  rw [List.getElem?_set]
  have hl : (fx_o M al I J R ci k).length = N := by simp [fx_o, fx_nf, hC]
  by_cases hi : i < N
  · rw [fx_o_at hC hi]
    by_cases h : j = i
    · subst h
      rw [if_pos rfl, if_pos (by rw [hl]; exact hj), hv]
    · rw [if_neg h, fx_o_at hC hi, ho i (fun z => h z.symm)]
  · have h1 : (fx_o M al I' J' R' ci k)[i]? = none := List.getElem?_eq_none (by simp [fx_o, fx_nf, hC]; omega)
    have h2 : (fx_o M al I J R ci k)[i]? = none := List.getElem?_eq_none (by rw [hl]; omega)
    rw [h1, h2, if_neg (by omega)]
theorem fx_putI {own C : String} {ws : List Cond} {ci idx j : Nat} {T : u_T} {N : Nat} (hC : M.1[ci]? = some (C, T, N)) (hin : ∀ w ∈ u_ws C T N, w ∈ ws) (ty0 : Nat → FieldType) (hty : ∀ k, k < N → parseFieldDescriptor (T k).2.2.1 = some (ty0 k)) (hnm : ∀ a, a < N → ∀ b, b < N → a ≠ b → (T a).2.1 ≠ (T b).2.1) (hj : j < N) (hlink : Cond.fieldLink own idx C (T j).2.1 (T j).2.2.1 ∈ ws) (hsame : (T j).1 = C) (hfin : (T j).2.2.2 = false) (hkd : M.2.1 ci j = 0) (hd : parseFieldDescriptor (T j).2.2.1 = some .int) (hok : fx_ok M) : fx_E1 l own ws Rm M nL cc (.putfield idx) (fx_tput M ci j) := by
  intro p e s m args below meth c Qc D A H0 cA al kc ks hx hb hml hown hts hK hN hA hkk pc L st I J R k hdg ht hk H locs ls hl hP hD hS
  unfold fx_tput at ht
  split at ht
  · rename_i v q r
    obtain ⟨h1, h2⟩ := ht
    rw [hkd] at h2
    have hq := hok.1 _ _ h1
    cases v <;> try exact absurd h2 (fun z => z)
    rename_i x
    have he : (fx_w M cA al I J R)[q]? = some (al q, .inr (ci, fx_o M al I J R ci q)) := by rw [fx_w_at hq, fx_e, h1]
    refine va_put hx hb hts hin ty0 hty hnm hown hK hP hD hS q he hC j hj (hts _ hlink) (fun x hx => by rw [← hsame]; exact hx) hfin hd (v := .int x) rfl rfl (by simp [fx_o, fx_nf, hC, hj]) hdg ?_
    intro H1 locs1 hP1 hD1 hS1
    have hw := fx_w_set (M := M) (cA := cA) (al := al) (I := I) (I' := fx_up I q j x) (J := J) (J' := J) (R := R) (R' := R) (q := q) (x := .inr (ci, (fx_o M al I J R ci q).set j (.int x))) (by
      rw [fx_e, h1]
      dsimp only
      rw [fx_o_set (M := M) (al := al) (I := I) (I' := fx_up I q j x) (J := J) (J' := J) (R := R) (R' := R) (v := .int x) hC hj (by rw [hkd]; simp [fx_fv, fx_up]) (fun j' hj' => by
        unfold fx_fv
        split <;> simp [fx_up, hj'])]
      rfl) (fun k hk => fx_up_e hk)
    rw [hw] at hP1 hD1
    exact hk _ _ _ _ h2 H1 locs1 ls hl hP1 hD1 hS1
  · cases ht
theorem fx_putJ {own C : String} {ws : List Cond} {ci idx j : Nat} {T : u_T} {N : Nat} (hC : M.1[ci]? = some (C, T, N)) (hin : ∀ w ∈ u_ws C T N, w ∈ ws) (ty0 : Nat → FieldType) (hty : ∀ k, k < N → parseFieldDescriptor (T k).2.2.1 = some (ty0 k)) (hnm : ∀ a, a < N → ∀ b, b < N → a ≠ b → (T a).2.1 ≠ (T b).2.1) (hj : j < N) (hlink : Cond.fieldLink own idx C (T j).2.1 (T j).2.2.1 ∈ ws) (hsame : (T j).1 = C) (hfin : (T j).2.2.2 = false) (hkd : M.2.1 ci j = 1) (hd : parseFieldDescriptor (T j).2.2.1 = some .long) (hok : fx_ok M) : fx_E1 l own ws Rm M nL cc (.putfield idx) (fx_tput M ci j) := by
  intro p e s m args below meth c Qc D A H0 cA al kc ks hx hb hml hown hts hK hN hA hkk pc L st I J R k hdg ht hk H locs ls hl hP hD hS
  unfold fx_tput at ht
  split at ht
  · rename_i v q r
    obtain ⟨h1, h2⟩ := ht
    rw [hkd] at h2
    have hq := hok.1 _ _ h1
    cases v <;> try exact absurd h2 (fun z => z)
    rename_i x
    have he : (fx_w M cA al I J R)[q]? = some (al q, .inr (ci, fx_o M al I J R ci q)) := by rw [fx_w_at hq, fx_e, h1]
    refine va_put hx hb hts hin ty0 hty hnm hown hK hP hD hS q he hC j hj (hts _ hlink) (fun x hx => by rw [← hsame]; exact hx) hfin hd (v := .long x) rfl rfl (by simp [fx_o, fx_nf, hC, hj]) hdg ?_
    intro H1 locs1 hP1 hD1 hS1
    have hw := fx_w_set (M := M) (cA := cA) (al := al) (I := I) (I' := I) (J := J) (J' := fx_up J q j x) (R := R) (R' := R) (q := q) (x := .inr (ci, (fx_o M al I J R ci q).set j (.long x))) (by
      rw [fx_e, h1]
      dsimp only
      rw [fx_o_set (M := M) (al := al) (I := I) (I' := I) (J := J) (J' := fx_up J q j x) (R := R) (R' := R) (v := .long x) hC hj (by rw [hkd]; simp [fx_fv, fx_up]) (fun j' hj' => by
        unfold fx_fv
        split <;> simp [fx_up, hj'])]
      rfl) (fun k hk => fx_upL_e hk)
    rw [hw] at hP1 hD1
    exact hk _ _ _ _ h2 H1 locs1 ls hl hP1 hD1 hS1
  · cases ht
theorem fx_ldcI {own : String} {ws : List Cond} {idx : Nat} {v : Int32} (h : Cond.constant own idx v ∈ ws) : fx_E1 l own ws Rm M nL cc (.ldc idx) (fx_tldc (.int v)) := by
  intro p e s m args below meth c Qc D A H0 cA al kc ks hx hb hml hown hts hK hN hA hkk pc L st I J R k hdg ht hk H locs ls hl hP hD hS
  exact lv_ldc hx hb hown (hts _ h) hdg (hk _ _ _ _ ht H locs ls hl hP hD hS)
theorem fx_ldcL {own : String} {ws : List Cond} {idx : Nat} {v : Int64} (h : Cond.constantLong own idx v ∈ ws) : fx_E1 l own ws Rm M nL cc (.ldc2_w idx) (fx_tldc (.long v)) := by
  intro p e s m args below meth c Qc D A H0 cA al kc ks hx hb hml hown hts hK hN hA hkk pc L st I J R k hdg ht hk H locs ls hl hP hD hS
  exact lv_ldc2 hx hb hown (hts _ h) hdg (hk _ _ _ _ ht H locs ls hl hP hD hS)
end FS
