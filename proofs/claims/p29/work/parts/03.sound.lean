/-! SOUNDNESS of the step over the machine (own work) -/
theorem fx_dec.ns {cc : ByteArray} {pc : Nat} {i : Instr} (h : fx_dec cc pc i) (hs : fx_isSw i = false) : decode cc pc = .ok (i, fx_len i) := by
  rcases h with h | h
  · exact h.2
  · rw [hs] at h; cases h.1
def fx_W (p : Program) (l : Launch) (e : Env) (Rm : Room) (s : State) (m : MethodId) (args : Array Value) (below : List Frame) (meth : Method) (c : Code) (Qc : State → Prop) (D : va_G) (A : Nat → Prop) (H0 : Heap) (M : fx_M) (cA : Nat → ClassId) (al : Nat → Nat) (nL kc ks : Nat) : fx_K := fun pc L st I J R =>
  ∀ (H : Heap) (locs : List Loc) (ls : Array Slot), fx_LH al ls nL L → va_P D M.1 (fx_w M cA al I J R) H → va_D A (fx_w M cA al I J R) → va_S A H0 H locs → W p l e Rm s m args below meth c H locs kc ks Qc (F0 m pc ls (st.map (fx_v al)))
section FX
variable {p : Program} {l : Launch} {e : Env} {Rm : Room} {s : State} {m : MethodId} {args : Array Value} {below : List Frame} {meth : Method} {c : Code} {D : va_G} {A : Nat → Prop} {H0 : Heap} {M : fx_M} {cA : Nat → ClassId} {al : Nat → Nat} {nL kc ks : Nat} {cc : ByteArray} {Qc : State → Prop} {Qd : Array Value → State → Outcome → State → Prop}
theorem fx_Wm {H : Heap} {locs : List Loc} {cells slots : Nat} {Q Q' : State → Prop} {g : JFrame} (h : ∀ t, Q t → Q' t) (k : W p l e Rm s m args below meth c H locs cells slots Q g) : W p l e Rm s m args below meth c H locs cells slots Q' g := fun T hT X => by
  obtain ⟨t, a, b⟩ := k T hT X
  exact ⟨t, a, h t b⟩
/-- a link-dependent instruction is sound here -/
def fx_TOK (cc : ByteArray) (p : Program) (l : Launch) (e : Env) (Rm : Room) (s : State) (m : MethodId) (args : Array Value) (below : List Frame) (meth : Method) (c : Code) (Qc : State → Prop) (D : va_G) (A : Nat → Prop) (H0 : Heap) (M : fx_M) (cA : Nat → ClassId) (al : Nat → Nat) (nL kc ks : Nat) (ins : Instr) (t : fx_T) : Prop :=
  ∀ pc L st I J R (k : List Value → fx_MI → fx_MJ → fx_MR → Prop), decode cc pc = .ok (ins, fx_len ins) → t st I J R k → (∀ st' I' J' R', k st' I' J' R' → fx_W p l e Rm s m args below meth c Qc D A H0 M cA al nL kc ks (pc + fx_len ins) L st' I' J' R') → fx_W p l e Rm s m args below meth c Qc D A H0 M cA al nL kc ks pc L st I J R
def fx_RetOK (s : State) (args : Array Value) (Qc : Array Value → State → Outcome → State → Prop) (D : va_G) (A : Nat → Prop) (H0 : Heap) (M : fx_M) (cA : Nat → ClassId) (al : Nat → Nat) (P : fx_P) : Prop :=
  ∀ H locs I J R r, P r I J R → va_P D M.1 (fx_w M cA al I J R) H → va_D A (fx_w M cA al I J R) → va_S A H0 H locs → ∀ t : State, t.heap = H → s.WarmedH t.vm → Qc args s (.returned (r.map (fx_v al))) t
theorem fx_in_at {q ty : Nat} {i : Int32} (h : fx_in M q ty i) : ∃ n, M.2.2.1 q = some (.inr (ty, n)) ∧ vp_in i n := by
  unfold fx_in at h
  split at h
  · rename_i t n e
    obtain ⟨rfl, h2⟩ := h
    exact ⟨n, e, h2⟩
  · cases h
theorem fx_sw_at {pc : Nat} {x : Int} {k : Nat → Prop} : ∀ {offs : List Int} {lo : Int}, fx_sw pc x lo offs k → lo ≤ x → x < lo + offs.length → ∃ o, offs[(x - lo).toNat]? = some o ∧ 0 ≤ (pc : Int) + o ∧ k ((pc : Int) + o).toNat
  | [], lo, _, h1, h2 => by simp at h2; omega
  | o :: r, lo, h, h1, h2 => by
    by_cases hx : x = lo
    · subst hx
      exact ⟨o, by simp, h.1 rfl⟩
    · obtain ⟨o', g1, g2⟩ := fx_sw_at h.2 (by omega) (by simp only [List.length_cons] at h2; omega)
      refine ⟨o', ?_, g2⟩
      rw [show (x - lo).toNat = (x - (lo + 1)).toNat + 1 by omega]
      simpa using g1
theorem fx_ifc {H : Heap} {locs : List Loc} {Q : State → Prop} {ls : Array Slot} {rest : List Value} {cells slots : Nat} (hx : p.tables.exec = Jvm.exec) (hb : c.code = cc) {cd : Jvm.ClassFile.Cond} {x : Int32} {off : Int} {tgt pc : Nat} (hdg : decode cc pc = .ok (.ifCond cd off, 3)) (ht : (pc : Int) + off = (tgt : Int))
    (kt : fx_cnd cd x 0 → W p l e Rm s m args below meth c H locs cells slots Q (F0 m tgt ls rest)) (kf : ¬ fx_cnd cd x 0 → W p l e Rm s m args below meth c H locs cells slots Q (F0 m (pc + 3) ls rest)) : W p l e Rm s m args below meth c H locs cells slots Q (F0 m pc ls (.int x :: rest)) := by
  cases cd
  · exact lv_if_eq hx hb hdg ht kt kf
  · exact lv_if_ne hx hb hdg ht kt (fun z => kf (fun y => y z))
  · exact lv_if_lt hx hb hdg ht kt kf
  · exact lv_if_ge hx hb hdg ht kt kf
  · exact lv_if_gt hx hb hdg ht kt kf
  · exact lv_if_le hx hb hdg ht kt kf
theorem fx_icm {H : Heap} {locs : List Loc} {Q : State → Prop} {ls : Array Slot} {rest : List Value} {cells slots : Nat} (hx : p.tables.exec = Jvm.exec) (hb : c.code = cc) {cd : Jvm.ClassFile.Cond} {x y : Int32} {off : Int} {tgt pc : Nat} (hdg : decode cc pc = .ok (.if_icmp cd off, 3)) (ht : (pc : Int) + off = (tgt : Int))
    (kt : fx_cnd cd x y → W p l e Rm s m args below meth c H locs cells slots Q (F0 m tgt ls rest)) (kf : ¬ fx_cnd cd x y → W p l e Rm s m args below meth c H locs cells slots Q (F0 m (pc + 3) ls rest)) : W p l e Rm s m args below meth c H locs cells slots Q (F0 m pc ls (.int y :: .int x :: rest)) := by
  cases cd
  · exact lv_icmp_eq hx hb hdg ht kt kf
  · exact lv_icmp_ne hx hb hdg ht kt (fun z => kf (fun y => y z))
  · exact lv_icmp_lt hx hb hdg ht kt kf
  · exact lv_icmp_ge hx hb hdg ht kt kf
  · exact lv_icmp_gt hx hb hdg ht kt kf
  · exact lv_icmp_le hx hb hdg ht kt kf
theorem fx_tsw {H : Heap} {locs : List Loc} {Q : State → Prop} {ls : Array Slot} {rest : List Value} {cells slots : Nat} (hx : p.tables.exec = Jvm.exec) (hb : c.code = cc) {x : Int32} {d lo hi : Int} {offs : Array Int} {tgt pc : Nat} (hd : fx_dec cc pc (.tableswitch d lo hi offs)) (h1 : (pc : Int) + d = (tgt : Int)) (hn : (offs.toList.length : Int) = hi - lo + 1)
    (h2 : x.toInt < lo ∨ hi < x.toInt → W p l e Rm s m args below meth c H locs cells slots Q (F0 m tgt ls rest)) (h3 : fx_sw pc x.toInt lo offs.toList (fun q => W p l e Rm s m args below meth c H locs cells slots Q (F0 m q ls rest))) : W p l e Rm s m args below meth c H locs cells slots Q (F0 m pc ls (.int x :: rest)) := by
  obtain ⟨n, hd⟩ : ∃ n, decode cc pc = .ok (.tableswitch d lo hi offs, n) := by
    rcases hd with q | q
    · exact ⟨_, q.2⟩
    · exact q.2
  by_cases h4 : x.toInt < lo ∨ hi < x.toInt
  · exact lv_tableOut hx hb hd h4 h1 (h2 h4)
  · obtain ⟨o, g1, g2, g3⟩ := fx_sw_at h3 (by omega) (by omega)
    exact lv_tableIn hx hb hd (by omega) (by omega) (off := o) (tgt := ((pc : Int) + o).toNat) (by simpa using g1) (by omega) g3
theorem fx_sw_mono {pc : Nat} {x : Int} {k k' : Nat → Prop} (hk : ∀ q, k q → k' q) : ∀ {offs : List Int} {lo : Int}, fx_sw pc x lo offs k → fx_sw pc x lo offs k'
  | [], _, _ => trivial
  | _ :: _, _, h => ⟨fun e => ⟨(h.1 e).1, hk _ (h.1 e).2⟩, fx_sw_mono hk h.2⟩
theorem fx_up_e {I : fx_MI} {J : fx_MJ} {R : fx_MR} {q i k : Nat} {x : Int32} (h : k ≠ q) : fx_e M cA al (fx_up I q i x) J R k = fx_e M cA al I J R k := by
  have hr : fx_up I q i x k = I k := fx_up_ne h
  unfold fx_e
  split
  · simp only [fx_o, fx_fv, hr]
  · unfold fx_a
    rw [hr]
  · rfl
theorem fx_upL_e {I : fx_MI} {J : fx_MJ} {R : fx_MR} {q i k : Nat} {x : Int64} (h : k ≠ q) : fx_e M cA al I (fx_up J q i x) R k = fx_e M cA al I J R k := by
  have hr : fx_up J q i x k = J k := fx_up_ne h
  unfold fx_e
  split
  · simp only [fx_o, fx_fv, hr]
  · unfold fx_a
    rw [hr]
  · rfl
theorem fx_upR_e {I : fx_MI} {J : fx_MJ} {R : fx_MR} {q i k : Nat} {x : Option Nat} (h : k ≠ q) : fx_e M cA al I J (fx_up R q i x) k = fx_e M cA al I J R k := by
  have hr : fx_up R q i x k = R k := fx_up_ne h
  unfold fx_e
  split
  · simp only [fx_o, fx_fv, hr]
  · unfold fx_a
    rw [hr]
  · rfl
theorem fx_S_sound {ev : fx_Env} {ret : Option FieldType} {P : fx_P} (hM : fx_ok M) (hT : ∀ i t, i < 4 → ∀ q n, M.2.2.1 q = some (.inr (i, n)) → M.2.2.2.2[i]? = some t → True) (hTy : ∀ q i n, M.2.2.1 q = some (.inr (i, n)) → (i = 0 ∧ M.2.2.2.2[0]? = some .int) ∨ (i = 1 ∧ M.2.2.2.2[1]? = some .long) ∨ (i = 2 ∧ M.2.2.2.2[2]? = some .byte) ∨ (i = 3 ∧ ∃ C, M.2.2.2.2[3]? = some (.object C)))
    (hx : p.tables.exec = Jvm.exec) (hb : c.code = cc) (hr : meth.sig.returnType = ret) (hlocks : meth.locks = false) (hK : va_K D M.1 (fx_ty M cA) s)
    (hret : fx_RetOK s args Qd D A H0 M cA al P) (hQ : ∀ t, MQ below Qd args s kc ks A t → Qc t) (hev : ∀ ins t, fx_lk ev ins = some t → fx_TOK cc p l e Rm s m args below meth c Qc D A H0 M cA al nL kc ks ins t)
    {ins : Instr} {tgt pc : Nat} {L : List (Option Value)} {st : List Value} {I : fx_MI} {J : fx_MJ} {R : fx_MR} {k : fx_K} (hd : fx_dec cc pc ins) (h : fx_S nL M ev ret P ins tgt pc L st I J R k)
    (hk : ∀ pc L st I J R, k pc L st I J R → fx_W p l e Rm s m args below meth c Qc D A H0 M cA al nL kc ks pc L st I J R) : fx_W p l e Rm s m args below meth c Qc D A H0 M cA al nL kc ks pc L st I J R := by
  intro H locs ls hl hP hD hS
  unfold fx_S at h
  split at h
  · exact lv_iconst hx hb (hd.ns rfl) rfl (hk _ _ _ _ _ _ h H locs ls hl hP hD hS)
  · exact lv_bipush hx hb (hd.ns rfl) rfl (hk _ _ _ _ _ _ h H locs ls hl hP hD hS)
  · exact lv_sipush hx hb (hd.ns rfl) rfl (hk _ _ _ _ _ _ h H locs ls hl hP hD hS)
  · exact lv_lconst hx hb (hd.ns rfl) rfl (hk _ _ _ _ _ _ h H locs ls hl hP hD hS)
  · split at h
    · rename_i x e
      exact lv_iload_n hx hb (hd.ns rfl) rfl (hl.at e) (hk _ _ _ _ _ _ h H locs ls hl hP hD hS)
    · cases h
  · split at h
    · rename_i x e
      exact lv_lload_n hx hb (hd.ns rfl) rfl (hl.at e) (hk _ _ _ _ _ _ h H locs ls hl hP hD hS)
    · cases h
  · split at h
    · rename_i x e
      exact lv_aload_n hx hb (hd.ns rfl) rfl (hl.at e) (hk _ _ _ _ _ _ h H locs ls hl hP hD hS)
    · cases h
  · split at h
    · obtain ⟨⟨h1, h2⟩, h⟩ := h
      exact lv_istore_n hx hb (hd.ns rfl) rfl hl h1 rfl (fun ls' hl' => hk _ _ _ _ _ _ h H locs ls' (fx_store1 h2 hl') hP hD hS)
    · cases h
  · split at h
    · obtain ⟨⟨h1, h2⟩, h⟩ := h
      exact lv_astore_n hx hb (hd.ns rfl) rfl hl h1 rfl (fun ls' hl' => hk _ _ _ _ _ _ h H locs ls' (fx_store1 h2 hl') hP hD hS)
    · cases h
  · split at h
    · obtain ⟨⟨h1, h2⟩, h⟩ := h
      exact lv_lstore_n hx hb (hd.ns rfl) rfl hl h1 rfl (fun ls' hl' => hk _ _ _ _ _ _ h H locs ls' (fx_store2 h2 hl') hP hD hS)
    · cases h
  · split at h
    · rename_i x e
      exact lv_iload hx hb (hd.ns rfl) (hl.at e) (hk _ _ _ _ _ _ h H locs ls hl hP hD hS)
    · cases h
  · split at h
    · rename_i x e
      exact lv_lload hx hb (hd.ns rfl) (hl.at e) (hk _ _ _ _ _ _ h H locs ls hl hP hD hS)
    · cases h
  · split at h
    · rename_i x e
      exact lv_aload hx hb (hd.ns rfl) (hl.at e) (hk _ _ _ _ _ _ h H locs ls hl hP hD hS)
    · cases h
  · split at h
    · obtain ⟨⟨h1, h2⟩, h⟩ := h
      exact lv_istore hx hb (hd.ns rfl) hl h1 rfl (fun ls' hl' => hk _ _ _ _ _ _ h H locs ls' (fx_store1 h2 hl') hP hD hS)
    · cases h
  · split at h
    · obtain ⟨⟨h1, h2⟩, h⟩ := h
      exact lv_astore hx hb (hd.ns rfl) hl h1 rfl (fun ls' hl' => hk _ _ _ _ _ _ h H locs ls' (fx_store1 h2 hl') hP hD hS)
    · cases h
  · split at h
    · obtain ⟨⟨h1, h2⟩, h⟩ := h
      exact lv_lstore hx hb (hd.ns rfl) hl h1 rfl (fun ls' hl' => hk _ _ _ _ _ _ h H locs ls' (fx_store2 h2 hl') hP hD hS)
    · cases h
  · split at h
    · rename_i i n o x e
      obtain ⟨⟨h1, h2⟩, h⟩ := h
      obtain ⟨kk, hkk⟩ := List.getElem?_of_mem (fx_as_mem (al := al) (k := 0) e)
      exact lv_iinc hx hb (hd.ns rfl) hl (k := kk) (by rw [hkk, Nat.zero_add]; rfl) rfl h1 rfl (fun ls' hl' => hk _ _ _ _ _ _ h H locs ls' (fx_store1 h2 hl') hP hD hS)
    · cases h
  · split at h
    · exact lv_iadd hx hb (hd.ns rfl) (hk _ _ _ _ _ _ h H locs ls hl hP hD hS)
    · cases h
  · split at h
    · exact lv_isub hx hb (hd.ns rfl) (hk _ _ _ _ _ _ h H locs ls hl hP hD hS)
    · cases h
  · split at h
    · exact lv_imul hx hb (hd.ns rfl) (hk _ _ _ _ _ _ h H locs ls hl hP hD hS)
    · cases h
  · split at h
    · exact lv_iand hx hb (hd.ns rfl) (hk _ _ _ _ _ _ h H locs ls hl hP hD hS)
    · cases h
  · split at h
    · exact lv_ior hx hb (hd.ns rfl) (hk _ _ _ _ _ _ h H locs ls hl hP hD hS)
    · cases h
  · split at h
    · exact lv_ixor hx hb (hd.ns rfl) (hk _ _ _ _ _ _ h H locs ls hl hP hD hS)
    · cases h
  · split at h
    · exact lv_ishl hx hb (hd.ns rfl) (hk _ _ _ _ _ _ h H locs ls hl hP hD hS)
    · cases h
  · split at h
    · exact lv_ishr hx hb (hd.ns rfl) (hk _ _ _ _ _ _ h H locs ls hl hP hD hS)
    · cases h
  · split at h
    · exact lv_iushr hx hb (hd.ns rfl) rfl (hk _ _ _ _ _ _ h H locs ls hl hP hD hS)
    · cases h
  · split at h
    · obtain ⟨h1, h⟩ := h
      exact lv_idiv hx hb (hd.ns rfl) h1 (hk _ _ _ _ _ _ h H locs ls hl hP hD hS)
    · cases h
  · split at h
    · obtain ⟨h1, h⟩ := h
      exact lv_irem hx hb (hd.ns rfl) h1 (hk _ _ _ _ _ _ h H locs ls hl hP hD hS)
    · cases h
  · split at h
    · exact lv_ladd hx hb (hd.ns rfl) (hk _ _ _ _ _ _ h H locs ls hl hP hD hS)
    · cases h
  · split at h
    · exact lv_lsub hx hb (hd.ns rfl) (hk _ _ _ _ _ _ h H locs ls hl hP hD hS)
    · cases h
  · split at h
    · exact lv_lmul hx hb (hd.ns rfl) (hk _ _ _ _ _ _ h H locs ls hl hP hD hS)
    · cases h
  · split at h
    · exact lv_land hx hb (hd.ns rfl) (hk _ _ _ _ _ _ h H locs ls hl hP hD hS)
    · cases h
  · split at h
    · exact lv_lor hx hb (hd.ns rfl) (hk _ _ _ _ _ _ h H locs ls hl hP hD hS)
    · cases h
  · split at h
    · exact lv_lxor hx hb (hd.ns rfl) (hk _ _ _ _ _ _ h H locs ls hl hP hD hS)
    · cases h
  · split at h
    · exact lv_lshl hx hb (hd.ns rfl) rfl (hk _ _ _ _ _ _ h H locs ls hl hP hD hS)
    · cases h
  · split at h
    · exact lv_lshr hx hb (hd.ns rfl) rfl (hk _ _ _ _ _ _ h H locs ls hl hP hD hS)
    · cases h
  · split at h
    · exact lv_lushr hx hb (hd.ns rfl) rfl (hk _ _ _ _ _ _ h H locs ls hl hP hD hS)
    · cases h
  · split at h
    · exact W.lcmp hx hb (hd.ns rfl) (hk _ _ _ _ _ _ h H locs ls hl hP hD hS)
    · cases h
  · split at h
    · exact lv_ineg hx hb (hd.ns rfl) (hk _ _ _ _ _ _ h H locs ls hl hP hD hS)
    · cases h
  · split at h
    · exact lv_lneg hx hb (hd.ns rfl) (hk _ _ _ _ _ _ h H locs ls hl hP hD hS)
    · cases h
  · split at h
    · exact lv_i2l hx hb (hd.ns rfl) rfl (hk _ _ _ _ _ _ h H locs ls hl hP hD hS)
    · cases h
  · split at h
    · exact lv_l2i hx hb (hd.ns rfl) rfl (hk _ _ _ _ _ _ h H locs ls hl hP hD hS)
    · cases h
  · split at h
    · exact lv_i2b hx hb (hd.ns rfl) rfl (hk _ _ _ _ _ _ h H locs ls hl hP hD hS)
    · cases h
  · split at h
    · obtain ⟨h1, h⟩ := h
      exact lv_dup hx hb (hd.ns rfl) (by rw [fx_v_cat]; exact h1) (hk _ _ _ _ _ _ h H locs ls hl hP hD hS)
    · cases h
  · split at h
    · obtain ⟨h1, h⟩ := h
      exact lv_pop hx hb (hd.ns rfl) (by rw [fx_v_cat]; exact h1) (hk _ _ _ _ _ _ h H locs ls hl hP hD hS)
    · cases h
  · split at h
    · exact lv_dup2_2 hx hb (hd.ns rfl) rfl (hk _ _ _ _ _ _ h H locs ls hl hP hD hS)
    · obtain ⟨⟨h1, h2⟩, h⟩ := h
      exact lv_dup2_11 hx hb (hd.ns rfl) (by rw [fx_v_cat]; exact h1) (by rw [fx_v_cat]; exact h2) (hk _ _ _ _ _ _ h H locs ls hl hP hD hS)
    · cases h
  · exact lv_goto hx hb (hd.ns rfl) h.1 (hk _ _ _ _ _ _ h.2 H locs ls hl hP hD hS)
  · split at h
    · obtain ⟨h1, ht, hf⟩ := h
      exact fx_ifc hx hb (hd.ns rfl) h1 (fun z => hk _ _ _ _ _ _ (ht z) H locs ls hl hP hD hS) (fun z => hk _ _ _ _ _ _ (hf z) H locs ls hl hP hD hS)
    · cases h
  · split at h
    · obtain ⟨h1, ht, hf⟩ := h
      exact fx_icm hx hb (hd.ns rfl) h1 (fun z => hk _ _ _ _ _ _ (ht z) H locs ls hl hP hD hS) (fun z => hk _ _ _ _ _ _ (hf z) H locs ls hl hP hD hS)
    · cases h
  · split at h
    · obtain ⟨⟨h1, hn⟩, h2, h3⟩ := h
      exact fx_tsw hx hb hd h1 hn (fun z => hk _ _ _ _ _ _ (h2 z) H locs ls hl hP hD hS) (fx_sw_mono (fun q h9 => hk _ _ _ _ _ _ h9 H locs ls hl hP hD hS) h3)
    · cases h
  · split at h
    · obtain ⟨h1, h⟩ := h
      obtain ⟨n, h2, h3⟩ := fx_in_at h1
      have hq := hM.1 _ _ h2
      have ht : M.2.2.2.2[0]? = some .int := by rcases hTy _ _ _ h2 with ⟨z, y⟩ | ⟨z, y⟩ | ⟨z, y⟩ | ⟨z, y⟩ <;> first | exact y | cases z
      exact va_iald hx hb hK hP _ 0 (by rw [fx_w_at hq, fx_e, h2]; rfl) (fx_ty_at ht) h3 (hd.ns rfl) (hk _ _ _ _ _ _ h H locs ls hl hP hD hS)
    · cases h
  · split at h
    · obtain ⟨h1, h⟩ := h
      obtain ⟨n, h2, h3⟩ := fx_in_at h1
      have hq := hM.1 _ _ h2
      have ht : M.2.2.2.2[2]? = some .byte := by rcases hTy _ _ _ h2 with ⟨z, y⟩ | ⟨z, y⟩ | ⟨z, y⟩ | ⟨z, y⟩ <;> first | exact y | cases z
      exact va_bald hx hb hK hP _ 2 (by rw [fx_w_at hq, fx_e, h2]; rfl) (fx_ty_at ht) h3 (hd.ns rfl) (hk _ _ _ _ _ _ h H locs ls hl hP hD hS)
    · cases h
  · split at h
    · obtain ⟨h1, h⟩ := h
      obtain ⟨n, h2, h3⟩ := fx_in_at h1
      have hq := hM.1 _ _ h2
      have ht : M.2.2.2.2[1]? = some .long := by rcases hTy _ _ _ h2 with ⟨z, y⟩ | ⟨z, y⟩ | ⟨z, y⟩ | ⟨z, y⟩ <;> first | exact y | cases z
      exact va_lald hx hb hK hP _ 1 (by rw [fx_w_at hq, fx_e, h2]; rfl) (fx_ty_at ht) h3 (hd.ns rfl) (hk _ _ _ _ _ _ h H locs ls hl hP hD hS)
    · cases h
  · split at h
    · obtain ⟨h1, h⟩ := h
      obtain ⟨n, h2, h3⟩ := fx_in_at h1
      have hq := hM.1 _ _ h2
      obtain ⟨C, ht⟩ : ∃ C, M.2.2.2.2[3]? = some (.object C) := by rcases hTy _ _ _ h2 with ⟨z, y⟩ | ⟨z, y⟩ | ⟨z, y⟩ | ⟨z, y⟩ <;> first | exact y | cases z
      refine va_aldq hx hb hK hP _ 3 (by rw [fx_w_at hq, fx_e, h2]; rfl) (fx_ty_at ht) h3 (hd.ns rfl) ?_
      have h9 := hk _ _ _ _ _ _ h H locs ls hl hP hD hS
      rename_i i q r
      cases hR : R q i.toNatClampNeg with
      | none => rw [hR] at h9; exact h9
      | some z => rw [hR] at h9; exact h9
    · cases h
  · split at h
    · rename_i x i q r
      obtain ⟨h1, h⟩ := h
      obtain ⟨n, h2, h3⟩ := fx_in_at h1
      have hq := hM.1 _ _ h2
      have ht : M.2.2.2.2[0]? = some .int := by rcases hTy _ _ _ h2 with ⟨z, y⟩ | ⟨z, y⟩ | ⟨z, y⟩ | ⟨z, y⟩ <;> first | exact y | cases z
      refine va_iast hx hb hK hP hD hS q 0 (by rw [fx_w_at hq, fx_e, h2]; rfl) (fx_ty_at ht) h3 (hd.ns rfl) (fun H1 locs1 hP1 hD1 hS1 => ?_)
      have hw := fx_w_set (M := M) (cA := cA) (al := al) (I := I) (I' := fx_up I q i.toNatClampNeg x) (J := J) (J' := J) (R := R) (R' := R) (q := q) rfl (fun k hk => fx_up_e hk)
      simp only [fx_e, h2, fx_a, fx_up_row] at hw
      rw [hw] at hP1 hD1
      exact hk _ _ _ _ _ _ h H1 locs1 ls hl hP1 hD1 hS1
    · cases h
  · split at h
    · rename_i x i q r
      obtain ⟨h1, h⟩ := h
      obtain ⟨n, h2, h3⟩ := fx_in_at h1
      have hq := hM.1 _ _ h2
      have ht : M.2.2.2.2[2]? = some .byte := by rcases hTy _ _ _ h2 with ⟨z, y⟩ | ⟨z, y⟩ | ⟨z, y⟩ | ⟨z, y⟩ <;> first | exact y | cases z
      refine va_bast hx hb hK hP hD hS q 2 (by rw [fx_w_at hq, fx_e, h2]; rfl) (fx_ty_at ht) h3 (hd.ns rfl) (fun H1 locs1 hP1 hD1 hS1 => ?_)
      have hw := fx_w_set (M := M) (cA := cA) (al := al) (I := I) (I' := fx_up I q i.toNatClampNeg (vp_nar .byte x)) (J := J) (J' := J) (R := R) (R' := R) (q := q) rfl (fun k hk => fx_up_e hk)
      simp only [fx_e, h2, fx_a, fx_up_row] at hw
      rw [hw] at hP1 hD1
      exact hk _ _ _ _ _ _ h H1 locs1 ls hl hP1 hD1 hS1
    · cases h
  · split at h
    · rename_i x i q r
      obtain ⟨h1, h⟩ := h
      obtain ⟨n, h2, h3⟩ := fx_in_at h1
      have hq := hM.1 _ _ h2
      have ht : M.2.2.2.2[1]? = some .long := by rcases hTy _ _ _ h2 with ⟨z, y⟩ | ⟨z, y⟩ | ⟨z, y⟩ | ⟨z, y⟩ <;> first | exact y | cases z
      refine va_last hx hb hK hP hD hS q 1 (by rw [fx_w_at hq, fx_e, h2]; rfl) (fx_ty_at ht) h3 (hd.ns rfl) (fun H1 locs1 hP1 hD1 hS1 => ?_)
      have hw := fx_w_set (M := M) (cA := cA) (al := al) (I := I) (I' := I) (J := J) (J' := fx_up J q i.toNatClampNeg x) (R := R) (R' := R) (q := q) rfl (fun k hk => fx_upL_e hk)
      simp only [fx_e, h2, fx_a, fx_up_rowL] at hw
      rw [hw] at hP1 hD1
      exact hk _ _ _ _ _ _ h H1 locs1 ls hl hP1 hD1 hS1
    · cases h
  · split at h
    · obtain ⟨h1, h⟩ := h
      split at h1
      · rename_i ty
        exact fx_Wm hQ (W.zret hx hb (ty := ty) hr h1 (fun t ht hW => hret H locs I J R _ h hP hD hS t ht hW) hS.2.2 (hd.ns rfl) hlocks)
      · cases h1
    · cases h
  · split at h
    · exact fx_Wm hQ (W.lret hx hb (hr.trans h.1) (fun t ht hW => hret H locs I J R _ h.2 hP hD hS t ht hW) hS.2.2 (hd.ns rfl) hlocks)
    · cases h
  · split at h
    · exact fx_Wm hQ (W.vret hx hb (hr.trans h.1) (fun t ht hW => hret H locs I J R _ h.2 hP hD hS t ht hW) hS.2.2 (hd.ns rfl) hlocks)
    · cases h
  · split at h
    · rename_i t ht
      have hs : decode cc pc = .ok (ins, fx_len ins) := by
        rcases hd with q | q
        · exact q.2
        · exfalso
          have hz : ∀ (d lo hi : Int) (offs : Array Int), ins = .tableswitch d lo hi offs → False := by assumption
          obtain ⟨d, lo, hi, offs, hi'⟩ : ∃ (d lo hi : Int) (offs : Array Int), ins = .tableswitch d lo hi offs := by
            have q1 := q.1
            clear hz
            cases ins <;> first | exact ⟨_, _, _, _, rfl⟩ | cases q1
          exact hz _ _ _ _ hi'
      exact hev _ _ ht pc L st I J R _ hs h (fun st' I' J' R' h9 => hk _ _ _ _ _ _ h9) H locs ls hl hP hD hS
    · cases h
end FX
