/-! worlds that grow: runs to a stop, counters, a new dead table (own work) -/
section GW
variable {p : Program} {l : Launch} {e : Env} {Rm : Room} {s : State} {m : MethodId} {args : Array Value} {below : List Frame} {meth : Method} {c : Code} {D : va_G} {A : Nat → Prop} {H0 : Heap} {M : fx_M} {cA : Nat → ClassId} {al : Nat → Nat} {nL kc ks : Nat} {cc : ByteArray} {Qc : State → Prop} {Qd : Array Value → State → Outcome → State → Prop}
theorem fx_W_cl {ev : fx_Env} {ret : Option FieldType} {P : fx_P} {pr : fx_Pr} (hM : fx_ok M) (hTy : fx_tys M)
    (hx : p.tables.exec = Jvm.exec) (hb : c.code = cc) (hr : meth.sig.returnType = ret) (hlocks : meth.locks = false) (hK : va_K D M.1 (fx_ty M cA) s)
    (hret : fx_RetOK s args Qd D A H0 M cA al P) (hQ : ∀ t, MQ below Qd args s kc ks A t → Qc t) (hev : ∀ ins t, fx_lk ev ins = some t → fx_TOK cc p l e Rm s m args below meth c Qc D A H0 M cA al nL kc ks ins t) (hpr : fx_prOK cc pr) : fx_cl nL M ev ret P pr (fx_W p l e Rm s m args below meth c Qc D A H0 M cA al nL kc ks) :=
  ⟨fun _ _ _ _ _ _ _ _ _ hp hs hk => fx_S_sound hM (fun _ _ _ _ _ _ _ => trivial) hTy hx hb hr hlocks hK hret hQ hev (hpr _ _ _ hp) hs hk,
    fun _ _ _ _ _ _ _ h => fun H locs ls hl hP hD hS => h H locs ls (hl.less (fun i v => fx_lg_take _ _ i v)) hP hD hS⟩
theorem W_more {H : Heap} {locs : List Loc} {cells slots cells' slots' : Nat} {Q : State → Prop} {g : JFrame} (hc : cells ≤ cells') (hs : slots ≤ slots') (k : W p l e Rm s m args below meth c H locs cells' slots' Q g) : W p l e Rm s m args below meth c H locs cells slots Q g := fun T hT X =>
  k T hT { X with same := ⟨X.same.1, X.same.2.1, Nat.le_trans X.same.2.2.1 (Nat.add_le_add_left hc _), X.same.2.2.2.1, Nat.le_trans X.same.2.2.2.2.1 hs, X.same.2.2.2.2.2⟩ }
theorem MQ_more {Qd' : Array Value → State → Outcome → State → Prop} {mc ms mc' ms' : Nat} (hc : mc ≤ mc') (hs : ms ≤ ms') (hq : ∀ o t L, Qd args s o t → FrameEnd s o t L mc ms → Qd' args s o t) {t : State} (h : MQ below Qd args s mc ms A t) : MQ below Qd' args s mc' ms' A t := by
  obtain ⟨o, h1, h2, h3, L, h4, h5⟩ := h
  refine ⟨o, h1, h2, hq o t L h3 h4, L, ⟨h4.1, h4.2.1, ?_⟩, h5⟩
  have h6 := h4.2.2
  exact ⟨h6.1, h6.2.1, Nat.le_trans h6.2.2.1 (Nat.add_le_add_left hc _), h6.2.2.2.1, Nat.le_trans h6.2.2.2.2.1 hs, h6.2.2.2.2.2⟩
end GW
section GN
variable {n n' h : Nat} {cA : Nat → ClassId} {al : Nat → Nat} {I : fx_MI} {J : fx_MJ} {b : Bool} {D : va_G} {A : Nat → Prop} {H : Heap}
end GN
