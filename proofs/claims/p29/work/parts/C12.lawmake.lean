/-! the law: its object made (own work) -/
section LN_
variable {p : Program} {l : Launch} {e : Env} {s : State} {m : MethodId} {args : Array Value} {below : List Frame} {meth : Method} {c : Code} {D : va_G} {H : Heap} {locs : List Loc} {cells slots pc : Nat} {Q : State → Prop} {ls : Array Slot} {rest : List Value}
theorem lw_new {cl : List vw_C} {tys : List (ClassId × FieldType)} {C : String} {T : u_T} {N ci idx : Nat} (hB : p.tables.exec = Jvm.exec ∧ c.code = code ∧ c.maxLocals = 14 ∧ s.vm.findClass R_law = some m.cls ∧ (∀ w ∈ lw_tbl, w.before args s = true)) (hin : ∀ w ∈ u_ws C T N, w ∈ lw_tbl) (ty : Nat → FieldType) (hty : ∀ k, k < N → parseFieldDescriptor (T k).2.2.1 = some (ty k)) (hcl : Cond.classLink R_law idx C ∈ lw_tbl) (hinst : Cond.instantiable C N ∈ lw_tbl) (hini : Cond.initialized C ∈ lw_tbl) (hK : va_K D cl tys s) (hS : va_S (aN s) s.heap H locs) (hc : cl[ci]? = some (C, T, N)) {fs : List Value} (hfs : ∀ j, j < N → defaultValue (ty j) = vp_V fs j) (hcells : cells + 1 ≤ room_1.cells) (hslots : slots + N ≤ room_1.slots) (hdg : decode code pc = .ok (.new idx, 3))
    (kk : ∀ (h : Nat) (H1 : Heap), s.heap.size ≤ h → h = H.size → va_P D cl [(h, .inr (ci, fs))] H1 → va_S (aN s) s.heap H1 locs → (∀ q : Nat, q < H.size → H1[q]? = H[q]?) → W p l e room_1 s m args below meth c H1 locs (cells + 1) (slots + N) Q (F0 m (pc + 3) ls (.ref h :: rest))) : W p l e room_1 s m args below meth c H locs cells slots Q (F0 m pc ls rest) := by
  obtain ⟨hx, hb, hml, hown, hts⟩ := hB
  have hKn := hK.1 ci _ hc
  refine W.newcK hx hb hown (hts _ hcl) (hts _ hinst) (hts _ hini) rfl hdg hcells hslots hKn.2.1 rfl fun H1 kC hkC e1 z1 o1 => ?_
  refine kk H.size H1 hS.1 rfl (fun k x hx => ?_) ⟨Nat.le_trans hS.1 (by omega), fun x h1 h2 => (o1 x (Nat.lt_of_lt_of_le h1 hS.1)).trans (hS.2.1 x h1 h2), hS.2.2⟩ o1
  have hz : k < 1 := (List.getElem?_eq_some_iff.mp hx).1
  rw [show k = 0 by omega] at hx
  cases hx
  exact ⟨_, hc, (u_born ty hts hin hKn hkC e1 hty).to hfs⟩
theorem lw_init {M : fx_M} {cA : Nat → ClassId} {al : Nat → Nat} {I : fx_MI} {J : fx_MJ} {R : fx_MR} {mc ms : Nat} {w0 : va_W} {st0 : List Value} {a' : Array Value} (hrun : va_Run p l e room_1 s m args below meth c H locs cells slots mc ms (F0 m pc ls st0) rest (oQ M D cA al I J R (va_A w0 H.size) a') (va_A w0 H.size)) (hS : va_S (aN s) s.heap H locs) (hA : ∀ q, va_A w0 H.size q → aN s q)
    (kk : ∀ (al' : Nat → Nat) (H1 : Heap) (locs1 : List Loc), (∀ q, q = 0 ∨ M.2.2.2.1 ≤ q → al' q = al q) → va_P D M.1 (fx_w M cA al' I J R) H1 → va_D (aN s) (fx_w M cA al' I J R) → va_S (aN s) s.heap H1 locs1 → W p l e room_1 s m args below meth c H1 locs1 (cells + mc) (slots + ms) Q (F0 m (pc + 3) ls rest)) : W p l e room_1 s m args below meth c H locs cells slots Q (F0 m pc ls st0) := by
  intro T hT X
  obtain ⟨v, st₀, t, T', L, h0, X', hL, e1, e2, ⟨⟨hv, al', hal, hP1, hK1, hD1⟩, hz, hk⟩, st⟩ := hrun T hT X
  cases hv
  rw [h0] at hz hk
  obtain ⟨t2, a1, b1⟩ := kk al' T'.heap (locs ++ L) hal (by rw [e1]; exact hP1) (hD1.weaken fun _ q _ h => hA q.1 h)
    ⟨Nat.le_trans hS.1 (by rw [e1]; exact hz), fun q h1 h2 => by rw [e1, hk q (Nat.lt_of_lt_of_le h1 hS.1) (fun z => h2 (hA q z))]; exact hS.2.1 q h1 h2, fun q hq => by
      rcases List.mem_append.mp hq with h | h
      · exact hS.2.2 q h
      · exact hA _ (hL q h)⟩ T' rfl X'
  exact ⟨t2, st t2 a1, b1⟩
theorem va_D_one {A : Nat → Prop} {x : Nat × va_E} (h : A x.1) : va_D A [x] := by
  refine ⟨fun i j p q hp hq _ => ?_, fun k q hk => ?_⟩
  · have h1 := (List.getElem?_eq_some_iff.mp hp).1
    have h2 := (List.getElem?_eq_some_iff.mp hq).1
    simp at h1 h2
    omega
  · have h1 := (List.getElem?_eq_some_iff.mp hk).1
    have : k = 0 := by simpa using h1
    subst this
    cases hk
    exact h
theorem va_A_one {h : Nat} {x : va_E} {H : Heap} {s : State} (h1 : s.heap.size ≤ h) (h2 : s.heap.size ≤ H.size) : ∀ q, va_A [(h, x)] H.size q → aN s q := by
  intro q hq
  rcases hq with ⟨k, e, hq⟩ | hq
  · have h3 := (List.getElem?_eq_some_iff.mp hq).1
    have : k = 0 := by simpa using h3
    subst this
    cases hq
    exact h1
  · exact Nat.le_trans h2 hq
end LN_
theorem REL_0 : REL (bgI zI (nI 5) (nI 5) (nI 1)) (bgJ zJ 5 5 (nI 1)) (beginsM zI (nI 5) (nI 5) (nI 1)) := REL_begin (w := 5) (h := 5) (c := 1) (by omega) (by omega) (by omega) ⟨⟨⟨0, by omega, rfl⟩, fun k hk => ⟨0, by omega, rfl⟩⟩, rfl, fun _ _ => rfl⟩ ⟨0, by omega, rfl⟩ ⟨0, by omega, rfl⟩
