/-! the law's calls: one world called, the other kept (own work) -/
def ap (w1 w2 : va_W) : Prop := ∀ (i j : Nat) (x y : Nat × va_E), w1[i]? = some x → w2[j]? = some y → x.1 ≠ y.1
theorem ap_sym {w1 w2 : va_W} (h : ap w1 w2) : ap w2 w1 := fun i j x y hx hy he => h j i y x hy hx he.symm
theorem ap_keep {D : va_G} {cl : List vw_C} {w1 w1' w2 : va_W} {H H1 : Heap} (hP2 : va_P D cl w2 H) (h : ap w1 w2) (hD : va_D (va_A w1 H.size) w1') (hk : ∀ q, q < H.size → ¬ va_A w1 H.size q → H1[q]? = H[q]?) : va_P D cl w2 H1 ∧ ap w1' w2 := by
  have hn : ∀ (j : Nat) (y : Nat × va_E), w2[j]? = some y → y.1 < H.size ∧ ¬ va_A w1 H.size y.1 := by
    intro j y hy
    have hl := (hP2 j y hy).lt
    refine ⟨hl, fun z => ?_⟩
    rcases z with ⟨k, e, z⟩ | z
    · exact h k j _ _ z hy rfl
    · omega
  refine ⟨hP2.kept fun k q hq => hk _ (hn k q hq).1 (hn k q hq).2, fun i j x y hx hy he => ?_⟩
  have h1 := hD.2 i x hx
  rw [he] at h1
  exact (hn j y hy).2 h1
def lwB (p : Program) (s : State) (m : MethodId) (args : Array Value) (c : Code) : Prop := p.tables.exec = Jvm.exec ∧ c.code = code ∧ c.maxLocals = 4 ∧ s.vm.findClass R_law = some m.cls ∧ (∀ w ∈ lw_tbl, w.before args s = true) ∧ fx_Nw s
/-- the cells that the law made -/
def aN (s : State) : Nat → Prop := fun q => s.heap.size ≤ q
section LC_
variable {p : Program} {l : Launch} {e : Env} {s : State} {m : MethodId} {args : Array Value} {below : List Frame} {meth : Method} {c : Code} {D : va_G} {cA : Nat → ClassId} {al : Nat → Nat} {ws0 ws0' : List Cond} {rm0 : Room} {y : MethodName} {bytes : ByteArray} {maxL idx k pc cells slots : Nat} {ret : Option FieldType} {r rest st0 : List Value} {I : fx_MI} {J : fx_MJ} {R : fx_MR} {H : Heap} {locs : List Loc} {ls : Array Slot} {Q : State → Prop}
theorem la_M {M : fx_M} {C : String} {T : u_T} {N : Nat} {Pre : fx_Pre} {Post : fx_Post} (hB : lwB p s m args c) (hK : va_K D M.1 (fx_ty M cA) s) (hok : fx_ok M) (hC : M.1[0]? = some (C, T, N)) (hpl : M.2.2.1 0 = some (.inl 0)) (hM : fx_Met l y ws0 rm0 M Pre Post) (hG : GoodIn lw_tbl (wsV R_law idx C y ws0)) (hw : ws0 = Cond.code y bytes maxL ret :: ws0') (hr0 : rm0.cells = 0 ∧ rm0.slots = 0)
    (hd : y.cls = C ∧ y.cls ≠ "java/lang/invoke/MethodHandle" ∧ y.cls ≠ "java/lang/invoke/VarHandle" ∧ (parseMethodDescriptor y.desc).map (fun d => d.parameters.length) = some k) (hR : rm0.frames + 1 ≤ room_1.frames ∧ 8 + (maxL + 11) + rm0.locals ≤ room_1.locals) (hrl : r.length = k) (hpre : Pre (.ref 0 :: r) I J R)
    (hP : va_P D M.1 (fx_w M cA al I J R) H) (hD : va_D (aN s) (fx_w M cA al I J R)) (hS : va_S (aN s) s.heap H locs) (hls : ls.size = 4) (hcat : (rest.map fun v => v.category).sum ≤ 8) (hdg : decode code pc = .ok (.invokevirtual idx, 3)) (hf : cells ≤ room_1.cells ∧ slots ≤ room_1.slots) (hst : st0 = (r.map (fx_v al)).reverse ++ .ref (al 0) :: rest)
    (kk : ∀ r' I' J' R' (H1 : Heap) (locs1 : List Loc), Post (.ref 0 :: r) I J R r' I' J' R' → va_P D M.1 (fx_w M cA al I' J' R') H1 → va_D (aN s) (fx_w M cA al I' J' R') → va_S (aN s) s.heap H1 locs1 → (∀ (D2 : va_G) (cl : List vw_C) (w2 : va_W), va_P D2 cl w2 H → ap (fx_w M cA al I J R) w2 → va_P D2 cl w2 H1 ∧ ap (fx_w M cA al I' J' R') w2) → W p l e room_1 s m args below meth c H1 locs1 cells slots Q (F0 m (pc + 3) ls ((r'.map (fx_v al)).toList ++ rest))) :
    W p l e room_1 s m args below meth c H locs cells slots Q (F0 m pc ls st0) := by
  obtain ⟨hx, hb, hml, hown, hts, hN⟩ := hB
  have hq := hok.1 _ _ hpl
  have hm := hM D cA al _ I J R H.size hpre
  have hrv := va_recv hK hP hC (by rw [fx_w_at hq, fx_e, hpl])
  have hpc : ∀ U : State, U.heap = H → s.WarmedH U.vm → fx_Pc M D cA al (.ref 0 :: r) I J R H.size (Value.ref (al 0) :: r.map (fx_v al)).toArray U := by
    intro U hU hW
    exact ⟨rfl, by rw [hU], by rw [hU]; exact hP, va_K.moved hW.alike hK, hD.weaken (fun _ _ _ _ => trivial), hN.warm hW⟩
  have hrun := va_runV (l := l) (e := e) (meth := meth) (below := below) (As := r.map (fx_v al)) (rest := rest) (g := F0 m pc ls st0) (cells := cells) (slots := slots) (locs := locs) (R := room_1) ⟨hx, hb, hml, hown, hts⟩ hm (cwV k hts hG hw hr0.1 hr0.2 hd hR) ⟨fx_blind, hrv, hpc⟩ rfl (by rw [List.length_map, hrl]) hls hst (lv_room hcat) hdg hf
  have hA : ∀ q, va_A (fx_w M cA al I J R) H.size q → aN s q := fun q h => fx_A_in hD hS (fun _ z => z) q h
  intro T hT X
  obtain ⟨v, st₀, t, T', L, h0, X', hL, e1, e2, ⟨⟨r', I', J', R', hv, hp, hP1, hK1, hD1⟩, hz, hk⟩, st⟩ := hrun T hT X
  cases hv
  rw [h0] at hz hk
  obtain ⟨t2, a1, b1⟩ := kk r' I' J' R' T'.heap (locs ++ L) hp (by rw [e1]; exact hP1) (fx_w_D hD hD1)
    ⟨Nat.le_trans hS.1 (by rw [e1]; exact hz), fun q h1 h2 => by rw [e1, hk q (Nat.lt_of_lt_of_le h1 hS.1) (fun z => h2 (hA q z))]; exact hS.2.1 q h1 h2, fun q hq => by
      rcases List.mem_append.mp hq with h | h
      · exact hS.2.2 q h
      · exact hA _ (hL q h)⟩ (fun D2 cl w2 h2 ha => ap_keep h2 ha hD1 (fun q h3 h4 => by rw [e1]; exact hk q h3 h4)) T' rfl X'
  exact ⟨t2, st t2 a1, b1⟩
theorem la_S {M : fx_M} {C : String} {T : u_T} {N : Nat} {Pre : fx_Pre} {Post : fx_Post} (hB : lwB p s m args c) (hK : va_K D M.1 (fx_ty M cA) s) (hok : fx_ok M) (hC : M.1[0]? = some (C, T, N)) (hpl : M.2.2.1 0 = some (.inl 0)) (hM : fx_MetS l y ws0 rm0 M Pre Post) (hG : GoodIn lw_tbl (wsV R_law idx C y ws0)) (hw : ws0 = Cond.code y bytes maxL ret :: ws0') (hr0 : rm0.cells = 0 ∧ rm0.slots = 0)
    (hd : y.cls = C ∧ y.cls ≠ "java/lang/invoke/MethodHandle" ∧ y.cls ≠ "java/lang/invoke/VarHandle" ∧ (parseMethodDescriptor y.desc).map (fun d => d.parameters.length) = some k) (hR : rm0.frames + 1 ≤ room_1.frames ∧ 8 + (maxL + 11) + rm0.locals ≤ room_1.locals) (hrl : r.length = k) (hpre : Pre (.ref 0 :: r) I J R) (hSt : fx_St al (aN s) s s.heap)
    (hP : va_P D M.1 (fx_w M cA al I J R) H) (hD : va_D (aN s) (fx_w M cA al I J R)) (hS : va_S (aN s) s.heap H locs) (hls : ls.size = 4) (hcat : (rest.map fun v => v.category).sum ≤ 8) (hdg : decode code pc = .ok (.invokevirtual idx, 3)) (hf : cells ≤ room_1.cells ∧ slots ≤ room_1.slots) (hst : st0 = (r.map (fx_v al)).reverse ++ .ref (al 0) :: rest)
    (kk : ∀ r' I' J' R' (H1 : Heap) (locs1 : List Loc), Post (.ref 0 :: r) I J R r' I' J' R' → va_P D M.1 (fx_w M cA al I' J' R') H1 → va_D (aN s) (fx_w M cA al I' J' R') → va_S (aN s) s.heap H1 locs1 → (∀ (D2 : va_G) (cl : List vw_C) (w2 : va_W), va_P D2 cl w2 H → ap (fx_w M cA al I J R) w2 → va_P D2 cl w2 H1 ∧ ap (fx_w M cA al I' J' R') w2) → W p l e room_1 s m args below meth c H1 locs1 cells slots Q (F0 m (pc + 3) ls ((r'.map (fx_v al)).toList ++ rest))) :
    W p l e room_1 s m args below meth c H locs cells slots Q (F0 m pc ls st0) := by
  obtain ⟨hx, hb, hml, hown, hts, hN⟩ := hB
  have hq := hok.1 _ _ hpl
  have hm := hM D cA al _ I J R H.size hpre
  have hrv := va_recv hK hP hC (by rw [fx_w_at hq, fx_e, hpl])
  have hA : ∀ q, va_A (fx_w M cA al I J R) H.size q → aN s q := fun q h => fx_A_in hD hS (fun _ z => z) q h
  have hSt2 : fx_St al (va_A (fx_w M cA al I J R) H.size) s H := (hSt.kept hS.2.1).narrow hA
  have hpc : ∀ U : State, U.heap = H → s.WarmedH U.vm → fx_PcS M D cA al (.ref 0 :: r) I J R H.size (Value.ref (al 0) :: r.map (fx_v al)).toArray U := by
    intro U hU hW
    exact ⟨⟨rfl, by rw [hU], by rw [hU]; exact hP, va_K.moved hW.alike hK, hD.weaken (fun _ _ _ _ => trivial), hN.warm hW⟩, by rw [hU]; exact hSt2.warm hW⟩
  have hrun := va_runV (l := l) (e := e) (meth := meth) (below := below) (As := r.map (fx_v al)) (rest := rest) (g := F0 m pc ls st0) (cells := cells) (slots := slots) (locs := locs) (R := room_1) ⟨hx, hb, hml, hown, hts⟩ hm (cwV k hts hG hw hr0.1 hr0.2 hd hR) ⟨fx_blindS, hrv, hpc⟩ rfl (by rw [List.length_map, hrl]) hls hst (lv_room hcat) hdg hf
  intro T hT X
  obtain ⟨v, st₀, t, T', L, h0, X', hL, e1, e2, ⟨⟨r', I', J', R', hv, hp, hP1, hK1, hD1⟩, hz, hk⟩, st⟩ := hrun T hT X
  cases hv
  rw [h0] at hz hk
  obtain ⟨t2, a1, b1⟩ := kk r' I' J' R' T'.heap (locs ++ L) hp (by rw [e1]; exact hP1) (fx_w_D hD hD1)
    ⟨Nat.le_trans hS.1 (by rw [e1]; exact hz), fun q h1 h2 => by rw [e1, hk q (Nat.lt_of_lt_of_le h1 hS.1) (fun z => h2 (hA q z))]; exact hS.2.1 q h1 h2, fun q hq => by
      rcases List.mem_append.mp hq with h | h
      · exact hS.2.2 q h
      · exact hA _ (hL q h)⟩ (fun D2 cl w2 h2 ha => ap_keep h2 ha hD1 (fun q h3 h4 => by rw [e1]; exact hk q h3 h4)) T' rfl X'
  exact ⟨t2, st t2 a1, b1⟩
theorem la_G {n : Nat} {T : u_T} {N : Nat} {Pre : Nat → fx_Pre} {Post : Nat → List Value → fx_MI → fx_MJ → fx_MR → Nat → Option Value → fx_MI → fx_MJ → fx_MR → Prop} (hB : lwB p s m args c) (hK : va_K D (MC n).1 (fx_ty (MC n) cA) s) (hC : (MC n).1[0]? = some (R_Out, T, N)) (hM : fx_MetG l y ws0 rm0 Pre Post) (hG : GoodIn lw_tbl (wsV R_law idx R_Out y ws0)) (hw : ws0 = Cond.code y bytes maxL ret :: ws0') (hr0 : rm0.cells = 1 ∧ rm0.slots = 2343752)
    (hd : y.cls = R_Out ∧ y.cls ≠ "java/lang/invoke/MethodHandle" ∧ y.cls ≠ "java/lang/invoke/VarHandle" ∧ (parseMethodDescriptor y.desc).map (fun d => d.parameters.length) = some k) (hR : rm0.frames + 1 ≤ room_1.frames ∧ 8 + (maxL + 11) + rm0.locals ≤ room_1.locals) (hrl : r.length = k) (hpre : Pre n (.ref 0 :: r) I J R)
    (hP : va_P D (MC n).1 (fx_w (MC n) cA al I J R) H) (hD : va_D (aN s) (fx_w (MC n) cA al I J R)) (hS : va_S (aN s) s.heap H locs) (hls : ls.size = 4) (hcat : (rest.map fun v => v.category).sum ≤ 8) (hdg : decode code pc = .ok (.invokevirtual idx, 3)) (hf : cells + 1 ≤ room_1.cells ∧ slots + 2343752 ≤ room_1.slots) (hst : st0 = (r.map (fx_v al)).reverse ++ .ref (al 0) :: rest)
    (kk : ∀ r' I' J' R' n' al' kc ks (H1 : Heap) (locs1 : List Loc), Post n (.ref 0 :: r) I J R n' r' I' J' R' → va_P D (MC n').1 (fx_w (MC n') cA al' I' J' R') H1 → va_D (aN s) (fx_w (MC n') cA al' I' J' R') → va_S (aN s) s.heap H1 locs1 → (∀ (D2 : va_G) (cl : List vw_C) (w2 : va_W), va_P D2 cl w2 H → ap (fx_w (MC n) cA al I J R) w2 → va_P D2 cl w2 H1 ∧ ap (fx_w (MC n') cA al' I' J' R') w2) → (∀ q, q ≠ 120 → al' q = al q) → gwN n n' kc ks → W p l e room_1 s m args below meth c H1 locs1 (cells + kc) (slots + ks) Q (F0 m (pc + 3) ls ((r'.map (fx_v al')).toList ++ rest))) :
    W p l e room_1 s m args below meth c H locs cells slots Q (F0 m pc ls st0) := by
  obtain ⟨hx, hb, hml, hown, hts, hN⟩ := hB
  have hpl : (MC n).2.2.1 0 = some (.inl 0) := rfl
  have hq := (MC_ok n).1 _ _ hpl
  have hm := hM n D cA al _ I J R H.size hpre
  have hrv := va_recv hK hP hC (by rw [fx_w_at hq, fx_e, hpl])
  have hpc : ∀ U : State, U.heap = H → s.WarmedH U.vm → fx_Pc (MC n) D cA al (.ref 0 :: r) I J R H.size (Value.ref (al 0) :: r.map (fx_v al)).toArray U := by
    intro U hU hW
    exact ⟨rfl, by rw [hU], by rw [hU]; exact hP, va_K.moved hW.alike hK, hD.weaken (fun _ _ _ _ => trivial), hN.warm hW⟩
  have hrun := va_runV (l := l) (e := e) (meth := meth) (below := below) (As := r.map (fx_v al)) (rest := rest) (g := F0 m pc ls st0) (cells := cells) (slots := slots) (locs := locs) (R := room_1) ⟨hx, hb, hml, hown, hts⟩ hm (cwV k hts hG hw hr0.1 hr0.2 hd hR) ⟨fx_blind, hrv, hpc⟩ rfl (by rw [List.length_map, hrl]) hls hst (lv_room hcat) hdg hf
  have hA : ∀ q, va_A (fx_w (MC n) cA al I J R) H.size q → aN s q := fun q h => fx_A_in hD hS (fun _ z => z) q h
  intro T hT X
  obtain ⟨v, st₀, t, T', L, h0, X', hL, e1, e2, ⟨⟨r', I', J', R', n', al', kc, ks, L', hv, hp, hP1, hK1, hD1, hal, hg, hFE⟩, hz, hk⟩, st⟩ := hrun T hT X
  cases hv
  have X2 := X_tight X X' (h0.trans hT.symm) e1 hFE
  rw [h0] at hz hk
  obtain ⟨t2, a1, b1⟩ := kk r' I' J' R' n' al' kc ks T'.heap (locs ++ L) hp (by rw [e1]; exact hP1) (hD1.weaken fun _ q _ h => hA q.1 h)
    ⟨Nat.le_trans hS.1 (by rw [e1]; exact hz), fun q h1 h2 => by rw [e1, hk q (Nat.lt_of_lt_of_le h1 hS.1) (fun z => h2 (hA q z))]; exact hS.2.1 q h1 h2, fun q hq => by
      rcases List.mem_append.mp hq with h | h
      · exact hS.2.2 q h
      · exact hA _ (hL q h)⟩ (fun D2 cl w2 h2 ha => ap_keep h2 ha hD1 (fun q h3 h4 => by rw [e1]; exact hk q h3 h4)) hal hg T' rfl X2
  exact ⟨t2, st t2 a1, b1⟩
end LC_
