/-! the law's world: the class's places, and the law's rows behind them (own work) -/
def exL : List (Nat ⊕ (Nat × Nat)) := [.inr (0, 64), .inr (0, 64), .inr (0, 6), .inr (0, 6)]
def pl_X (n : Nat) : Nat → Option (Nat ⊕ (Nat × Nat)) := fun q => if q < 140 then pl_C 256 q else fx_nth (exL.take (2 * n + 2)) (q - 140)
def MXo (n : Nat) : fx_M := ((MC 256).1, (MC 256).2.1, pl_X n, 142 + 2 * n, (MC 256).2.2.2.2)
theorem pl_Y_140 {n : Nat} : (MXo n).2.2.1 140 = some (.inr (0, 64)) := rfl
theorem pl_Y_141 {n : Nat} : (MXo n).2.2.1 141 = some (.inr (0, 64)) := rfl
theorem pl_Y_142 : (MXo 1).2.2.1 142 = some (.inr (0, 6)) := rfl
theorem pl_Y_143 : (MXo 1).2.2.1 143 = some (.inr (0, 6)) := rfl
theorem pl_Y_lo {n q : Nat} (h : q < 140) : (MXo n).2.2.1 q = (MC 256).2.2.1 q := if_pos h
theorem pl_Y_hi {n q : Nat} {x : Nat ⊕ (Nat × Nat)} (h : 140 ≤ q) (hx : (MXo n).2.2.1 q = some x) : q < 142 + 2 * n ∧ ∃ k, x = .inr (0, k) := by
  have h2 : fx_nth (exL.take (2 * n + 2)) (q - 140) = some x := by
    have h3 : (if q < 140 then pl_C 256 q else fx_nth (exL.take (2 * n + 2)) (q - 140)) = some x := hx
    rw [if_neg (by omega)] at h3
    exact h3
  have hl := fx_nth_lt h2
  rw [List.length_take] at hl
  refine ⟨by omega, ?_⟩
  have hall : ∀ (L : List (Nat ⊕ (Nat × Nat))) (i : Nat) (x : Nat ⊕ (Nat × Nat)), fx_nth L i = some x → x ∈ L := by
    intro L
    induction L with
    | nil => intro i x h; cases h
    | cons a l ih =>
      intro i x h
      cases i with
      | zero =>
        cases h
        exact List.mem_cons_self
      | succ i => exact List.mem_cons_of_mem _ (ih i x h)
  have hm : x ∈ exL := List.mem_of_mem_take (hall _ _ _ h2)
  simp only [exL, List.mem_cons, List.not_mem_nil, or_false] at hm
  rcases hm with rfl | rfl | rfl | rfl
  · exact ⟨_, rfl⟩
  · exact ⟨_, rfl⟩
  · exact ⟨_, rfl⟩
  · exact ⟨_, rfl⟩
theorem MXo_ok (n : Nat) : fx_ok (MXo n) := by
  refine ⟨fun q x h => ?_, rfl⟩
  show q < 142 + 2 * n
  by_cases h1 : q < 140
  · omega
  · exact (pl_Y_hi (by omega) h).1
theorem MXo_tys (n : Nat) : fx_tys (MXo n) := by
  intro q i m h
  by_cases h1 : q < 140
  · rw [pl_Y_lo h1] at h
    exact MC_tys 256 q i m h
  · obtain ⟨-, k, hk⟩ := pl_Y_hi (n := n) (by omega) h
    cases hk
    exact Or.inl ⟨rfl, rfl⟩
/-- the class's memory renewed, the law's rows kept -/
def mrg {α : Type} (X Y : Nat → α) : Nat → α := fun q => if q < 140 then X q else Y q
theorem mrg_lo {α : Type} {X Y : Nat → α} {q : Nat} (h : q < 140) : mrg X Y q = X q := if_pos h
theorem mrg_hi {α : Type} {X Y : Nat → α} {q : Nat} (h : 140 ≤ q) : mrg X Y q = Y q := if_neg (by omega)
theorem R0C_hi {b : Bool} {q : Nat} (h : 140 ≤ q) : R0C b q = fun _ => none := by
  funext j
  cases e : R0C b q j with
  | none => rfl
  | some x =>
    have := (R0C_lt e).1
    omega
theorem mrg_R0C {b b' : Bool} : mrg (R0C b') (R0C b) = R0C b' := by
  funext q
  by_cases h : q < 140
  · exact mrg_lo h
  · rw [mrg_hi (by omega), R0C_hi (by omega), R0C_hi (by omega)]
theorem R0C_ran {b : Bool} {q j x : Nat} (h : R0C b q j = some x) : x < 140 := by
  unfold R0C at h
  split at h
  · cases b <;> simp at h <;> omega
  · split at h
    · cases b <;> simp at h <;> omega
    · have hd : ∀ q, q < 140 → ∀ j, j < 20 → ∀ x, ((fx_nth rfL q).bind (fun l => fx_nth l j)).join = some x → x < 140 := by
        have key : (List.range 140).all (fun q => (List.range 20).all (fun j => match ((fx_nth rfL q).bind (fun l => fx_nth l j)).join with | some x => decide (x < 140) | none => true)) = true := by decide +kernel
        intro q hq j hj x hx
        have h1 := List.all_eq_true.mp (List.all_eq_true.mp key q (List.mem_range.mpr hq)) j (List.mem_range.mpr hj)
        rw [hx] at h1
        exact of_decide_eq_true h1
      have hl : ∀ q, q < 140 → ((fx_nth rfL q).map List.length).getD 0 ≤ 20 := by decide +kernel
      have hn : rfL.length ≤ 140 := by decide +kernel
      cases e : fx_nth rfL q with
      | none => rw [e] at h; cases h
      | some l =>
        have hq := fx_nth_lt e
        cases e2 : fx_nth l j with
        | none => rw [e] at h; simp [e2] at h
        | some y =>
          have hj := fx_nth_lt e2
          have hl2 := hl q (by omega)
          rw [e] at hl2
          exact hd q (by omega) j (Nat.lt_of_lt_of_le hj hl2) x h
section XW_
variable {n : Nat} {cA : Nat → ClassId} {al : Nat → Nat} {I I0 : fx_MI} {J J0 : fx_MJ} {R R0 : fx_MR} {q : Nat}
/-- only what stands at a place counts there -/
theorem fe_row {M : fx_M} (hI : I q = I0 q) (hJ : J q = J0 q) (hR : R q = R0 q) : fx_e M cA al I J R q = fx_e M cA al I0 J0 R0 q := by
  unfold fx_e
  split
  · simp only [fx_o, fx_fv, hI, hJ, hR]
  · unfold fx_a
    rw [hI, hJ, hR]
  · rfl
theorem fe_Y (h : q < 140) : fx_e (MXo n) cA al I J R q = fx_e (MC 256) cA al I J R q := by
  have e : (MXo n).2.2.1 q = (MC 256).2.2.1 q := pl_Y_lo h
  unfold fx_e
  rw [e]
  rfl
/-- the law's rows -/
def rowX (n : Nat) (cA : Nat → ClassId) (al : Nat → Nat) (I : fx_MI) (J : fx_MJ) (R : fx_MR) : va_W := (List.range (2 + 2 * n)).map (fun i => (al (140 + i), fx_e (MXo n) cA al I J R (140 + i)))
theorem subX : (List.range 140).map (fun i => (fx_w (MXo n) cA al I J R)[i]?) = (fx_w (MC 256) cA al I J R).map some := by
  have hm : (MC 256).2.2.2.1 = 140 := rfl
  unfold fx_w
  rw [List.map_map, hm]
  refine List.map_congr_left fun i hi => ?_
  have hi := List.mem_range.mp hi
  have hl : i < (MXo n).2.2.2.1 := by
    show i < 142 + 2 * n
    omega
  have := fx_w_at (M := MXo n) (cA := cA) (al := al) (I := I) (J := J) (R := R) hl
  unfold fx_w at this
  rw [this, fe_Y hi]
  rfl
theorem restX : ((List.range (2 + 2 * n)).map (fun i => 140 + i)).map (fun i => (fx_w (MXo n) cA al I J R)[i]?) = (rowX n cA al I J R).map some := by
  unfold rowX
  rw [List.map_map, List.map_map]
  refine List.map_congr_left fun i hi => ?_
  have hi := List.mem_range.mp hi
  exact fx_w_at (M := MXo n) (by show 140 + i < 142 + 2 * n; omega)
/-- both together again -/
def isXw (n : Nat) : List Nat := (List.range (142 + 2 * n)).map (fun i => if i < 140 then 2 + 2 * n + i else i - 140)
theorem joinX : (isXw n).map (fun i => (rowX n cA al I J R ++ fx_w (MC 256) cA al I0 J0 R0)[i]?) = (fx_w (MXo n) cA al (mrg I0 I) (mrg J0 J) (mrg R0 R)).map some := by
  have hlen : (rowX n cA al I J R).length = 2 + 2 * n := by
    unfold rowX
    rw [List.length_map, List.length_range]
  have hm : (MXo n).2.2.2.1 = 142 + 2 * n := rfl
  unfold isXw
  rw [List.map_map]
  have e : fx_w (MXo n) cA al (mrg I0 I) (mrg J0 J) (mrg R0 R) = (List.range (142 + 2 * n)).map (fun k => (al k, fx_e (MXo n) cA al (mrg I0 I) (mrg J0 J) (mrg R0 R) k)) := rfl
  rw [e, List.map_map]
  refine List.map_congr_left fun i hi => ?_
  have hi := List.mem_range.mp hi
  show (rowX n cA al I J R ++ fx_w (MC 256) cA al I0 J0 R0)[if i < 140 then 2 + 2 * n + i else i - 140]? = some (al i, fx_e (MXo n) cA al (mrg I0 I) (mrg J0 J) (mrg R0 R) i)
  by_cases h : i < 140
  · rw [if_pos h, List.getElem?_append_right (by omega), hlen, show 2 + 2 * n + i - (2 + 2 * n) = i by omega, fx_w_at (show i < (MC 256).2.2.2.1 from h), fe_Y h]
    rw [fe_row (M := MC 256) (mrg_lo h) (mrg_lo h) (mrg_lo h)]
  · rw [if_neg h, List.getElem?_append_left (by omega)]
    unfold rowX
    rw [List.getElem?_map, List.getElem?_range (by omega)]
    show some (al (140 + (i - 140)), fx_e (MXo n) cA al I J R (140 + (i - 140))) = _
    rw [show 140 + (i - 140) = i by omega, fe_row (M := MXo n) (I := mrg I0 I) (I0 := I) (J := mrg J0 J) (J0 := J) (R := mrg R0 R) (R0 := R) (mrg_hi (by omega)) (mrg_hi (by omega)) (mrg_hi (by omega))]
end XW_
theorem fm_of : ∀ (l : List Nat) (g : Nat → Option (Nat × va_E)) (r : List (Nat × va_E)), l.map g = r.map some → l.filterMap g = r := by
  intro l g
  induction l with
  | nil =>
    intro r hr
    cases r with
    | nil => rfl
    | cons x r => cases hr
  | cons a l ih =>
    intro r hr
    cases r with
    | nil => cases hr
    | cons x r =>
      rw [List.map_cons, List.map_cons] at hr
      obtain ⟨h1, h2⟩ := List.cons.inj hr
      rw [List.filterMap_cons, h1, ih r h2]
theorem nd_X {n : Nat} (hn : n ≤ 1) : va_nd (isXw n) = true ∧ va_nd ((List.range (2 + 2 * n)).map (fun i => 140 + i)) = true := by
  rcases (show n = 0 ∨ n = 1 by omega) with rfl | rfl
  · exact ⟨by decide +kernel, by decide +kernel⟩
  · exact ⟨by decide +kernel, by decide +kernel⟩
theorem nd_140 : va_nd (List.range 140) = true := by decide +kernel
/-- behind a call of the class: its places renewed, the law's rows as they were -/
theorem backX {n : Nat} {cA : Nat → ClassId} {al : Nat → Nat} {I I0 : fx_MI} {J J0 : fx_MJ} {R R0 : fx_MR} {D : va_G} {cl : List vw_C} {A : Nat → Prop} {H H1 : Heap} (hn : n ≤ 1) (hP : va_P D cl (fx_w (MXo n) cA al I J R) H) (hD : va_D A (fx_w (MXo n) cA al I J R)) (hk : ∀ q : Nat, q < H.size → ¬ va_A (fx_w (MC 256) cA al I J R) H.size q → H1[q]? = H[q]?) (hF : ∀ q, va_A (fx_w (MC 256) cA al I J R) H.size q → A q) (hP1 : va_P D cl (fx_w (MC 256) cA al I0 J0 R0) H1) (hD1 : va_D (va_A (fx_w (MC 256) cA al I J R) H.size) (fx_w (MC 256) cA al I0 J0 R0)) :
    va_P D cl (fx_w (MXo n) cA al (mrg I0 I) (mrg J0 J) (mrg R0 R)) H1 ∧ va_D A (fx_w (MXo n) cA al (mrg I0 I) (mrg J0 J) (mrg R0 R)) := by
  have hj := va_join hP hD (List.range 140) ((List.range (2 + 2 * n)).map (fun i => 140 + i)) subX restX (nd_X hn).2 (fun i hi h9 => by
    obtain ⟨k, -, rfl⟩ := List.mem_map.mp hi
    have := List.mem_range.mp h9
    omega) hk hF hP1 hD1
  exact ⟨hj.1.sub (isXw n) (fm_of _ _ _ joinX), hj.2.sub (isXw n) (nd_X hn).1 joinX⟩
/-- what a call of the class asks and answers, in the law's world -/
def xPre (Pre : fx_Pre) : fx_Pre := Pre
def xPost (Post : fx_Post) : fx_Post := fun st I J R r I' J' R' => ∃ I0 J0 R0, Post st I J R r I0 J0 R0 ∧ I' = mrg I0 I ∧ J' = mrg J0 J ∧ R' = mrg R0 R
section XC_
variable {p : Program} {l : Launch} {e : Env} {Rm : Room} {s : State} {m : MethodId} {args : Array Value} {below : List Frame} {meth : Method} {c : Code} {D : va_G} {A : Nat → Prop} {H0 : Heap} {cA : Nat → ClassId} {al : Nat → Nat} {nL kc ks : Nat} {cc : ByteArray} {Qc : State → Prop}
theorem fx_callVY {e1 : Nat} {own C : String} {ws ws0 ws0' : List Cond} {rm0 : Room} {y : MethodName} {bytes : ByteArray} {maxL ci idx n : Nat} {ret : Option FieldType} {T : u_T} {N : Nat} {Pre : fx_Pre} {Post : fx_Post} (he1 : e1 ≤ 1) (hM : fx_Met l y ws0 rm0 (MC 256) Pre Post) (hG : GoodIn ws (wsV own idx C y ws0)) (hC : (MC 256).1[ci]? = some (C, T, N)) (hw : ws0 = Cond.code y bytes maxL ret :: ws0') (hr0 : rm0.cells = 0 ∧ rm0.slots = 0)
    (hd : y.cls = C ∧ y.cls ≠ "java/lang/invoke/MethodHandle" ∧ y.cls ≠ "java/lang/invoke/VarHandle" ∧ (parseMethodDescriptor y.desc).map (fun d => d.parameters.length) = some n) (hR : rm0.frames + 1 ≤ Rm.frames ∧ 8 + (maxL + 11) + rm0.locals ≤ Rm.locals)
    (hp : ∀ st I J R, Pre st I J R → ∃ q r, st = .ref q :: r ∧ (MC 256).2.2.1 q = some (.inl ci) ∧ r.length = n) : fx_E1 l own ws Rm (MXo e1) nL cc (.invokevirtual idx) (fx_tcall (n + 1) (xPre Pre) (xPost Post)) := by
  intro p e s m args below meth c Qc D A H0 cA al kc ks hx hb hml hown hts hK hN hA hkk pc L st I J R k hdg ht hk H locs ls hl hP hD hS
  obtain ⟨h1, h2, h3, h4⟩ := ht
  have h3 : Pre (st.take (n + 1)).reverse I J R := h3
  obtain ⟨q, r, e1', e2, e3⟩ := hp _ _ _ _ h3
  have hq := (MC_ok 256).1 _ _ e2
  have hKc : va_K D (MC 256).1 (fx_ty (MC 256) cA) s := hK
  have hPc : va_P D (MC 256).1 (fx_w (MC 256) cA al I J R) H := hP.sub (List.range 140) (fm_of _ _ _ subX)
  have hDc : va_D A (fx_w (MC 256) cA al I J R) := hD.sub (List.range 140) nd_140 subX
  have hm := hM D cA al _ I J R H.size h3
  have hrv := va_recv hKc hPc hC (by rw [fx_w_at hq, fx_e, e2])
  have hst : st.map (fx_v al) = (r.map (fx_v al)).reverse ++ .ref (al q) :: (st.drop (n + 1)).map (fx_v al) := fx_rev_take (fx_v al) e1'
  have hpc : ∀ U : State, U.heap = H → s.WarmedH U.vm → fx_Pc (MC 256) D cA al (st.take (n + 1)).reverse I J R H.size (Value.ref (al q) :: r.map (fx_v al)).toArray U := by
    intro U hU hW
    refine ⟨by rw [e1']; rfl, by rw [hU], by rw [hU]; exact hPc, va_K.moved hW.alike hKc, hDc.weaken (fun _ _ _ _ => trivial), hN.warm hW⟩
  have hrun := va_runV (e := e) (meth := meth) (below := below) (As := r.map (fx_v al)) (rest := (st.drop (n + 1)).map (fx_v al)) (g := F0 m pc ls (st.map (fx_v al))) (cells := kc) (slots := ks) (locs := locs) ⟨hx, hb, hml, hown, hts⟩ hm (cwV n hts hG hw hr0.1 hr0.2 hd hR) ⟨fx_blind, hrv, hpc⟩ rfl (by rw [List.length_map, e3]) hl.1 hst (lv_room (by rw [fx_cat_map]; exact h2)) hdg hkk
  have hF : ∀ q', va_A (fx_w (MC 256) cA al I J R) H.size q' → A q' := fun q' h => fx_A_in hDc hS hA q' h
  intro T hT X
  obtain ⟨v, st₀, t, T', L', h0, X', hL, f1, f2, ⟨⟨r', I', J', R', hv, hp1, hP1, hK1, hD1⟩, hz, hk'⟩, stp⟩ := hrun T hT X
  cases hv
  rw [h0] at hz hk'
  obtain ⟨hP2, hD2⟩ := backX (H1 := T'.heap) he1 hP hD (fun q' g1 g2 => by rw [f1]; exact hk' q' g1 g2) hF (by rw [f1]; exact hP1) hD1
  have h9 := hk _ _ _ _ (h4 r' _ _ _ ⟨I', J', R', hp1, rfl, rfl, rfl⟩) T'.heap (locs ++ L') ls hl hP2 hD2
    ⟨Nat.le_trans hS.1 (by rw [f1]; exact hz), fun q' g1 g2 => by rw [f1, hk' q' (Nat.lt_of_lt_of_le g1 hS.1) (fun z => g2 (hF q' z))]; exact hS.2.1 q' g1 g2, fun q' hq' => by
      rcases List.mem_append.mp hq' with h | h
      · exact hS.2.2 q' h
      · exact hF _ (hL q' h)⟩
  rw [List.map_append] at h9
  have h10 : W p l e Rm s m args below meth c T'.heap (locs ++ L') kc ks Qc (F0 m (pc + 3) ls ((r'.map (fx_v al)).toList ++ (st.drop (n + 1)).map (fx_v al))) := by cases r' <;> exact h9
  obtain ⟨t2, a1, b1⟩ := h10 T' rfl X'
  exact ⟨t2, stp t2 a1, b1⟩
end XC_
/-- the law's world: without (0) and with (1) the rows early and late -/
def MX (n : Nat) : fx_M := MXo (n % 2)
theorem pl_X_140 {n : Nat} : (MX n).2.2.1 140 = some (.inr (0, 64)) := pl_Y_140
theorem pl_X_141 {n : Nat} : (MX n).2.2.1 141 = some (.inr (0, 64)) := pl_Y_141
theorem pl_X_142 : (MX 1).2.2.1 142 = some (.inr (0, 6)) := pl_Y_142
theorem pl_X_143 : (MX 1).2.2.1 143 = some (.inr (0, 6)) := pl_Y_143
theorem pl_X_lo {n q : Nat} (h : q < 140) : (MX n).2.2.1 q = (MC 256).2.2.1 q := pl_Y_lo h
theorem MX_ok (n : Nat) : fx_ok (MX n) := MXo_ok _
theorem MX_tys (n : Nat) : fx_tys (MX n) := MXo_tys _
theorem fe_X {n : Nat} {cA : Nat → ClassId} {al : Nat → Nat} {I : fx_MI} {J : fx_MJ} {R : fx_MR} {q : Nat} (h : q < 140) : fx_e (MX n) cA al I J R q = fx_e (MC 256) cA al I J R q := fe_Y h
theorem fx_callVX {l : Launch} {Rm : Room} {nL : Nat} {cc : ByteArray} {e1 : Nat} {own C : String} {ws ws0 ws0' : List Cond} {rm0 : Room} {y : MethodName} {bytes : ByteArray} {maxL ci idx n : Nat} {ret : Option FieldType} {T : u_T} {N : Nat} {Pre : fx_Pre} {Post : fx_Post} (hM : fx_Met l y ws0 rm0 (MC 256) Pre Post) (hG : GoodIn ws (wsV own idx C y ws0)) (hC : (MC 256).1[ci]? = some (C, T, N)) (hw : ws0 = Cond.code y bytes maxL ret :: ws0') (hr0 : rm0.cells = 0 ∧ rm0.slots = 0)
    (hd : y.cls = C ∧ y.cls ≠ "java/lang/invoke/MethodHandle" ∧ y.cls ≠ "java/lang/invoke/VarHandle" ∧ (parseMethodDescriptor y.desc).map (fun d => d.parameters.length) = some n) (hR : rm0.frames + 1 ≤ Rm.frames ∧ 8 + (maxL + 11) + rm0.locals ≤ Rm.locals)
    (hp : ∀ st I J R, Pre st I J R → ∃ q r, st = .ref q :: r ∧ (MC 256).2.2.1 q = some (.inl ci) ∧ r.length = n) : fx_E1 l own ws Rm (MX e1) nL cc (.invokevirtual idx) (fx_tcall (n + 1) (xPre Pre) (xPost Post)) := fx_callVY (e1 := e1 % 2) (by have := Nat.mod_lt e1 (show 0 < 2 by omega); omega) hM hG hC hw hr0 hd hR hp
