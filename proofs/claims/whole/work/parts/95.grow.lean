/-! worlds that grow: runs to a stop, counters, a new dead table (own work) -/
theorem fx_X_V {nL : Nat} {M : fx_M} {ev : fx_Env} {ret : Option FieldType} {P : fx_P} {pr : fx_Pr} {V : fx_K} (hV : fx_cl nL M ev ret P pr V) {stops : List (Nat × Nat)} {K : fx_K} (hK : ∀ pc L st I J R, K pc L st I J R → V pc L st I J R) : ∀ (n pc : Nat) (L : List (Option Value)) (st : List Value) (I : fx_MI) (J : fx_MJ) (R : fx_MR), fx_X nL M ev ret P pr stops K n pc L st I J R → V pc L st I J R := by
  intro n
  induction n with
  | zero => intro pc L st I J R h; exact hK _ _ _ _ _ _ h
  | succ n ih =>
    intro pc L st I J R h
    unfold fx_X at h
    split at h
    · exact hV.2 _ _ _ _ _ _ _ (hK _ _ _ _ _ _ h)
    · split at h
      · rename_i hp
        exact hV.1 _ _ _ _ _ _ _ _ _ hp h ih
      · cases h
/-- a run with stops, to anything closed under steps -/
theorem fx_runV {nL : Nat} {M : fx_M} {ev : fx_Env} {ret : Option FieldType} {P : fx_P} {pr : fx_Pr} {V : fx_K} (hV : fx_cl nL M ev ret P pr V) {stops : List (Nat × Nat)} {K : fx_K} {pc : Nat} {L : List (Option Value)} {st : List Value} {I : fx_MI} {J : fx_MJ} {R : fx_MR} (hK : ∀ pc L st I J R, K pc L st I J R → V pc L st I J R) (n : Nat) (h : ∀ X : Nat → fx_K, fx_isX nL M ev ret P pr stops K X → X n pc L st I J R) : V pc L st I J R := fx_X_V hV hK n _ _ _ _ _ _ (h _ fx_X_is)
section GW
variable {p : Program} {l : Launch} {e : Env} {Rm : Room} {s : State} {m : MethodId} {args : Array Value} {below : List Frame} {meth : Method} {c : Code} {D : va_G} {A : Nat → Prop} {H0 : Heap} {M : fx_M} {cA : Nat → ClassId} {al : Nat → Nat} {nL kc ks : Nat} {cc : ByteArray} {Qc : State → Prop} {Qd : Array Value → State → Outcome → State → Prop}
theorem fx_W_cl {ev : fx_Env} {ret : Option FieldType} {P : fx_P} {pr : fx_Pr} (hM : fx_ok M) (hTy : fx_tys M)
    (hx : p.tables.exec = Jvm.exec) (hb : c.code = cc) (hr : meth.sig.returnType = ret) (hlocks : meth.locks = false) (hK : va_K D M.1 (fx_ty M cA) s)
    (hret : fx_RetOK s args Qd D A H0 M cA al P) (hQ : ∀ t, MQ below Qd args s kc ks A t → Qc t) (hev : ∀ ins t, fx_lk ev ins = some t → fx_TOK cc p l e Rm s m args below meth c Qc D A H0 M cA al nL kc ks ins t) (hpr : fx_prOK cc pr) : fx_cl nL M ev ret P pr (fx_W p l e Rm s m args below meth c Qc D A H0 M cA al nL kc ks) :=
  ⟨fun _ _ _ _ _ _ _ _ _ hp hs hk => fx_S_sound hM (fun _ _ _ _ _ _ _ => trivial) hTy hx hb hr hlocks hK hret hQ hev (hpr _ _ _ hp) hs hk,
    fun _ _ _ _ _ _ _ h => fun H locs ls hl hP hD hS => h H locs ls (hl.less (fun i v => fx_lg_take _ _ i v)) hP hD hS⟩
theorem W_more {H : Heap} {locs : List Loc} {cells slots cells' slots' : Nat} {Q : State → Prop} {g : JFrame} (hc : cells ≤ cells') (hs : slots ≤ slots') (k : W p l e Rm s m args below meth c H locs cells' slots' Q g) : W p l e Rm s m args below meth c H locs cells slots Q g := fun T hT X =>
  k T hT { X with same := ⟨X.same.1, X.same.2.1, Nat.le_trans X.same.2.2.1 (Nat.add_le_add_left hc _), X.same.2.2.2.1, Nat.le_trans X.same.2.2.2.2.1 hs, X.same.2.2.2.2.2⟩ }
theorem MQ_more {Qd' : Array Value → State → Outcome → State → Prop} {mc ms mc' ms' : Nat} (hc : mc ≤ mc') (hs : ms ≤ ms') (hq : ∀ o t L, Qd args s o t → FrameEnd s o t L mc ms → Qd' args s o t) {t : State} (h : MQ below Qd args s mc ms A t) : MQ below Qd' args s mc' ms' A t := by
  obtain ⟨o, h1, h2, h3, L, h4, h5⟩ := h
  refine ⟨o, h1, h2, hq o t L h3 h4, L, ⟨h4.1, h4.2.1, ?_⟩, h5⟩
  have h6 := h4.2.2
  exact ⟨h6.1, h6.2.1, Nat.le_trans h6.2.2.1 (Nat.add_le_add_left hc _), h6.2.2.2.1, Nat.le_trans h6.2.2.2.2.1 hs, h6.2.2.2.2.2⟩
/-- behind a call that made fewer cells than it might: the books are closed again -/
theorem X_tight {T T' st0 t : State} {o : Outcome} {locs locs' L : List Loc} {cells slots mc ms : Nat} (X : Stand p l e Rm s m args below meth c T locs cells slots) (X' : Stand p l e Rm s m args below meth c T' locs' (cells + mc) (slots + ms)) (h0 : st0.heap = T.heap) (h1 : T'.heap = t.heap) (hF : FrameEnd st0 o t L kc ks) : Stand p l e Rm s m args below meth c T' locs' (cells + kc) (slots + ks) := by
  obtain ⟨-, -, -, f2, f3, f4, f5, f6⟩ := hF
  have x2 : s.heap.size ≤ T.heap.size := X.same.2.1
  have x3 : T.heap.size ≤ s.heap.size + cells := X.same.2.2.1
  have x5 : ((T.heap.toList.drop s.heap.size).map (fun c => c.slots.size)).sum ≤ slots := X.same.2.2.2.2.1
  have g2 : T.heap.size ≤ T'.heap.size := by rw [← h0, h1]; exact f2
  have g3 : T'.heap.size ≤ T.heap.size + kc := by rw [← h0, h1]; exact f3
  have g5 : ((T'.heap.toList.drop T.heap.size).map (fun c => c.slots.size)).sum ≤ ks := by rw [← h0, h1]; exact f5
  have g6 : ∀ (a : Nat) (d : Cell), T.heap[a]? = some d → ∃ c' : Cell, T'.heap[a]? = some c' ∧ c'.slots.size = d.slots.size := fun a d hc => by
    rw [← h0] at hc
    obtain ⟨c', q1, q2, q3, q4⟩ := f6 a d hc
    exact ⟨c', by rw [h1]; exact q1, q3⟩
  have hl : T'.heap.toList.map (fun c => c.slots.size) = T.heap.toList.map (fun c => c.slots.size) ++ (T'.heap.toList.drop T.heap.size).map (fun c => c.slots.size) := by
    apply List.ext_getElem?
    intro i
    by_cases hi : i < T.heap.size
    · rw [List.getElem?_append_left (by simpa using hi), List.getElem?_map, List.getElem?_map, Array.getElem?_toList, Array.getElem?_toList]
      obtain ⟨c, hc⟩ : ∃ c, T.heap[i]? = some c := ⟨_, Array.getElem?_eq_getElem hi⟩
      obtain ⟨c', q1, q2⟩ := g6 i c hc
      rw [hc, q1]
      show some c'.slots.size = some c.slots.size
      rw [q2]
    · rw [List.getElem?_append_right (by simpa using Nat.not_lt.mp hi), List.getElem?_map, List.getElem?_map, List.getElem?_drop, List.length_map, Array.length_toList, show T.heap.size + (i - T.heap.size) = i by omega]
  have hsum : ((T'.heap.toList.drop s.heap.size).map (fun c => c.slots.size)).sum ≤ slots + ks := by
    rw [List.map_drop, hl, List.drop_append_of_le_length (by simpa using x2), List.sum_append, ← List.map_drop]
    omega
  exact { X' with same := ⟨X'.same.1, X'.same.2.1, Nat.le_trans g3 (by omega), X'.same.2.2.2.1, hsum, X'.same.2.2.2.2.2⟩ }
end GW
/-- the dead table has one owner -/
theorem R0C_120 {b : Bool} {q j : Nat} (h : R0C b q j = some 120) : q = 117 ∧ j = 5 := by
  unfold R0C at h
  split at h
  · cases b <;> simp at h
  · split at h
    · cases b <;> simp at h
    · have hd : ∀ q, q < 140 → ∀ j, j < 20 → ((fx_nth rfL q).bind (fun l => fx_nth l j)).join = some 120 → q = 117 ∧ j = 5 := by decide +kernel
      have hl : ∀ q, q < 140 → ((fx_nth rfL q).map List.length).getD 0 ≤ 20 := by decide +kernel
      have hn : rfL.length ≤ 140 := by decide +kernel
      cases e : fx_nth rfL q with
      | none => rw [e] at h; cases h
      | some l =>
        have hq := fx_nth_lt e
        cases e2 : fx_nth l j with
        | none => rw [e] at h; simp [e2] at h
        | some x =>
          have hj := fx_nth_lt e2
          have hl2 := hl q (by omega)
          rw [e] at hl2
          exact hd q (by omega) j (Nat.lt_of_lt_of_le hj hl2) h
section GN
variable {n n' h : Nat} {cA : Nat → ClassId} {al : Nat → Nat} {I : fx_MI} {J : fx_MJ} {b : Bool} {D : va_G} {A : Nat → Prop} {H : Heap}
def alN (al : Nat → Nat) (h : Nat) : Nat → Nat := fun q => if q = 120 then h else al q
def JoN (J : fx_MJ) : fx_MJ := fun q j => if q = 120 then 0 else J q j
theorem fv_N {k j kd : Nat} (hk : k ≠ 120) : fx_v (alN al h) (fx_fv I (JoN J) (R0C b) kd k j) = if 2 ≤ kd ∧ k = 117 ∧ j = 5 then .ref h else fx_v al (fx_fv I J (R0C b) kd k j) := by
  match kd with
  | 0 =>
    rw [if_neg (by omega)]
    rfl
  | 1 =>
    rw [if_neg (by omega)]
    show Value.long (JoN J k j) = .long (J k j)
    unfold JoN
    rw [if_neg hk]
  | kd + 2 =>
    show fx_v (alN al h) (va_rf (R0C b k j)) = if _ then _ else fx_v al (va_rf (R0C b k j))
    by_cases h1 : k = 117 ∧ j = 5
    · obtain ⟨rfl, rfl⟩ := h1
      rw [if_pos ⟨by omega, rfl, rfl⟩]
      show Value.ref (alN al h 120) = .ref h
      unfold alN
      rw [if_pos rfl]
    · rw [if_neg (fun z => h1 z.2)]
      cases e : R0C b k j with
      | none => rfl
      | some a =>
        show Value.ref (alN al h a) = .ref (al a)
        unfold alN
        rw [if_neg (fun z => h1 (R0C_120 (by rw [e, z])))]
theorem fo_N {ci k : Nat} (hk : k ≠ 120) (hk2 : k ≠ 117) : fx_o (MC n') (alN al h) I (JoN J) (R0C b) ci k = fx_o (MC n) al I J (R0C b) ci k := by
  unfold fx_o
  refine List.map_congr_left fun j _ => ?_
  exact (fv_N hk).trans (if_neg (fun z => hk2 z.2.1))
theorem fe_N {k : Nat} (hk : k ≠ 120) (hk2 : k ≠ 117) : fx_e (MC n') cA (alN al h) I (JoN J) (R0C b) k = fx_e (MC n) cA al I J (R0C b) k := by
  have hpl : (MC n').2.2.1 k = (MC n).2.2.1 k := by
    show pl_C n' k = pl_C n k
    unfold pl_C
    rw [if_neg hk, if_neg hk]
  unfold fx_e
  rw [hpl]
  split
  · rw [fo_N (n' := n') (n := n) hk hk2]
  · unfold fx_a
    split
    · rfl
    · have e : JoN J k = J k := by
        funext j
        exact if_neg hk
      rw [e]
    · rfl
    · have e : (fun j => (R0C b k j).map (alN al h)) = fun j => (R0C b k j).map al := by
        funext j
        cases e : R0C b k j with
        | none => rfl
        | some a =>
          show some (alN al h a) = some (al a)
          unfold alN
          rw [if_neg (fun z => hk2 (R0C_120 (by rw [e, z])).1)]
      rw [e]
  · rfl
theorem fo_117 : fx_o (MC n') (alN al h) I (JoN J) (R0C b) 9 117 = (fx_o (MC n) al I J (R0C b) 9 117).set 5 (.ref h) := by
  apply List.ext_getElem?
  intro j
  rw [List.getElem?_set]
  have hl : (fx_o (MC n) al I J (R0C b) 9 117).length = 16 := by
    unfold fx_o
    rw [List.length_map, List.length_range]
    rfl
  have hnf : ∀ m, fx_nf (MC m) 9 = 16 := fun _ => rfl
  by_cases hj : j < 16
  · have e1 : (fx_o (MC n') (alN al h) I (JoN J) (R0C b) 9 117)[j]? = some (fx_v (alN al h) (fx_fv I (JoN J) (R0C b) (kd_C 9 j) 117 j)) := by
      unfold fx_o
      rw [List.getElem?_map, hnf, List.getElem?_range hj]
      rfl
    have e2 : (fx_o (MC n) al I J (R0C b) 9 117)[j]? = some (fx_v al (fx_fv I J (R0C b) (kd_C 9 j) 117 j)) := by
      unfold fx_o
      rw [List.getElem?_map, hnf, List.getElem?_range hj]
      rfl
    rw [e1, e2, fv_N (by omega), hl]
    by_cases h5 : j = 5
    · subst h5
      rw [if_pos ⟨by decide, rfl, rfl⟩, if_pos rfl, if_pos hj]
    · rw [if_neg (fun z => h5 z.2.2), if_neg (fun z => h5 z.symm)]
  · have h1 : (fx_o (MC n') (alN al h) I (JoN J) (R0C b) 9 117)[j]? = none := List.getElem?_eq_none (by
      unfold fx_o
      rw [List.length_map, List.length_range, hnf]
      omega)
    have h2 : (fx_o (MC n) al I J (R0C b) 9 117)[j]? = none := List.getElem?_eq_none (by rw [hl]; omega)
    rw [h1, h2, if_neg (by omega)]
/-- the old world with the new table behind it, the owner turned to it -/
def wN (n n' h : Nat) (cA : Nat → ClassId) (al : Nat → Nat) (I : fx_MI) (J : fx_MJ) (b : Bool) : va_W := (fx_w (MC n) cA al I J (R0C b) ++ [((h, Sum.inl (cA 1, (n', .inr (.inl (fun _ => 0))))) : Nat × va_E)]).set 117 ((al 117, Sum.inr (9, (fx_o (MC n) al I J (R0C b) 9 117).set 5 (.ref h))) : Nat × va_E)
def isN : List Nat := (List.range 140).map (fun k => if k = 120 then 140 else k)
theorem w_N : isN.map (fun i => (wN n n' h cA al I J b)[i]?) = (fx_w (MC n') cA (alN al h) I (JoN J) (R0C b)).map some := by
  unfold isN
  have hm : ∀ m, (MC m).2.2.2.1 = 140 := fun _ => rfl
  rw [List.map_map]
  unfold fx_w
  rw [List.map_map, hm]
  refine List.map_congr_left fun k hk => ?_
  have hk : k < 140 := List.mem_range.mp hk
  have hlen : (fx_w (MC n) cA al I J (R0C b)).length = 140 := fx_w_len
  show (wN n n' h cA al I J b)[if k = 120 then 140 else k]? = some (alN al h k, fx_e (MC n') cA (alN al h) I (JoN J) (R0C b) k)
  unfold wN
  by_cases h1 : k = 120
  · subst h1
    rw [if_pos rfl, List.getElem?_set_ne (by omega), List.getElem?_append_right (by omega), hlen]
    rfl
  · rw [if_neg h1]
    have ea : alN al h k = al k := if_neg h1
    rw [ea]
    by_cases h2 : k = 117
    · subst h2
      rw [List.getElem?_set_self (by rw [List.length_append, hlen]; omega), ← fo_117 (n' := n')]
      rfl
    · rw [List.getElem?_set_ne (by omega), List.getElem?_append_left (by omega), fx_w_at (by exact hk), fe_N (n' := n') (n := n) h1 h2]
theorem P_N {cl : List vw_C} (hP : va_P D cl (wN n n' h cA al I J b) H) (hD : va_D A (wN n n' h cA al I J b)) : va_P D cl (fx_w (MC n') cA (alN al h) I (JoN J) (R0C b)) H ∧ va_D A (fx_w (MC n') cA (alN al h) I (JoN J) (R0C b)) := by
  refine ⟨hP.sub isN ?_, hD.sub isN (by decide +kernel) w_N⟩
  have e := w_N (n := n) (n' := n') (h := h) (cA := cA) (al := al) (I := I) (J := J) (b := b)
  have : ∀ (l : List Nat) (g : Nat → Option (Nat × va_E)) (r : List (Nat × va_E)), l.map g = r.map some → l.filterMap g = r := by
    intro l g
    induction l with
    | nil =>
      intro r hr
      cases r with
      | nil => rfl
      | cons x r => cases hr
    | cons a l ih =>
      intro r hr
      cases r with
      | nil => cases hr
      | cons x r =>
        rw [List.map_cons, List.map_cons] at hr
        obtain ⟨h1, h2⟩ := List.cons.inj hr
        rw [List.filterMap_cons, h1, ih r h2]
  exact this _ _ _ e
end GN
