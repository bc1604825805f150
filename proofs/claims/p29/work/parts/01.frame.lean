/-! THE FRAME (own work): a symbolic executor of bytecode over a two-dimensional memory, and that it is sound over the machine.
A module M: classes, kinds of fields (0 int, 1 long, 2 reference), what each place is (an object of a class, or an array of a type and a length), how many places, the array types.
A memory: ints I, longs J, references R (by place): I k j is field or element j of place k. -/
abbrev fx_MI : Type := Nat → Nat → Int32
abbrev fx_MJ : Type := Nat → Nat → Int64
abbrev fx_MR : Type := Nat → Nat → Option Nat
abbrev fx_M : Type := List vw_C × (Nat → Nat → Nat) × (Nat → Option (Nat ⊕ (Nat × Nat))) × Nat × List FieldType
def fx_v (al : Nat → Nat) : Value → Value
  | .ref k => .ref (al k)
  | v => v
theorem fx_v_cat (al : Nat → Nat) (v : Value) : (fx_v al v).category = v.category := by cases v <;> rfl
def fx_fv (I : fx_MI) (J : fx_MJ) (R : fx_MR) (kd k j : Nat) : Value := match kd with
  | 0 => .int (I k j)
  | 1 => .long (J k j)
  | _ => va_rf (R k j)
def fx_nf (M : fx_M) (ci : Nat) : Nat := match M.1[ci]? with
  | some r => r.2.2
  | none => 0
def fx_o (M : fx_M) (al : Nat → Nat) (I : fx_MI) (J : fx_MJ) (R : fx_MR) (ci k : Nat) : List Value := (List.range (fx_nf M ci)).map (fun j => fx_v al (fx_fv I J R (M.2.1 ci j) k j))
def fx_a (cA : Nat → ClassId) (al : Nat → Nat) (I : fx_MI) (J : fx_MJ) (R : fx_MR) (k t n : Nat) : va_E := match t with
  | 0 => .inl (cA 0, n, .inl (I k))
  | 1 => .inl (cA 1, n, .inr (.inl (J k)))
  | 2 => .inl (cA 2, n, .inl (I k))
  | _ => .inl (cA 3, n, .inr (.inr (.inr (.inr (fun j => (R k j).map al)))))
def fx_e (M : fx_M) (cA : Nat → ClassId) (al : Nat → Nat) (I : fx_MI) (J : fx_MJ) (R : fx_MR) (k : Nat) : va_E := match M.2.2.1 k with
  | some (.inl ci) => .inr (ci, fx_o M al I J R ci k)
  | some (.inr (t, n)) => fx_a cA al I J R k t n
  | none => .inr (0, [])
def fx_w (M : fx_M) (cA : Nat → ClassId) (al : Nat → Nat) (I : fx_MI) (J : fx_MJ) (R : fx_MR) : va_W := (List.range M.2.2.2.1).map (fun k => (al k, fx_e M cA al I J R k))
def fx_ty (M : fx_M) (cA : Nat → ClassId) : List (ClassId × FieldType) := M.2.2.2.2.zipIdx.map (fun q => (cA q.2, q.1))
def fx_ok (M : fx_M) : Prop := (∀ k x, M.2.2.1 k = some x → k < M.2.2.2.1) ∧ M.2.2.2.2[0]? = some .int
theorem fx_ty_at {M : fx_M} {cA : Nat → ClassId} {i : Nat} {t : FieldType} (h : M.2.2.2.2[i]? = some t) : (fx_ty M cA)[i]? = some (cA i, t) := by
  simp [fx_ty, List.getElem?_map, List.getElem?_zipIdx, h]
theorem fx_w_at {M : fx_M} {cA : Nat → ClassId} {al : Nat → Nat} {I : fx_MI} {J : fx_MJ} {R : fx_MR} {k : Nat} (h : k < M.2.2.2.1) : (fx_w M cA al I J R)[k]? = some (al k, fx_e M cA al I J R k) := by
  simp [fx_w, List.getElem?_map, List.getElem?_range h]
theorem fx_w_len {M : fx_M} {cA : Nat → ClassId} {al : Nat → Nat} {I : fx_MI} {J : fx_MJ} {R : fx_MR} : (fx_w M cA al I J R).length = M.2.2.2.1 := by simp [fx_w]
theorem fx_w_set {M : fx_M} {cA : Nat → ClassId} {al : Nat → Nat} {I I' : fx_MI} {J J' : fx_MJ} {R R' : fx_MR} {q : Nat} {x : va_E} (hx : fx_e M cA al I' J' R' q = x) (ho : ∀ k, k ≠ q → fx_e M cA al I' J' R' k = fx_e M cA al I J R k) : (fx_w M cA al I J R).set q (al q, x) = fx_w M cA al I' J' R' := by
  apply List.ext_getElem?
  intro k
  rw [List.getElem?_set]
  by_cases hk : k < M.2.2.2.1
  · rw [fx_w_at hk]
    by_cases h : q = k
    · subst h
      rw [if_pos rfl, if_pos (by rw [fx_w_len]; exact hk), fx_w_at hk, hx]
    · rw [if_neg h, fx_w_at hk, ho k (fun z => h z.symm)]
  · have h1 : (fx_w M cA al I' J' R')[k]? = none := List.getElem?_eq_none (by rw [fx_w_len]; omega)
    have h2 : (fx_w M cA al I J R)[k]? = none := List.getElem?_eq_none (by rw [fx_w_len]; omega)
    rw [h1]
    by_cases h : q = k
    · subst h
      rw [if_pos rfl, if_neg (by rw [fx_w_len]; exact hk)]
    · rw [if_neg h, h2]
theorem fx_w_D {M : fx_M} {cA : Nat → ClassId} {al : Nat → Nat} {I I' : fx_MI} {J J' : fx_MJ} {R R' : fx_MR} {A A' : Nat → Prop} (h : va_D A (fx_w M cA al I J R)) (h' : va_D A' (fx_w M cA al I' J' R')) : va_D A (fx_w M cA al I' J' R') := by
  refine ⟨h'.1, fun k q hk => ?_⟩
  have hl : k < M.2.2.2.1 := by
    have := (List.getElem?_eq_some_iff.mp hk).1
    rwa [fx_w_len] at this
  have h1 := h.2 k _ (fx_w_at hl)
  rw [fx_w_at hl] at hk
  cases hk
  exact h1
-- locals: a list of what is known
def fx_lg : List (Option Value) → Nat → Option Value
  | [], _ => none
  | a :: _, 0 => a
  | _ :: l, n + 1 => fx_lg l n
def fx_ls : List (Option Value) → Nat → Option Value → List (Option Value)
  | [], 0, v => [v]
  | [], n + 1, v => none :: fx_ls [] n v
  | _ :: l, 0, v => v :: l
  | a :: l, n + 1, v => a :: fx_ls l n v
theorem fx_lg_ls (L : List (Option Value)) (i j : Nat) (v : Option Value) : fx_lg (fx_ls L i v) j = if j = i then v else fx_lg L j := by
  induction L generalizing i j with
  | nil =>
    induction i generalizing j with
    | zero => cases j <;> simp [fx_ls, fx_lg]
    | succ n ih => cases j with
      | zero => simp [fx_ls, fx_lg]
      | succ j => simpa [fx_ls, fx_lg] using ih j
  | cons a l ih =>
    cases i with
    | zero => cases j <;> simp [fx_ls, fx_lg]
    | succ n => cases j with
      | zero => simp [fx_ls, fx_lg]
      | succ j => simpa [fx_ls, fx_lg] using ih n j
def fx_as (al : Nat → Nat) : List (Option Value) → Nat → List (Nat × Value)
  | [], _ => []
  | none :: l, k => fx_as al l (k + 1)
  | some v :: l, k => (k, fx_v al v) :: fx_as al l (k + 1)
theorem fx_as_mem {al : Nat → Nat} {L : List (Option Value)} {k i : Nat} {v : Value} (h : fx_lg L i = some v) : (k + i, fx_v al v) ∈ fx_as al L k := by
  induction L generalizing k i with
  | nil => simp [fx_lg] at h
  | cons a l ih =>
    cases i with
    | zero =>
      simp only [fx_lg] at h
      subst h
      simp [fx_as]
    | succ n =>
      have := ih (k := k + 1) (i := n) h
      rw [show k + 1 + n = k + (n + 1) by omega] at this
      cases a with
      | none => simpa [fx_as] using this
      | some w => simp only [fx_as, List.mem_cons]; exact Or.inr this
theorem fx_as_inv {al : Nat → Nat} {L : List (Option Value)} {k : Nat} {q : Nat × Value} (h : q ∈ fx_as al L k) : ∃ i v, q = (k + i, fx_v al v) ∧ fx_lg L i = some v := by
  induction L generalizing k with
  | nil => simp [fx_as] at h
  | cons a l ih =>
    cases a with
    | none =>
      obtain ⟨i, v, h1, h2⟩ := ih (k := k + 1) (by simpa [fx_as] using h)
      exact ⟨i + 1, v, by rw [h1, show k + 1 + i = k + (i + 1) by omega], h2⟩
    | some w =>
      simp only [fx_as, List.mem_cons] at h
      rcases h with h | h
      · exact ⟨0, w, h, rfl⟩
      · obtain ⟨i, v, h1, h2⟩ := ih (k := k + 1) h
        exact ⟨i + 1, v, by rw [h1, show k + 1 + i = k + (i + 1) by omega], h2⟩
def fx_LH (al : Nat → Nat) (ls : Array Slot) (nL : Nat) (L : List (Option Value)) : Prop := lv_has ls nL (fx_as al L 0)
theorem fx_LH.at {al : Nat → Nat} {ls : Array Slot} {nL : Nat} {L : List (Option Value)} (h : fx_LH al ls nL L) {i : Nat} {v : Value} (hv : fx_lg L i = some v) : ls[i]? = some (.val (fx_v al v)) := by
  have := h.2.2 _ (fx_as_mem (al := al) (k := 0) hv)
  simpa using this
theorem fx_LH.less {al : Nat → Nat} {ls : Array Slot} {nL : Nat} {L L' : List (Option Value)} (h : fx_LH al ls nL L) (hs : ∀ i v, fx_lg L' i = some v → fx_lg L i = some v) : fx_LH al ls nL L' := by
  refine ⟨h.1, h.2.1, fun q hq => ?_⟩
  obtain ⟨i, v, h1, h2⟩ := fx_as_inv hq
  rw [h1]
  simpa using h.at (hs i v h2)
theorem fx_lg_take (L : List (Option Value)) (n i : Nat) (v : Value) (h : fx_lg (L.take n) i = some v) : fx_lg L i = some v := by
  induction L generalizing n i with
  | nil => simp [fx_lg] at h
  | cons a l ih =>
    cases n with
    | zero => simp [fx_lg] at h
    | succ n => cases i with
      | zero => simpa [fx_lg] using h
      | succ i => exact ih n i (by simpa [fx_lg] using h)
/-- no long stands just ahead of a place -/
def fx_nl (L : List (Option Value)) : Nat → Bool
  | 0 => true
  | n + 1 => match fx_lg L n with
    | some (.long _) => false
    | some (.double _) => false
    | _ => true
theorem fx_nl_ok {al : Nat → Nat} {L : List (Option Value)} {i j : Nat} {v : Value} (h : fx_nl L i = true) (hj : fx_lg L j = some v) (e : j + 1 = i) : ¬ (fx_v al v).category = 2 := by
  subst e
  simp only [fx_nl, hj] at h
  rw [fx_v_cat]
  cases v <;> simp_all [Value.category]
theorem fx_store1 {al : Nat → Nat} {ls' : Array Slot} {nL i : Nat} {v : Value} {L : List (Option Value)} (hn : fx_nl L i = true) (h : lv_has ls' nL ((i, fx_v al v) :: (fx_as al L 0).filter (fun q => !(q.1 == i) && !(q.1 + 1 == i && q.2.category == 2)))) : fx_LH al ls' nL (fx_ls L i (some v)) := by
  refine ⟨h.1, h.2.1, fun q hq => h.2.2 q ?_⟩
  obtain ⟨j, u, h1, h2⟩ := fx_as_inv hq
  rw [fx_lg_ls] at h2
  simp only [Nat.zero_add] at h1
  subst h1
  by_cases hj : j = i
  · rw [if_pos hj] at h2
    cases h2
    subst hj
    exact List.mem_cons_self
  · rw [if_neg hj] at h2
    refine List.mem_cons_of_mem _ (List.mem_filter.mpr ⟨by simpa using fx_as_mem (al := al) (k := 0) h2, ?_⟩)
    by_cases e : j + 1 = i
    · simp [hj, e, fx_nl_ok (al := al) hn h2 e]
    · simp [hj, e]
theorem fx_store2 {al : Nat → Nat} {ls' : Array Slot} {nL i : Nat} {x : Int64} {L : List (Option Value)} (hn : fx_nl L i = true) (h : lv_has ls' nL ((i, Value.long x) :: (fx_as al L 0).filter (fun q => !(q.1 == i) && (!(q.1 == i + 1) && !(q.1 + 1 == i && q.2.category == 2))))) : fx_LH al ls' nL (fx_ls (fx_ls L i (some (.long x))) (i + 1) none) := by
  refine ⟨h.1, h.2.1, fun q hq => h.2.2 q ?_⟩
  obtain ⟨j, u, h1, h2⟩ := fx_as_inv hq
  rw [fx_lg_ls, fx_lg_ls] at h2
  simp only [Nat.zero_add] at h1
  subst h1
  by_cases hj1 : j = i + 1
  · rw [if_pos hj1] at h2
    cases h2
  · rw [if_neg hj1] at h2
    by_cases hj : j = i
    · rw [if_pos hj] at h2
      cases h2
      subst hj
      exact List.mem_cons_self
    · rw [if_neg hj] at h2
      refine List.mem_cons_of_mem _ (List.mem_filter.mpr ⟨by simpa using fx_as_mem (al := al) (k := 0) h2, ?_⟩)
      by_cases e : j + 1 = i
      · simp [hj, hj1, e, fx_nl_ok (al := al) hn h2 e]
      · simp [hj, hj1, e]
-- updates
def fx_up {α : Type} (f : Nat → Nat → α) (k j : Nat) (x : α) : Nat → Nat → α := fun k' j' => if k' = k ∧ j' = j then x else f k' j'
theorem fx_up_row {f : Nat → Nat → Int32} {k j : Nat} {x : Int32} : fx_up f k j x k = upd (f k) j x := by
  funext q
  simp [fx_up, upd]
theorem fx_up_ne {α : Type} {f : Nat → Nat → α} {k j q : Nat} {x : α} (h : q ≠ k) : fx_up f k j x q = f q := by
  funext z
  simp [fx_up, h]
theorem fx_up_rowL {f : Nat → Nat → Int64} {k j : Nat} {x : Int64} : fx_up f k j x k = vp_updL (f k) j x := by
  funext q
  simp [fx_up, vp_updL]
