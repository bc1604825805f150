/-! the law: what its tables say at the start (own work) -/
theorem lw_pairs {s : State} (cl : List vw_C) (h : ∀ q ∈ cl, ∃ (cC : ClassId) (iS : Nat → Nat), u_Kn s q.1 q.2.1 q.2.2 cC iS) : ∃ D : va_G, ∀ (c : Nat) (q : vw_C), cl[c]? = some q → u_Kn s q.1 q.2.1 q.2.2 (D.1 c) (D.2 c) := by
  have h0 : ∀ c : Nat, ∃ z : ClassId × (Nat → Nat), ∀ q : vw_C, cl[c]? = some q → u_Kn s q.1 q.2.1 q.2.2 z.1 z.2 := by
    intro c
    cases hc : cl[c]? with
    | none => exact ⟨(0, fun _ => 0), fun q hq => by cases hq⟩
    | some q0 =>
      obtain ⟨cC, iS, hk⟩ := h q0 (List.mem_of_getElem? hc)
      exact ⟨(cC, iS), fun q hq => by cases hq; exact hk⟩
  obtain ⟨f, hf⟩ := Classical.axiomOfChoice h0
  exact ⟨(fun c => (f c).1, fun c => (f c).2), fun c q hq => hf c q hq⟩
theorem lw_arr {s : State} {args : Array Value} {ty : FieldType} (h : (Cond.arrayClass ty).before args s = true) (hn : ∀ C, ty ≠ .object C) : ∃ cA, ArrOfT s cA ty ∧ va_RA s cA ty := by
  obtain ⟨c, k, comp, h1, h2, h3⟩ := Cond.arrayClass_spec h
  refine ⟨c, fun n z => ⟨fun k' h => (by cases h), k, h2, comp, h3⟩, ?_⟩
  cases ty <;> first | exact h1 | exact absurd rfl (hn _)
theorem lw_arrO {s : State} {args : Array Value} {C : String} (h : (Cond.arrayOver (.object C)).before args s = true) : ∃ cA, ArrOfT s cA (.object C) ∧ va_RA s cA (.object C) := by
  obtain ⟨comp, c, k, h1, h2, h3, h4, h5⟩ := Cond.arrayOver_spec h
  exact ⟨c, fun n z => ⟨fun k' h => (by cases h), k, h3, comp, h4⟩, k, comp, h3, h4, h1, h5⟩
theorem lw_tys {s : State} (M : fx_M) (h : ∀ t ∈ M.2.2.2.2, ∃ cA, ArrOfT s cA t ∧ va_RA s cA t) : ∃ cA : Nat → ClassId, ∀ (k : Nat) (q : ClassId × FieldType), (fx_ty M cA)[k]? = some q → ArrOfT s q.1 q.2 ∧ va_RA s q.1 q.2 := by
  have h0 : ∀ k : Nat, ∃ z : ClassId, ∀ t, M.2.2.2.2[k]? = some t → ArrOfT s z t ∧ va_RA s z t := by
    intro k
    cases hk : M.2.2.2.2[k]? with
    | none => exact ⟨0, fun t ht => by cases ht⟩
    | some t0 =>
      obtain ⟨z, hz⟩ := h t0 (List.mem_of_getElem? hk)
      exact ⟨z, fun t ht => by cases ht; exact hz⟩
  obtain ⟨f, hf⟩ := Classical.axiomOfChoice h0
  refine ⟨f, fun k q hq => ?_⟩
  unfold fx_ty at hq
  rw [List.getElem?_map, List.getElem?_zipIdx] at hq
  cases hk : M.2.2.2.2[k]? with
  | none => rw [hk] at hq; cases hq
  | some t =>
    rw [hk] at hq
    cases hq
    have := hf k t hk
    simpa using this
theorem lw_know {s : State} {args : Array Value} (hts : ∀ w ∈ lw_tbl, w.before args s = true) : ∃ (D : va_G) (cA : Nat → ClassId), va_K D (MC 256).1 (fx_ty (MC 256) cA) s := by
  have hC : ∀ w ∈ w_C, w.before args s = true := fun w hw => hts w (lt_C w hw)
  have hI : ∀ (i : Nat) (w : Cond), [Cond.instantiable R_Out 9, Cond.instantiable R_Grid 4, Cond.instantiable R_Situation 3, Cond.instantiable R_Clues 5, Cond.instantiable R_Layer 1, Cond.instantiable R_History 3, Cond.instantiable R_ClueText 3, Cond.instantiable R_Fillings 15, Cond.instantiable R_Narrower 5, Cond.instantiable R_Search 16, Cond.instantiable R_Stages 9, Cond.instantiable R_Advice 9][i]? = some w → w.before args s = true := fun i w hw => hts w (lx_in lq_inst w (List.mem_of_getElem? hw))
  obtain ⟨D1, h1⟩ := lw_pairs (s := s) (MC 256).1 (by
    intro q hq
    have hq : q ∈ [((R_Out, T_Out, 9) : vw_C), (R_Grid, T_Grid, 4), (R_Situation, T_Situation, 3), (R_Clues, T_Clues, 5), (R_Layer, T_Layer, 1), (R_History, T_History, 3), (R_ClueText, T_ClueText, 3), (R_Fillings, T_Fillings, 15), (R_Narrower, T_Narrower, 5), (R_Search, T_Search, 16), (R_Stages, T_Stages, 9), (R_Advice, T_Advice, 9)] := hq
    simp only [List.mem_cons, List.not_mem_nil, or_false] at hq
    rcases hq with rfl | rfl | rfl | rfl | rfl | rfl | rfl | rfl | rfl | rfl | rfl | rfl
    · exact u_known hC w_C_lay_Out (hI 0 _ rfl)
    · exact u_known hC w_C_lay_Grid (hI 1 _ rfl)
    · exact u_known hC w_C_lay_Situation (hI 2 _ rfl)
    · exact u_known hC w_C_lay_Clues (hI 3 _ rfl)
    · exact u_known hC w_C_lay_Layer (hI 4 _ rfl)
    · exact u_known hC w_C_lay_History (hI 5 _ rfl)
    · exact u_known hC w_C_lay_ClueText (hI 6 _ rfl)
    · exact u_known hC w_C_lay_Fillings (hI 7 _ rfl)
    · exact u_known hC w_C_lay_Narrower (hI 8 _ rfl)
    · exact u_known hC w_C_lay_Search (hI 9 _ rfl)
    · exact u_known hC w_C_lay_Stages (hI 10 _ rfl)
    · exact u_known hC w_C_lay_Advice (hI 11 _ rfl))
  have hA : ∀ (i : Nat) (w : Cond), [Cond.arrayClass .int, Cond.arrayClass .long, Cond.arrayClass .byte, Cond.arrayOver (.object R_Situation)][i]? = some w → w.before args s = true := fun i w hw => hts w (lx_in lq_arrs w (List.mem_of_getElem? hw))
  have ai := lw_arr (hA 0 _ rfl) (fun C h => by cases h)
  have aj := lw_arr (hA 1 _ rfl) (fun C h => by cases h)
  have ab := lw_arr (hA 2 _ rfl) (fun C h => by cases h)
  have ao := lw_arrO (hA 3 _ rfl)
  obtain ⟨cA, h3⟩ := lw_tys (s := s) (MC 256) (by
    intro t ht
    have ht : t ∈ [FieldType.int, .long, .byte, .object R_Situation] := ht
    simp only [List.mem_cons, List.not_mem_nil, or_false] at ht
    rcases ht with rfl | rfl | rfl | rfl
    · exact ai
    · exact aj
    · exact ab
    · exact ao)
  exact ⟨D1, cA, h1, h3⟩
theorem lw_ao {s : State} {args : Array Value} (hts : ∀ w ∈ lw_tbl, w.before args s = true) : va_AO R_Situation s := va_AO.of (hts _ (lx_in lq_arrs _ (List.mem_of_getElem? (i := 3) rfl)))
theorem lw_nest {s : State} {args : Array Value} (hts : ∀ w ∈ lw_tbl, w.before args s = true) : fx_Nw s :=
  ⟨fun q hq => va_Nw.of rfl (hts _ (lx_in lq_NF _ (List.mem_map_of_mem hq))), fun q hq => va_Nw.of rfl (hts _ (lx_in lq_NM _ (List.mem_map_of_mem hq)))⟩
