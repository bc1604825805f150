/-! what the reference answers is an int (own work) -/
theorem fx_S_sh {nL : Nat} {M : fx_M} {ev : fx_Env} {P P' : fx_P} (hP : ∀ x I J R, P (some (.int x)) I J R → P' (some (.int x)) I J R) {ins : Instr} {tgt pc : Nat} {L : List (Option Value)} {st : List Value} {I : fx_MI} {J : fx_MJ} {R : fx_MR} {k : fx_K} (h : fx_S nL M ev (some .int) P ins tgt pc L st I J R k) : fx_S nL M ev (some .int) P' ins tgt pc L st I J R k := by
  cases ins <;> try exact h
  case ireturn =>
    cases st with
    | nil => exact h
    | cons v r => cases v <;> cases r <;> first | exact h | exact ⟨h.1, hP _ _ _ _ h.2⟩
  case lreturn =>
    cases st with
    | nil => exact h
    | cons v r => cases v <;> cases r <;> first | exact h | exact absurd h.1 (by simp)
  case return_ =>
    cases st with
    | nil => exact absurd h.1 (by simp)
    | cons v r => exact h
theorem fx_R_int {nL : Nat} {M : fx_M} {ev : fx_Env} {P : fx_P} {pr : fx_Pr} {pc : Nat} {L : List (Option Value)} {st : List Value} {I : fx_MI} {J : fx_MJ} {R : fx_MR} (h : fx_R nL M ev (some .int) P pr pc L st I J R) : fx_R nL M ev (some .int) (fun r I J R => P r I J R ∧ ∃ z, r = some (.int z)) pr pc L st I J R := fun V hV =>
  h V ⟨fun pc ins tgt L st I J R k hp hs hk => hV.1 pc ins tgt L st I J R k hp (fx_S_sh (fun x I J R h => ⟨h, x, rfl⟩) hs) hk, hV.2⟩
def pI (Post : fx_Post) : fx_Post := fun st I J R r I' J' R' => Post st I J R r I' J' R' ∧ ∃ z, r = some (.int z)
theorem i_M_start (l : Launch) : fx_Met l y_M_start ws_M_start rm_M_start MM pre_M_start (pI post_M_start) := fx_met MM_ok MM_tys (by decide) rfl pk_M_start vk_M_start (fun st I J R h => ⟨(r_M_start st I J R h).1, fx_R_int (r_M_start st I J R h).2⟩)
theorem i_M_addBlock (l : Launch) : fx_Met l y_M_addBlock ws_M_addBlock rm_M_addBlock MM pre_M_addBlock (pI post_M_addBlock) := fx_met MM_ok MM_tys (by decide) rfl pk_M_addBlock vk_M_addBlock (fun st I J R h => ⟨(r_M_addBlock st I J R h).1, fx_R_int (r_M_addBlock st I J R h).2⟩)
theorem i_M_setClue (l : Launch) : fx_Met l y_M_setClue ws_M_setClue rm_M_setClue MM pre_M_setClue (pI post_M_setClue) := fx_met MM_ok MM_tys (by decide) rfl pk_M_setClue vk_M_setClue (fun st I J R h => ⟨(r_M_setClue st I J R h).1, fx_R_int (r_M_setClue st I J R h).2⟩)
theorem i_M_line (l : Launch) : fx_Met l y_M_line ws_M_line rm_M_line MM pre_M_line (pI post_M_line) := fx_met MM_ok MM_tys (by decide) rfl pk_M_line vk_M_line (fun st I J R h => ⟨(r_M_line st I J R h).1, fx_R_int (r_M_line st I J R h).2⟩)
theorem i_M_block (l : Launch) : fx_Met l y_M_block ws_M_block rm_M_block MM pre_M_block (pI post_M_block) := fx_met MM_ok MM_tys (by decide) rfl pk_M_block vk_M_block (fun st I J R h => ⟨(r_M_block st I J R h).1, fx_R_int (r_M_block st I J R h).2⟩)
theorem i_M_paint (l : Launch) : fx_Met l y_M_paint ws_M_paint rm_M_paint MM pre_M_paint (pI post_M_paint) := fx_met MM_ok MM_tys (by decide) rfl pk_M_paint vk_M_paint (fun st I J R h => ⟨(r_M_paint st I J R h).1, fx_R_int (r_M_paint st I J R h).2⟩)
theorem i_M_takeClues (l : Launch) : fx_Met l y_M_takeClues ws_M_takeClues rm_M_takeClues MM pre_M_takeClues (pI post_M_takeClues) := fx_met MM_ok MM_tys (by decide) rfl pk_M_takeClues vk_M_takeClues (fun st I J R h => ⟨(r_M_takeClues st I J R h).1, fx_R_int (r_M_takeClues st I J R h).2⟩)
theorem i_M_picture (l : Launch) : fx_Met l y_M_picture ws_M_picture rm_M_picture MM pre_M_picture (pI post_M_picture) := fx_met MM_ok MM_tys (by decide) rfl pk_M_picture vk_M_picture (fun st I J R h => ⟨(r_M_picture st I J R h).1, fx_R_int (r_M_picture st I J R h).2⟩)
theorem i_M_type (l : Launch) : fx_Met l y_M_type ws_M_type rm_M_type MM pre_M_type (pI post_M_type) := fx_met MM_ok MM_tys (by decide) rfl pk_M_type vk_M_type (fun st I J R h => ⟨(r_M_type st I J R h).1, fx_R_int (r_M_type st I J R h).2⟩)
theorem i_M_clear (l : Launch) : fx_Met l y_M_clear ws_M_clear rm_M_clear MM pre_M_clear (pI post_M_clear) := fx_met MM_ok MM_tys (by decide) rfl pk_M_clear vk_M_clear (fun st I J R h => ⟨(r_M_clear st I J R h).1, fx_R_int (r_M_clear st I J R h).2⟩)
theorem i_M_load (l : Launch) : fx_Met l y_M_load ws_M_load rm_M_load MM pre_M_load (pI post_M_load) := fx_met MM_ok MM_tys (by decide) rfl pk_M_load vk_M_load (fun st I J R h => ⟨(r_M_load st I J R h).1, fx_R_int (r_M_load st I J R h).2⟩)
theorem i_M_setMark (l : Launch) : fx_Met l y_M_setMark ws_M_setMark rm_M_setMark MM pre_M_setMark (pI post_M_setMark) := fx_met MM_ok MM_tys (by decide) rfl pk_M_setMark vk_M_setMark (fun st I J R h => ⟨(r_M_setMark st I J R h).1, fx_R_int (r_M_setMark st I J R h).2⟩)
theorem i_M_mark (l : Launch) : fx_Met l y_M_mark ws_M_mark rm_M_mark MM pre_M_mark (pI post_M_mark) := fx_met MM_ok MM_tys (by decide) rfl pk_M_mark vk_M_mark (fun st I J R h => ⟨(r_M_mark st I J R h).1, fx_R_int (r_M_mark st I J R h).2⟩)
theorem i_M_clearMarks (l : Launch) : fx_Met l y_M_clearMarks ws_M_clearMarks rm_M_clearMarks MM pre_M_clearMarks (pI post_M_clearMarks) := fx_met MM_ok MM_tys (by decide) rfl pk_M_clearMarks vk_M_clearMarks (fun st I J R h => ⟨(r_M_clearMarks st I J R h).1, fx_R_int (r_M_clearMarks st I J R h).2⟩)
theorem i_M_narrow (l : Launch) : fx_Met l y_M_narrow ws_M_narrow rm_M_narrow MM pre_M_narrow (pI post_M_narrow) := fx_met MM_ok MM_tys (by decide) rfl pk_M_narrow vk_M_narrow (fun st I J R h => ⟨(r_M_narrow st I J R h).1, fx_R_int (r_M_narrow st I J R h).2⟩)
theorem i_M_trial (l : Launch) : fx_Met l y_M_trial ws_M_trial rm_M_trial MM pre_M_trial (pI post_M_trial) := fx_met MM_ok MM_tys (by decide) rfl pk_M_trial vk_M_trial (fun st I J R h => ⟨(r_M_trial st I J R h).1, fx_R_int (r_M_trial st I J R h).2⟩)
theorem i_M_solutions (l : Launch) : fx_Met l y_M_solutions ws_M_solutions rm_M_solutions MM pre_M_solutions (pI post_M_solutions) := fx_met MM_ok MM_tys (by decide) rfl pk_M_solutions vk_M_solutions (fun st I J R h => ⟨(r_M_solutions st I J R h).1, fx_R_int (r_M_solutions st I J R h).2⟩)
theorem i_M_solve (l : Launch) : fx_Met l y_M_solve ws_M_solve rm_M_solve MM pre_M_solve (pI post_M_solve) := fx_met MM_ok MM_tys (by decide) rfl pk_M_solve vk_M_solve (fun st I J R h => ⟨(r_M_solve st I J R h).1, fx_R_int (r_M_solve st I J R h).2⟩)
theorem i_M_difficulty (l : Launch) : fx_Met l y_M_difficulty ws_M_difficulty rm_M_difficulty MM pre_M_difficulty (pI post_M_difficulty) := fx_met MM_ok MM_tys (by decide) rfl pk_M_difficulty vk_M_difficulty (fun st I J R h => ⟨(r_M_difficulty st I J R h).1, fx_R_int (r_M_difficulty st I J R h).2⟩)
theorem i_M_mistakes (l : Launch) : fx_Met l y_M_mistakes ws_M_mistakes rm_M_mistakes MM pre_M_mistakes (pI post_M_mistakes) := fx_met MM_ok MM_tys (by decide) rfl pk_M_mistakes vk_M_mistakes (fun st I J R h => ⟨(r_M_mistakes st I J R h).1, fx_R_int (r_M_mistakes st I J R h).2⟩)
theorem i_M_hint (l : Launch) : fx_Met l y_M_hint ws_M_hint rm_M_hint MM pre_M_hint (pI post_M_hint) := fx_met MM_ok MM_tys (by decide) rfl pk_M_hint vk_M_hint (fun st I J R h => ⟨(r_M_hint st I J R h).1, fx_R_int (r_M_hint st I J R h).2⟩)
theorem i_M_hinted (l : Launch) : fx_Met l y_M_hinted ws_M_hinted rm_M_hinted MM pre_M_hinted (pI post_M_hinted) := fx_met MM_ok MM_tys (by decide) rfl pk_M_hinted vk_M_hinted (fun st I J R h => ⟨(r_M_hinted st I J R h).1, fx_R_int (r_M_hinted st I J R h).2⟩)
theorem i_M_takeHint (l : Launch) : fx_Met l y_M_takeHint ws_M_takeHint rm_M_takeHint MM pre_M_takeHint (pI post_M_takeHint) := fx_met MM_ok MM_tys (by decide) rfl pk_M_takeHint vk_M_takeHint (fun st I J R h => ⟨(r_M_takeHint st I J R h).1, fx_R_int (r_M_takeHint st I J R h).2⟩)
theorem i_M_undo (l : Launch) : fx_Met l y_M_undo ws_M_undo rm_M_undo MM pre_M_undo (pI post_M_undo) := fx_met MM_ok MM_tys (by decide) rfl pk_M_undo vk_M_undo (fun st I J R h => ⟨(r_M_undo st I J R h).1, fx_R_int (r_M_undo st I J R h).2⟩)
theorem i_M_count (l : Launch) : fx_Met l y_M_count ws_M_count rm_M_count MM pre_M_count (pI post_M_count) := fx_met MM_ok MM_tys (by decide) rfl pk_M_count vk_M_count (fun st I J R h => ⟨(r_M_count st I J R h).1, fx_R_int (r_M_count st I J R h).2⟩)
