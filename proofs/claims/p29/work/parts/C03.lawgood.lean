/-! the words of the law's own calls, of classes, rows and nest (own work) -/
theorem lw_IC {own C : String} {i1 i2 : Nat} {y : MethodName} {c0 : Cond} {is : List Nat} (h : [Cond.classLink own i1 C, Cond.methodLink own i2 y, .instanceMethod y, .initialized C, c0] = is.filterMap (fun i => lw_tbl[i]?)) (hc : goodWord c0 = true) : GoodIn lw_tbl (c0 :: w_C) := by
  intro w hw
  rcases List.mem_cons.mp hw with rfl | h2
  · exact ⟨lx_in h _ (by simp), good_of_word hc⟩
  · exact ⟨lt_C w h2, good_of_word (List.all_eq_true.mp w_C_good w h2)⟩
set_option maxRecDepth 100000 in
theorem lq_init_Out : [Cond.classLink R_law 31 R_Out, Cond.methodLink R_law 68 y_Out_init, Cond.instanceMethod y_Out_init, Cond.initialized R_Out, Cond.code y_Out_init b_Out_init 1 none] = [32, 34, 35, 15, 36].filterMap (fun i => lw_tbl[i]?) := by decide +kernel
set_option maxRecDepth 100000 in
theorem lq_inst : [Cond.instantiable R_Out 9, Cond.instantiable R_Grid 4, Cond.instantiable R_Situation 3, Cond.instantiable R_Clues 5, Cond.instantiable R_Layer 1, Cond.instantiable R_History 3, Cond.instantiable R_ClueText 3, Cond.instantiable R_Fillings 15, Cond.instantiable R_Narrower 5, Cond.instantiable R_Search 16, Cond.instantiable R_Stages 9, Cond.instantiable R_Advice 9] = [33, 41, 64, 70, 97, 123, 143, 161, 213, 238, 246, 328].filterMap (fun i => lw_tbl[i]?) := by decide +kernel
set_option maxRecDepth 100000 in
theorem lq_arrs : [Cond.arrayClass .int, Cond.arrayClass .long, Cond.arrayClass .byte, Cond.arrayOver (.object R_Situation)] = [95, 108, 157, 129].filterMap (fun i => lw_tbl[i]?) := by decide +kernel
set_option maxRecDepth 100000 in
theorem lq_NF : (fx_NF.map (fun q => Cond.fieldLinkNest q.1 q.2.1 q.2.2.1 q.2.2.2.1 q.2.2.2.2 "PictureClues")) = [47, 49, 51, 53, 76, 78, 79, 81, 104, 103, 110, 112, 114, 133, 149, 224, 338].filterMap (fun i => lw_tbl[i]?) := by decide +kernel
set_option maxRecDepth 100000 in
theorem lq_NM : (fx_NM.map (fun q => Cond.methodLinkNest q.1 q.2.1 q.2.2 "PictureClues")) = [42, 65, 71, 98, 130, 144, 159, 219, 244, 439, 681, 688].filterMap (fun i => lw_tbl[i]?) := by decide +kernel
