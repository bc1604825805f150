/-! NAMES of the class, by an own text program out of the printed names -/
def R_Out : String := "PictureClues"
def T_Out : u_T := fun k => match k with
  | 0 => ("PictureClues", "grid", "LPictureClues$Grid;", true)
  | 1 => ("PictureClues", "now", "LPictureClues$Situation;", true)
  | 2 => ("PictureClues", "history", "LPictureClues$History;", true)
  | 3 => ("PictureClues", "text", "LPictureClues$ClueText;", true)
  | 4 => ("PictureClues", "loaded", "LPictureClues$Clues;", true)
  | 5 => ("PictureClues", "fillings", "LPictureClues$Fillings;", true)
  | 6 => ("PictureClues", "narrower", "LPictureClues$Narrower;", true)
  | 7 => ("PictureClues", "search", "LPictureClues$Search;", true)
  | _ => ("PictureClues", "advice", "LPictureClues$Advice;", true)
def ty_Out : Nat → FieldType := fun k => match k with
  | 0 => .object "PictureClues$Grid"
  | 1 => .object "PictureClues$Situation"
  | 2 => .object "PictureClues$History"
  | 3 => .object "PictureClues$ClueText"
  | 4 => .object "PictureClues$Clues"
  | 5 => .object "PictureClues$Fillings"
  | 6 => .object "PictureClues$Narrower"
  | 7 => .object "PictureClues$Search"
  | _ => .object "PictureClues$Advice"
theorem nm_Out : ∀ a, a < 9 → ∀ b, b < 9 → a ≠ b → (T_Out a).2.1 ≠ (T_Out b).2.1 := by decide +kernel
theorem tyok_Out : ∀ k, k < 9 → parseFieldDescriptor (T_Out k).2.2.1 = some (ty_Out k) := by decide +kernel
abbrev b_Out_init : ByteArray := prog_1_method_1_code
def y_Out_init : MethodName := ⟨R_Out, "<init>", "()V"⟩
abbrev b_Out_start : ByteArray := prog_1_method_2_code
def y_Out_start : MethodName := ⟨R_Out, "start", "(III)I"⟩
abbrev b_Out_addBlock : ByteArray := prog_1_method_3_code
def y_Out_addBlock : MethodName := ⟨R_Out, "addBlock", "(III)I"⟩
abbrev b_Out_setClue : ByteArray := prog_1_method_4_code
def y_Out_setClue : MethodName := ⟨R_Out, "setClue", "(IZ)I"⟩
abbrev b_Out_line : ByteArray := prog_1_method_5_code
def y_Out_line : MethodName := ⟨R_Out, "line", "(II)I"⟩
abbrev b_Out_block : ByteArray := prog_1_method_6_code
def y_Out_block : MethodName := ⟨R_Out, "block", "(III)I"⟩
abbrev b_Out_paint : ByteArray := prog_1_method_7_code
def y_Out_paint : MethodName := ⟨R_Out, "paint", "(IIIII)I"⟩
abbrev b_Out_takeClues : ByteArray := prog_1_method_8_code
def y_Out_takeClues : MethodName := ⟨R_Out, "takeClues", "()I"⟩
abbrev b_Out_picture : ByteArray := prog_1_method_9_code
def y_Out_picture : MethodName := ⟨R_Out, "picture", "(II)I"⟩
abbrev b_Out_type : ByteArray := prog_1_method_10_code
def y_Out_type : MethodName := ⟨R_Out, "type", "(I)I"⟩
abbrev b_Out_clear : ByteArray := prog_1_method_11_code
def y_Out_clear : MethodName := ⟨R_Out, "clear", "()I"⟩
abbrev b_Out_load : ByteArray := prog_1_method_12_code
def y_Out_load : MethodName := ⟨R_Out, "load", "()I"⟩
abbrev b_Out_setMark : ByteArray := prog_1_method_13_code
def y_Out_setMark : MethodName := ⟨R_Out, "setMark", "(III)I"⟩
abbrev b_Out_mark : ByteArray := prog_1_method_14_code
def y_Out_mark : MethodName := ⟨R_Out, "mark", "(II)I"⟩
abbrev b_Out_clearMarks : ByteArray := prog_1_method_15_code
def y_Out_clearMarks : MethodName := ⟨R_Out, "clearMarks", "()I"⟩
abbrev b_Out_narrow : ByteArray := prog_1_method_16_code
def y_Out_narrow : MethodName := ⟨R_Out, "narrow", "(I)I"⟩
abbrev b_Out_trial : ByteArray := prog_1_method_17_code
def y_Out_trial : MethodName := ⟨R_Out, "trial", "(III)I"⟩
abbrev b_Out_solutions : ByteArray := prog_1_method_18_code
def y_Out_solutions : MethodName := ⟨R_Out, "solutions", "(I)I"⟩
abbrev b_Out_solve : ByteArray := prog_1_method_19_code
def y_Out_solve : MethodName := ⟨R_Out, "solve", "()I"⟩
abbrev b_Out_difficulty : ByteArray := prog_1_method_20_code
def y_Out_difficulty : MethodName := ⟨R_Out, "difficulty", "()I"⟩
abbrev b_Out_mistakes : ByteArray := prog_1_method_21_code
def y_Out_mistakes : MethodName := ⟨R_Out, "mistakes", "()I"⟩
abbrev b_Out_hint : ByteArray := prog_1_method_22_code
def y_Out_hint : MethodName := ⟨R_Out, "hint", "()I"⟩
abbrev b_Out_hinted : ByteArray := prog_1_method_23_code
def y_Out_hinted : MethodName := ⟨R_Out, "hinted", "(I)I"⟩
abbrev b_Out_takeHint : ByteArray := prog_1_method_24_code
def y_Out_takeHint : MethodName := ⟨R_Out, "takeHint", "()I"⟩
abbrev b_Out_undo : ByteArray := prog_1_method_25_code
def y_Out_undo : MethodName := ⟨R_Out, "undo", "()I"⟩
abbrev b_Out_count : ByteArray := prog_1_method_26_code
def y_Out_count : MethodName := ⟨R_Out, "count", "(I)I"⟩
abbrev b_Out_digest : ByteArray := prog_1_method_27_code
def y_Out_digest : MethodName := ⟨R_Out, "digest", "()J"⟩
abbrev b_Out_digestOfLine : ByteArray := prog_1_method_28_code
def y_Out_digestOfLine : MethodName := ⟨R_Out, "digestOfLine", "(JI)J"⟩
abbrev b_Out_begin : ByteArray := prog_1_method_29_code
def y_Out_begin : MethodName := ⟨R_Out, "begin", "(III)V"⟩
abbrev b_Out_takeClue : ByteArray := prog_1_method_30_code
def y_Out_takeClue : MethodName := ⟨R_Out, "takeClue", "(I)V"⟩
abbrev b_Out_isWrong : ByteArray := prog_1_method_31_code
def y_Out_isWrong : MethodName := ⟨R_Out, "isWrong", "(I)Z"⟩
abbrev b_Out_wrongLines : ByteArray := prog_1_method_32_code
def y_Out_wrongLines : MethodName := ⟨R_Out, "wrongLines", "()I"⟩
abbrev b_Out_fittingLines : ByteArray := prog_1_method_33_code
def y_Out_fittingLines : MethodName := ⟨R_Out, "fittingLines", "()I"⟩
abbrev b_Out_filledCells : ByteArray := prog_1_method_34_code
def y_Out_filledCells : MethodName := ⟨R_Out, "filledCells", "()I"⟩
abbrev b_Out_isWithin : ByteArray := prog_1_method_35_code
def y_Out_isWithin : MethodName := ⟨R_Out, "isWithin", "(III)Z"⟩
abbrev b_Out_lowestBit : ByteArray := prog_1_method_36_code
def y_Out_lowestBit : MethodName := ⟨R_Out, "lowestBit", "(J)I"⟩
abbrev b_Out_highestBit : ByteArray := prog_1_method_37_code
def y_Out_highestBit : MethodName := ⟨R_Out, "highestBit", "(I)I"⟩
def R_Grid : String := "PictureClues$Grid"
def T_Grid : u_T := fun k => match k with
  | 0 => ("PictureClues$Grid", "width", "I", false)
  | 1 => ("PictureClues$Grid", "height", "I", false)
  | 2 => ("PictureClues$Grid", "colors", "I", false)
  | _ => ("PictureClues$Grid", "all", "J", false)
def ty_Grid : Nat → FieldType := fun k => match k with
  | 0 => .int
  | 1 => .int
  | 2 => .int
  | _ => .long
theorem nm_Grid : ∀ a, a < 4 → ∀ b, b < 4 → a ≠ b → (T_Grid a).2.1 ≠ (T_Grid b).2.1 := by decide +kernel
theorem tyok_Grid : ∀ k, k < 4 → parseFieldDescriptor (T_Grid k).2.2.1 = some (ty_Grid k) := by decide +kernel
abbrev b_Grid_init : ByteArray := prog_6_method_1_code
def y_Grid_init : MethodName := ⟨R_Grid, "<init>", "()V"⟩
abbrev b_Grid_resize : ByteArray := prog_6_method_2_code
def y_Grid_resize : MethodName := ⟨R_Grid, "resize", "(III)V"⟩
abbrev b_Grid_rectangle : ByteArray := prog_6_method_3_code
def y_Grid_rectangle : MethodName := ⟨R_Grid, "rectangle", "(II)J"⟩
abbrev b_Grid_index : ByteArray := prog_6_method_4_code
def y_Grid_index : MethodName := ⟨R_Grid, "index", "(II)I"⟩
abbrev b_Grid_xOf : ByteArray := prog_6_method_5_code
def y_Grid_xOf : MethodName := ⟨R_Grid, "xOf", "(I)I"⟩
abbrev b_Grid_yOf : ByteArray := prog_6_method_6_code
def y_Grid_yOf : MethodName := ⟨R_Grid, "yOf", "(I)I"⟩
abbrev b_Grid_cell : ByteArray := prog_6_method_7_code
def y_Grid_cell : MethodName := ⟨R_Grid, "cell", "(II)J"⟩
abbrev b_Grid_lines : ByteArray := prog_6_method_8_code
def y_Grid_lines : MethodName := ⟨R_Grid, "lines", "()I"⟩
abbrev b_Grid_fullMark : ByteArray := prog_6_method_9_code
def y_Grid_fullMark : MethodName := ⟨R_Grid, "fullMark", "()I"⟩
abbrev b_Grid_hasLine : ByteArray := prog_6_method_10_code
def y_Grid_hasLine : MethodName := ⟨R_Grid, "hasLine", "(I)Z"⟩
abbrev b_Grid_hasCell : ByteArray := prog_6_method_11_code
def y_Grid_hasCell : MethodName := ⟨R_Grid, "hasCell", "(II)Z"⟩
abbrev b_Grid_cellsOf : ByteArray := prog_6_method_12_code
def y_Grid_cellsOf : MethodName := ⟨R_Grid, "cellsOf", "(I)I"⟩
abbrev b_Grid_cellOf : ByteArray := prog_6_method_13_code
def y_Grid_cellOf : MethodName := ⟨R_Grid, "cellOf", "(II)J"⟩
abbrev b_Grid_indexAfter : ByteArray := prog_6_method_14_code
def y_Grid_indexAfter : MethodName := ⟨R_Grid, "indexAfter", "(I)I"⟩
abbrev b_Grid_indexBefore : ByteArray := prog_6_method_15_code
def y_Grid_indexBefore : MethodName := ⟨R_Grid, "indexBefore", "(I)I"⟩
abbrev b_Grid_linesOf : ByteArray := prog_6_method_16_code
def y_Grid_linesOf : MethodName := ⟨R_Grid, "linesOf", "(I)I"⟩
abbrev b_Grid_crossing : ByteArray := prog_6_method_17_code
def y_Grid_crossing : MethodName := ⟨R_Grid, "crossing", "(II)I"⟩
abbrev b_Grid_bitsOf : ByteArray := prog_6_method_18_code
def y_Grid_bitsOf : MethodName := ⟨R_Grid, "bitsOf", "(JI)I"⟩
abbrev b_Grid_cellsAt : ByteArray := prog_6_method_19_code
def y_Grid_cellsAt : MethodName := ⟨R_Grid, "cellsAt", "(II)J"⟩
def R_Situation : String := "PictureClues$Situation"
def T_Situation : u_T := fun k => match k with
  | 0 => ("PictureClues$Situation", "clues", "LPictureClues$Clues;", true)
  | 1 => ("PictureClues$Situation", "marks", "LPictureClues$Layer;", true)
  | _ => ("PictureClues$Situation", "picture", "LPictureClues$Layer;", true)
def ty_Situation : Nat → FieldType := fun k => match k with
  | 0 => .object "PictureClues$Clues"
  | 1 => .object "PictureClues$Layer"
  | _ => .object "PictureClues$Layer"
theorem nm_Situation : ∀ a, a < 3 → ∀ b, b < 3 → a ≠ b → (T_Situation a).2.1 ≠ (T_Situation b).2.1 := by decide +kernel
theorem tyok_Situation : ∀ k, k < 3 → parseFieldDescriptor (T_Situation k).2.2.1 = some (ty_Situation k) := by decide +kernel
abbrev b_Situation_init : ByteArray := prog_11_method_1_code
def y_Situation_init : MethodName := ⟨R_Situation, "<init>", "()V"⟩
abbrev b_Situation_copyFrom : ByteArray := prog_11_method_2_code
def y_Situation_copyFrom : MethodName := ⟨R_Situation, "copyFrom", "(LPictureClues$Situation;)V"⟩
def R_Clues : String := "PictureClues$Clues"
def T_Clues : u_T := fun k => match k with
  | 0 => ("PictureClues$Clues", "clued", "I", false)
  | 1 => ("PictureClues$Clues", "sizes", "[I", true)
  | 2 => ("PictureClues$Clues", "rooms", "[I", true)
  | 3 => ("PictureClues$Clues", "lengths", "[I", true)
  | _ => ("PictureClues$Clues", "colors", "[I", true)
def ty_Clues : Nat → FieldType := fun k => match k with
  | 0 => .int
  | 1 => .array .int
  | 2 => .array .int
  | 3 => .array .int
  | _ => .array .int
theorem nm_Clues : ∀ a, a < 5 → ∀ b, b < 5 → a ≠ b → (T_Clues a).2.1 ≠ (T_Clues b).2.1 := by decide +kernel
theorem tyok_Clues : ∀ k, k < 5 → parseFieldDescriptor (T_Clues k).2.2.1 = some (ty_Clues k) := by decide +kernel
abbrev b_Clues_init : ByteArray := prog_4_method_1_code
def y_Clues_init : MethodName := ⟨R_Clues, "<init>", "()V"⟩
abbrev b_Clues_copyFrom : ByteArray := prog_4_method_2_code
def y_Clues_copyFrom : MethodName := ⟨R_Clues, "copyFrom", "(LPictureClues$Clues;)V"⟩
abbrev b_Clues_resetAll : ByteArray := prog_4_method_3_code
def y_Clues_resetAll : MethodName := ⟨R_Clues, "resetAll", "()V"⟩
abbrev b_Clues_reset : ByteArray := prog_4_method_4_code
def y_Clues_reset : MethodName := ⟨R_Clues, "reset", "(IZ)V"⟩
abbrev b_Clues_has : ByteArray := prog_4_method_5_code
def y_Clues_has : MethodName := ⟨R_Clues, "has", "(I)Z"⟩
abbrev b_Clues_lengthOf : ByteArray := prog_4_method_6_code
def y_Clues_lengthOf : MethodName := ⟨R_Clues, "lengthOf", "(II)I"⟩
abbrev b_Clues_colorOf : ByteArray := prog_4_method_7_code
def y_Clues_colorOf : MethodName := ⟨R_Clues, "colorOf", "(II)I"⟩
abbrev b_Clues_append : ByteArray := prog_4_method_8_code
def y_Clues_append : MethodName := ⟨R_Clues, "append", "(III)V"⟩
abbrev b_Clues_gapBefore : ByteArray := prog_4_method_9_code
def y_Clues_gapBefore : MethodName := ⟨R_Clues, "gapBefore", "(II)I"⟩
abbrev b_Clues_roomWith : ByteArray := prog_4_method_10_code
def y_Clues_roomWith : MethodName := ⟨R_Clues, "roomWith", "(III)I"⟩
abbrev b_Clues_blocks : ByteArray := prog_4_method_11_code
def y_Clues_blocks : MethodName := ⟨R_Clues, "blocks", "()I"⟩
def R_Layer : String := "PictureClues$Layer"
def T_Layer : u_T := fun k => match k with
  | _ => ("PictureClues$Layer", "cells", "[J", true)
def ty_Layer : Nat → FieldType := fun k => match k with
  | _ => .array .long
theorem nm_Layer : ∀ a, a < 1 → ∀ b, b < 1 → a ≠ b → (T_Layer a).2.1 ≠ (T_Layer b).2.1 := by decide +kernel
theorem tyok_Layer : ∀ k, k < 1 → parseFieldDescriptor (T_Layer k).2.2.1 = some (ty_Layer k) := by decide +kernel
abbrev b_Layer_init : ByteArray := prog_8_method_1_code
def y_Layer_init : MethodName := ⟨R_Layer, "<init>", "()V"⟩
abbrev b_Layer_copyFrom : ByteArray := prog_8_method_2_code
def y_Layer_copyFrom : MethodName := ⟨R_Layer, "copyFrom", "(LPictureClues$Layer;)V"⟩
abbrev b_Layer_put : ByteArray := prog_8_method_3_code
def y_Layer_put : MethodName := ⟨R_Layer, "put", "(JI)V"⟩
abbrev b_Layer_colorsAt : ByteArray := prog_8_method_4_code
def y_Layer_colorsAt : MethodName := ⟨R_Layer, "colorsAt", "(J)I"⟩
abbrev b_Layer_colorAt : ByteArray := prog_8_method_5_code
def y_Layer_colorAt : MethodName := ⟨R_Layer, "colorAt", "(J)I"⟩
abbrev b_Layer_doubtful : ByteArray := prog_8_method_6_code
def y_Layer_doubtful : MethodName := ⟨R_Layer, "doubtful", "()J"⟩
abbrev b_Layer_difference : ByteArray := prog_8_method_7_code
def y_Layer_difference : MethodName := ⟨R_Layer, "difference", "(LPictureClues$Layer;)J"⟩
def R_History : String := "PictureClues$History"
def T_History : u_T := fun k => match k with
  | 0 => ("PictureClues$History", "ring", "[LPictureClues$Situation;", true)
  | 1 => ("PictureClues$History", "states", "I", false)
  | _ => ("PictureClues$History", "next", "I", false)
def ty_History : Nat → FieldType := fun k => match k with
  | 0 => .array (.object "PictureClues$Situation")
  | 1 => .int
  | _ => .int
theorem nm_History : ∀ a, a < 3 → ∀ b, b < 3 → a ≠ b → (T_History a).2.1 ≠ (T_History b).2.1 := by decide +kernel
theorem tyok_History : ∀ k, k < 3 → parseFieldDescriptor (T_History k).2.2.1 = some (ty_History k) := by decide +kernel
abbrev b_History_init : ByteArray := prog_7_method_1_code
def y_History_init : MethodName := ⟨R_History, "<init>", "()V"⟩
abbrev b_History_record : ByteArray := prog_7_method_2_code
def y_History_record : MethodName := ⟨R_History, "record", "(LPictureClues$Situation;)V"⟩
abbrev b_History_restore : ByteArray := prog_7_method_3_code
def y_History_restore : MethodName := ⟨R_History, "restore", "(LPictureClues$Situation;)V"⟩
def R_ClueText : String := "PictureClues$ClueText"
def T_ClueText : u_T := fun k => match k with
  | 0 => ("PictureClues$ClueText", "letters", "[B", true)
  | 1 => ("PictureClues$ClueText", "length", "I", false)
  | _ => ("PictureClues$ClueText", "at", "I", false)
def ty_ClueText : Nat → FieldType := fun k => match k with
  | 0 => .array .byte
  | 1 => .int
  | _ => .int
theorem nm_ClueText : ∀ a, a < 3 → ∀ b, b < 3 → a ≠ b → (T_ClueText a).2.1 ≠ (T_ClueText b).2.1 := by decide +kernel
theorem tyok_ClueText : ∀ k, k < 3 → parseFieldDescriptor (T_ClueText k).2.2.1 = some (ty_ClueText k) := by decide +kernel
abbrev b_ClueText_init : ByteArray := prog_3_method_1_code
def y_ClueText_init : MethodName := ⟨R_ClueText, "<init>", "()V"⟩
abbrev b_ClueText_append : ByteArray := prog_3_method_2_code
def y_ClueText_append : MethodName := ⟨R_ClueText, "append", "(I)V"⟩
abbrev b_ClueText_read : ByteArray := prog_3_method_3_code
def y_ClueText_read : MethodName := ⟨R_ClueText, "read", "(LPictureClues$Clues;LPictureClues$Grid;)I"⟩
abbrev b_ClueText_readClue : ByteArray := prog_3_method_4_code
def y_ClueText_readClue : MethodName := ⟨R_ClueText, "readClue", "(LPictureClues$Clues;ILPictureClues$Grid;)I"⟩
abbrev b_ClueText_readWord : ByteArray := prog_3_method_5_code
def y_ClueText_readWord : MethodName := ⟨R_ClueText, "readWord", "(LPictureClues$Clues;I)I"⟩
abbrev b_ClueText_readBlock : ByteArray := prog_3_method_6_code
def y_ClueText_readBlock : MethodName := ⟨R_ClueText, "readBlock", "(LPictureClues$Clues;ILPictureClues$Grid;)I"⟩
abbrev b_ClueText_here : ByteArray := prog_3_method_7_code
def y_ClueText_here : MethodName := ⟨R_ClueText, "here", "()I"⟩
abbrev b_ClueText_skipBlanks : ByteArray := prog_3_method_8_code
def y_ClueText_skipBlanks : MethodName := ⟨R_ClueText, "skipBlanks", "()V"⟩
abbrev b_ClueText_isWord : ByteArray := prog_3_method_9_code
def y_ClueText_isWord : MethodName := ⟨R_ClueText, "isWord", "(Ljava/lang/String;I)Z"⟩
abbrev b_ClueText_isSmall : ByteArray := prog_3_method_10_code
def y_ClueText_isSmall : MethodName := ⟨R_ClueText, "isSmall", "(I)Z"⟩
abbrev b_ClueText_isDigit : ByteArray := prog_3_method_11_code
def y_ClueText_isDigit : MethodName := ⟨R_ClueText, "isDigit", "(I)Z"⟩
def R_Fillings : String := "PictureClues$Fillings"
def T_Fillings : u_T := fun k => match k with
  | 0 => ("PictureClues$Fillings", "grid", "LPictureClues$Grid;", true)
  | 1 => ("PictureClues$Fillings", "clues", "LPictureClues$Clues;", true)
  | 2 => ("PictureClues$Fillings", "line", "I", false)
  | 3 => ("PictureClues$Fillings", "size", "I", false)
  | 4 => ("PictureClues$Fillings", "cells", "I", false)
  | 5 => ("PictureClues$Fillings", "can", "[I", true)
  | 6 => ("PictureClues$Fillings", "lengths", "[I", true)
  | 7 => ("PictureClues$Fillings", "colors", "[I", true)
  | 8 => ("PictureClues$Fillings", "gaps", "[I", true)
  | 9 => ("PictureClues$Fillings", "front", "[I", true)
  | 10 => ("PictureClues$Fillings", "back", "[I", true)
  | 11 => ("PictureClues$Fillings", "starts", "[I", true)
  | 12 => ("PictureClues$Fillings", "left", "[I", true)
  | 13 => ("PictureClues$Fillings", "ways", "[I", false)
  | _ => ("PictureClues$Fillings", "nextWays", "[I", false)
def ty_Fillings : Nat → FieldType := fun k => match k with
  | 0 => .object "PictureClues$Grid"
  | 1 => .object "PictureClues$Clues"
  | 2 => .int
  | 3 => .int
  | 4 => .int
  | 5 => .array .int
  | 6 => .array .int
  | 7 => .array .int
  | 8 => .array .int
  | 9 => .array .int
  | 10 => .array .int
  | 11 => .array .int
  | 12 => .array .int
  | 13 => .array .int
  | _ => .array .int
theorem nm_Fillings : ∀ a, a < 15 → ∀ b, b < 15 → a ≠ b → (T_Fillings a).2.1 ≠ (T_Fillings b).2.1 := by decide +kernel
theorem tyok_Fillings : ∀ k, k < 15 → parseFieldDescriptor (T_Fillings k).2.2.1 = some (ty_Fillings k) := by decide +kernel
abbrev b_Fillings_init : ByteArray := prog_5_method_1_code
def y_Fillings_init : MethodName := ⟨R_Fillings, "<init>", "(LPictureClues$Grid;LPictureClues$Clues;)V"⟩
abbrev b_Fillings_examine : ByteArray := prog_5_method_2_code
def y_Fillings_examine : MethodName := ⟨R_Fillings, "examine", "(LPictureClues$Layer;I)Z"⟩
abbrev b_Fillings_earliest : ByteArray := prog_5_method_3_code
def y_Fillings_earliest : MethodName := ⟨R_Fillings, "earliest", "(I)I"⟩
abbrev b_Fillings_latest : ByteArray := prog_5_method_4_code
def y_Fillings_latest : MethodName := ⟨R_Fillings, "latest", "(I)I"⟩
abbrev b_Fillings_number : ByteArray := prog_5_method_5_code
def y_Fillings_number : MethodName := ⟨R_Fillings, "number", "(LPictureClues$Layer;I)I"⟩
abbrev b_Fillings_narrowByOverlap : ByteArray := prog_5_method_6_code
def y_Fillings_narrowByOverlap : MethodName := ⟨R_Fillings, "narrowByOverlap", "()I"⟩
abbrev b_Fillings_narrowByFillings : ByteArray := prog_5_method_7_code
def y_Fillings_narrowByFillings : MethodName := ⟨R_Fillings, "narrowByFillings", "()I"⟩
abbrev b_Fillings_markLeft : ByteArray := prog_5_method_8_code
def y_Fillings_markLeft : MethodName := ⟨R_Fillings, "markLeft", "(I)I"⟩
abbrev b_Fillings_applyTo : ByteArray := prog_5_method_9_code
def y_Fillings_applyTo : MethodName := ⟨R_Fillings, "applyTo", "(LPictureClues$Layer;)V"⟩
abbrev b_Fillings_look : ByteArray := prog_5_method_10_code
def y_Fillings_look : MethodName := ⟨R_Fillings, "look", "(LPictureClues$Layer;I)V"⟩
abbrev b_Fillings_placeFromFront : ByteArray := prog_5_method_11_code
def y_Fillings_placeFromFront : MethodName := ⟨R_Fillings, "placeFromFront", "()V"⟩
abbrev b_Fillings_placeFromBack : ByteArray := prog_5_method_12_code
def y_Fillings_placeFromBack : MethodName := ⟨R_Fillings, "placeFromBack", "()V"⟩
abbrev b_Fillings_runs : ByteArray := prog_5_method_13_code
def y_Fillings_runs : MethodName := ⟨R_Fillings, "runs", "(I)I"⟩
abbrev b_Fillings_acrossEmpty : ByteArray := prog_5_method_14_code
def y_Fillings_acrossEmpty : MethodName := ⟨R_Fillings, "acrossEmpty", "(I)I"⟩
abbrev b_Fillings_backAcrossEmpty : ByteArray := prog_5_method_15_code
def y_Fillings_backAcrossEmpty : MethodName := ⟨R_Fillings, "backAcrossEmpty", "(I)I"⟩
abbrev b_Fillings_numberWithoutClue : ByteArray := prog_5_method_16_code
def y_Fillings_numberWithoutClue : MethodName := ⟨R_Fillings, "numberWithoutClue", "()I"⟩
abbrev b_Fillings_addBlockWays : ByteArray := prog_5_method_17_code
def y_Fillings_addBlockWays : MethodName := ⟨R_Fillings, "addBlockWays", "(I)V"⟩
abbrev b_Fillings_emptyBefore : ByteArray := prog_5_method_18_code
def y_Fillings_emptyBefore : MethodName := ⟨R_Fillings, "emptyBefore", "(I)Z"⟩
abbrev b_Fillings_leave : ByteArray := prog_5_method_19_code
def y_Fillings_leave : MethodName := ⟨R_Fillings, "leave", "(II)V"⟩
abbrev b_Fillings_changed : ByteArray := prog_5_method_20_code
def y_Fillings_changed : MethodName := ⟨R_Fillings, "changed", "()I"⟩
def R_Narrower : String := "PictureClues$Narrower"
def T_Narrower : u_T := fun k => match k with
  | 0 => ("PictureClues$Narrower", "grid", "LPictureClues$Grid;", true)
  | 1 => ("PictureClues$Narrower", "clues", "LPictureClues$Clues;", true)
  | 2 => ("PictureClues$Narrower", "fillings", "LPictureClues$Fillings;", true)
  | 3 => ("PictureClues$Narrower", "marks", "LPictureClues$Layer;", true)
  | _ => ("PictureClues$Narrower", "kept", "LPictureClues$Layer;", true)
def ty_Narrower : Nat → FieldType := fun k => match k with
  | 0 => .object "PictureClues$Grid"
  | 1 => .object "PictureClues$Clues"
  | 2 => .object "PictureClues$Fillings"
  | 3 => .object "PictureClues$Layer"
  | _ => .object "PictureClues$Layer"
theorem nm_Narrower : ∀ a, a < 5 → ∀ b, b < 5 → a ≠ b → (T_Narrower a).2.1 ≠ (T_Narrower b).2.1 := by decide +kernel
theorem tyok_Narrower : ∀ k, k < 5 → parseFieldDescriptor (T_Narrower k).2.2.1 = some (ty_Narrower k) := by decide +kernel
abbrev b_Narrower_init : ByteArray := prog_9_method_1_code
def y_Narrower_init : MethodName := ⟨R_Narrower, "<init>", "(LPictureClues$Grid;LPictureClues$Clues;LPictureClues$Fillings;)V"⟩
abbrev b_Narrower_settle : ByteArray := prog_9_method_2_code
def y_Narrower_settle : MethodName := ⟨R_Narrower, "settle", "(IZ)Z"⟩
abbrev b_Narrower_refutes : ByteArray := prog_9_method_3_code
def y_Narrower_refutes : MethodName := ⟨R_Narrower, "refutes", "(III)Z"⟩
abbrev b_Narrower_settleByTrials : ByteArray := prog_9_method_4_code
def y_Narrower_settleByTrials : MethodName := ⟨R_Narrower, "settleByTrials", "()Z"⟩
abbrev b_Narrower_isOpen : ByteArray := prog_9_method_5_code
def y_Narrower_isOpen : MethodName := ⟨R_Narrower, "isOpen", "(II)Z"⟩
def R_Search : String := "PictureClues$Search"
def T_Search : u_T := fun k => match k with
  | 0 => ("PictureClues$Search", "grid", "LPictureClues$Grid;", true)
  | 1 => ("PictureClues$Search", "clues", "LPictureClues$Clues;", true)
  | 2 => ("PictureClues$Search", "narrower", "LPictureClues$Narrower;", true)
  | 3 => ("PictureClues$Search", "stages", "LPictureClues$Stages;", true)
  | 4 => ("PictureClues$Search", "first", "LPictureClues$Layer;", true)
  | 5 => ("PictureClues$Search", "dead", "[J", false)
  | 6 => ("PictureClues$Search", "offsets", "[I", true)
  | 7 => ("PictureClues$Search", "weights", "[I", true)
  | 8 => ("PictureClues$Search", "columns", "[I", true)
  | 9 => ("PictureClues$Search", "rowsBefore", "[I", true)
  | 10 => ("PictureClues$Search", "columnsBefore", "[I", true)
  | 11 => ("PictureClues$Search", "columnSums", "[I", true)
  | 12 => ("PictureClues$Search", "colorsLeft", "[I", true)
  | 13 => ("PictureClues$Search", "colors", "[I", true)
  | 14 => ("PictureClues$Search", "foundBefore", "[I", true)
  | _ => ("PictureClues$Search", "found", "I", false)
def ty_Search : Nat → FieldType := fun k => match k with
  | 0 => .object "PictureClues$Grid"
  | 1 => .object "PictureClues$Clues"
  | 2 => .object "PictureClues$Narrower"
  | 3 => .object "PictureClues$Stages"
  | 4 => .object "PictureClues$Layer"
  | 5 => .array .long
  | 6 => .array .int
  | 7 => .array .int
  | 8 => .array .int
  | 9 => .array .int
  | 10 => .array .int
  | 11 => .array .int
  | 12 => .array .int
  | 13 => .array .int
  | 14 => .array .int
  | _ => .int
theorem nm_Search : ∀ a, a < 16 → ∀ b, b < 16 → a ≠ b → (T_Search a).2.1 ≠ (T_Search b).2.1 := by decide +kernel
theorem tyok_Search : ∀ k, k < 16 → parseFieldDescriptor (T_Search k).2.2.1 = some (ty_Search k) := by decide +kernel
abbrev b_Search_init : ByteArray := prog_10_method_1_code
def y_Search_init : MethodName := ⟨R_Search, "<init>", "(LPictureClues$Grid;LPictureClues$Clues;LPictureClues$Narrower;)V"⟩
abbrev b_Search_run : ByteArray := prog_10_method_2_code
def y_Search_run : MethodName := ⟨R_Search, "run", "(I)I"⟩
abbrev b_Search_layOut : ByteArray := prog_10_method_3_code
def y_Search_layOut : MethodName := ⟨R_Search, "layOut", "()I"⟩
abbrev b_Search_forget : ByteArray := prog_10_method_4_code
def y_Search_forget : MethodName := ⟨R_Search, "forget", "(I)V"⟩
abbrev b_Search_bitOf : ByteArray := prog_10_method_5_code
def y_Search_bitOf : MethodName := ⟨R_Search, "bitOf", "(III)I"⟩
abbrev b_Search_tryNextColor : ByteArray := prog_10_method_6_code
def y_Search_tryNextColor : MethodName := ⟨R_Search, "tryNextColor", "(I)I"⟩
abbrev b_Search_enter : ByteArray := prog_10_method_7_code
def y_Search_enter : MethodName := ⟨R_Search, "enter", "(III)Z"⟩
abbrev b_Search_leave : ByteArray := prog_10_method_8_code
def y_Search_leave : MethodName := ⟨R_Search, "leave", "(I)I"⟩
abbrev b_Search_addSolution : ByteArray := prog_10_method_9_code
def y_Search_addSolution : MethodName := ⟨R_Search, "addSolution", "()V"⟩
def R_Stages : String := "PictureClues$Stages"
def T_Stages : u_T := fun k => match k with
  | 0 => ("PictureClues$Stages", "grid", "LPictureClues$Grid;", true)
  | 1 => ("PictureClues$Stages", "clues", "LPictureClues$Clues;", true)
  | 2 => ("PictureClues$Stages", "onward", "[I", true)
  | 3 => ("PictureClues$Stages", "staying", "[I", true)
  | 4 => ("PictureClues$Stages", "can", "[I", true)
  | 5 => ("PictureClues$Stages", "possible", "[I", true)
  | 6 => ("PictureClues$Stages", "numbers", "[I", true)
  | 7 => ("PictureClues$Stages", "colorsAt", "[I", true)
  | _ => ("PictureClues$Stages", "ranksAfter", "[I", true)
def ty_Stages : Nat → FieldType := fun k => match k with
  | 0 => .object "PictureClues$Grid"
  | 1 => .object "PictureClues$Clues"
  | 2 => .array .int
  | 3 => .array .int
  | 4 => .array .int
  | 5 => .array .int
  | 6 => .array .int
  | 7 => .array .int
  | _ => .array .int
theorem nm_Stages : ∀ a, a < 9 → ∀ b, b < 9 → a ≠ b → (T_Stages a).2.1 ≠ (T_Stages b).2.1 := by decide +kernel
theorem tyok_Stages : ∀ k, k < 9 → parseFieldDescriptor (T_Stages k).2.2.1 = some (ty_Stages k) := by decide +kernel
abbrev b_Stages_init : ByteArray := prog_12_method_1_code
def y_Stages_init : MethodName := ⟨R_Stages, "<init>", "(LPictureClues$Grid;LPictureClues$Clues;)V"⟩
abbrev b_Stages_find : ByteArray := prog_12_method_2_code
def y_Stages_find : MethodName := ⟨R_Stages, "find", "(LPictureClues$Layer;)V"⟩
abbrev b_Stages_number : ByteArray := prog_12_method_3_code
def y_Stages_number : MethodName := ⟨R_Stages, "number", "(II)I"⟩
abbrev b_Stages_colorsAfter : ByteArray := prog_12_method_4_code
def y_Stages_colorsAfter : MethodName := ⟨R_Stages, "colorsAfter", "(III)I"⟩
abbrev b_Stages_rankAfter : ByteArray := prog_12_method_5_code
def y_Stages_rankAfter : MethodName := ⟨R_Stages, "rankAfter", "(IIII)I"⟩
abbrev b_Stages_spell : ByteArray := prog_12_method_6_code
def y_Stages_spell : MethodName := ⟨R_Stages, "spell", "(I)V"⟩
abbrev b_Stages_findPossible : ByteArray := prog_12_method_7_code
def y_Stages_findPossible : MethodName := ⟨R_Stages, "findPossible", "(I)V"⟩
abbrev b_Stages_behind : ByteArray := prog_12_method_8_code
def y_Stages_behind : MethodName := ⟨R_Stages, "behind", "(II)I"⟩
abbrev b_Stages_following : ByteArray := prog_12_method_9_code
def y_Stages_following : MethodName := ⟨R_Stages, "following", "(II)I"⟩
abbrev b_Stages_ahead : ByteArray := prog_12_method_10_code
def y_Stages_ahead : MethodName := ⟨R_Stages, "ahead", "(II)I"⟩
abbrev b_Stages_tabulate : ByteArray := prog_12_method_11_code
def y_Stages_tabulate : MethodName := ⟨R_Stages, "tabulate", "(II)V"⟩
def R_Advice : String := "PictureClues$Advice"
def T_Advice : u_T := fun k => match k with
  | 0 => ("PictureClues$Advice", "grid", "LPictureClues$Grid;", true)
  | 1 => ("PictureClues$Advice", "clues", "LPictureClues$Clues;", true)
  | 2 => ("PictureClues$Advice", "fillings", "LPictureClues$Fillings;", true)
  | 3 => ("PictureClues$Advice", "narrower", "LPictureClues$Narrower;", true)
  | 4 => ("PictureClues$Advice", "numbers", "[I", true)
  | 5 => ("PictureClues$Advice", "level", "I", false)
  | 6 => ("PictureClues$Advice", "index", "I", false)
  | 7 => ("PictureClues$Advice", "mark", "I", false)
  | _ => ("PictureClues$Advice", "line", "I", false)
def ty_Advice : Nat → FieldType := fun k => match k with
  | 0 => .object "PictureClues$Grid"
  | 1 => .object "PictureClues$Clues"
  | 2 => .object "PictureClues$Fillings"
  | 3 => .object "PictureClues$Narrower"
  | 4 => .array .int
  | 5 => .int
  | 6 => .int
  | 7 => .int
  | _ => .int
theorem nm_Advice : ∀ a, a < 9 → ∀ b, b < 9 → a ≠ b → (T_Advice a).2.1 ≠ (T_Advice b).2.1 := by decide +kernel
theorem tyok_Advice : ∀ k, k < 9 → parseFieldDescriptor (T_Advice k).2.2.1 = some (ty_Advice k) := by decide +kernel
abbrev b_Advice_init : ByteArray := prog_2_method_1_code
def y_Advice_init : MethodName := ⟨R_Advice, "<init>", "(LPictureClues$Grid;LPictureClues$Clues;LPictureClues$Fillings;LPictureClues$Narrower;)V"⟩
abbrev b_Advice_rankLines : ByteArray := prog_2_method_2_code
def y_Advice_rankLines : MethodName := ⟨R_Advice, "rankLines", "(LPictureClues$Layer;)V"⟩
abbrev b_Advice_seekInLines : ByteArray := prog_2_method_3_code
def y_Advice_seekInLines : MethodName := ⟨R_Advice, "seekInLines", "(LPictureClues$Layer;I)Z"⟩
abbrev b_Advice_easiest : ByteArray := prog_2_method_4_code
def y_Advice_easiest : MethodName := ⟨R_Advice, "easiest", "(I)I"⟩
abbrev b_Advice_seekByTrials : ByteArray := prog_2_method_5_code
def y_Advice_seekByTrials : MethodName := ⟨R_Advice, "seekByTrials", "(LPictureClues$Layer;)Z"⟩
abbrev b_Advice_keep : ByteArray := prog_2_method_6_code
def y_Advice_keep : MethodName := ⟨R_Advice, "keep", "(IIII)V"⟩
def R_J0 : String := "java/lang/String"
abbrev b_J0_length_8abf5 : ByteArray := prog_18_method_54_code
def y_J0_length_8abf5 : MethodName := ⟨R_J0, "length", "()I"⟩
abbrev b_J0_charAt_5068e : ByteArray := prog_18_method_56_code
def y_J0_charAt_5068e : MethodName := ⟨R_J0, "charAt", "(I)C"⟩
abbrev b_J0_coder_7d493 : ByteArray := prog_18_method_152_code
def y_J0_coder_7d493 : MethodName := ⟨R_J0, "coder", "()B"⟩
abbrev b_J0_isLatin1_aae02 : ByteArray := prog_18_method_154_code
def y_J0_isLatin1_aae02 : MethodName := ⟨R_J0, "isLatin1", "()Z"⟩
abbrev b_J0_checkIndex_df160 : ByteArray := prog_18_method_155_code
def y_J0_checkIndex_df160 : MethodName := ⟨R_J0, "checkIndex", "(II)V"⟩
def R_J1 : String := "java/lang/StringLatin1"
abbrev b_J1_charAt_3b067 : ByteArray := prog_19_method_2_code
def y_J1_charAt_3b067 : MethodName := ⟨R_J1, "charAt", "([BI)C"⟩
def R_J2 : String := "java/lang/StringUTF16"
abbrev b_J2_getChar_3b067 : ByteArray := prog_20_method_5_code
def y_J2_getChar_3b067 : MethodName := ⟨R_J2, "getChar", "([BI)C"⟩
abbrev b_J2_length_9d52b : ByteArray := prog_20_method_6_code
def y_J2_length_9d52b : MethodName := ⟨R_J2, "length", "([B)I"⟩
abbrev b_J2_charAt_3b067 : ByteArray := prog_20_method_83_code
def y_J2_charAt_3b067 : MethodName := ⟨R_J2, "charAt", "([BI)C"⟩
abbrev b_J2_checkIndex_2214a : ByteArray := prog_20_method_91_code
def y_J2_checkIndex_2214a : MethodName := ⟨R_J2, "checkIndex", "(I[B)V"⟩
def R_J3 : String := "jdk/internal/util/Preconditions"
abbrev b_J3_checkIndex_8e157 : ByteArray := prog_23_method_11_code
def y_J3_checkIndex_8e157 : MethodName := ⟨R_J3, "checkIndex", "(IILjava/util/function/BiFunction;)I"⟩
def R_J6 : String := "java/lang/Integer"
abbrev b_J6_bitCount_0f7a4 : ByteArray := prog_15_method_49_code
def y_J6_bitCount_0f7a4 : MethodName := ⟨R_J6, "bitCount", "(I)I"⟩
def R_J7 : String := "java/util/Arrays"
abbrev b_J7_rangeCheck_23922 : ByteArray := prog_22_method_30_code
def y_J7_rangeCheck_23922 : MethodName := ⟨R_J7, "rangeCheck", "(III)V"⟩
abbrev b_J7_fill_bad5a : ByteArray := prog_22_method_102_code
def y_J7_fill_bad5a : MethodName := ⟨R_J7, "fill", "([JIIJ)V"⟩
abbrev b_J7_fill_53178 : ByteArray := prog_22_method_103_code
def y_J7_fill_53178 : MethodName := ⟨R_J7, "fill", "([II)V"⟩
def R_J13 : String := "java/lang/Long"
abbrev b_J13_bitCount_95d88 : ByteArray := prog_16_method_50_code
def y_J13_bitCount_95d88 : MethodName := ⟨R_J13, "bitCount", "(J)I"⟩
def w_C_0 : List Cond := [.code y_Advice_init b_Advice_init 5 none, .methodLink R_Advice 3 objectInit, .instanceMethod objectInit, .code objectInit ⟨#[0xb1]⟩ 1 none, .arrayClass .int, .fieldLink R_Advice 9 "PictureClues$Advice" "numbers" "[I", .fieldLink R_Advice 15 "PictureClues$Advice" "grid" "LPictureClues$Grid;", .fieldLink R_Advice 19 "PictureClues$Advice" "clues" "LPictureClues$Clues;", .fieldLink R_Advice 23 "PictureClues$Advice" "fillings" "LPictureClues$Fillings;", .fieldLink R_Advice 27 "PictureClues$Advice" "narrower" "LPictureClues$Narrower;", .code y_Grid_lines b_Grid_lines 1 (some .int), .fieldLink R_Grid 15 "PictureClues$Grid" "height" "I", .fieldLink R_Grid 9 "PictureClues$Grid" "width" "I", .code y_Clues_has b_Clues_has 2 (some .boolean), .fieldLink R_Clues 24 "PictureClues$Clues" "clued" "I", .code y_Grid_cellsOf b_Grid_cellsOf 2 (some .int), .code y_Grid_bitsOf b_Grid_bitsOf 4 (some .int), .constantLong R_Grid 29 (72340172838076673), .constantLong R_Grid 53 (72624976668147840), .code y_Clues_lengthOf b_Clues_lengthOf 3 (some .int), .fieldLink R_Clues 18 "PictureClues$Clues" "lengths" "[I", .code y_Clues_colorOf b_Clues_colorOf 3 (some .int), .fieldLink R_Clues 21 "PictureClues$Clues" "colors" "[I", .code y_Clues_gapBefore b_Clues_gapBefore 4 (some .int), .fieldLink R_Clues 9 "PictureClues$Clues" "sizes" "[I", .fieldLink R_Fillings 122 "PictureClues$Fillings" "line" "I", .fieldLink R_Fillings 46 "PictureClues$Fillings" "clues" "LPictureClues$Clues;", .fieldLink R_Fillings 57 "PictureClues$Fillings" "size" "I", .fieldLink R_Fillings 42 "PictureClues$Fillings" "grid" "LPictureClues$Grid;", .fieldLink R_Fillings 61 "PictureClues$Fillings" "cells" "I", .fieldLink R_Fillings 9 "PictureClues$Fillings" "can" "[I", .fieldLink R_Fillings 15 "PictureClues$Fillings" "lengths" "[I", .fieldLink R_Fillings 18 "PictureClues$Fillings" "colors" "[I", .fieldLink R_Fillings 21 "PictureClues$Fillings" "gaps" "[I", .methodLink R_Fillings 136 y_Grid_cellsOf, .instanceMethod y_Grid_cellsOf, .selects R_Grid y_Grid_cellsOf y_Grid_cellsOf, .initialized R_Grid, .methodLink R_Fillings 139 y_Grid_bitsOf, .instanceMethod y_Grid_bitsOf, .selects R_Grid y_Grid_bitsOf y_Grid_bitsOf, .methodLink R_Fillings 143 y_Clues_lengthOf, .instanceMethod y_Clues_lengthOf, .selects R_Clues y_Clues_lengthOf y_Clues_lengthOf, .initialized R_Clues, .methodLink R_Fillings 147 y_Clues_colorOf, .instanceMethod y_Clues_colorOf, .selects R_Clues y_Clues_colorOf y_Clues_colorOf, .methodLink R_Fillings 150 y_Clues_gapBefore, .instanceMethod y_Clues_gapBefore, .selects R_Clues y_Clues_gapBefore y_Clues_gapBefore, .code y_Fillings_look b_Fillings_look 4 none, .code y_Fillings_numberWithoutClue b_Fillings_numberWithoutClue 5 (some .int), .code y_Fillings_emptyBefore b_Fillings_emptyBefore 2 (some .boolean), .code y_Fillings_runs b_Fillings_runs 5 (some .int), .code y_Fillings_addBlockWays b_Fillings_addBlockWays 6 none, .fieldLink R_Fillings 39 "PictureClues$Fillings" "nextWays" "[I", .fieldLink R_Fillings 36 "PictureClues$Fillings" "ways" "[I", .methodLink R_Fillings 156 y_Fillings_runs, .instanceMethod y_Fillings_runs]
def w_C_1 : List Cond := [.selects R_Fillings y_Fillings_runs y_Fillings_runs, .initialized R_Fillings, .methodLink R_Fillings 91 y_Fillings_emptyBefore, .instanceMethod y_Fillings_emptyBefore, .selects R_Fillings y_Fillings_emptyBefore y_Fillings_emptyBefore, .methodLink R_Fillings 50 y_Fillings_look, .instanceMethod y_Fillings_look, .selects R_Fillings y_Fillings_look y_Fillings_look, .methodLink R_Fillings 75 y_Clues_has, .instanceMethod y_Clues_has, .selects R_Clues y_Clues_has y_Clues_has, .methodLink R_Fillings 81 y_Fillings_numberWithoutClue, .instanceMethod y_Fillings_numberWithoutClue, .selects R_Fillings y_Fillings_numberWithoutClue y_Fillings_numberWithoutClue, .methodLink R_Fillings 85 y_J7_fill_53178, .static y_J7_fill_53178, .initialized R_J7, .code y_J7_fill_53178 b_J7_fill_53178 4 none, .methodLink R_Fillings 94 y_Fillings_addBlockWays, .instanceMethod y_Fillings_addBlockWays, .selects R_Fillings y_Fillings_addBlockWays y_Fillings_addBlockWays, .code y_Fillings_number b_Fillings_number 5 (some .int), .methodLink R_Advice 31 y_Grid_lines, .instanceMethod y_Grid_lines, .selects R_Grid y_Grid_lines y_Grid_lines, .methodLink R_Advice 37 y_Clues_has, .methodLink R_Advice 43 y_Fillings_number, .instanceMethod y_Fillings_number, .selects R_Fillings y_Fillings_number y_Fillings_number, .code y_Advice_rankLines b_Advice_rankLines 3 none, .code y_Out_lowestBit b_Out_lowestBit 2 (some .int), .methodLink R_Out 197 y_J13_bitCount_95d88, .static y_J13_bitCount_95d88, .initialized R_J13, .code y_J13_bitCount_95d88 b_J13_bitCount_95d88 2 (some .int), .constantLong R_J13 314 (6148914691236517205), .constantLong R_J13 316 (3689348814741910323), .constantLong R_J13 318 (1085102592571150095), .code y_Advice_easiest b_Advice_easiest 4 (some .int), .static y_Out_lowestBit, .initialized R_Out, .code y_Fillings_acrossEmpty b_Fillings_acrossEmpty 6 (some .int), .code y_Fillings_placeFromFront b_Fillings_placeFromFront 3 none, .fieldLink R_Fillings 24 "PictureClues$Fillings" "front" "[I", .fieldLink R_Fillings 30 "PictureClues$Fillings" "starts" "[I", .methodLink R_Fillings 153 y_Fillings_acrossEmpty, .instanceMethod y_Fillings_acrossEmpty, .selects R_Fillings y_Fillings_acrossEmpty y_Fillings_acrossEmpty, .code y_Fillings_backAcrossEmpty b_Fillings_backAcrossEmpty 6 (some .int), .code y_Fillings_placeFromBack b_Fillings_placeFromBack 4 none, .fieldLink R_Fillings 27 "PictureClues$Fillings" "back" "[I", .methodLink R_Fillings 159 y_Fillings_backAcrossEmpty, .instanceMethod y_Fillings_backAcrossEmpty, .selects R_Fillings y_Fillings_backAcrossEmpty y_Fillings_backAcrossEmpty, .methodLink R_Fillings 54 y_Fillings_placeFromFront, .instanceMethod y_Fillings_placeFromFront, .selects R_Fillings y_Fillings_placeFromFront y_Fillings_placeFromFront, .methodLink R_Fillings 64 y_Fillings_placeFromBack, .instanceMethod y_Fillings_placeFromBack, .selects R_Fillings y_Fillings_placeFromBack y_Fillings_placeFromBack]
def w_C_2 : List Cond := [.code y_Fillings_examine b_Fillings_examine 3 (some .boolean), .code y_Fillings_earliest b_Fillings_earliest 2 (some .int), .code y_Out_highestBit b_Out_highestBit 2 (some .int), .methodLink R_Out 150 y_J6_bitCount_0f7a4, .static y_J6_bitCount_0f7a4, .initialized R_J6, .code y_J6_bitCount_0f7a4 b_J6_bitCount_0f7a4 1 (some .int), .constant R_J6 265 (1431655765), .constant R_J6 266 (858993459), .constant R_J6 267 (252645135), .code y_Fillings_latest b_Fillings_latest 2 (some .int), .static y_Out_highestBit, .code y_Fillings_leave b_Fillings_leave 4 none, .fieldLink R_Fillings 33 "PictureClues$Fillings" "left" "[I", .code y_Fillings_changed b_Fillings_changed 3 (some .int), .methodLink R_Fillings 98 arraycopyName, .native arraycopyName, .static arraycopyName, .initialized "java/lang/System", .methodLink R_Fillings 104 y_Fillings_earliest, .instanceMethod y_Fillings_earliest, .selects R_Fillings y_Fillings_earliest y_Fillings_earliest, .methodLink R_Fillings 107 y_Fillings_latest, .instanceMethod y_Fillings_latest, .selects R_Fillings y_Fillings_latest y_Fillings_latest, .methodLink R_Fillings 110 y_Fillings_leave, .instanceMethod y_Fillings_leave, .selects R_Fillings y_Fillings_leave y_Fillings_leave, .methodLink R_Fillings 114 y_Fillings_changed, .instanceMethod y_Fillings_changed, .selects R_Fillings y_Fillings_changed y_Fillings_changed, .code y_Fillings_narrowByOverlap b_Fillings_narrowByOverlap 5 (some .int), .code y_Fillings_narrowByFillings b_Fillings_narrowByFillings 4 (some .int), .code y_Grid_index b_Grid_index 2 (some .int), .code y_Grid_cell b_Grid_cell 2 (some .long), .methodLink R_Grid 31 y_Grid_index, .static y_Grid_index, .code y_Grid_cellOf b_Grid_cellOf 3 (some .long), .methodLink R_Grid 43 y_Grid_cell, .static y_Grid_cell, .code y_Fillings_markLeft b_Fillings_markLeft 4 (some .int), .code y_Advice_keep b_Advice_keep 5 none, .fieldLink R_Advice 105 "PictureClues$Advice" "level" "I", .fieldLink R_Advice 108 "PictureClues$Advice" "index" "I", .fieldLink R_Advice 111 "PictureClues$Advice" "mark" "I", .fieldLink R_Advice 114 "PictureClues$Advice" "line" "I", .methodLink R_Advice 53 y_Advice_easiest, .instanceMethod y_Advice_easiest, .selects R_Advice y_Advice_easiest y_Advice_easiest, .initialized R_Advice, .methodLink R_Advice 57 y_Fillings_examine, .instanceMethod y_Fillings_examine, .selects R_Fillings y_Fillings_examine y_Fillings_examine, .methodLink R_Advice 61 y_Fillings_narrowByOverlap, .instanceMethod y_Fillings_narrowByOverlap, .selects R_Fillings y_Fillings_narrowByOverlap y_Fillings_narrowByOverlap, .methodLink R_Advice 64 y_Fillings_narrowByFillings, .instanceMethod y_Fillings_narrowByFillings, .selects R_Fillings y_Fillings_narrowByFillings y_Fillings_narrowByFillings, .methodLink R_Advice 71 y_Grid_cellOf]
def w_C_3 : List Cond := [.instanceMethod y_Grid_cellOf, .selects R_Grid y_Grid_cellOf y_Grid_cellOf, .methodLink R_Advice 75 y_Fillings_markLeft, .instanceMethod y_Fillings_markLeft, .selects R_Fillings y_Fillings_markLeft y_Fillings_markLeft, .methodLink R_Advice 78 y_Advice_keep, .instanceMethod y_Advice_keep, .selects R_Advice y_Advice_keep y_Advice_keep, .code y_Advice_seekInLines b_Advice_seekInLines 8 (some .boolean), .code y_Layer_copyFrom b_Layer_copyFrom 3 none, .fieldLink R_Layer 9 "PictureClues$Layer" "cells" "[J", .code y_Layer_doubtful b_Layer_doubtful 5 (some .long), .code y_Narrower_isOpen b_Narrower_isOpen 3 (some .boolean), .fieldLink R_Narrower 12 "PictureClues$Narrower" "marks" "LPictureClues$Layer;", .methodLink R_Narrower 96 y_Layer_doubtful, .instanceMethod y_Layer_doubtful, .selects R_Layer y_Layer_doubtful y_Layer_doubtful, .initialized R_Layer, .code y_Layer_put b_Layer_put 5 none, .constantLong R_Layer 15 (-1), .code y_Grid_yOf b_Grid_yOf 1 (some .int), .code y_Grid_xOf b_Grid_xOf 1 (some .int), .code y_Grid_linesOf b_Grid_linesOf 2 (some .int), .methodLink R_Grid 50 y_Grid_yOf, .static y_Grid_yOf, .methodLink R_Grid 46 y_Grid_xOf, .static y_Grid_xOf, .code y_Grid_cellsAt b_Grid_cellsAt 5 (some .long), .constantLong R_Grid 55 (567382630219905), .code y_Fillings_applyTo b_Fillings_applyTo 4 none, .constantLong R_Fillings 131 (-1), .methodLink R_Fillings 125 y_Grid_cellsAt, .instanceMethod y_Grid_cellsAt, .selects R_Grid y_Grid_cellsAt y_Grid_cellsAt, .code y_Grid_crossing b_Grid_crossing 3 (some .int), .fieldLink R_Narrower 25 "PictureClues$Narrower" "clues" "LPictureClues$Clues;", .constant R_Narrower 39 (1000000), .fieldLink R_Narrower 29 "PictureClues$Narrower" "fillings" "LPictureClues$Fillings;", .fieldLink R_Narrower 21 "PictureClues$Narrower" "grid" "LPictureClues$Grid;", .methodLink R_Narrower 44 y_Fillings_examine, .methodLink R_Narrower 50 y_Fillings_narrowByOverlap, .methodLink R_Narrower 54 y_Fillings_narrowByFillings, .methodLink R_Narrower 57 y_Fillings_applyTo, .instanceMethod y_Fillings_applyTo, .selects R_Fillings y_Fillings_applyTo y_Fillings_applyTo, .methodLink R_Narrower 61 y_Grid_crossing, .instanceMethod y_Grid_crossing, .selects R_Grid y_Grid_crossing y_Grid_crossing, .code y_Narrower_settle b_Narrower_settle 7 (some .boolean), .fieldLink R_Narrower 18 "PictureClues$Narrower" "kept" "LPictureClues$Layer;", .methodLink R_Narrower 67 y_Layer_copyFrom, .instanceMethod y_Layer_copyFrom, .selects R_Layer y_Layer_copyFrom y_Layer_copyFrom, .methodLink R_Narrower 70 y_Layer_put, .instanceMethod y_Layer_put, .selects R_Layer y_Layer_put y_Layer_put, .methodLink R_Narrower 74 y_Grid_linesOf, .instanceMethod y_Grid_linesOf, .selects R_Grid y_Grid_linesOf y_Grid_linesOf, .methodLink R_Narrower 78 y_Narrower_settle]
def w_C_4 : List Cond := [.instanceMethod y_Narrower_settle, .selects R_Narrower y_Narrower_settle y_Narrower_settle, .initialized R_Narrower, .code y_Narrower_refutes b_Narrower_refutes 5 (some .boolean), .code y_Layer_colorsAt b_Layer_colorsAt 5 (some .int), .methodLink R_Advice 88 y_Layer_copyFrom, .methodLink R_Advice 94 y_Narrower_isOpen, .instanceMethod y_Narrower_isOpen, .selects R_Narrower y_Narrower_isOpen y_Narrower_isOpen, .methodLink R_Advice 98 y_Narrower_refutes, .instanceMethod y_Narrower_refutes, .selects R_Narrower y_Narrower_refutes y_Narrower_refutes, .methodLink R_Advice 102 y_Layer_colorsAt, .instanceMethod y_Layer_colorsAt, .selects R_Layer y_Layer_colorsAt y_Layer_colorsAt, .code y_Advice_seekByTrials b_Advice_seekByTrials 4 (some .boolean), .code y_ClueText_init b_ClueText_init 1 none, .methodLink R_ClueText 3 objectInit, .arrayClass .byte, .fieldLink R_ClueText 9 "PictureClues$ClueText" "letters" "[B", .code y_ClueText_append b_ClueText_append 2 none, .fieldLink R_ClueText 15 "PictureClues$ClueText" "length" "I", .code y_Clues_resetAll b_Clues_resetAll 1 none, .fieldLink R_Clues 15 "PictureClues$Clues" "rooms" "[I", .methodLink R_Clues 34 y_J7_fill_53178, .code y_ClueText_here b_ClueText_here 1 (some .int), .fieldLink R_ClueText 24 "PictureClues$ClueText" "at" "I", .code y_ClueText_skipBlanks b_ClueText_skipBlanks 1 none, .code y_Out_isWithin b_Out_isWithin 3 (some .boolean), .code y_ClueText_isSmall b_ClueText_isSmall 1 (some .boolean), .static y_Out_isWithin, .methodLink R_ClueText 84 y_J0_length_8abf5, .instanceMethod y_J0_length_8abf5, .selects R_J0 y_J0_length_8abf5 y_J0_length_8abf5, .initialized R_J0, .code y_J0_length_8abf5 b_J0_length_8abf5 1 (some .int), .fieldLink R_J0 9 "java/lang/String" "value" "[B", .methodLink R_J0 335 y_J0_coder_7d493, .instanceMethod y_J0_coder_7d493, .selects R_J0 y_J0_coder_7d493 y_J0_coder_7d493, .code y_J0_coder_7d493 b_J0_coder_7d493 1 (some .byte), .fieldLink R_J0 38 "java/lang/String" "COMPACT_STRINGS" "Z", .fieldLink R_J0 15 "java/lang/String" "coder" "B", .methodLink R_ClueText 88 y_J0_charAt_5068e, .instanceMethod y_J0_charAt_5068e, .selects R_J0 y_J0_charAt_5068e y_J0_charAt_5068e, .code y_J0_charAt_5068e b_J0_charAt_5068e 2 (some .char), .methodLink R_J0 492 y_J0_isLatin1_aae02, .instanceMethod y_J0_isLatin1_aae02, .selects R_J0 y_J0_isLatin1_aae02 y_J0_isLatin1_aae02, .code y_J0_isLatin1_aae02 b_J0_isLatin1_aae02 1 (some .boolean), .methodLink R_J0 495 y_J1_charAt_3b067, .static y_J1_charAt_3b067, .initialized R_J1, .code y_J1_charAt_3b067 b_J1_charAt_3b067 2 (some .char), .methodLink R_J1 9 y_J0_checkIndex_df160, .static y_J0_checkIndex_df160, .code y_J0_checkIndex_df160 b_J0_checkIndex_df160 2 none, .fieldLink R_J0 1053 "jdk/internal/util/Preconditions" "SIOOBE_FORMATTER" "Ljava/util/function/BiFunction;", .methodLink R_J0 1059 y_J3_checkIndex_8e157]
def w_C_5 : List Cond := [.static y_J3_checkIndex_8e157, .initialized R_J3, .code y_J3_checkIndex_8e157 b_J3_checkIndex_8e157 3 (some .int), .methodLink R_J0 498 y_J2_charAt_3b067, .static y_J2_charAt_3b067, .initialized R_J2, .code y_J2_charAt_3b067 b_J2_charAt_3b067 2 (some .char), .methodLink R_J2 67 y_J2_checkIndex_2214a, .static y_J2_checkIndex_2214a, .code y_J2_checkIndex_2214a b_J2_checkIndex_2214a 2 none, .methodLink R_J2 48 y_J2_length_9d52b, .static y_J2_length_9d52b, .code y_J2_length_9d52b b_J2_length_9d52b 1 (some .int), .methodLink R_J2 414 y_J0_checkIndex_df160, .methodLink R_J2 71 y_J2_getChar_3b067, .static y_J2_getChar_3b067, .code y_J2_getChar_3b067 b_J2_getChar_3b067 2 (some .char), .fieldLink R_J2 44 "java/lang/StringUTF16" "$assertionsDisabled" "Z", .fieldLink R_J2 59 "java/lang/StringUTF16" "HI_BYTE_SHIFT" "I", .fieldLink R_J2 63 "java/lang/StringUTF16" "LO_BYTE_SHIFT" "I", .code y_ClueText_isWord b_ClueText_isWord 4 (some .boolean), .code y_Clues_reset b_Clues_reset 3 none, .methodLink R_ClueText 43 y_ClueText_isSmall, .static y_ClueText_isSmall, .initialized R_ClueText, .methodLink R_ClueText 59 y_ClueText_isWord, .instanceMethod y_ClueText_isWord, .selects R_ClueText y_ClueText_isWord y_ClueText_isWord, .methodLink R_ClueText 65 y_Clues_reset, .instanceMethod y_Clues_reset, .selects R_Clues y_Clues_reset y_Clues_reset, .methodLink R_ClueText 40 y_ClueText_skipBlanks, .instanceMethod y_ClueText_skipBlanks, .selects R_ClueText y_ClueText_skipBlanks y_ClueText_skipBlanks, .code y_ClueText_readWord b_ClueText_readWord 5 (some .int), .code y_ClueText_isDigit b_ClueText_isDigit 1 (some .boolean), .code y_Clues_roomWith b_Clues_roomWith 6 (some .int), .methodLink R_Clues 44 y_Clues_colorOf, .code y_Clues_append b_Clues_append 5 none, .methodLink R_Clues 40 y_Clues_roomWith, .instanceMethod y_Clues_roomWith, .selects R_Clues y_Clues_roomWith y_Clues_roomWith, .methodLink R_ClueText 33 y_ClueText_here, .instanceMethod y_ClueText_here, .selects R_ClueText y_ClueText_here y_ClueText_here, .methodLink R_ClueText 72 y_Clues_roomWith, .methodLink R_ClueText 76 y_Grid_cellsOf, .methodLink R_ClueText 80 y_Clues_append, .instanceMethod y_Clues_append, .selects R_Clues y_Clues_append y_Clues_append, .code y_ClueText_readBlock b_ClueText_readBlock 7 (some .int), .methodLink R_ClueText 47 y_ClueText_readWord, .instanceMethod y_ClueText_readWord, .selects R_ClueText y_ClueText_readWord y_ClueText_readWord, .methodLink R_ClueText 51 y_ClueText_isDigit, .static y_ClueText_isDigit, .methodLink R_ClueText 54 y_ClueText_readBlock, .instanceMethod y_ClueText_readBlock, .selects R_ClueText y_ClueText_readBlock y_ClueText_readBlock, .code y_ClueText_readClue b_ClueText_readClue 6 (some .int)]
def w_C_6 : List Cond := [.methodLink R_ClueText 19 y_Clues_resetAll, .instanceMethod y_Clues_resetAll, .selects R_Clues y_Clues_resetAll y_Clues_resetAll, .methodLink R_ClueText 27 y_Grid_lines, .methodLink R_ClueText 36 y_ClueText_readClue, .instanceMethod y_ClueText_readClue, .selects R_ClueText y_ClueText_readClue y_ClueText_readClue, .code y_ClueText_read b_ClueText_read 5 (some .int), .code y_Clues_init b_Clues_init 1 none, .methodLink R_Clues 3 objectInit, .code y_Clues_copyFrom b_Clues_copyFrom 2 none, .methodLink R_Clues 28 arraycopyName, .code y_Clues_blocks b_Clues_blocks 3 (some .int), .code y_Fillings_init b_Fillings_init 3 none, .methodLink R_Fillings 3 objectInit, .code y_Grid_init b_Grid_init 1 none, .methodLink R_Grid 3 objectInit, .code y_Grid_rectangle b_Grid_rectangle 2 (some .long), .code y_Grid_resize b_Grid_resize 4 none, .fieldLink R_Grid 18 "PictureClues$Grid" "colors" "I", .fieldLink R_Grid 25 "PictureClues$Grid" "all" "J", .methodLink R_Grid 21 y_Grid_rectangle, .static y_Grid_rectangle, .code y_Grid_fullMark b_Grid_fullMark 1 (some .int), .code y_Grid_hasLine b_Grid_hasLine 2 (some .boolean), .methodLink R_Grid 35 y_Grid_lines, .code y_Grid_hasCell b_Grid_hasCell 3 (some .boolean), .code y_Grid_indexAfter b_Grid_indexAfter 2 (some .int), .code y_Grid_indexBefore b_Grid_indexBefore 2 (some .int), .code y_Layer_init b_Layer_init 1 none, .methodLink R_Layer 3 objectInit, .arrayClass .long, .methodLink R_Situation 1 objectInit, .classLink R_Situation 7 R_Clues, .instantiable R_Clues 5, .fieldLink R_Situation 10 "PictureClues$Situation" "clues" "LPictureClues$Clues;", .classLink R_Situation 16 R_Layer, .instantiable R_Layer 1, .fieldLink R_Situation 19 "PictureClues$Situation" "marks" "LPictureClues$Layer;", .fieldLink R_Situation 23 "PictureClues$Situation" "picture" "LPictureClues$Layer;", .instanceMethod y_Clues_init, .instanceMethod y_Layer_init, .code y_Situation_init b_Situation_init 1 none, .methodLink R_History 3 objectInit, .classLink R_History 9 R_Situation, .fieldLink R_History 11 "PictureClues$History" "ring" "[LPictureClues$Situation;", .instantiable R_Situation 3, .initialized R_Situation, .instanceMethod y_Situation_init, .code y_History_init b_History_init 2 none, .code y_Situation_copyFrom b_Situation_copyFrom 2 none, .methodLink R_Situation 26 y_Clues_copyFrom, .instanceMethod y_Clues_copyFrom, .selects R_Clues y_Clues_copyFrom y_Clues_copyFrom, .methodLink R_Situation 30 y_Layer_copyFrom, .fieldLink R_History 18 "PictureClues$History" "next" "I", .fieldLink R_History 26 "PictureClues$History" "states" "I", .methodLink R_History 29 Lib.Math.min.name, .static Lib.Math.min.name, .initialized "java/lang/Math"]
def w_C_7 : List Cond := [.code Lib.Math.min.name Lib.Math.min.code 2 (some .int), .methodLink R_History 22 y_Situation_copyFrom, .instanceMethod y_Situation_copyFrom, .selects R_Situation y_Situation_copyFrom y_Situation_copyFrom, .code y_History_record b_History_record 2 none, .code y_History_restore b_History_restore 2 none, .code y_Layer_colorAt b_Layer_colorAt 3 (some .int), .methodLink R_Layer 17 y_Layer_colorsAt, .code y_Layer_difference b_Layer_difference 5 (some .long), .code y_Narrower_init b_Narrower_init 4 none, .methodLink R_Narrower 3 objectInit, .classLink R_Narrower 9 R_Layer, .constantLong R_Narrower 94 (-1), .methodLink R_Narrower 82 y_Narrower_isOpen, .methodLink R_Narrower 86 y_Narrower_refutes, .code y_Narrower_settleByTrials b_Narrower_settleByTrials 5 (some .boolean), .code y_Stages_init b_Stages_init 3 none, .methodLink R_Stages 3 objectInit, .fieldLink R_Stages 9 "PictureClues$Stages" "onward" "[I", .fieldLink R_Stages 15 "PictureClues$Stages" "staying" "[I", .fieldLink R_Stages 18 "PictureClues$Stages" "can" "[I", .fieldLink R_Stages 21 "PictureClues$Stages" "possible" "[I", .fieldLink R_Stages 24 "PictureClues$Stages" "numbers" "[I", .fieldLink R_Stages 27 "PictureClues$Stages" "colorsAt" "[I", .fieldLink R_Stages 30 "PictureClues$Stages" "ranksAfter" "[I", .fieldLink R_Stages 33 "PictureClues$Stages" "grid" "LPictureClues$Grid;", .fieldLink R_Stages 37 "PictureClues$Stages" "clues" "LPictureClues$Clues;", .methodLink R_Search 3 objectInit, .classLink R_Search 9 R_Layer, .fieldLink R_Search 12 "PictureClues$Search" "first" "LPictureClues$Layer;", .fieldLink R_Search 18 "PictureClues$Search" "dead" "[J", .fieldLink R_Search 22 "PictureClues$Search" "offsets" "[I", .fieldLink R_Search 26 "PictureClues$Search" "weights" "[I", .fieldLink R_Search 29 "PictureClues$Search" "columns" "[I", .fieldLink R_Search 32 "PictureClues$Search" "rowsBefore" "[I", .fieldLink R_Search 35 "PictureClues$Search" "columnsBefore" "[I", .fieldLink R_Search 38 "PictureClues$Search" "columnSums" "[I", .fieldLink R_Search 41 "PictureClues$Search" "colorsLeft" "[I", .fieldLink R_Search 44 "PictureClues$Search" "colors" "[I", .fieldLink R_Search 47 "PictureClues$Search" "foundBefore" "[I", .fieldLink R_Search 50 "PictureClues$Search" "grid" "LPictureClues$Grid;", .fieldLink R_Search 54 "PictureClues$Search" "clues" "LPictureClues$Clues;", .fieldLink R_Search 58 "PictureClues$Search" "narrower" "LPictureClues$Narrower;", .classLink R_Search 62 R_Stages, .instantiable R_Stages 9, .initialized R_Stages, .fieldLink R_Search 67 "PictureClues$Search" "stages" "LPictureClues$Stages;", .methodLink R_Search 64 y_Stages_init, .instanceMethod y_Stages_init, .code y_Search_init b_Search_init 4 none, .methodLink R_Stages 77 y_J7_fill_53178, .methodLink R_Stages 83 y_Clues_has, .methodLink R_Stages 95 y_Clues_gapBefore, .methodLink R_Stages 99 y_Clues_lengthOf, .methodLink R_Stages 102 y_Clues_colorOf, .code y_Stages_spell b_Stages_spell 5 none, .code y_Stages_following b_Stages_following 3 (some .int), .code y_Stages_behind b_Stages_behind 5 (some .int), .methodLink R_Stages 111 y_Stages_following, .instanceMethod y_Stages_following]
def w_C_8 : List Cond := [.selects R_Stages y_Stages_following y_Stages_following, .code y_Stages_ahead b_Stages_ahead 5 (some .int), .methodLink R_Stages 70 y_Grid_cellsOf, .methodLink R_Stages 105 y_Stages_behind, .instanceMethod y_Stages_behind, .selects R_Stages y_Stages_behind y_Stages_behind, .methodLink R_Stages 108 y_Stages_ahead, .instanceMethod y_Stages_ahead, .selects R_Stages y_Stages_ahead y_Stages_ahead, .code y_Stages_findPossible b_Stages_findPossible 4 none, .code y_Stages_tabulate b_Stages_tabulate 9 none, .methodLink R_Stages 64 y_J6_bitCount_0f7a4, .methodLink R_Stages 41 y_Grid_lines, .methodLink R_Stages 47 y_Stages_spell, .instanceMethod y_Stages_spell, .selects R_Stages y_Stages_spell y_Stages_spell, .methodLink R_Stages 57 y_Grid_bitsOf, .methodLink R_Stages 61 y_Stages_findPossible, .instanceMethod y_Stages_findPossible, .selects R_Stages y_Stages_findPossible y_Stages_findPossible, .methodLink R_Stages 73 y_Stages_tabulate, .instanceMethod y_Stages_tabulate, .selects R_Stages y_Stages_tabulate y_Stages_tabulate, .code y_Stages_find b_Stages_find 4 none, .code y_Stages_number b_Stages_number 3 (some .int), .code y_Search_layOut b_Search_layOut 6 (some .int), .methodLink R_Search 127 y_Stages_number, .instanceMethod y_Stages_number, .selects R_Stages y_Stages_number y_Stages_number, .methodLink R_Search 131 y_Grid_index, .code y_Search_forget b_Search_forget 3 none, .methodLink R_Search 134 Lib.Math.max.name, .static Lib.Math.max.name, .code Lib.Math.max.name Lib.Math.max.code 2 (some .int), .methodLink R_Search 139 y_J7_fill_bad5a, .static y_J7_fill_bad5a, .code y_J7_fill_bad5a b_J7_fill_bad5a 6 none, .methodLink R_J7 13 y_J7_rangeCheck_23922, .static y_J7_rangeCheck_23922, .code y_J7_rangeCheck_23922 b_J7_rangeCheck_23922 3 none, .code y_Search_bitOf b_Search_bitOf 4 (some .int), .methodLink R_Search 142 y_Grid_yOf, .methodLink R_Search 145 y_Grid_xOf, .code y_Stages_colorsAfter b_Stages_colorsAfter 4 (some .int), .fieldLink R_Search 71 "PictureClues$Search" "found" "I", .methodLink R_Search 162 y_Search_bitOf, .instanceMethod y_Search_bitOf, .selects R_Search y_Search_bitOf y_Search_bitOf, .initialized R_Search, .methodLink R_Search 166 y_Stages_colorsAfter, .instanceMethod y_Stages_colorsAfter, .selects R_Stages y_Stages_colorsAfter y_Stages_colorsAfter, .code y_Search_enter b_Search_enter 8 (some .boolean), .code y_Search_addSolution b_Search_addSolution 3 none, .constantLong R_Search 172 (-1), .methodLink R_Search 174 y_Layer_put, .methodLink R_Search 178 y_Grid_cell, .code y_Stages_rankAfter b_Stages_rankAfter 5 (some .int), .methodLink R_Search 152 y_Grid_indexAfter, .instanceMethod y_Grid_indexAfter]
def w_C_9 : List Cond := [.selects R_Grid y_Grid_indexAfter y_Grid_indexAfter, .methodLink R_Search 155 y_Search_addSolution, .instanceMethod y_Search_addSolution, .selects R_Search y_Search_addSolution y_Search_addSolution, .methodLink R_Search 158 y_Stages_rankAfter, .instanceMethod y_Stages_rankAfter, .selects R_Stages y_Stages_rankAfter y_Stages_rankAfter, .methodLink R_Search 107 y_Search_enter, .instanceMethod y_Search_enter, .selects R_Search y_Search_enter y_Search_enter, .code y_Search_tryNextColor b_Search_tryNextColor 9 (some .int), .methodLink R_Search 169 y_Grid_indexBefore, .instanceMethod y_Grid_indexBefore, .selects R_Grid y_Grid_indexBefore y_Grid_indexBefore, .code y_Search_leave b_Search_leave 4 (some .int), .constant R_Search 111 (1000000000), .methodLink R_Search 80 y_Narrower_settle, .methodLink R_Search 89 y_Stages_find, .instanceMethod y_Stages_find, .selects R_Stages y_Stages_find y_Stages_find, .methodLink R_Search 93 y_Search_layOut, .instanceMethod y_Search_layOut, .selects R_Search y_Search_layOut y_Search_layOut, .methodLink R_Search 97 y_Search_forget, .instanceMethod y_Search_forget, .selects R_Search y_Search_forget y_Search_forget, .methodLink R_Search 101 y_J7_fill_53178, .methodLink R_Search 112 y_Search_tryNextColor, .instanceMethod y_Search_tryNextColor, .selects R_Search y_Search_tryNextColor y_Search_tryNextColor, .methodLink R_Search 116 y_Search_leave, .instanceMethod y_Search_leave, .selects R_Search y_Search_leave y_Search_leave, .code y_Search_run b_Search_run 4 (some .int), .fieldLink R_Out 12 "PictureClues" "grid" "LPictureClues$Grid;", .fieldLink R_Out 19 "PictureClues" "now" "LPictureClues$Situation;", .constantLong R_Out 195 (-1), .fieldLink R_Out 61 "PictureClues" "narrower" "LPictureClues$Narrower;", .fieldLink R_Out 26 "PictureClues" "history" "LPictureClues$History;", .fieldLink R_Out 79 "PictureClues" "advice" "LPictureClues$Advice;", .methodLink R_Out 343 y_Grid_resize, .instanceMethod y_Grid_resize, .selects R_Grid y_Grid_resize y_Grid_resize, .methodLink R_Out 346 y_Clues_resetAll, .methodLink R_Out 202 y_Layer_put, .methodLink R_Out 232 y_Grid_fullMark, .instanceMethod y_Grid_fullMark, .selects R_Grid y_Grid_fullMark y_Grid_fullMark, .methodLink R_Out 239 y_Layer_copyFrom, .code y_Out_begin b_Out_begin 4 none, .methodLink R_Out 3 objectInit, .classLink R_Out 9 R_Grid, .instantiable R_Grid 4, .classLink R_Out 16 R_Situation, .classLink R_Out 23 R_History, .instantiable R_History 3, .initialized R_History, .classLink R_Out 30 R_ClueText, .instantiable R_ClueText 3, .fieldLink R_Out 33 "PictureClues" "text" "LPictureClues$ClueText;"]
def w_C_10 : List Cond := [.classLink R_Out 37 R_Clues, .fieldLink R_Out 40 "PictureClues" "loaded" "LPictureClues$Clues;", .classLink R_Out 44 R_Fillings, .instantiable R_Fillings 15, .fieldLink R_Out 52 "PictureClues" "fillings" "LPictureClues$Fillings;", .classLink R_Out 56 R_Narrower, .instantiable R_Narrower 5, .classLink R_Out 65 R_Search, .instantiable R_Search 16, .fieldLink R_Out 70 "PictureClues" "search" "LPictureClues$Search;", .classLink R_Out 74 R_Advice, .instantiable R_Advice 9, .instanceMethod y_Grid_init, .methodLink R_Out 25 y_History_init, .instanceMethod y_History_init, .instanceMethod y_ClueText_init, .methodLink R_Out 49 y_Fillings_init, .instanceMethod y_Fillings_init, .methodLink R_Out 58 y_Narrower_init, .instanceMethod y_Narrower_init, .methodLink R_Out 67 y_Search_init, .instanceMethod y_Search_init, .methodLink R_Out 76 y_Advice_init, .instanceMethod y_Advice_init, .methodLink R_Out 83 y_Out_begin, .instanceMethod y_Out_begin, .selects R_Out y_Out_begin y_Out_begin, .code y_Out_init b_Out_init 1 none, .methodLink R_Out 87 y_Out_isWithin, .methodLink R_Out 91 y_Grid_lines, .code y_Out_start b_Out_start 4 (some .int), .methodLink R_Out 95 y_Grid_hasLine, .instanceMethod y_Grid_hasLine, .selects R_Grid y_Grid_hasLine y_Grid_hasLine, .methodLink R_Out 103 y_Clues_roomWith, .methodLink R_Out 107 y_Grid_cellsOf, .methodLink R_Out 111 y_History_record, .instanceMethod y_History_record, .selects R_History y_History_record y_History_record, .methodLink R_Out 115 y_Clues_append, .code y_Out_addBlock b_Out_addBlock 4 (some .int), .methodLink R_Out 122 y_Clues_has, .methodLink R_Out 125 y_Clues_reset, .code y_Out_setClue b_Out_setClue 4 (some .int), .methodLink R_Out 352 y_Fillings_examine, .code y_Out_isWrong b_Out_isWrong 2 (some .boolean), .methodLink R_Out 136 y_Fillings_number, .methodLink R_Out 140 y_Layer_doubtful, .methodLink R_Out 146 y_Grid_bitsOf, .methodLink R_Out 155 y_Out_isWrong, .instanceMethod y_Out_isWrong, .selects R_Out y_Out_isWrong y_Out_isWrong, .code y_Out_line b_Out_line 3 (some .int), .methodLink R_Out 158 y_Clues_lengthOf, .methodLink R_Out 162 y_Clues_colorOf, .methodLink R_Out 165 y_Fillings_earliest, .methodLink R_Out 168 y_Fillings_latest, .code y_Out_block b_Out_block 4 (some .int), .methodLink R_Out 171 y_Grid_hasCell, .instanceMethod y_Grid_hasCell]
def w_C_11 : List Cond := [.selects R_Grid y_Grid_hasCell y_Grid_hasCell, .methodLink R_Out 181 y_Grid_rectangle, .methodLink R_Out 185 y_Grid_index, .code y_Out_paint b_Out_paint 9 (some .int), .methodLink R_Out 349 y_Grid_cellOf, .methodLink R_Out 213 y_Layer_colorAt, .instanceMethod y_Layer_colorAt, .selects R_Layer y_Layer_colorAt y_Layer_colorAt, .code y_Out_takeClue b_Out_takeClue 6 none, .methodLink R_Out 206 y_Out_takeClue, .instanceMethod y_Out_takeClue, .selects R_Out y_Out_takeClue y_Out_takeClue, .code y_Out_takeClues b_Out_takeClues 3 (some .int), .methodLink R_Out 210 y_Grid_cell, .code y_Out_picture b_Out_picture 3 (some .int), .code y_Out_type b_Out_type 2 (some .int), .methodLink R_Out 219 y_ClueText_append, .instanceMethod y_ClueText_append, .selects R_ClueText y_ClueText_append y_ClueText_append, .code y_Out_clear b_Out_clear 2 (some .int), .methodLink R_Out 221 y_ClueText_read, .instanceMethod y_ClueText_read, .selects R_ClueText y_ClueText_read y_ClueText_read, .methodLink R_Out 225 y_Clues_copyFrom, .methodLink R_Out 229 y_Clues_blocks, .instanceMethod y_Clues_blocks, .selects R_Clues y_Clues_blocks y_Clues_blocks, .code y_Out_load b_Out_load 2 (some .int), .methodLink R_Out 235 y_Layer_colorsAt, .code y_Out_setMark b_Out_setMark 7 (some .int), .code y_Out_mark b_Out_mark 3 (some .int), .methodLink R_Out 246 y_Layer_difference, .instanceMethod y_Layer_difference, .selects R_Layer y_Layer_difference y_Layer_difference, .code y_Out_clearMarks b_Out_clearMarks 1 (some .int), .methodLink R_Out 250 y_Narrower_settleByTrials, .instanceMethod y_Narrower_settleByTrials, .selects R_Narrower y_Narrower_settleByTrials y_Narrower_settleByTrials, .methodLink R_Out 257 y_Narrower_settle, .code y_Out_narrow b_Out_narrow 4 (some .int), .methodLink R_Out 261 y_Narrower_isOpen, .methodLink R_Out 264 y_Narrower_refutes, .code y_Out_trial b_Out_trial 5 (some .int), .methodLink R_Out 267 y_Search_run, .instanceMethod y_Search_run, .selects R_Search y_Search_run y_Search_run, .code y_Out_solutions b_Out_solutions 2 (some .int), .code y_Out_filledCells b_Out_filledCells 1 (some .int), .methodLink R_Out 273 y_Out_filledCells, .instanceMethod y_Out_filledCells, .selects R_Out y_Out_filledCells y_Out_filledCells, .code y_Out_solve b_Out_solve 1 (some .int), .code y_Out_difficulty b_Out_difficulty 2 (some .int), .code y_Out_mistakes b_Out_mistakes 4 (some .int), .code y_Out_wrongLines b_Out_wrongLines 3 (some .int), .methodLink R_Out 276 y_Out_wrongLines, .instanceMethod y_Out_wrongLines, .selects R_Out y_Out_wrongLines y_Out_wrongLines, .methodLink R_Out 279 y_Advice_rankLines, .instanceMethod y_Advice_rankLines]
def w_C_12 : List Cond := [.selects R_Advice y_Advice_rankLines y_Advice_rankLines, .methodLink R_Out 282 y_Advice_seekInLines, .instanceMethod y_Advice_seekInLines, .selects R_Advice y_Advice_seekInLines y_Advice_seekInLines, .methodLink R_Out 286 y_Advice_seekByTrials, .instanceMethod y_Advice_seekByTrials, .selects R_Advice y_Advice_seekByTrials y_Advice_seekByTrials, .code y_Out_hint b_Out_hint 2 (some .int), .code y_Out_hinted b_Out_hinted 2 (some .int), .methodLink R_Out 295 y_Grid_xOf, .methodLink R_Out 298 y_Grid_yOf, .code y_Out_takeHint b_Out_takeHint 4 (some .int), .methodLink R_Out 310 y_History_restore, .instanceMethod y_History_restore, .selects R_History y_History_restore y_History_restore, .code y_Out_undo b_Out_undo 1 (some .int), .code y_Out_fittingLines b_Out_fittingLines 3 (some .int), .methodLink R_Out 313 y_Out_fittingLines, .instanceMethod y_Out_fittingLines, .selects R_Out y_Out_fittingLines y_Out_fittingLines, .code y_Out_count b_Out_count 2 (some .int), .constantLong R_Out 318 (31), .methodLink R_Out 338 y_Out_line, .instanceMethod y_Out_line, .selects R_Out y_Out_line y_Out_line, .methodLink R_Out 340 y_Out_block, .instanceMethod y_Out_block, .selects R_Out y_Out_block y_Out_block, .code y_Out_digestOfLine b_Out_digestOfLine 8 (some .long), .constantLong R_Out 316 (633), .methodLink R_Out 320 y_Out_count, .instanceMethod y_Out_count, .selects R_Out y_Out_count y_Out_count, .methodLink R_Out 323 y_Out_digestOfLine, .instanceMethod y_Out_digestOfLine, .selects R_Out y_Out_digestOfLine y_Out_digestOfLine, .methodLink R_Out 327 y_Out_mark, .instanceMethod y_Out_mark, .selects R_Out y_Out_mark y_Out_mark, .methodLink R_Out 329 y_Out_picture, .instanceMethod y_Out_picture, .selects R_Out y_Out_picture y_Out_picture, .methodLink R_Out 331 y_Out_hinted, .instanceMethod y_Out_hinted, .selects R_Out y_Out_hinted y_Out_hinted, .code y_Out_digest b_Out_digest 5 (some .long)]
def w_C : List Cond := w_C_0 ++ (w_C_1 ++ (w_C_2 ++ (w_C_3 ++ (w_C_4 ++ (w_C_5 ++ (w_C_6 ++ (w_C_7 ++ (w_C_8 ++ (w_C_9 ++ (w_C_10 ++ (w_C_11 ++ (w_C_12 ++ ((u_ws R_Out T_Out 9) ++ ((u_ws R_Grid T_Grid 4) ++ ((u_ws R_Situation T_Situation 3) ++ ((u_ws R_Clues T_Clues 5) ++ ((u_ws R_Layer T_Layer 1) ++ ((u_ws R_History T_History 3) ++ ((u_ws R_ClueText T_ClueText 3) ++ ((u_ws R_Fillings T_Fillings 15) ++ ((u_ws R_Narrower T_Narrower 5) ++ ((u_ws R_Search T_Search 16) ++ ((u_ws R_Stages T_Stages 9) ++ ((u_ws R_Advice T_Advice 9)))))))))))))))))))))))))
theorem w_C_good : w_C.all goodWord = true := by decide +kernel
theorem w_C_has {w : Cond} (i : Nat) (h : w_C[i]? = some w) : w ∈ w_C := List.mem_of_getElem? h
theorem w_C_h0 {w : Cond} (i : Nat) (h : w_C_0[i]? = some w) : w ∈ w_C := by
  unfold w_C
  simp only [List.mem_append]
  exact Or.inl (List.mem_of_getElem? h)
theorem w_C_h1 {w : Cond} (i : Nat) (h : w_C_1[i]? = some w) : w ∈ w_C := by
  unfold w_C
  simp only [List.mem_append]
  exact Or.inr (Or.inl (List.mem_of_getElem? h))
theorem w_C_h2 {w : Cond} (i : Nat) (h : w_C_2[i]? = some w) : w ∈ w_C := by
  unfold w_C
  simp only [List.mem_append]
  exact Or.inr (Or.inr (Or.inl (List.mem_of_getElem? h)))
theorem w_C_h3 {w : Cond} (i : Nat) (h : w_C_3[i]? = some w) : w ∈ w_C := by
  unfold w_C
  simp only [List.mem_append]
  exact Or.inr (Or.inr (Or.inr (Or.inl (List.mem_of_getElem? h))))
theorem w_C_h4 {w : Cond} (i : Nat) (h : w_C_4[i]? = some w) : w ∈ w_C := by
  unfold w_C
  simp only [List.mem_append]
  exact Or.inr (Or.inr (Or.inr (Or.inr (Or.inl (List.mem_of_getElem? h)))))
theorem w_C_h5 {w : Cond} (i : Nat) (h : w_C_5[i]? = some w) : w ∈ w_C := by
  unfold w_C
  simp only [List.mem_append]
  exact Or.inr (Or.inr (Or.inr (Or.inr (Or.inr (Or.inl (List.mem_of_getElem? h))))))
theorem w_C_h6 {w : Cond} (i : Nat) (h : w_C_6[i]? = some w) : w ∈ w_C := by
  unfold w_C
  simp only [List.mem_append]
  exact Or.inr (Or.inr (Or.inr (Or.inr (Or.inr (Or.inr (Or.inl (List.mem_of_getElem? h)))))))
theorem w_C_h7 {w : Cond} (i : Nat) (h : w_C_7[i]? = some w) : w ∈ w_C := by
  unfold w_C
  simp only [List.mem_append]
  exact Or.inr (Or.inr (Or.inr (Or.inr (Or.inr (Or.inr (Or.inr (Or.inl (List.mem_of_getElem? h))))))))
theorem w_C_h8 {w : Cond} (i : Nat) (h : w_C_8[i]? = some w) : w ∈ w_C := by
  unfold w_C
  simp only [List.mem_append]
  exact Or.inr (Or.inr (Or.inr (Or.inr (Or.inr (Or.inr (Or.inr (Or.inr (Or.inl (List.mem_of_getElem? h)))))))))
theorem w_C_h9 {w : Cond} (i : Nat) (h : w_C_9[i]? = some w) : w ∈ w_C := by
  unfold w_C
  simp only [List.mem_append]
  exact Or.inr (Or.inr (Or.inr (Or.inr (Or.inr (Or.inr (Or.inr (Or.inr (Or.inr (Or.inl (List.mem_of_getElem? h))))))))))
theorem w_C_h10 {w : Cond} (i : Nat) (h : w_C_10[i]? = some w) : w ∈ w_C := by
  unfold w_C
  simp only [List.mem_append]
  exact Or.inr (Or.inr (Or.inr (Or.inr (Or.inr (Or.inr (Or.inr (Or.inr (Or.inr (Or.inr (Or.inl (List.mem_of_getElem? h)))))))))))
theorem w_C_h11 {w : Cond} (i : Nat) (h : w_C_11[i]? = some w) : w ∈ w_C := by
  unfold w_C
  simp only [List.mem_append]
  exact Or.inr (Or.inr (Or.inr (Or.inr (Or.inr (Or.inr (Or.inr (Or.inr (Or.inr (Or.inr (Or.inr (Or.inl (List.mem_of_getElem? h))))))))))))
theorem w_C_h12 {w : Cond} (i : Nat) (h : w_C_12[i]? = some w) : w ∈ w_C := by
  unfold w_C
  simp only [List.mem_append]
  exact Or.inr (Or.inr (Or.inr (Or.inr (Or.inr (Or.inr (Or.inr (Or.inr (Or.inr (Or.inr (Or.inr (Or.inr (Or.inl (List.mem_of_getElem? h)))))))))))))
theorem w_C_lay_Out : ∀ w ∈ u_ws R_Out T_Out 9, w ∈ w_C := fun w h => by
  unfold w_C
  simp only [List.mem_append]
  exact Or.inr (Or.inr (Or.inr (Or.inr (Or.inr (Or.inr (Or.inr (Or.inr (Or.inr (Or.inr (Or.inr (Or.inr (Or.inr (Or.inl h)))))))))))))
theorem w_C_lay_Grid : ∀ w ∈ u_ws R_Grid T_Grid 4, w ∈ w_C := fun w h => by
  unfold w_C
  simp only [List.mem_append]
  exact Or.inr (Or.inr (Or.inr (Or.inr (Or.inr (Or.inr (Or.inr (Or.inr (Or.inr (Or.inr (Or.inr (Or.inr (Or.inr (Or.inr (Or.inl h))))))))))))))
theorem w_C_lay_Situation : ∀ w ∈ u_ws R_Situation T_Situation 3, w ∈ w_C := fun w h => by
  unfold w_C
  simp only [List.mem_append]
  exact Or.inr (Or.inr (Or.inr (Or.inr (Or.inr (Or.inr (Or.inr (Or.inr (Or.inr (Or.inr (Or.inr (Or.inr (Or.inr (Or.inr (Or.inr (Or.inl h)))))))))))))))
theorem w_C_lay_Clues : ∀ w ∈ u_ws R_Clues T_Clues 5, w ∈ w_C := fun w h => by
  unfold w_C
  simp only [List.mem_append]
  exact Or.inr (Or.inr (Or.inr (Or.inr (Or.inr (Or.inr (Or.inr (Or.inr (Or.inr (Or.inr (Or.inr (Or.inr (Or.inr (Or.inr (Or.inr (Or.inr (Or.inl h))))))))))))))))
theorem w_C_lay_Layer : ∀ w ∈ u_ws R_Layer T_Layer 1, w ∈ w_C := fun w h => by
  unfold w_C
  simp only [List.mem_append]
  exact Or.inr (Or.inr (Or.inr (Or.inr (Or.inr (Or.inr (Or.inr (Or.inr (Or.inr (Or.inr (Or.inr (Or.inr (Or.inr (Or.inr (Or.inr (Or.inr (Or.inr (Or.inl h)))))))))))))))))
theorem w_C_lay_History : ∀ w ∈ u_ws R_History T_History 3, w ∈ w_C := fun w h => by
  unfold w_C
  simp only [List.mem_append]
  exact Or.inr (Or.inr (Or.inr (Or.inr (Or.inr (Or.inr (Or.inr (Or.inr (Or.inr (Or.inr (Or.inr (Or.inr (Or.inr (Or.inr (Or.inr (Or.inr (Or.inr (Or.inr (Or.inl h))))))))))))))))))
theorem w_C_lay_ClueText : ∀ w ∈ u_ws R_ClueText T_ClueText 3, w ∈ w_C := fun w h => by
  unfold w_C
  simp only [List.mem_append]
  exact Or.inr (Or.inr (Or.inr (Or.inr (Or.inr (Or.inr (Or.inr (Or.inr (Or.inr (Or.inr (Or.inr (Or.inr (Or.inr (Or.inr (Or.inr (Or.inr (Or.inr (Or.inr (Or.inr (Or.inl h)))))))))))))))))))
theorem w_C_lay_Fillings : ∀ w ∈ u_ws R_Fillings T_Fillings 15, w ∈ w_C := fun w h => by
  unfold w_C
  simp only [List.mem_append]
  exact Or.inr (Or.inr (Or.inr (Or.inr (Or.inr (Or.inr (Or.inr (Or.inr (Or.inr (Or.inr (Or.inr (Or.inr (Or.inr (Or.inr (Or.inr (Or.inr (Or.inr (Or.inr (Or.inr (Or.inr (Or.inl h))))))))))))))))))))
theorem w_C_lay_Narrower : ∀ w ∈ u_ws R_Narrower T_Narrower 5, w ∈ w_C := fun w h => by
  unfold w_C
  simp only [List.mem_append]
  exact Or.inr (Or.inr (Or.inr (Or.inr (Or.inr (Or.inr (Or.inr (Or.inr (Or.inr (Or.inr (Or.inr (Or.inr (Or.inr (Or.inr (Or.inr (Or.inr (Or.inr (Or.inr (Or.inr (Or.inr (Or.inr (Or.inl h)))))))))))))))))))))
theorem w_C_lay_Search : ∀ w ∈ u_ws R_Search T_Search 16, w ∈ w_C := fun w h => by
  unfold w_C
  simp only [List.mem_append]
  exact Or.inr (Or.inr (Or.inr (Or.inr (Or.inr (Or.inr (Or.inr (Or.inr (Or.inr (Or.inr (Or.inr (Or.inr (Or.inr (Or.inr (Or.inr (Or.inr (Or.inr (Or.inr (Or.inr (Or.inr (Or.inr (Or.inr (Or.inl h))))))))))))))))))))))
theorem w_C_lay_Stages : ∀ w ∈ u_ws R_Stages T_Stages 9, w ∈ w_C := fun w h => by
  unfold w_C
  simp only [List.mem_append]
  exact Or.inr (Or.inr (Or.inr (Or.inr (Or.inr (Or.inr (Or.inr (Or.inr (Or.inr (Or.inr (Or.inr (Or.inr (Or.inr (Or.inr (Or.inr (Or.inr (Or.inr (Or.inr (Or.inr (Or.inr (Or.inr (Or.inr (Or.inr (Or.inl h)))))))))))))))))))))))
theorem w_C_lay_Advice : ∀ w ∈ u_ws R_Advice T_Advice 9, w ∈ w_C := fun w h => by
  unfold w_C
  simp only [List.mem_append]
  exact Or.inr (Or.inr (Or.inr (Or.inr (Or.inr (Or.inr (Or.inr (Or.inr (Or.inr (Or.inr (Or.inr (Or.inr (Or.inr (Or.inr (Or.inr (Or.inr (Or.inr (Or.inr (Or.inr (Or.inr (Or.inr (Or.inr (Or.inr (Or.inr (h))))))))))))))))))))))))
theorem w_C_G {c0 : Cond} {own C : String} {idx : Nat} {y : MethodName} {b : ByteArray} {m : Nat} {r : Option FieldType} (h1 : Cond.methodLink own idx y ∈ w_C) (h2 : Cond.instanceMethod y ∈ w_C) (h3 : Cond.selects C y y ∈ w_C) (h4 : Cond.initialized C ∈ w_C) (h5 : Cond.code y b m r ∈ w_C) : GoodIn (c0 :: w_C) (wsV own idx C y (Cond.code y b m r :: w_C)) := by
  intro w hw
  have hm : w ∈ w_C := by
    simp only [wsV, List.mem_append, List.mem_cons, List.not_mem_nil, or_false] at hw
    rcases hw with (rfl | rfl | rfl | rfl) | rfl | h
    · exact h1
    · exact h2
    · exact h3
    · exact h4
    · exact h5
    · exact h
  exact ⟨List.mem_cons_of_mem _ hm, good_of_word (List.all_eq_true.mp w_C_good w hm)⟩
theorem w_C_GS {c0 : Cond} {own : String} {idx : Nat} {y : MethodName} {b : ByteArray} {m : Nat} {r : Option FieldType} (h1 : Cond.methodLink own idx y ∈ w_C) (h2 : Cond.static y ∈ w_C) (h4 : Cond.initialized y.cls ∈ w_C) (h5 : Cond.code y b m r ∈ w_C) : GoodIn (c0 :: w_C) (va_wsS own idx y (Cond.code y b m r :: w_C)) := by
  intro w hw
  have hm : w ∈ w_C := by
    simp only [va_wsS, List.mem_append, List.mem_cons, List.not_mem_nil, or_false] at hw
    rcases hw with (rfl | rfl | rfl) | rfl | h
    · exact h1
    · exact h2
    · exact h4
    · exact h5
    · exact h
  exact ⟨List.mem_cons_of_mem _ hm, good_of_word (List.all_eq_true.mp w_C_good w hm)⟩
def fx_nth {α : Type} : List α → Nat → Option α
  | [], _ => none
  | a :: _, 0 => some a
  | _ :: l, n + 1 => fx_nth l n
def kdL : List (List Nat) := [[2, 2, 2, 2, 2, 2, 2, 2, 2], [0, 0, 0, 1], [2, 2, 2], [0, 2, 2, 2, 2], [2], [2, 0, 0], [2, 0, 0], [2, 2, 0, 0, 0, 2, 2, 2, 2, 2, 2, 2, 2, 2, 2], [2, 2, 2, 2, 2], [2, 2, 2, 2, 2, 2, 2, 2, 2, 2, 2, 2, 2, 2, 2, 0], [2, 2, 2, 2, 2, 2, 2, 2, 2], [2, 2, 2, 2, 2, 0, 0, 0, 0]]
def kd_C : Nat → Nat → Nat := fun ci j => ((fx_nth kdL ci).bind (fun l => fx_nth l j)).getD 2
def plL : List (Nat ⊕ (Nat × Nat)) := [.inl 0, .inl 1, .inl 2, .inl 3, .inr (0, 16), .inr (0, 16), .inr (0, 128), .inr (0, 128), .inl 4, .inr (1, 4), .inl 4, .inr (1, 4), .inl 5, .inr (3, 8), .inl 2, .inl 3, .inr (0, 16), .inr (0, 16), .inr (0, 128), .inr (0, 128), .inl 4, .inr (1, 4), .inl 4, .inr (1, 4), .inl 2, .inl 3, .inr (0, 16), .inr (0, 16), .inr (0, 128), .inr (0, 128), .inl 4, .inr (1, 4), .inl 4, .inr (1, 4), .inl 2, .inl 3, .inr (0, 16), .inr (0, 16), .inr (0, 128), .inr (0, 128), .inl 4, .inr (1, 4), .inl 4, .inr (1, 4), .inl 2, .inl 3, .inr (0, 16), .inr (0, 16), .inr (0, 128), .inr (0, 128), .inl 4, .inr (1, 4), .inl 4, .inr (1, 4), .inl 2, .inl 3, .inr (0, 16), .inr (0, 16), .inr (0, 128), .inr (0, 128), .inl 4, .inr (1, 4), .inl 4, .inr (1, 4), .inl 2, .inl 3, .inr (0, 16), .inr (0, 16), .inr (0, 128), .inr (0, 128), .inl 4, .inr (1, 4), .inl 4, .inr (1, 4), .inl 2, .inl 3, .inr (0, 16), .inr (0, 16), .inr (0, 128), .inr (0, 128), .inl 4, .inr (1, 4), .inl 4, .inr (1, 4), .inl 2, .inl 3, .inr (0, 16), .inr (0, 16), .inr (0, 128), .inr (0, 128), .inl 4, .inr (1, 4), .inl 4, .inr (1, 4), .inl 6, .inr (2, 120), .inl 3, .inr (0, 16), .inr (0, 16), .inr (0, 128), .inr (0, 128), .inl 7, .inr (0, 4), .inr (0, 8), .inr (0, 8), .inr (0, 8), .inr (0, 9), .inr (0, 9), .inr (0, 8), .inr (0, 4), .inr (0, 9), .inr (0, 9), .inl 8, .inl 4, .inr (1, 4), .inl 4, .inr (1, 4), .inl 9, .inl 4, .inr (1, 4), .inr (1, 0), .inr (0, 64), .inr (0, 64), .inr (0, 8), .inr (0, 64), .inr (0, 64), .inr (0, 64), .inr (0, 64), .inr (0, 64), .inr (0, 64), .inl 10, .inr (0, 4), .inr (0, 4), .inr (0, 4), .inr (0, 9), .inr (0, 144), .inr (0, 640), .inr (0, 2560), .inl 11, .inr (0, 16)]
def pl_C (n : Nat) : Nat → Option (Nat ⊕ (Nat × Nat)) := fun q => if q = 120 then some (.inr (1, n)) else fx_nth plL q
def MC (n : Nat) : fx_M := ([(R_Out, T_Out, 9), (R_Grid, T_Grid, 4), (R_Situation, T_Situation, 3), (R_Clues, T_Clues, 5), (R_Layer, T_Layer, 1), (R_History, T_History, 3), (R_ClueText, T_ClueText, 3), (R_Fillings, T_Fillings, 15), (R_Narrower, T_Narrower, 5), (R_Search, T_Search, 16), (R_Stages, T_Stages, 9), (R_Advice, T_Advice, 9)], kd_C, pl_C n, 140, [.int, .long, .byte, .object R_Situation])
theorem fx_nth_lt {α : Type} : ∀ {l : List α} {i : Nat} {x : α}, fx_nth l i = some x → i < l.length
  | [], _, _, h => by cases h
  | _ :: _, 0, _, _ => Nat.succ_pos _
  | _ :: l, i + 1, _, h => Nat.succ_lt_succ (fx_nth_lt (l := l) h)
theorem plL_len : plL.length = 140 := by decide +kernel
theorem MC_ok (n : Nat) : fx_ok (MC n) := by
  refine ⟨fun q x h => ?_, rfl⟩
  show q < 140
  have h2 : pl_C n q = some x := h
  unfold pl_C at h2
  split at h2
  · omega
  · have := fx_nth_lt h2
    rw [plL_len] at this
    exact this
theorem plL_ty : ∀ q, q < 140 → ∀ i, i < 4 ∨ (fx_nth plL q).all (fun x => match x with | .inl _ => true | .inr (t, _) => decide (t < 4)) = true := by
  intro q hq i
  right
  have key : (List.range 140).all (fun q => (fx_nth plL q).all (fun x => match x with | .inl _ => true | .inr (t, _) => decide (t < 4))) = true := by decide +kernel
  exact List.all_eq_true.mp key q (List.mem_range.mpr hq)
theorem MC_tys (n : Nat) : fx_tys (MC n) := by
  intro q i m h
  have h2 : pl_C n q = some (.inr (i, m)) := h
  have hi : i < 4 := by
    unfold pl_C at h2
    split at h2
    · cases h2
      omega
    · have hq := fx_nth_lt h2
      rw [plL_len] at hq
      rcases plL_ty q hq 4 with h3 | h3
      · omega
      · rw [h2] at h3
        simpa using h3
  rcases (show i = 0 ∨ i = 1 ∨ i = 2 ∨ i = 3 by omega) with rfl | rfl | rfl | rfl
  · exact Or.inl ⟨rfl, rfl⟩
  · exact Or.inr (Or.inl ⟨rfl, rfl⟩)
  · exact Or.inr (Or.inr (Or.inl ⟨rfl, rfl⟩))
  · exact Or.inr (Or.inr (Or.inr ⟨rfl, _, rfl⟩))
def rfL : List (List (Option Nat)) := [[some 1, some 2, some 12, some 94, some 96, some 101, some 112, some 117, some 138], [], [some 3, some 8, some 10], [none, some 4, some 5, some 6, some 7], [], [], [], [], [some 9], [], [some 11], [], [some 13], [some 14, some 24, some 34, some 44, some 54, some 64, some 74, some 84], [some 15, some 20, some 22], [none, some 16, some 17, some 18, some 19], [], [], [], [], [some 21], [], [some 23], [], [some 25, some 30, some 32], [none, some 26, some 27, some 28, some 29], [], [], [], [], [some 31], [], [some 33], [], [some 35, some 40, some 42], [none, some 36, some 37, some 38, some 39], [], [], [], [], [some 41], [], [some 43], [], [some 45, some 50, some 52], [none, some 46, some 47, some 48, some 49], [], [], [], [], [some 51], [], [some 53], [], [some 55, some 60, some 62], [none, some 56, some 57, some 58, some 59], [], [], [], [], [some 61], [], [some 63], [], [some 65, some 70, some 72], [none, some 66, some 67, some 68, some 69], [], [], [], [], [some 71], [], [some 73], [], [some 75, some 80, some 82], [none, some 76, some 77, some 78, some 79], [], [], [], [], [some 81], [], [some 83], [], [some 85, some 90, some 92], [none, some 86, some 87, some 88, some 89], [], [], [], [], [some 91], [], [some 93], [], [some 95], [], [none, some 97, some 98, some 99, some 100], [], [], [], [], [some 1, some 3, none, none, none, some 102, some 103, some 104, some 105, some 106, some 107, some 108, some 109, none, none], [], [], [], [], [], [], [], [], [], [], [some 1, some 3, some 101, some 113, some 115], [some 114], [], [some 116], [], [some 1, some 3, some 112, some 130, some 118, some 120, some 121, some 122, some 123, some 124, some 125, some 126, some 127, some 128, some 129], [some 119], [], [], [], [], [], [], [], [], [], [], [], [some 1, some 3, some 131, some 132, some 133, some 134, some 135, some 136, some 137], [], [], [], [], [], [], [], [some 1, some 3, some 101, some 112, some 139], []]
def R0C (b : Bool) : fx_MR := fun q j => if q = 101 ∧ j = 13 then some (if b then 111 else 110) else if q = 101 ∧ j = 14 then some (if b then 110 else 111) else ((fx_nth rfL q).bind (fun l => fx_nth l j)).join
theorem pl_C_0 {n : Nat} : (MC n).2.2.1 0 = some (.inl 0) := rfl
theorem pl_C_1 {n : Nat} : (MC n).2.2.1 1 = some (.inl 1) := rfl
theorem pl_C_2 {n : Nat} : (MC n).2.2.1 2 = some (.inl 2) := rfl
theorem pl_C_3 {n : Nat} : (MC n).2.2.1 3 = some (.inl 3) := rfl
theorem pl_C_4 {n : Nat} : (MC n).2.2.1 4 = some (.inr (0, 16)) := rfl
theorem pl_C_5 {n : Nat} : (MC n).2.2.1 5 = some (.inr (0, 16)) := rfl
theorem pl_C_6 {n : Nat} : (MC n).2.2.1 6 = some (.inr (0, 128)) := rfl
theorem pl_C_7 {n : Nat} : (MC n).2.2.1 7 = some (.inr (0, 128)) := rfl
theorem pl_C_8 {n : Nat} : (MC n).2.2.1 8 = some (.inl 4) := rfl
theorem pl_C_9 {n : Nat} : (MC n).2.2.1 9 = some (.inr (1, 4)) := rfl
theorem pl_C_10 {n : Nat} : (MC n).2.2.1 10 = some (.inl 4) := rfl
theorem pl_C_11 {n : Nat} : (MC n).2.2.1 11 = some (.inr (1, 4)) := rfl
theorem pl_C_12 {n : Nat} : (MC n).2.2.1 12 = some (.inl 5) := rfl
theorem pl_C_13 {n : Nat} : (MC n).2.2.1 13 = some (.inr (3, 8)) := rfl
theorem pl_C_14 {n : Nat} : (MC n).2.2.1 14 = some (.inl 2) := rfl
theorem pl_C_15 {n : Nat} : (MC n).2.2.1 15 = some (.inl 3) := rfl
theorem pl_C_16 {n : Nat} : (MC n).2.2.1 16 = some (.inr (0, 16)) := rfl
theorem pl_C_17 {n : Nat} : (MC n).2.2.1 17 = some (.inr (0, 16)) := rfl
theorem pl_C_18 {n : Nat} : (MC n).2.2.1 18 = some (.inr (0, 128)) := rfl
theorem pl_C_19 {n : Nat} : (MC n).2.2.1 19 = some (.inr (0, 128)) := rfl
theorem pl_C_20 {n : Nat} : (MC n).2.2.1 20 = some (.inl 4) := rfl
theorem pl_C_21 {n : Nat} : (MC n).2.2.1 21 = some (.inr (1, 4)) := rfl
theorem pl_C_22 {n : Nat} : (MC n).2.2.1 22 = some (.inl 4) := rfl
theorem pl_C_23 {n : Nat} : (MC n).2.2.1 23 = some (.inr (1, 4)) := rfl
theorem pl_C_24 {n : Nat} : (MC n).2.2.1 24 = some (.inl 2) := rfl
theorem pl_C_25 {n : Nat} : (MC n).2.2.1 25 = some (.inl 3) := rfl
theorem pl_C_26 {n : Nat} : (MC n).2.2.1 26 = some (.inr (0, 16)) := rfl
theorem pl_C_27 {n : Nat} : (MC n).2.2.1 27 = some (.inr (0, 16)) := rfl
theorem pl_C_28 {n : Nat} : (MC n).2.2.1 28 = some (.inr (0, 128)) := rfl
theorem pl_C_29 {n : Nat} : (MC n).2.2.1 29 = some (.inr (0, 128)) := rfl
theorem pl_C_30 {n : Nat} : (MC n).2.2.1 30 = some (.inl 4) := rfl
theorem pl_C_31 {n : Nat} : (MC n).2.2.1 31 = some (.inr (1, 4)) := rfl
theorem pl_C_32 {n : Nat} : (MC n).2.2.1 32 = some (.inl 4) := rfl
theorem pl_C_33 {n : Nat} : (MC n).2.2.1 33 = some (.inr (1, 4)) := rfl
theorem pl_C_34 {n : Nat} : (MC n).2.2.1 34 = some (.inl 2) := rfl
theorem pl_C_35 {n : Nat} : (MC n).2.2.1 35 = some (.inl 3) := rfl
theorem pl_C_36 {n : Nat} : (MC n).2.2.1 36 = some (.inr (0, 16)) := rfl
theorem pl_C_37 {n : Nat} : (MC n).2.2.1 37 = some (.inr (0, 16)) := rfl
theorem pl_C_38 {n : Nat} : (MC n).2.2.1 38 = some (.inr (0, 128)) := rfl
theorem pl_C_39 {n : Nat} : (MC n).2.2.1 39 = some (.inr (0, 128)) := rfl
theorem pl_C_40 {n : Nat} : (MC n).2.2.1 40 = some (.inl 4) := rfl
theorem pl_C_41 {n : Nat} : (MC n).2.2.1 41 = some (.inr (1, 4)) := rfl
theorem pl_C_42 {n : Nat} : (MC n).2.2.1 42 = some (.inl 4) := rfl
theorem pl_C_43 {n : Nat} : (MC n).2.2.1 43 = some (.inr (1, 4)) := rfl
theorem pl_C_44 {n : Nat} : (MC n).2.2.1 44 = some (.inl 2) := rfl
theorem pl_C_45 {n : Nat} : (MC n).2.2.1 45 = some (.inl 3) := rfl
theorem pl_C_46 {n : Nat} : (MC n).2.2.1 46 = some (.inr (0, 16)) := rfl
theorem pl_C_47 {n : Nat} : (MC n).2.2.1 47 = some (.inr (0, 16)) := rfl
theorem pl_C_48 {n : Nat} : (MC n).2.2.1 48 = some (.inr (0, 128)) := rfl
theorem pl_C_49 {n : Nat} : (MC n).2.2.1 49 = some (.inr (0, 128)) := rfl
theorem pl_C_50 {n : Nat} : (MC n).2.2.1 50 = some (.inl 4) := rfl
theorem pl_C_51 {n : Nat} : (MC n).2.2.1 51 = some (.inr (1, 4)) := rfl
theorem pl_C_52 {n : Nat} : (MC n).2.2.1 52 = some (.inl 4) := rfl
theorem pl_C_53 {n : Nat} : (MC n).2.2.1 53 = some (.inr (1, 4)) := rfl
theorem pl_C_54 {n : Nat} : (MC n).2.2.1 54 = some (.inl 2) := rfl
theorem pl_C_55 {n : Nat} : (MC n).2.2.1 55 = some (.inl 3) := rfl
theorem pl_C_56 {n : Nat} : (MC n).2.2.1 56 = some (.inr (0, 16)) := rfl
theorem pl_C_57 {n : Nat} : (MC n).2.2.1 57 = some (.inr (0, 16)) := rfl
theorem pl_C_58 {n : Nat} : (MC n).2.2.1 58 = some (.inr (0, 128)) := rfl
theorem pl_C_59 {n : Nat} : (MC n).2.2.1 59 = some (.inr (0, 128)) := rfl
theorem pl_C_60 {n : Nat} : (MC n).2.2.1 60 = some (.inl 4) := rfl
theorem pl_C_61 {n : Nat} : (MC n).2.2.1 61 = some (.inr (1, 4)) := rfl
theorem pl_C_62 {n : Nat} : (MC n).2.2.1 62 = some (.inl 4) := rfl
theorem pl_C_63 {n : Nat} : (MC n).2.2.1 63 = some (.inr (1, 4)) := rfl
theorem pl_C_64 {n : Nat} : (MC n).2.2.1 64 = some (.inl 2) := rfl
theorem pl_C_65 {n : Nat} : (MC n).2.2.1 65 = some (.inl 3) := rfl
theorem pl_C_66 {n : Nat} : (MC n).2.2.1 66 = some (.inr (0, 16)) := rfl
theorem pl_C_67 {n : Nat} : (MC n).2.2.1 67 = some (.inr (0, 16)) := rfl
theorem pl_C_68 {n : Nat} : (MC n).2.2.1 68 = some (.inr (0, 128)) := rfl
theorem pl_C_69 {n : Nat} : (MC n).2.2.1 69 = some (.inr (0, 128)) := rfl
theorem pl_C_70 {n : Nat} : (MC n).2.2.1 70 = some (.inl 4) := rfl
theorem pl_C_71 {n : Nat} : (MC n).2.2.1 71 = some (.inr (1, 4)) := rfl
theorem pl_C_72 {n : Nat} : (MC n).2.2.1 72 = some (.inl 4) := rfl
theorem pl_C_73 {n : Nat} : (MC n).2.2.1 73 = some (.inr (1, 4)) := rfl
theorem pl_C_74 {n : Nat} : (MC n).2.2.1 74 = some (.inl 2) := rfl
theorem pl_C_75 {n : Nat} : (MC n).2.2.1 75 = some (.inl 3) := rfl
theorem pl_C_76 {n : Nat} : (MC n).2.2.1 76 = some (.inr (0, 16)) := rfl
theorem pl_C_77 {n : Nat} : (MC n).2.2.1 77 = some (.inr (0, 16)) := rfl
theorem pl_C_78 {n : Nat} : (MC n).2.2.1 78 = some (.inr (0, 128)) := rfl
theorem pl_C_79 {n : Nat} : (MC n).2.2.1 79 = some (.inr (0, 128)) := rfl
theorem pl_C_80 {n : Nat} : (MC n).2.2.1 80 = some (.inl 4) := rfl
theorem pl_C_81 {n : Nat} : (MC n).2.2.1 81 = some (.inr (1, 4)) := rfl
theorem pl_C_82 {n : Nat} : (MC n).2.2.1 82 = some (.inl 4) := rfl
theorem pl_C_83 {n : Nat} : (MC n).2.2.1 83 = some (.inr (1, 4)) := rfl
theorem pl_C_84 {n : Nat} : (MC n).2.2.1 84 = some (.inl 2) := rfl
theorem pl_C_85 {n : Nat} : (MC n).2.2.1 85 = some (.inl 3) := rfl
theorem pl_C_86 {n : Nat} : (MC n).2.2.1 86 = some (.inr (0, 16)) := rfl
theorem pl_C_87 {n : Nat} : (MC n).2.2.1 87 = some (.inr (0, 16)) := rfl
theorem pl_C_88 {n : Nat} : (MC n).2.2.1 88 = some (.inr (0, 128)) := rfl
theorem pl_C_89 {n : Nat} : (MC n).2.2.1 89 = some (.inr (0, 128)) := rfl
theorem pl_C_90 {n : Nat} : (MC n).2.2.1 90 = some (.inl 4) := rfl
theorem pl_C_91 {n : Nat} : (MC n).2.2.1 91 = some (.inr (1, 4)) := rfl
theorem pl_C_92 {n : Nat} : (MC n).2.2.1 92 = some (.inl 4) := rfl
theorem pl_C_93 {n : Nat} : (MC n).2.2.1 93 = some (.inr (1, 4)) := rfl
theorem pl_C_94 {n : Nat} : (MC n).2.2.1 94 = some (.inl 6) := rfl
theorem pl_C_95 {n : Nat} : (MC n).2.2.1 95 = some (.inr (2, 120)) := rfl
theorem pl_C_96 {n : Nat} : (MC n).2.2.1 96 = some (.inl 3) := rfl
theorem pl_C_97 {n : Nat} : (MC n).2.2.1 97 = some (.inr (0, 16)) := rfl
theorem pl_C_98 {n : Nat} : (MC n).2.2.1 98 = some (.inr (0, 16)) := rfl
theorem pl_C_99 {n : Nat} : (MC n).2.2.1 99 = some (.inr (0, 128)) := rfl
theorem pl_C_100 {n : Nat} : (MC n).2.2.1 100 = some (.inr (0, 128)) := rfl
theorem pl_C_101 {n : Nat} : (MC n).2.2.1 101 = some (.inl 7) := rfl
theorem pl_C_102 {n : Nat} : (MC n).2.2.1 102 = some (.inr (0, 4)) := rfl
theorem pl_C_103 {n : Nat} : (MC n).2.2.1 103 = some (.inr (0, 8)) := rfl
theorem pl_C_104 {n : Nat} : (MC n).2.2.1 104 = some (.inr (0, 8)) := rfl
theorem pl_C_105 {n : Nat} : (MC n).2.2.1 105 = some (.inr (0, 8)) := rfl
theorem pl_C_106 {n : Nat} : (MC n).2.2.1 106 = some (.inr (0, 9)) := rfl
theorem pl_C_107 {n : Nat} : (MC n).2.2.1 107 = some (.inr (0, 9)) := rfl
theorem pl_C_108 {n : Nat} : (MC n).2.2.1 108 = some (.inr (0, 8)) := rfl
theorem pl_C_109 {n : Nat} : (MC n).2.2.1 109 = some (.inr (0, 4)) := rfl
theorem pl_C_110 {n : Nat} : (MC n).2.2.1 110 = some (.inr (0, 9)) := rfl
theorem pl_C_111 {n : Nat} : (MC n).2.2.1 111 = some (.inr (0, 9)) := rfl
theorem pl_C_112 {n : Nat} : (MC n).2.2.1 112 = some (.inl 8) := rfl
theorem pl_C_113 {n : Nat} : (MC n).2.2.1 113 = some (.inl 4) := rfl
theorem pl_C_114 {n : Nat} : (MC n).2.2.1 114 = some (.inr (1, 4)) := rfl
theorem pl_C_115 {n : Nat} : (MC n).2.2.1 115 = some (.inl 4) := rfl
theorem pl_C_116 {n : Nat} : (MC n).2.2.1 116 = some (.inr (1, 4)) := rfl
theorem pl_C_117 {n : Nat} : (MC n).2.2.1 117 = some (.inl 9) := rfl
theorem pl_C_118 {n : Nat} : (MC n).2.2.1 118 = some (.inl 4) := rfl
theorem pl_C_119 {n : Nat} : (MC n).2.2.1 119 = some (.inr (1, 4)) := rfl
theorem pl_C_120 {n : Nat} : (MC n).2.2.1 120 = some (.inr (1, n)) := rfl
theorem pl_C_121 {n : Nat} : (MC n).2.2.1 121 = some (.inr (0, 64)) := rfl
theorem pl_C_122 {n : Nat} : (MC n).2.2.1 122 = some (.inr (0, 64)) := rfl
theorem pl_C_123 {n : Nat} : (MC n).2.2.1 123 = some (.inr (0, 8)) := rfl
theorem pl_C_124 {n : Nat} : (MC n).2.2.1 124 = some (.inr (0, 64)) := rfl
theorem pl_C_125 {n : Nat} : (MC n).2.2.1 125 = some (.inr (0, 64)) := rfl
theorem pl_C_126 {n : Nat} : (MC n).2.2.1 126 = some (.inr (0, 64)) := rfl
theorem pl_C_127 {n : Nat} : (MC n).2.2.1 127 = some (.inr (0, 64)) := rfl
theorem pl_C_128 {n : Nat} : (MC n).2.2.1 128 = some (.inr (0, 64)) := rfl
theorem pl_C_129 {n : Nat} : (MC n).2.2.1 129 = some (.inr (0, 64)) := rfl
theorem pl_C_130 {n : Nat} : (MC n).2.2.1 130 = some (.inl 10) := rfl
theorem pl_C_131 {n : Nat} : (MC n).2.2.1 131 = some (.inr (0, 4)) := rfl
theorem pl_C_132 {n : Nat} : (MC n).2.2.1 132 = some (.inr (0, 4)) := rfl
theorem pl_C_133 {n : Nat} : (MC n).2.2.1 133 = some (.inr (0, 4)) := rfl
theorem pl_C_134 {n : Nat} : (MC n).2.2.1 134 = some (.inr (0, 9)) := rfl
theorem pl_C_135 {n : Nat} : (MC n).2.2.1 135 = some (.inr (0, 144)) := rfl
theorem pl_C_136 {n : Nat} : (MC n).2.2.1 136 = some (.inr (0, 640)) := rfl
theorem pl_C_137 {n : Nat} : (MC n).2.2.1 137 = some (.inr (0, 2560)) := rfl
theorem pl_C_138 {n : Nat} : (MC n).2.2.1 138 = some (.inl 11) := rfl
theorem pl_C_139 {n : Nat} : (MC n).2.2.1 139 = some (.inr (0, 16)) := rfl
theorem kd_C_0_0 {n : Nat} : (MC n).2.1 0 0 = 2 := rfl
theorem kd_C_0_1 {n : Nat} : (MC n).2.1 0 1 = 2 := rfl
theorem kd_C_0_2 {n : Nat} : (MC n).2.1 0 2 = 2 := rfl
theorem kd_C_0_3 {n : Nat} : (MC n).2.1 0 3 = 2 := rfl
theorem kd_C_0_4 {n : Nat} : (MC n).2.1 0 4 = 2 := rfl
theorem kd_C_0_5 {n : Nat} : (MC n).2.1 0 5 = 2 := rfl
theorem kd_C_0_6 {n : Nat} : (MC n).2.1 0 6 = 2 := rfl
theorem kd_C_0_7 {n : Nat} : (MC n).2.1 0 7 = 2 := rfl
theorem kd_C_0_8 {n : Nat} : (MC n).2.1 0 8 = 2 := rfl
theorem R0C_0_0 {b : Bool} : R0C b 0 0 = some 1 := rfl
theorem R0C_0_1 {b : Bool} : R0C b 0 1 = some 2 := rfl
theorem R0C_0_2 {b : Bool} : R0C b 0 2 = some 12 := rfl
theorem R0C_0_3 {b : Bool} : R0C b 0 3 = some 94 := rfl
theorem R0C_0_4 {b : Bool} : R0C b 0 4 = some 96 := rfl
theorem R0C_0_5 {b : Bool} : R0C b 0 5 = some 101 := rfl
theorem R0C_0_6 {b : Bool} : R0C b 0 6 = some 112 := rfl
theorem R0C_0_7 {b : Bool} : R0C b 0 7 = some 117 := rfl
theorem R0C_0_8 {b : Bool} : R0C b 0 8 = some 138 := rfl
theorem kd_C_1_0 {n : Nat} : (MC n).2.1 1 0 = 0 := rfl
theorem kd_C_1_1 {n : Nat} : (MC n).2.1 1 1 = 0 := rfl
theorem kd_C_1_2 {n : Nat} : (MC n).2.1 1 2 = 0 := rfl
theorem kd_C_1_3 {n : Nat} : (MC n).2.1 1 3 = 1 := rfl
theorem kd_C_2_0 {n : Nat} : (MC n).2.1 2 0 = 2 := rfl
theorem kd_C_2_1 {n : Nat} : (MC n).2.1 2 1 = 2 := rfl
theorem kd_C_2_2 {n : Nat} : (MC n).2.1 2 2 = 2 := rfl
theorem R0C_2_0 {b : Bool} : R0C b 2 0 = some 3 := rfl
theorem R0C_2_1 {b : Bool} : R0C b 2 1 = some 8 := rfl
theorem R0C_2_2 {b : Bool} : R0C b 2 2 = some 10 := rfl
theorem kd_C_3_0 {n : Nat} : (MC n).2.1 3 0 = 0 := rfl
theorem kd_C_3_1 {n : Nat} : (MC n).2.1 3 1 = 2 := rfl
theorem kd_C_3_2 {n : Nat} : (MC n).2.1 3 2 = 2 := rfl
theorem kd_C_3_3 {n : Nat} : (MC n).2.1 3 3 = 2 := rfl
theorem kd_C_3_4 {n : Nat} : (MC n).2.1 3 4 = 2 := rfl
theorem R0C_3_1 {b : Bool} : R0C b 3 1 = some 4 := rfl
theorem R0C_3_2 {b : Bool} : R0C b 3 2 = some 5 := rfl
theorem R0C_3_3 {b : Bool} : R0C b 3 3 = some 6 := rfl
theorem R0C_3_4 {b : Bool} : R0C b 3 4 = some 7 := rfl
theorem R0C_96_1 {b : Bool} : R0C b 96 1 = some 97 := rfl
theorem R0C_96_2 {b : Bool} : R0C b 96 2 = some 98 := rfl
theorem R0C_96_3 {b : Bool} : R0C b 96 3 = some 99 := rfl
theorem R0C_96_4 {b : Bool} : R0C b 96 4 = some 100 := rfl
theorem kd_C_4_0 {n : Nat} : (MC n).2.1 4 0 = 2 := rfl
theorem R0C_8_0 {b : Bool} : R0C b 8 0 = some 9 := rfl
theorem R0C_10_0 {b : Bool} : R0C b 10 0 = some 11 := rfl
theorem R0C_113_0 {b : Bool} : R0C b 113 0 = some 114 := rfl
theorem R0C_115_0 {b : Bool} : R0C b 115 0 = some 116 := rfl
theorem R0C_118_0 {b : Bool} : R0C b 118 0 = some 119 := rfl
theorem kd_C_5_0 {n : Nat} : (MC n).2.1 5 0 = 2 := rfl
theorem kd_C_5_1 {n : Nat} : (MC n).2.1 5 1 = 0 := rfl
theorem kd_C_5_2 {n : Nat} : (MC n).2.1 5 2 = 0 := rfl
theorem R0C_12_0 {b : Bool} : R0C b 12 0 = some 13 := rfl
theorem kd_C_6_0 {n : Nat} : (MC n).2.1 6 0 = 2 := rfl
theorem kd_C_6_1 {n : Nat} : (MC n).2.1 6 1 = 0 := rfl
theorem kd_C_6_2 {n : Nat} : (MC n).2.1 6 2 = 0 := rfl
theorem R0C_94_0 {b : Bool} : R0C b 94 0 = some 95 := rfl
theorem kd_C_7_0 {n : Nat} : (MC n).2.1 7 0 = 2 := rfl
theorem kd_C_7_1 {n : Nat} : (MC n).2.1 7 1 = 2 := rfl
theorem kd_C_7_2 {n : Nat} : (MC n).2.1 7 2 = 0 := rfl
theorem kd_C_7_3 {n : Nat} : (MC n).2.1 7 3 = 0 := rfl
theorem kd_C_7_4 {n : Nat} : (MC n).2.1 7 4 = 0 := rfl
theorem kd_C_7_5 {n : Nat} : (MC n).2.1 7 5 = 2 := rfl
theorem kd_C_7_6 {n : Nat} : (MC n).2.1 7 6 = 2 := rfl
theorem kd_C_7_7 {n : Nat} : (MC n).2.1 7 7 = 2 := rfl
theorem kd_C_7_8 {n : Nat} : (MC n).2.1 7 8 = 2 := rfl
theorem kd_C_7_9 {n : Nat} : (MC n).2.1 7 9 = 2 := rfl
theorem kd_C_7_10 {n : Nat} : (MC n).2.1 7 10 = 2 := rfl
theorem kd_C_7_11 {n : Nat} : (MC n).2.1 7 11 = 2 := rfl
theorem kd_C_7_12 {n : Nat} : (MC n).2.1 7 12 = 2 := rfl
theorem kd_C_7_13 {n : Nat} : (MC n).2.1 7 13 = 2 := rfl
theorem kd_C_7_14 {n : Nat} : (MC n).2.1 7 14 = 2 := rfl
theorem R0C_101_0 {b : Bool} : R0C b 101 0 = some 1 := rfl
theorem R0C_101_1 {b : Bool} : R0C b 101 1 = some 3 := rfl
theorem R0C_101_5 {b : Bool} : R0C b 101 5 = some 102 := rfl
theorem R0C_101_6 {b : Bool} : R0C b 101 6 = some 103 := rfl
theorem R0C_101_7 {b : Bool} : R0C b 101 7 = some 104 := rfl
theorem R0C_101_8 {b : Bool} : R0C b 101 8 = some 105 := rfl
theorem R0C_101_9 {b : Bool} : R0C b 101 9 = some 106 := rfl
theorem R0C_101_10 {b : Bool} : R0C b 101 10 = some 107 := rfl
theorem R0C_101_11 {b : Bool} : R0C b 101 11 = some 108 := rfl
theorem R0C_101_12 {b : Bool} : R0C b 101 12 = some 109 := rfl
theorem kd_C_8_0 {n : Nat} : (MC n).2.1 8 0 = 2 := rfl
theorem kd_C_8_1 {n : Nat} : (MC n).2.1 8 1 = 2 := rfl
theorem kd_C_8_2 {n : Nat} : (MC n).2.1 8 2 = 2 := rfl
theorem kd_C_8_3 {n : Nat} : (MC n).2.1 8 3 = 2 := rfl
theorem kd_C_8_4 {n : Nat} : (MC n).2.1 8 4 = 2 := rfl
theorem R0C_112_0 {b : Bool} : R0C b 112 0 = some 1 := rfl
theorem R0C_112_1 {b : Bool} : R0C b 112 1 = some 3 := rfl
theorem R0C_112_2 {b : Bool} : R0C b 112 2 = some 101 := rfl
theorem R0C_112_3 {b : Bool} : R0C b 112 3 = some 113 := rfl
theorem R0C_112_4 {b : Bool} : R0C b 112 4 = some 115 := rfl
theorem kd_C_9_0 {n : Nat} : (MC n).2.1 9 0 = 2 := rfl
theorem kd_C_9_1 {n : Nat} : (MC n).2.1 9 1 = 2 := rfl
theorem kd_C_9_2 {n : Nat} : (MC n).2.1 9 2 = 2 := rfl
theorem kd_C_9_3 {n : Nat} : (MC n).2.1 9 3 = 2 := rfl
theorem kd_C_9_4 {n : Nat} : (MC n).2.1 9 4 = 2 := rfl
theorem kd_C_9_5 {n : Nat} : (MC n).2.1 9 5 = 2 := rfl
theorem kd_C_9_6 {n : Nat} : (MC n).2.1 9 6 = 2 := rfl
theorem kd_C_9_7 {n : Nat} : (MC n).2.1 9 7 = 2 := rfl
theorem kd_C_9_8 {n : Nat} : (MC n).2.1 9 8 = 2 := rfl
theorem kd_C_9_9 {n : Nat} : (MC n).2.1 9 9 = 2 := rfl
theorem kd_C_9_10 {n : Nat} : (MC n).2.1 9 10 = 2 := rfl
theorem kd_C_9_11 {n : Nat} : (MC n).2.1 9 11 = 2 := rfl
theorem kd_C_9_12 {n : Nat} : (MC n).2.1 9 12 = 2 := rfl
theorem kd_C_9_13 {n : Nat} : (MC n).2.1 9 13 = 2 := rfl
theorem kd_C_9_14 {n : Nat} : (MC n).2.1 9 14 = 2 := rfl
theorem kd_C_9_15 {n : Nat} : (MC n).2.1 9 15 = 0 := rfl
theorem R0C_117_0 {b : Bool} : R0C b 117 0 = some 1 := rfl
theorem R0C_117_1 {b : Bool} : R0C b 117 1 = some 3 := rfl
theorem R0C_117_2 {b : Bool} : R0C b 117 2 = some 112 := rfl
theorem R0C_117_3 {b : Bool} : R0C b 117 3 = some 130 := rfl
theorem R0C_117_4 {b : Bool} : R0C b 117 4 = some 118 := rfl
theorem R0C_117_5 {b : Bool} : R0C b 117 5 = some 120 := rfl
theorem R0C_117_6 {b : Bool} : R0C b 117 6 = some 121 := rfl
theorem R0C_117_7 {b : Bool} : R0C b 117 7 = some 122 := rfl
theorem R0C_117_8 {b : Bool} : R0C b 117 8 = some 123 := rfl
theorem R0C_117_9 {b : Bool} : R0C b 117 9 = some 124 := rfl
theorem R0C_117_10 {b : Bool} : R0C b 117 10 = some 125 := rfl
theorem R0C_117_11 {b : Bool} : R0C b 117 11 = some 126 := rfl
theorem R0C_117_12 {b : Bool} : R0C b 117 12 = some 127 := rfl
theorem R0C_117_13 {b : Bool} : R0C b 117 13 = some 128 := rfl
theorem R0C_117_14 {b : Bool} : R0C b 117 14 = some 129 := rfl
theorem kd_C_10_0 {n : Nat} : (MC n).2.1 10 0 = 2 := rfl
theorem kd_C_10_1 {n : Nat} : (MC n).2.1 10 1 = 2 := rfl
theorem kd_C_10_2 {n : Nat} : (MC n).2.1 10 2 = 2 := rfl
theorem kd_C_10_3 {n : Nat} : (MC n).2.1 10 3 = 2 := rfl
theorem kd_C_10_4 {n : Nat} : (MC n).2.1 10 4 = 2 := rfl
theorem kd_C_10_5 {n : Nat} : (MC n).2.1 10 5 = 2 := rfl
theorem kd_C_10_6 {n : Nat} : (MC n).2.1 10 6 = 2 := rfl
theorem kd_C_10_7 {n : Nat} : (MC n).2.1 10 7 = 2 := rfl
theorem kd_C_10_8 {n : Nat} : (MC n).2.1 10 8 = 2 := rfl
theorem R0C_130_0 {b : Bool} : R0C b 130 0 = some 1 := rfl
theorem R0C_130_1 {b : Bool} : R0C b 130 1 = some 3 := rfl
theorem R0C_130_2 {b : Bool} : R0C b 130 2 = some 131 := rfl
theorem R0C_130_3 {b : Bool} : R0C b 130 3 = some 132 := rfl
theorem R0C_130_4 {b : Bool} : R0C b 130 4 = some 133 := rfl
theorem R0C_130_5 {b : Bool} : R0C b 130 5 = some 134 := rfl
theorem R0C_130_6 {b : Bool} : R0C b 130 6 = some 135 := rfl
theorem R0C_130_7 {b : Bool} : R0C b 130 7 = some 136 := rfl
theorem R0C_130_8 {b : Bool} : R0C b 130 8 = some 137 := rfl
theorem kd_C_11_0 {n : Nat} : (MC n).2.1 11 0 = 2 := rfl
theorem kd_C_11_1 {n : Nat} : (MC n).2.1 11 1 = 2 := rfl
theorem kd_C_11_2 {n : Nat} : (MC n).2.1 11 2 = 2 := rfl
theorem kd_C_11_3 {n : Nat} : (MC n).2.1 11 3 = 2 := rfl
theorem kd_C_11_4 {n : Nat} : (MC n).2.1 11 4 = 2 := rfl
theorem kd_C_11_5 {n : Nat} : (MC n).2.1 11 5 = 0 := rfl
theorem kd_C_11_6 {n : Nat} : (MC n).2.1 11 6 = 0 := rfl
theorem kd_C_11_7 {n : Nat} : (MC n).2.1 11 7 = 0 := rfl
theorem kd_C_11_8 {n : Nat} : (MC n).2.1 11 8 = 0 := rfl
theorem R0C_138_0 {b : Bool} : R0C b 138 0 = some 1 := rfl
theorem R0C_138_1 {b : Bool} : R0C b 138 1 = some 3 := rfl
theorem R0C_138_2 {b : Bool} : R0C b 138 2 = some 101 := rfl
theorem R0C_138_3 {b : Bool} : R0C b 138 3 = some 112 := rfl
theorem R0C_138_4 {b : Bool} : R0C b 138 4 = some 139 := rfl
theorem R0C_101_13 {b : Bool} : R0C b 101 13 = some (if b then 111 else 110) := rfl
theorem R0C_101_14 {b : Bool} : R0C b 101 14 = some (if b then 110 else 111) := rfl
