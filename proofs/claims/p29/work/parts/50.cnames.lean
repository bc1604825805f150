/-! NAMES of the class, by an own text program out of the printed names -/
def R_Out : String := "PictureClues"
def T_Out : u_T := fun k => match k with
  | 0 => ("PictureClues", "grid", "LPictureClues$Grid;", true)
  | 1 => ("PictureClues", "now", "LPictureClues$Situation;", true)
  | 2 => ("PictureClues", "history", "LPictureClues$History;", true)
  | 3 => ("PictureClues", "text", "LPictureClues$ClueText;", true)
  | 4 => ("PictureClues", "loaded", "LPictureClues$Clues;", true)
  | 5 => ("PictureClues", "fillings", "LPictureClues$Fillings;", true)
  | 6 => ("PictureClues", "narrower", "LPictureClues$Narrower;", true)
  | 7 => ("PictureClues", "search", "LPictureClues$Search;", true)
  | _ => ("PictureClues", "advice", "LPictureClues$Advice;", true)
def ty_Out : Nat → FieldType := fun k => match k with
  | 0 => .object "PictureClues$Grid"
  | 1 => .object "PictureClues$Situation"
  | 2 => .object "PictureClues$History"
  | 3 => .object "PictureClues$ClueText"
  | 4 => .object "PictureClues$Clues"
  | 5 => .object "PictureClues$Fillings"
  | 6 => .object "PictureClues$Narrower"
  | 7 => .object "PictureClues$Search"
  | _ => .object "PictureClues$Advice"
theorem nm_Out : ∀ a, a < 9 → ∀ b, b < 9 → a ≠ b → (T_Out a).2.1 ≠ (T_Out b).2.1 := by decide +kernel
theorem tyok_Out : ∀ k, k < 9 → parseFieldDescriptor (T_Out k).2.2.1 = some (ty_Out k) := by decide +kernel
abbrev b_Out_init : ByteArray := prog_1_method_1_code
def y_Out_init : MethodName := ⟨R_Out, "<init>", "()V"⟩
abbrev b_Out_start : ByteArray := prog_1_method_2_code
def y_Out_start : MethodName := ⟨R_Out, "start", "(III)I"⟩
abbrev b_Out_addBlock : ByteArray := prog_1_method_3_code
def y_Out_addBlock : MethodName := ⟨R_Out, "addBlock", "(III)I"⟩
abbrev b_Out_setClue : ByteArray := prog_1_method_4_code
def y_Out_setClue : MethodName := ⟨R_Out, "setClue", "(IZ)I"⟩
abbrev b_Out_line : ByteArray := prog_1_method_5_code
def y_Out_line : MethodName := ⟨R_Out, "line", "(II)I"⟩
abbrev b_Out_block : ByteArray := prog_1_method_6_code
def y_Out_block : MethodName := ⟨R_Out, "block", "(III)I"⟩
abbrev b_Out_setMark : ByteArray := prog_1_method_13_code
def y_Out_setMark : MethodName := ⟨R_Out, "setMark", "(III)I"⟩
abbrev b_Out_mark : ByteArray := prog_1_method_14_code
def y_Out_mark : MethodName := ⟨R_Out, "mark", "(II)I"⟩
abbrev b_Out_undo : ByteArray := prog_1_method_25_code
def y_Out_undo : MethodName := ⟨R_Out, "undo", "()I"⟩
abbrev b_Out_count : ByteArray := prog_1_method_26_code
def y_Out_count : MethodName := ⟨R_Out, "count", "(I)I"⟩
abbrev b_Out_begin : ByteArray := prog_1_method_29_code
def y_Out_begin : MethodName := ⟨R_Out, "begin", "(III)V"⟩
abbrev b_Out_isWrong : ByteArray := prog_1_method_31_code
def y_Out_isWrong : MethodName := ⟨R_Out, "isWrong", "(I)Z"⟩
abbrev b_Out_wrongLines : ByteArray := prog_1_method_32_code
def y_Out_wrongLines : MethodName := ⟨R_Out, "wrongLines", "()I"⟩
abbrev b_Out_fittingLines : ByteArray := prog_1_method_33_code
def y_Out_fittingLines : MethodName := ⟨R_Out, "fittingLines", "()I"⟩
abbrev b_Out_filledCells : ByteArray := prog_1_method_34_code
def y_Out_filledCells : MethodName := ⟨R_Out, "filledCells", "()I"⟩
abbrev b_Out_isWithin : ByteArray := prog_1_method_35_code
def y_Out_isWithin : MethodName := ⟨R_Out, "isWithin", "(III)Z"⟩
abbrev b_Out_lowestBit : ByteArray := prog_1_method_36_code
def y_Out_lowestBit : MethodName := ⟨R_Out, "lowestBit", "(J)I"⟩
abbrev b_Out_highestBit : ByteArray := prog_1_method_37_code
def y_Out_highestBit : MethodName := ⟨R_Out, "highestBit", "(I)I"⟩
def R_Grid : String := "PictureClues$Grid"
def T_Grid : u_T := fun k => match k with
  | 0 => ("PictureClues$Grid", "width", "I", false)
  | 1 => ("PictureClues$Grid", "height", "I", false)
  | 2 => ("PictureClues$Grid", "colors", "I", false)
  | _ => ("PictureClues$Grid", "all", "J", false)
def ty_Grid : Nat → FieldType := fun k => match k with
  | 0 => .int
  | 1 => .int
  | 2 => .int
  | _ => .long
theorem nm_Grid : ∀ a, a < 4 → ∀ b, b < 4 → a ≠ b → (T_Grid a).2.1 ≠ (T_Grid b).2.1 := by decide +kernel
theorem tyok_Grid : ∀ k, k < 4 → parseFieldDescriptor (T_Grid k).2.2.1 = some (ty_Grid k) := by decide +kernel
abbrev b_Grid_init : ByteArray := prog_6_method_1_code
def y_Grid_init : MethodName := ⟨R_Grid, "<init>", "()V"⟩
abbrev b_Grid_resize : ByteArray := prog_6_method_2_code
def y_Grid_resize : MethodName := ⟨R_Grid, "resize", "(III)V"⟩
abbrev b_Grid_rectangle : ByteArray := prog_6_method_3_code
def y_Grid_rectangle : MethodName := ⟨R_Grid, "rectangle", "(II)J"⟩
abbrev b_Grid_index : ByteArray := prog_6_method_4_code
def y_Grid_index : MethodName := ⟨R_Grid, "index", "(II)I"⟩
abbrev b_Grid_cell : ByteArray := prog_6_method_7_code
def y_Grid_cell : MethodName := ⟨R_Grid, "cell", "(II)J"⟩
abbrev b_Grid_lines : ByteArray := prog_6_method_8_code
def y_Grid_lines : MethodName := ⟨R_Grid, "lines", "()I"⟩
abbrev b_Grid_fullMark : ByteArray := prog_6_method_9_code
def y_Grid_fullMark : MethodName := ⟨R_Grid, "fullMark", "()I"⟩
abbrev b_Grid_hasLine : ByteArray := prog_6_method_10_code
def y_Grid_hasLine : MethodName := ⟨R_Grid, "hasLine", "(I)Z"⟩
abbrev b_Grid_hasCell : ByteArray := prog_6_method_11_code
def y_Grid_hasCell : MethodName := ⟨R_Grid, "hasCell", "(II)Z"⟩
abbrev b_Grid_cellsOf : ByteArray := prog_6_method_12_code
def y_Grid_cellsOf : MethodName := ⟨R_Grid, "cellsOf", "(I)I"⟩
abbrev b_Grid_bitsOf : ByteArray := prog_6_method_18_code
def y_Grid_bitsOf : MethodName := ⟨R_Grid, "bitsOf", "(JI)I"⟩
def R_Situation : String := "PictureClues$Situation"
def T_Situation : u_T := fun k => match k with
  | 0 => ("PictureClues$Situation", "clues", "LPictureClues$Clues;", true)
  | 1 => ("PictureClues$Situation", "marks", "LPictureClues$Layer;", true)
  | _ => ("PictureClues$Situation", "picture", "LPictureClues$Layer;", true)
def ty_Situation : Nat → FieldType := fun k => match k with
  | 0 => .object "PictureClues$Clues"
  | 1 => .object "PictureClues$Layer"
  | _ => .object "PictureClues$Layer"
theorem nm_Situation : ∀ a, a < 3 → ∀ b, b < 3 → a ≠ b → (T_Situation a).2.1 ≠ (T_Situation b).2.1 := by decide +kernel
theorem tyok_Situation : ∀ k, k < 3 → parseFieldDescriptor (T_Situation k).2.2.1 = some (ty_Situation k) := by decide +kernel
abbrev b_Situation_init : ByteArray := prog_11_method_1_code
def y_Situation_init : MethodName := ⟨R_Situation, "<init>", "()V"⟩
abbrev b_Situation_copyFrom : ByteArray := prog_11_method_2_code
def y_Situation_copyFrom : MethodName := ⟨R_Situation, "copyFrom", "(LPictureClues$Situation;)V"⟩
def R_Clues : String := "PictureClues$Clues"
def T_Clues : u_T := fun k => match k with
  | 0 => ("PictureClues$Clues", "clued", "I", false)
  | 1 => ("PictureClues$Clues", "sizes", "[I", true)
  | 2 => ("PictureClues$Clues", "rooms", "[I", true)
  | 3 => ("PictureClues$Clues", "lengths", "[I", true)
  | _ => ("PictureClues$Clues", "colors", "[I", true)
def ty_Clues : Nat → FieldType := fun k => match k with
  | 0 => .int
  | 1 => .array .int
  | 2 => .array .int
  | 3 => .array .int
  | _ => .array .int
theorem nm_Clues : ∀ a, a < 5 → ∀ b, b < 5 → a ≠ b → (T_Clues a).2.1 ≠ (T_Clues b).2.1 := by decide +kernel
theorem tyok_Clues : ∀ k, k < 5 → parseFieldDescriptor (T_Clues k).2.2.1 = some (ty_Clues k) := by decide +kernel
abbrev b_Clues_init : ByteArray := prog_4_method_1_code
def y_Clues_init : MethodName := ⟨R_Clues, "<init>", "()V"⟩
abbrev b_Clues_copyFrom : ByteArray := prog_4_method_2_code
def y_Clues_copyFrom : MethodName := ⟨R_Clues, "copyFrom", "(LPictureClues$Clues;)V"⟩
abbrev b_Clues_resetAll : ByteArray := prog_4_method_3_code
def y_Clues_resetAll : MethodName := ⟨R_Clues, "resetAll", "()V"⟩
abbrev b_Clues_reset : ByteArray := prog_4_method_4_code
def y_Clues_reset : MethodName := ⟨R_Clues, "reset", "(IZ)V"⟩
abbrev b_Clues_has : ByteArray := prog_4_method_5_code
def y_Clues_has : MethodName := ⟨R_Clues, "has", "(I)Z"⟩
abbrev b_Clues_lengthOf : ByteArray := prog_4_method_6_code
def y_Clues_lengthOf : MethodName := ⟨R_Clues, "lengthOf", "(II)I"⟩
abbrev b_Clues_colorOf : ByteArray := prog_4_method_7_code
def y_Clues_colorOf : MethodName := ⟨R_Clues, "colorOf", "(II)I"⟩
abbrev b_Clues_append : ByteArray := prog_4_method_8_code
def y_Clues_append : MethodName := ⟨R_Clues, "append", "(III)V"⟩
abbrev b_Clues_gapBefore : ByteArray := prog_4_method_9_code
def y_Clues_gapBefore : MethodName := ⟨R_Clues, "gapBefore", "(II)I"⟩
abbrev b_Clues_roomWith : ByteArray := prog_4_method_10_code
def y_Clues_roomWith : MethodName := ⟨R_Clues, "roomWith", "(III)I"⟩
abbrev b_Clues_blocks : ByteArray := prog_4_method_11_code
def y_Clues_blocks : MethodName := ⟨R_Clues, "blocks", "()I"⟩
def R_Layer : String := "PictureClues$Layer"
def T_Layer : u_T := fun k => match k with
  | _ => ("PictureClues$Layer", "cells", "[J", true)
def ty_Layer : Nat → FieldType := fun k => match k with
  | _ => .array .long
theorem nm_Layer : ∀ a, a < 1 → ∀ b, b < 1 → a ≠ b → (T_Layer a).2.1 ≠ (T_Layer b).2.1 := by decide +kernel
theorem tyok_Layer : ∀ k, k < 1 → parseFieldDescriptor (T_Layer k).2.2.1 = some (ty_Layer k) := by decide +kernel
abbrev b_Layer_init : ByteArray := prog_8_method_1_code
def y_Layer_init : MethodName := ⟨R_Layer, "<init>", "()V"⟩
abbrev b_Layer_copyFrom : ByteArray := prog_8_method_2_code
def y_Layer_copyFrom : MethodName := ⟨R_Layer, "copyFrom", "(LPictureClues$Layer;)V"⟩
abbrev b_Layer_put : ByteArray := prog_8_method_3_code
def y_Layer_put : MethodName := ⟨R_Layer, "put", "(JI)V"⟩
abbrev b_Layer_colorsAt : ByteArray := prog_8_method_4_code
def y_Layer_colorsAt : MethodName := ⟨R_Layer, "colorsAt", "(J)I"⟩
abbrev b_Layer_doubtful : ByteArray := prog_8_method_6_code
def y_Layer_doubtful : MethodName := ⟨R_Layer, "doubtful", "()J"⟩
def R_History : String := "PictureClues$History"
def T_History : u_T := fun k => match k with
  | 0 => ("PictureClues$History", "ring", "[LPictureClues$Situation;", true)
  | 1 => ("PictureClues$History", "states", "I", false)
  | _ => ("PictureClues$History", "next", "I", false)
def ty_History : Nat → FieldType := fun k => match k with
  | 0 => .array (.object "PictureClues$Situation")
  | 1 => .int
  | _ => .int
theorem nm_History : ∀ a, a < 3 → ∀ b, b < 3 → a ≠ b → (T_History a).2.1 ≠ (T_History b).2.1 := by decide +kernel
theorem tyok_History : ∀ k, k < 3 → parseFieldDescriptor (T_History k).2.2.1 = some (ty_History k) := by decide +kernel
abbrev b_History_init : ByteArray := prog_7_method_1_code
def y_History_init : MethodName := ⟨R_History, "<init>", "()V"⟩
abbrev b_History_record : ByteArray := prog_7_method_2_code
def y_History_record : MethodName := ⟨R_History, "record", "(LPictureClues$Situation;)V"⟩
abbrev b_History_restore : ByteArray := prog_7_method_3_code
def y_History_restore : MethodName := ⟨R_History, "restore", "(LPictureClues$Situation;)V"⟩
def R_ClueText : String := "PictureClues$ClueText"
def T_ClueText : u_T := fun k => match k with
  | 0 => ("PictureClues$ClueText", "letters", "[B", true)
  | 1 => ("PictureClues$ClueText", "length", "I", false)
  | _ => ("PictureClues$ClueText", "at", "I", false)
def ty_ClueText : Nat → FieldType := fun k => match k with
  | 0 => .array .byte
  | 1 => .int
  | _ => .int
theorem nm_ClueText : ∀ a, a < 3 → ∀ b, b < 3 → a ≠ b → (T_ClueText a).2.1 ≠ (T_ClueText b).2.1 := by decide +kernel
theorem tyok_ClueText : ∀ k, k < 3 → parseFieldDescriptor (T_ClueText k).2.2.1 = some (ty_ClueText k) := by decide +kernel
abbrev b_ClueText_init : ByteArray := prog_3_method_1_code
def y_ClueText_init : MethodName := ⟨R_ClueText, "<init>", "()V"⟩
def R_Fillings : String := "PictureClues$Fillings"
def T_Fillings : u_T := fun k => match k with
  | 0 => ("PictureClues$Fillings", "grid", "LPictureClues$Grid;", true)
  | 1 => ("PictureClues$Fillings", "clues", "LPictureClues$Clues;", true)
  | 2 => ("PictureClues$Fillings", "line", "I", false)
  | 3 => ("PictureClues$Fillings", "size", "I", false)
  | 4 => ("PictureClues$Fillings", "cells", "I", false)
  | 5 => ("PictureClues$Fillings", "can", "[I", true)
  | 6 => ("PictureClues$Fillings", "lengths", "[I", true)
  | 7 => ("PictureClues$Fillings", "colors", "[I", true)
  | 8 => ("PictureClues$Fillings", "gaps", "[I", true)
  | 9 => ("PictureClues$Fillings", "front", "[I", true)
  | 10 => ("PictureClues$Fillings", "back", "[I", true)
  | 11 => ("PictureClues$Fillings", "starts", "[I", true)
  | 12 => ("PictureClues$Fillings", "left", "[I", true)
  | 13 => ("PictureClues$Fillings", "ways", "[I", false)
  | _ => ("PictureClues$Fillings", "nextWays", "[I", false)
def ty_Fillings : Nat → FieldType := fun k => match k with
  | 0 => .object "PictureClues$Grid"
  | 1 => .object "PictureClues$Clues"
  | 2 => .int
  | 3 => .int
  | 4 => .int
  | 5 => .array .int
  | 6 => .array .int
  | 7 => .array .int
  | 8 => .array .int
  | 9 => .array .int
  | 10 => .array .int
  | 11 => .array .int
  | 12 => .array .int
  | 13 => .array .int
  | _ => .array .int
theorem nm_Fillings : ∀ a, a < 15 → ∀ b, b < 15 → a ≠ b → (T_Fillings a).2.1 ≠ (T_Fillings b).2.1 := by decide +kernel
theorem tyok_Fillings : ∀ k, k < 15 → parseFieldDescriptor (T_Fillings k).2.2.1 = some (ty_Fillings k) := by decide +kernel
abbrev b_Fillings_init : ByteArray := prog_5_method_1_code
def y_Fillings_init : MethodName := ⟨R_Fillings, "<init>", "(LPictureClues$Grid;LPictureClues$Clues;)V"⟩
abbrev b_Fillings_examine : ByteArray := prog_5_method_2_code
def y_Fillings_examine : MethodName := ⟨R_Fillings, "examine", "(LPictureClues$Layer;I)Z"⟩
abbrev b_Fillings_earliest : ByteArray := prog_5_method_3_code
def y_Fillings_earliest : MethodName := ⟨R_Fillings, "earliest", "(I)I"⟩
abbrev b_Fillings_latest : ByteArray := prog_5_method_4_code
def y_Fillings_latest : MethodName := ⟨R_Fillings, "latest", "(I)I"⟩
abbrev b_Fillings_number : ByteArray := prog_5_method_5_code
def y_Fillings_number : MethodName := ⟨R_Fillings, "number", "(LPictureClues$Layer;I)I"⟩
abbrev b_Fillings_look : ByteArray := prog_5_method_10_code
def y_Fillings_look : MethodName := ⟨R_Fillings, "look", "(LPictureClues$Layer;I)V"⟩
abbrev b_Fillings_placeFromFront : ByteArray := prog_5_method_11_code
def y_Fillings_placeFromFront : MethodName := ⟨R_Fillings, "placeFromFront", "()V"⟩
abbrev b_Fillings_placeFromBack : ByteArray := prog_5_method_12_code
def y_Fillings_placeFromBack : MethodName := ⟨R_Fillings, "placeFromBack", "()V"⟩
abbrev b_Fillings_runs : ByteArray := prog_5_method_13_code
def y_Fillings_runs : MethodName := ⟨R_Fillings, "runs", "(I)I"⟩
abbrev b_Fillings_acrossEmpty : ByteArray := prog_5_method_14_code
def y_Fillings_acrossEmpty : MethodName := ⟨R_Fillings, "acrossEmpty", "(I)I"⟩
abbrev b_Fillings_backAcrossEmpty : ByteArray := prog_5_method_15_code
def y_Fillings_backAcrossEmpty : MethodName := ⟨R_Fillings, "backAcrossEmpty", "(I)I"⟩
abbrev b_Fillings_numberWithoutClue : ByteArray := prog_5_method_16_code
def y_Fillings_numberWithoutClue : MethodName := ⟨R_Fillings, "numberWithoutClue", "()I"⟩
abbrev b_Fillings_addBlockWays : ByteArray := prog_5_method_17_code
def y_Fillings_addBlockWays : MethodName := ⟨R_Fillings, "addBlockWays", "(I)V"⟩
abbrev b_Fillings_emptyBefore : ByteArray := prog_5_method_18_code
def y_Fillings_emptyBefore : MethodName := ⟨R_Fillings, "emptyBefore", "(I)Z"⟩
def R_Narrower : String := "PictureClues$Narrower"
def T_Narrower : u_T := fun k => match k with
  | 0 => ("PictureClues$Narrower", "grid", "LPictureClues$Grid;", true)
  | 1 => ("PictureClues$Narrower", "clues", "LPictureClues$Clues;", true)
  | 2 => ("PictureClues$Narrower", "fillings", "LPictureClues$Fillings;", true)
  | 3 => ("PictureClues$Narrower", "marks", "LPictureClues$Layer;", true)
  | _ => ("PictureClues$Narrower", "kept", "LPictureClues$Layer;", true)
def ty_Narrower : Nat → FieldType := fun k => match k with
  | 0 => .object "PictureClues$Grid"
  | 1 => .object "PictureClues$Clues"
  | 2 => .object "PictureClues$Fillings"
  | 3 => .object "PictureClues$Layer"
  | _ => .object "PictureClues$Layer"
theorem nm_Narrower : ∀ a, a < 5 → ∀ b, b < 5 → a ≠ b → (T_Narrower a).2.1 ≠ (T_Narrower b).2.1 := by decide +kernel
theorem tyok_Narrower : ∀ k, k < 5 → parseFieldDescriptor (T_Narrower k).2.2.1 = some (ty_Narrower k) := by decide +kernel
abbrev b_Narrower_init : ByteArray := prog_9_method_1_code
def y_Narrower_init : MethodName := ⟨R_Narrower, "<init>", "(LPictureClues$Grid;LPictureClues$Clues;LPictureClues$Fillings;)V"⟩
def R_Search : String := "PictureClues$Search"
def T_Search : u_T := fun k => match k with
  | 0 => ("PictureClues$Search", "grid", "LPictureClues$Grid;", true)
  | 1 => ("PictureClues$Search", "clues", "LPictureClues$Clues;", true)
  | 2 => ("PictureClues$Search", "narrower", "LPictureClues$Narrower;", true)
  | 3 => ("PictureClues$Search", "stages", "LPictureClues$Stages;", true)
  | 4 => ("PictureClues$Search", "first", "LPictureClues$Layer;", true)
  | 5 => ("PictureClues$Search", "dead", "[J", false)
  | 6 => ("PictureClues$Search", "offsets", "[I", true)
  | 7 => ("PictureClues$Search", "weights", "[I", true)
  | 8 => ("PictureClues$Search", "columns", "[I", true)
  | 9 => ("PictureClues$Search", "rowsBefore", "[I", true)
  | 10 => ("PictureClues$Search", "columnsBefore", "[I", true)
  | 11 => ("PictureClues$Search", "columnSums", "[I", true)
  | 12 => ("PictureClues$Search", "colorsLeft", "[I", true)
  | 13 => ("PictureClues$Search", "colors", "[I", true)
  | 14 => ("PictureClues$Search", "foundBefore", "[I", true)
  | _ => ("PictureClues$Search", "found", "I", false)
def ty_Search : Nat → FieldType := fun k => match k with
  | 0 => .object "PictureClues$Grid"
  | 1 => .object "PictureClues$Clues"
  | 2 => .object "PictureClues$Narrower"
  | 3 => .object "PictureClues$Stages"
  | 4 => .object "PictureClues$Layer"
  | 5 => .array .long
  | 6 => .array .int
  | 7 => .array .int
  | 8 => .array .int
  | 9 => .array .int
  | 10 => .array .int
  | 11 => .array .int
  | 12 => .array .int
  | 13 => .array .int
  | 14 => .array .int
  | _ => .int
theorem nm_Search : ∀ a, a < 16 → ∀ b, b < 16 → a ≠ b → (T_Search a).2.1 ≠ (T_Search b).2.1 := by decide +kernel
theorem tyok_Search : ∀ k, k < 16 → parseFieldDescriptor (T_Search k).2.2.1 = some (ty_Search k) := by decide +kernel
abbrev b_Search_init : ByteArray := prog_10_method_1_code
def y_Search_init : MethodName := ⟨R_Search, "<init>", "(LPictureClues$Grid;LPictureClues$Clues;LPictureClues$Narrower;)V"⟩
def R_Stages : String := "PictureClues$Stages"
def T_Stages : u_T := fun k => match k with
  | 0 => ("PictureClues$Stages", "grid", "LPictureClues$Grid;", true)
  | 1 => ("PictureClues$Stages", "clues", "LPictureClues$Clues;", true)
  | 2 => ("PictureClues$Stages", "onward", "[I", true)
  | 3 => ("PictureClues$Stages", "staying", "[I", true)
  | 4 => ("PictureClues$Stages", "can", "[I", true)
  | 5 => ("PictureClues$Stages", "possible", "[I", true)
  | 6 => ("PictureClues$Stages", "numbers", "[I", true)
  | 7 => ("PictureClues$Stages", "colorsAt", "[I", true)
  | _ => ("PictureClues$Stages", "ranksAfter", "[I", true)
def ty_Stages : Nat → FieldType := fun k => match k with
  | 0 => .object "PictureClues$Grid"
  | 1 => .object "PictureClues$Clues"
  | 2 => .array .int
  | 3 => .array .int
  | 4 => .array .int
  | 5 => .array .int
  | 6 => .array .int
  | 7 => .array .int
  | _ => .array .int
theorem nm_Stages : ∀ a, a < 9 → ∀ b, b < 9 → a ≠ b → (T_Stages a).2.1 ≠ (T_Stages b).2.1 := by decide +kernel
theorem tyok_Stages : ∀ k, k < 9 → parseFieldDescriptor (T_Stages k).2.2.1 = some (ty_Stages k) := by decide +kernel
abbrev b_Stages_init : ByteArray := prog_12_method_1_code
def y_Stages_init : MethodName := ⟨R_Stages, "<init>", "(LPictureClues$Grid;LPictureClues$Clues;)V"⟩
def R_Advice : String := "PictureClues$Advice"
def T_Advice : u_T := fun k => match k with
  | 0 => ("PictureClues$Advice", "grid", "LPictureClues$Grid;", true)
  | 1 => ("PictureClues$Advice", "clues", "LPictureClues$Clues;", true)
  | 2 => ("PictureClues$Advice", "fillings", "LPictureClues$Fillings;", true)
  | 3 => ("PictureClues$Advice", "narrower", "LPictureClues$Narrower;", true)
  | 4 => ("PictureClues$Advice", "numbers", "[I", true)
  | 5 => ("PictureClues$Advice", "level", "I", false)
  | 6 => ("PictureClues$Advice", "index", "I", false)
  | 7 => ("PictureClues$Advice", "mark", "I", false)
  | _ => ("PictureClues$Advice", "line", "I", false)
def ty_Advice : Nat → FieldType := fun k => match k with
  | 0 => .object "PictureClues$Grid"
  | 1 => .object "PictureClues$Clues"
  | 2 => .object "PictureClues$Fillings"
  | 3 => .object "PictureClues$Narrower"
  | 4 => .array .int
  | 5 => .int
  | 6 => .int
  | 7 => .int
  | _ => .int
theorem nm_Advice : ∀ a, a < 9 → ∀ b, b < 9 → a ≠ b → (T_Advice a).2.1 ≠ (T_Advice b).2.1 := by decide +kernel
theorem tyok_Advice : ∀ k, k < 9 → parseFieldDescriptor (T_Advice k).2.2.1 = some (ty_Advice k) := by decide +kernel
abbrev b_Advice_init : ByteArray := prog_2_method_1_code
def y_Advice_init : MethodName := ⟨R_Advice, "<init>", "(LPictureClues$Grid;LPictureClues$Clues;LPictureClues$Fillings;LPictureClues$Narrower;)V"⟩
def R_J6 : String := "java/lang/Integer"
abbrev b_J6_bitCount_0f7a4 : ByteArray := prog_15_method_49_code
def y_J6_bitCount_0f7a4 : MethodName := ⟨R_J6, "bitCount", "(I)I"⟩
def R_J7 : String := "java/util/Arrays"
abbrev b_J7_fill_53178 : ByteArray := prog_19_method_103_code
def y_J7_fill_53178 : MethodName := ⟨R_J7, "fill", "([II)V"⟩
def R_J13 : String := "java/lang/Long"
abbrev b_J13_bitCount_95d88 : ByteArray := prog_16_method_50_code
def y_J13_bitCount_95d88 : MethodName := ⟨R_J13, "bitCount", "(J)I"⟩
def R_Law : String := "PictureCluesLaw"
abbrev b_Law_cell : ByteArray := method_2_code
def y_Law_cell : MethodName := ⟨R_Law, "cell", "([II)I"⟩
abbrev b_Law_low : ByteArray := method_3_code
def y_Law_low : MethodName := ⟨R_Law, "low", "(II)I"⟩
abbrev b_Law_starts : ByteArray := method_12_code
def y_Law_starts : MethodName := ⟨R_Law, "starts", "(LPictureClues;[I[IIII)Z"⟩
abbrev b_Law_adds : ByteArray := method_13_code
def y_Law_adds : MethodName := ⟨R_Law, "adds", "(LPictureClues;[IIII)Z"⟩
abbrev b_Law_room : ByteArray := method_6_code
def y_Law_room : MethodName := ⟨R_Law, "room", "([II)I"⟩
abbrev b_Law_cells : ByteArray := method_4_code
def y_Law_cells : MethodName := ⟨R_Law, "cells", "([II)I"⟩
abbrev b_Law_areTold : ByteArray := method_16_code
def y_Law_areTold : MethodName := ⟨R_Law, "areTold", "(LPictureClues;[I[I)Z"⟩
abbrev b_Law_isTold : ByteArray := method_15_code
def y_Law_isTold : MethodName := ⟨R_Law, "isTold", "(LPictureClues;[I[II)Z"⟩
abbrev b_Law_fillings : ByteArray := method_7_code
def y_Law_fillings : MethodName := ⟨R_Law, "fillings", "([II)I"⟩
abbrev b_Law_isPossible : ByteArray := method_11_code
def y_Law_isPossible : MethodName := ⟨R_Law, "isPossible", "([I[III)Z"⟩
abbrev b_Law_at : ByteArray := method_5_code
def y_Law_at : MethodName := ⟨R_Law, "at", "([III)I"⟩
abbrev b_Law_color : ByteArray := method_8_code
def y_Law_color : MethodName := ⟨R_Law, "color", "([III)I"⟩
abbrev b_Law_fits : ByteArray := method_10_code
def y_Law_fits : MethodName := ⟨R_Law, "fits", "([III)Z"⟩
abbrev b_Law_runStart : ByteArray := method_9_code
def y_Law_runStart : MethodName := ⟨R_Law, "runStart", "([IIII)I"⟩
abbrev b_Law_known : ByteArray := method_14_code
def y_Law_known : MethodName := ⟨R_Law, "known", "([I[II)I"⟩
def w_C_0 : List Cond := [.code y_Advice_init b_Advice_init 5 none, .methodLink R_Advice 3 objectInit, .instanceMethod objectInit, .code objectInit ⟨#[0xb1]⟩ 1 none, .arrayClass .int, .fieldLink R_Advice 9 "PictureClues$Advice" "numbers" "[I", .fieldLink R_Advice 15 "PictureClues$Advice" "grid" "LPictureClues$Grid;", .fieldLink R_Advice 19 "PictureClues$Advice" "clues" "LPictureClues$Clues;", .fieldLink R_Advice 23 "PictureClues$Advice" "fillings" "LPictureClues$Fillings;", .fieldLink R_Advice 27 "PictureClues$Advice" "narrower" "LPictureClues$Narrower;", .code y_ClueText_init b_ClueText_init 1 none, .methodLink R_ClueText 3 objectInit, .arrayClass .byte, .fieldLink R_ClueText 9 "PictureClues$ClueText" "letters" "[B", .code y_Clues_init b_Clues_init 1 none, .methodLink R_Clues 3 objectInit, .fieldLink R_Clues 9 "PictureClues$Clues" "sizes" "[I", .fieldLink R_Clues 15 "PictureClues$Clues" "rooms" "[I", .fieldLink R_Clues 18 "PictureClues$Clues" "lengths" "[I", .fieldLink R_Clues 21 "PictureClues$Clues" "colors" "[I", .code y_Clues_copyFrom b_Clues_copyFrom 2 none, .fieldLink R_Clues 24 "PictureClues$Clues" "clued" "I", .methodLink R_Clues 28 arraycopyName, .native arraycopyName, .static arraycopyName, .initialized "java/lang/System", .code y_Clues_resetAll b_Clues_resetAll 1 none, .methodLink R_Clues 34 y_J7_fill_53178, .static y_J7_fill_53178, .initialized R_J7, .code y_J7_fill_53178 b_J7_fill_53178 4 none, .code y_Clues_reset b_Clues_reset 3 none, .code y_Clues_has b_Clues_has 2 (some .boolean), .code y_Clues_lengthOf b_Clues_lengthOf 3 (some .int), .code y_Clues_colorOf b_Clues_colorOf 3 (some .int), .code y_Clues_roomWith b_Clues_roomWith 6 (some .int), .methodLink R_Clues 44 y_Clues_colorOf, .instanceMethod y_Clues_colorOf, .selects R_Clues y_Clues_colorOf y_Clues_colorOf, .initialized R_Clues, .code y_Clues_append b_Clues_append 5 none, .methodLink R_Clues 40 y_Clues_roomWith, .instanceMethod y_Clues_roomWith, .selects R_Clues y_Clues_roomWith y_Clues_roomWith, .code y_Clues_gapBefore b_Clues_gapBefore 4 (some .int), .code y_Clues_blocks b_Clues_blocks 3 (some .int), .code y_Fillings_init b_Fillings_init 3 none, .methodLink R_Fillings 3 objectInit, .fieldLink R_Fillings 9 "PictureClues$Fillings" "can" "[I", .fieldLink R_Fillings 15 "PictureClues$Fillings" "lengths" "[I", .fieldLink R_Fillings 18 "PictureClues$Fillings" "colors" "[I", .fieldLink R_Fillings 21 "PictureClues$Fillings" "gaps" "[I", .fieldLink R_Fillings 24 "PictureClues$Fillings" "front" "[I", .fieldLink R_Fillings 27 "PictureClues$Fillings" "back" "[I", .fieldLink R_Fillings 30 "PictureClues$Fillings" "starts" "[I", .fieldLink R_Fillings 33 "PictureClues$Fillings" "left" "[I", .fieldLink R_Fillings 36 "PictureClues$Fillings" "ways" "[I", .fieldLink R_Fillings 39 "PictureClues$Fillings" "nextWays" "[I", .fieldLink R_Fillings 42 "PictureClues$Fillings" "grid" "LPictureClues$Grid;", .fieldLink R_Fillings 46 "PictureClues$Fillings" "clues" "LPictureClues$Clues;"]
def w_C_1 : List Cond := [.code y_Grid_cellsOf b_Grid_cellsOf 2 (some .int), .fieldLink R_Grid 15 "PictureClues$Grid" "height" "I", .fieldLink R_Grid 9 "PictureClues$Grid" "width" "I", .code y_Grid_bitsOf b_Grid_bitsOf 4 (some .int), .constantLong R_Grid 29 (72340172838076673), .constantLong R_Grid 53 (72624976668147840), .fieldLink R_Fillings 122 "PictureClues$Fillings" "line" "I", .fieldLink R_Fillings 57 "PictureClues$Fillings" "size" "I", .fieldLink R_Fillings 61 "PictureClues$Fillings" "cells" "I", .methodLink R_Fillings 136 y_Grid_cellsOf, .instanceMethod y_Grid_cellsOf, .selects R_Grid y_Grid_cellsOf y_Grid_cellsOf, .initialized R_Grid, .methodLink R_Fillings 139 y_Grid_bitsOf, .instanceMethod y_Grid_bitsOf, .selects R_Grid y_Grid_bitsOf y_Grid_bitsOf, .methodLink R_Fillings 143 y_Clues_lengthOf, .instanceMethod y_Clues_lengthOf, .selects R_Clues y_Clues_lengthOf y_Clues_lengthOf, .methodLink R_Fillings 147 y_Clues_colorOf, .methodLink R_Fillings 150 y_Clues_gapBefore, .instanceMethod y_Clues_gapBefore, .selects R_Clues y_Clues_gapBefore y_Clues_gapBefore, .code y_Fillings_look b_Fillings_look 4 none, .code y_Fillings_acrossEmpty b_Fillings_acrossEmpty 6 (some .int), .code y_Fillings_runs b_Fillings_runs 5 (some .int), .code y_Fillings_placeFromFront b_Fillings_placeFromFront 3 none, .methodLink R_Fillings 153 y_Fillings_acrossEmpty, .instanceMethod y_Fillings_acrossEmpty, .selects R_Fillings y_Fillings_acrossEmpty y_Fillings_acrossEmpty, .initialized R_Fillings, .methodLink R_Fillings 156 y_Fillings_runs, .instanceMethod y_Fillings_runs, .selects R_Fillings y_Fillings_runs y_Fillings_runs, .code y_Fillings_backAcrossEmpty b_Fillings_backAcrossEmpty 6 (some .int), .code y_Fillings_placeFromBack b_Fillings_placeFromBack 4 none, .methodLink R_Fillings 159 y_Fillings_backAcrossEmpty, .instanceMethod y_Fillings_backAcrossEmpty, .selects R_Fillings y_Fillings_backAcrossEmpty y_Fillings_backAcrossEmpty, .methodLink R_Fillings 50 y_Fillings_look, .instanceMethod y_Fillings_look, .selects R_Fillings y_Fillings_look y_Fillings_look, .methodLink R_Fillings 54 y_Fillings_placeFromFront, .instanceMethod y_Fillings_placeFromFront, .selects R_Fillings y_Fillings_placeFromFront y_Fillings_placeFromFront, .methodLink R_Fillings 64 y_Fillings_placeFromBack, .instanceMethod y_Fillings_placeFromBack, .selects R_Fillings y_Fillings_placeFromBack y_Fillings_placeFromBack, .code y_Fillings_examine b_Fillings_examine 3 (some .boolean), .code y_Out_lowestBit b_Out_lowestBit 2 (some .int), .methodLink R_Out 197 y_J13_bitCount_95d88, .static y_J13_bitCount_95d88, .initialized R_J13, .code y_J13_bitCount_95d88 b_J13_bitCount_95d88 2 (some .int), .constantLong R_J13 314 (6148914691236517205), .constantLong R_J13 316 (3689348814741910323), .constantLong R_J13 318 (1085102592571150095), .code y_Fillings_earliest b_Fillings_earliest 2 (some .int), .static y_Out_lowestBit, .initialized R_Out]
def w_C_2 : List Cond := [.code y_Out_highestBit b_Out_highestBit 2 (some .int), .methodLink R_Out 150 y_J6_bitCount_0f7a4, .static y_J6_bitCount_0f7a4, .initialized R_J6, .code y_J6_bitCount_0f7a4 b_J6_bitCount_0f7a4 1 (some .int), .constant R_J6 265 (1431655765), .constant R_J6 266 (858993459), .constant R_J6 267 (252645135), .code y_Fillings_latest b_Fillings_latest 2 (some .int), .static y_Out_highestBit, .code y_Fillings_numberWithoutClue b_Fillings_numberWithoutClue 5 (some .int), .code y_Fillings_emptyBefore b_Fillings_emptyBefore 2 (some .boolean), .code y_Fillings_addBlockWays b_Fillings_addBlockWays 6 none, .methodLink R_Fillings 91 y_Fillings_emptyBefore, .instanceMethod y_Fillings_emptyBefore, .selects R_Fillings y_Fillings_emptyBefore y_Fillings_emptyBefore, .methodLink R_Fillings 75 y_Clues_has, .instanceMethod y_Clues_has, .selects R_Clues y_Clues_has y_Clues_has, .methodLink R_Fillings 81 y_Fillings_numberWithoutClue, .instanceMethod y_Fillings_numberWithoutClue, .selects R_Fillings y_Fillings_numberWithoutClue y_Fillings_numberWithoutClue, .methodLink R_Fillings 85 y_J7_fill_53178, .methodLink R_Fillings 94 y_Fillings_addBlockWays, .instanceMethod y_Fillings_addBlockWays, .selects R_Fillings y_Fillings_addBlockWays y_Fillings_addBlockWays, .code y_Fillings_number b_Fillings_number 5 (some .int), .code y_Grid_init b_Grid_init 1 none, .methodLink R_Grid 3 objectInit, .code y_Grid_rectangle b_Grid_rectangle 2 (some .long), .code y_Grid_resize b_Grid_resize 4 none, .fieldLink R_Grid 18 "PictureClues$Grid" "colors" "I", .fieldLink R_Grid 25 "PictureClues$Grid" "all" "J", .methodLink R_Grid 21 y_Grid_rectangle, .static y_Grid_rectangle, .code y_Grid_index b_Grid_index 2 (some .int), .code y_Grid_cell b_Grid_cell 2 (some .long), .methodLink R_Grid 31 y_Grid_index, .static y_Grid_index, .code y_Grid_lines b_Grid_lines 1 (some .int), .code y_Grid_fullMark b_Grid_fullMark 1 (some .int), .code y_Out_isWithin b_Out_isWithin 3 (some .boolean), .code y_Grid_hasLine b_Grid_hasLine 2 (some .boolean), .methodLink R_Grid 35 y_Grid_lines, .instanceMethod y_Grid_lines, .selects R_Grid y_Grid_lines y_Grid_lines, .static y_Out_isWithin, .code y_Grid_hasCell b_Grid_hasCell 3 (some .boolean), .code y_Layer_init b_Layer_init 1 none, .methodLink R_Layer 3 objectInit, .arrayClass .long, .fieldLink R_Layer 9 "PictureClues$Layer" "cells" "[J", .methodLink R_Situation 1 objectInit, .classLink R_Situation 7 R_Clues, .instantiable R_Clues 5, .fieldLink R_Situation 10 "PictureClues$Situation" "clues" "LPictureClues$Clues;", .classLink R_Situation 16 R_Layer, .instantiable R_Layer 1, .initialized R_Layer, .fieldLink R_Situation 19 "PictureClues$Situation" "marks" "LPictureClues$Layer;"]
def w_C_3 : List Cond := [.fieldLink R_Situation 23 "PictureClues$Situation" "picture" "LPictureClues$Layer;", .instanceMethod y_Clues_init, .instanceMethod y_Layer_init, .code y_Situation_init b_Situation_init 1 none, .methodLink R_History 3 objectInit, .classLink R_History 9 R_Situation, .fieldLink R_History 11 "PictureClues$History" "ring" "[LPictureClues$Situation;", .instantiable R_Situation 3, .initialized R_Situation, .instanceMethod y_Situation_init, .code y_History_init b_History_init 2 none, .code y_Layer_copyFrom b_Layer_copyFrom 3 none, .code y_Situation_copyFrom b_Situation_copyFrom 2 none, .methodLink R_Situation 26 y_Clues_copyFrom, .instanceMethod y_Clues_copyFrom, .selects R_Clues y_Clues_copyFrom y_Clues_copyFrom, .methodLink R_Situation 30 y_Layer_copyFrom, .instanceMethod y_Layer_copyFrom, .selects R_Layer y_Layer_copyFrom y_Layer_copyFrom, .fieldLink R_History 18 "PictureClues$History" "next" "I", .fieldLink R_History 26 "PictureClues$History" "states" "I", .methodLink R_History 29 Lib.Math.min.name, .static Lib.Math.min.name, .initialized "java/lang/Math", .code Lib.Math.min.name Lib.Math.min.code 2 (some .int), .methodLink R_History 22 y_Situation_copyFrom, .instanceMethod y_Situation_copyFrom, .selects R_Situation y_Situation_copyFrom y_Situation_copyFrom, .code y_History_record b_History_record 2 none, .code y_History_restore b_History_restore 2 none, .code y_Layer_put b_Layer_put 5 none, .constantLong R_Layer 15 (-1), .code y_Layer_colorsAt b_Layer_colorsAt 5 (some .int), .code y_Layer_doubtful b_Layer_doubtful 5 (some .long), .code y_Narrower_init b_Narrower_init 4 none, .methodLink R_Narrower 3 objectInit, .classLink R_Narrower 9 R_Layer, .fieldLink R_Narrower 12 "PictureClues$Narrower" "marks" "LPictureClues$Layer;", .fieldLink R_Narrower 18 "PictureClues$Narrower" "kept" "LPictureClues$Layer;", .fieldLink R_Narrower 21 "PictureClues$Narrower" "grid" "LPictureClues$Grid;", .fieldLink R_Narrower 25 "PictureClues$Narrower" "clues" "LPictureClues$Clues;", .fieldLink R_Narrower 29 "PictureClues$Narrower" "fillings" "LPictureClues$Fillings;", .code y_Stages_init b_Stages_init 3 none, .methodLink R_Stages 3 objectInit, .fieldLink R_Stages 9 "PictureClues$Stages" "onward" "[I", .fieldLink R_Stages 15 "PictureClues$Stages" "staying" "[I", .fieldLink R_Stages 18 "PictureClues$Stages" "can" "[I", .fieldLink R_Stages 21 "PictureClues$Stages" "possible" "[I", .fieldLink R_Stages 24 "PictureClues$Stages" "numbers" "[I", .fieldLink R_Stages 27 "PictureClues$Stages" "colorsAt" "[I", .fieldLink R_Stages 30 "PictureClues$Stages" "ranksAfter" "[I", .fieldLink R_Stages 33 "PictureClues$Stages" "grid" "LPictureClues$Grid;", .fieldLink R_Stages 37 "PictureClues$Stages" "clues" "LPictureClues$Clues;", .methodLink R_Search 3 objectInit, .classLink R_Search 9 R_Layer, .fieldLink R_Search 12 "PictureClues$Search" "first" "LPictureClues$Layer;", .fieldLink R_Search 18 "PictureClues$Search" "dead" "[J", .fieldLink R_Search 22 "PictureClues$Search" "offsets" "[I", .fieldLink R_Search 26 "PictureClues$Search" "weights" "[I", .fieldLink R_Search 29 "PictureClues$Search" "columns" "[I"]
def w_C_4 : List Cond := [.fieldLink R_Search 32 "PictureClues$Search" "rowsBefore" "[I", .fieldLink R_Search 35 "PictureClues$Search" "columnsBefore" "[I", .fieldLink R_Search 38 "PictureClues$Search" "columnSums" "[I", .fieldLink R_Search 41 "PictureClues$Search" "colorsLeft" "[I", .fieldLink R_Search 44 "PictureClues$Search" "colors" "[I", .fieldLink R_Search 47 "PictureClues$Search" "foundBefore" "[I", .fieldLink R_Search 50 "PictureClues$Search" "grid" "LPictureClues$Grid;", .fieldLink R_Search 54 "PictureClues$Search" "clues" "LPictureClues$Clues;", .fieldLink R_Search 58 "PictureClues$Search" "narrower" "LPictureClues$Narrower;", .classLink R_Search 62 R_Stages, .instantiable R_Stages 9, .initialized R_Stages, .fieldLink R_Search 67 "PictureClues$Search" "stages" "LPictureClues$Stages;", .methodLink R_Search 64 y_Stages_init, .instanceMethod y_Stages_init, .code y_Search_init b_Search_init 4 none, .fieldLink R_Out 12 "PictureClues" "grid" "LPictureClues$Grid;", .fieldLink R_Out 19 "PictureClues" "now" "LPictureClues$Situation;", .constantLong R_Out 195 (-1), .fieldLink R_Out 61 "PictureClues" "narrower" "LPictureClues$Narrower;", .fieldLink R_Out 26 "PictureClues" "history" "LPictureClues$History;", .fieldLink R_Out 79 "PictureClues" "advice" "LPictureClues$Advice;", .methodLink R_Out 343 y_Grid_resize, .instanceMethod y_Grid_resize, .selects R_Grid y_Grid_resize y_Grid_resize, .methodLink R_Out 346 y_Clues_resetAll, .instanceMethod y_Clues_resetAll, .selects R_Clues y_Clues_resetAll y_Clues_resetAll, .methodLink R_Out 202 y_Layer_put, .instanceMethod y_Layer_put, .selects R_Layer y_Layer_put y_Layer_put, .methodLink R_Out 232 y_Grid_fullMark, .instanceMethod y_Grid_fullMark, .selects R_Grid y_Grid_fullMark y_Grid_fullMark, .methodLink R_Out 239 y_Layer_copyFrom, .code y_Out_begin b_Out_begin 4 none, .methodLink R_Out 3 objectInit, .classLink R_Out 9 R_Grid, .instantiable R_Grid 4, .classLink R_Out 16 R_Situation, .classLink R_Out 23 R_History, .instantiable R_History 3, .initialized R_History, .classLink R_Out 30 R_ClueText, .instantiable R_ClueText 3, .initialized R_ClueText, .fieldLink R_Out 33 "PictureClues" "text" "LPictureClues$ClueText;", .classLink R_Out 37 R_Clues, .fieldLink R_Out 40 "PictureClues" "loaded" "LPictureClues$Clues;", .classLink R_Out 44 R_Fillings, .instantiable R_Fillings 15, .fieldLink R_Out 52 "PictureClues" "fillings" "LPictureClues$Fillings;", .classLink R_Out 56 R_Narrower, .instantiable R_Narrower 5, .initialized R_Narrower, .classLink R_Out 65 R_Search, .instantiable R_Search 16, .initialized R_Search, .fieldLink R_Out 70 "PictureClues" "search" "LPictureClues$Search;", .classLink R_Out 74 R_Advice]
def w_C_5 : List Cond := [.instantiable R_Advice 9, .initialized R_Advice, .instanceMethod y_Grid_init, .methodLink R_Out 25 y_History_init, .instanceMethod y_History_init, .instanceMethod y_ClueText_init, .methodLink R_Out 49 y_Fillings_init, .instanceMethod y_Fillings_init, .methodLink R_Out 58 y_Narrower_init, .instanceMethod y_Narrower_init, .methodLink R_Out 67 y_Search_init, .instanceMethod y_Search_init, .methodLink R_Out 76 y_Advice_init, .instanceMethod y_Advice_init, .methodLink R_Out 83 y_Out_begin, .instanceMethod y_Out_begin, .selects R_Out y_Out_begin y_Out_begin, .code y_Out_init b_Out_init 1 none, .methodLink R_Out 87 y_Out_isWithin, .methodLink R_Out 91 y_Grid_lines, .code y_Out_start b_Out_start 4 (some .int), .methodLink R_Out 95 y_Grid_hasLine, .instanceMethod y_Grid_hasLine, .selects R_Grid y_Grid_hasLine y_Grid_hasLine, .methodLink R_Out 103 y_Clues_roomWith, .methodLink R_Out 107 y_Grid_cellsOf, .methodLink R_Out 111 y_History_record, .instanceMethod y_History_record, .selects R_History y_History_record y_History_record, .methodLink R_Out 115 y_Clues_append, .instanceMethod y_Clues_append, .selects R_Clues y_Clues_append y_Clues_append, .code y_Out_addBlock b_Out_addBlock 4 (some .int), .methodLink R_Out 122 y_Clues_has, .methodLink R_Out 125 y_Clues_reset, .instanceMethod y_Clues_reset, .selects R_Clues y_Clues_reset y_Clues_reset, .code y_Out_setClue b_Out_setClue 4 (some .int), .methodLink R_Out 352 y_Fillings_examine, .instanceMethod y_Fillings_examine, .selects R_Fillings y_Fillings_examine y_Fillings_examine, .code y_Out_isWrong b_Out_isWrong 2 (some .boolean), .methodLink R_Out 136 y_Fillings_number, .instanceMethod y_Fillings_number, .selects R_Fillings y_Fillings_number y_Fillings_number, .methodLink R_Out 140 y_Layer_doubtful, .instanceMethod y_Layer_doubtful, .selects R_Layer y_Layer_doubtful y_Layer_doubtful, .methodLink R_Out 146 y_Grid_bitsOf, .methodLink R_Out 155 y_Out_isWrong, .instanceMethod y_Out_isWrong, .selects R_Out y_Out_isWrong y_Out_isWrong, .code y_Out_line b_Out_line 3 (some .int), .methodLink R_Out 158 y_Clues_lengthOf, .methodLink R_Out 162 y_Clues_colorOf, .methodLink R_Out 165 y_Fillings_earliest, .instanceMethod y_Fillings_earliest, .selects R_Fillings y_Fillings_earliest y_Fillings_earliest, .methodLink R_Out 168 y_Fillings_latest, .instanceMethod y_Fillings_latest]
def w_C_6 : List Cond := [.selects R_Fillings y_Fillings_latest y_Fillings_latest, .code y_Out_block b_Out_block 4 (some .int), .methodLink R_Out 171 y_Grid_hasCell, .instanceMethod y_Grid_hasCell, .selects R_Grid y_Grid_hasCell y_Grid_hasCell, .methodLink R_Out 210 y_Grid_cell, .static y_Grid_cell, .methodLink R_Out 235 y_Layer_colorsAt, .instanceMethod y_Layer_colorsAt, .selects R_Layer y_Layer_colorsAt y_Layer_colorsAt, .code y_Out_setMark b_Out_setMark 7 (some .int), .code y_Out_mark b_Out_mark 3 (some .int), .methodLink R_Out 310 y_History_restore, .instanceMethod y_History_restore, .selects R_History y_History_restore y_History_restore, .code y_Out_undo b_Out_undo 1 (some .int), .code y_Out_wrongLines b_Out_wrongLines 3 (some .int), .code y_Out_filledCells b_Out_filledCells 1 (some .int), .code y_Out_fittingLines b_Out_fittingLines 3 (some .int), .methodLink R_Out 276 y_Out_wrongLines, .instanceMethod y_Out_wrongLines, .selects R_Out y_Out_wrongLines y_Out_wrongLines, .methodLink R_Out 229 y_Clues_blocks, .instanceMethod y_Clues_blocks, .selects R_Clues y_Clues_blocks y_Clues_blocks, .methodLink R_Out 273 y_Out_filledCells, .instanceMethod y_Out_filledCells, .selects R_Out y_Out_filledCells y_Out_filledCells, .methodLink R_Out 313 y_Out_fittingLines, .instanceMethod y_Out_fittingLines, .selects R_Out y_Out_fittingLines y_Out_fittingLines, .code y_Out_count b_Out_count 2 (some .int), .static y_Law_cell, .code y_Law_cell b_Law_cell 2 (some .int), .static y_Law_low, .code y_Law_low b_Law_low 2 (some .int), .static y_Law_starts, .code y_Law_starts b_Law_starts 7 (some .boolean), .static y_Law_adds, .code y_Law_adds b_Law_adds 7 (some .boolean), .static y_Law_room, .code y_Law_room b_Law_room 4 (some .int), .static y_Law_cells, .code y_Law_cells b_Law_cells 2 (some .int), .static y_Law_areTold, .code y_Law_areTold b_Law_areTold 7 (some .boolean), .static y_Law_isTold, .code y_Law_isTold b_Law_isTold 10 (some .boolean), .static y_Law_fillings, .code y_Law_fillings b_Law_fillings 4 (some .int), .static y_Law_isPossible, .code y_Law_isPossible b_Law_isPossible 6 (some .boolean), .static y_Law_at, .code y_Law_at b_Law_at 3 (some .int), .static y_Law_color, .code y_Law_color b_Law_color 5 (some .int), .static y_Law_fits, .code y_Law_fits b_Law_fits 8 (some .boolean), .static y_Law_runStart, .code y_Law_runStart b_Law_runStart 7 (some .int)]
def w_C_7 : List Cond := [.static y_Law_known, .code y_Law_known b_Law_known 6 (some .int), .initialized R_Law, .methodLink R_Law 30 y_Out_start, .instanceMethod y_Out_start, .selects R_Out y_Out_start y_Out_start, .methodLink R_Law 39 y_Out_addBlock, .instanceMethod y_Out_addBlock, .selects R_Out y_Out_addBlock y_Out_addBlock, .methodLink R_Law 83 y_Out_setClue, .instanceMethod y_Out_setClue, .selects R_Out y_Out_setClue y_Out_setClue, .methodLink R_Law 87 y_Out_setMark, .instanceMethod y_Out_setMark, .selects R_Out y_Out_setMark y_Out_setMark, .methodLink R_Law 90 y_Out_mark, .instanceMethod y_Out_mark, .selects R_Out y_Out_mark y_Out_mark, .methodLink R_Law 72 y_Out_undo, .instanceMethod y_Out_undo, .selects R_Out y_Out_undo y_Out_undo, .methodLink R_Law 64 y_Out_count, .instanceMethod y_Out_count, .selects R_Out y_Out_count y_Out_count, .methodLink R_Law 69 y_Law_cell, .methodLink R_Law 76 y_Law_low, .methodLink R_Law 79 y_Law_starts, .methodLink R_Law 93 y_Law_adds, .methodLink R_Law 36 y_Law_room, .methodLink R_Law 9 y_Law_cells, .methodLink R_Law 97 y_Law_areTold, .methodLink R_Law 60 y_Law_isTold, .methodLink R_Law 42 y_Law_fillings, .methodLink R_Law 45 y_Law_isPossible, .methodLink R_Law 23 y_Law_at, .methodLink R_Law 15 y_Law_color, .methodLink R_Law 26 y_Law_fits, .methodLink R_Law 19 y_Law_runStart, .methodLink R_Law 49 y_Out_line, .instanceMethod y_Out_line, .selects R_Out y_Out_line y_Out_line, .methodLink R_Law 53 y_Law_known, .methodLink R_Law 57 y_Out_block, .instanceMethod y_Out_block, .selects R_Out y_Out_block y_Out_block, .constant R_Law 7 1013904223, .constant R_Law 8 2147483647, .classLink R_Law 31 R_Out]
def w_C : List Cond := w_C_0 ++ (w_C_1 ++ (w_C_2 ++ (w_C_3 ++ (w_C_4 ++ (w_C_5 ++ (w_C_6 ++ (w_C_7 ++ ((u_ws R_Out T_Out 9) ++ ((u_ws R_Grid T_Grid 4) ++ ((u_ws R_Situation T_Situation 3) ++ ((u_ws R_Clues T_Clues 5) ++ ((u_ws R_Layer T_Layer 1) ++ ((u_ws R_History T_History 3) ++ ((u_ws R_ClueText T_ClueText 3) ++ ((u_ws R_Fillings T_Fillings 15) ++ ((u_ws R_Narrower T_Narrower 5) ++ ((u_ws R_Search T_Search 16) ++ ((u_ws R_Stages T_Stages 9) ++ ((u_ws R_Advice T_Advice 9))))))))))))))))))))
theorem w_C_good : w_C.all goodWord = true := by decide +kernel
theorem w_C_h0 {w : Cond} (i : Nat) (h : w_C_0[i]? = some w) : w ∈ w_C := by
  unfold w_C
  simp only [List.mem_append]
  exact Or.inl (List.mem_of_getElem? h)
theorem w_C_h1 {w : Cond} (i : Nat) (h : w_C_1[i]? = some w) : w ∈ w_C := by
  unfold w_C
  simp only [List.mem_append]
  exact Or.inr (Or.inl (List.mem_of_getElem? h))
theorem w_C_h2 {w : Cond} (i : Nat) (h : w_C_2[i]? = some w) : w ∈ w_C := by
  unfold w_C
  simp only [List.mem_append]
  exact Or.inr (Or.inr (Or.inl (List.mem_of_getElem? h)))
theorem w_C_h3 {w : Cond} (i : Nat) (h : w_C_3[i]? = some w) : w ∈ w_C := by
  unfold w_C
  simp only [List.mem_append]
  exact Or.inr (Or.inr (Or.inr (Or.inl (List.mem_of_getElem? h))))
theorem w_C_h4 {w : Cond} (i : Nat) (h : w_C_4[i]? = some w) : w ∈ w_C := by
  unfold w_C
  simp only [List.mem_append]
  exact Or.inr (Or.inr (Or.inr (Or.inr (Or.inl (List.mem_of_getElem? h)))))
theorem w_C_h5 {w : Cond} (i : Nat) (h : w_C_5[i]? = some w) : w ∈ w_C := by
  unfold w_C
  simp only [List.mem_append]
  exact Or.inr (Or.inr (Or.inr (Or.inr (Or.inr (Or.inl (List.mem_of_getElem? h))))))
theorem w_C_h6 {w : Cond} (i : Nat) (h : w_C_6[i]? = some w) : w ∈ w_C := by
  unfold w_C
  simp only [List.mem_append]
  exact Or.inr (Or.inr (Or.inr (Or.inr (Or.inr (Or.inr (Or.inl (List.mem_of_getElem? h)))))))
theorem w_C_h7 {w : Cond} (i : Nat) (h : w_C_7[i]? = some w) : w ∈ w_C := by
  unfold w_C
  simp only [List.mem_append]
  exact Or.inr (Or.inr (Or.inr (Or.inr (Or.inr (Or.inr (Or.inr (Or.inl (List.mem_of_getElem? h))))))))
theorem w_C_lay_Out : ∀ w ∈ u_ws R_Out T_Out 9, w ∈ w_C := fun w h => by
  unfold w_C
  simp only [List.mem_append]
  exact Or.inr (Or.inr (Or.inr (Or.inr (Or.inr (Or.inr (Or.inr (Or.inr (Or.inl h))))))))
theorem w_C_lay_Grid : ∀ w ∈ u_ws R_Grid T_Grid 4, w ∈ w_C := fun w h => by
  unfold w_C
  simp only [List.mem_append]
  exact Or.inr (Or.inr (Or.inr (Or.inr (Or.inr (Or.inr (Or.inr (Or.inr (Or.inr (Or.inl h)))))))))
theorem w_C_lay_Situation : ∀ w ∈ u_ws R_Situation T_Situation 3, w ∈ w_C := fun w h => by
  unfold w_C
  simp only [List.mem_append]
  exact Or.inr (Or.inr (Or.inr (Or.inr (Or.inr (Or.inr (Or.inr (Or.inr (Or.inr (Or.inr (Or.inl h))))))))))
theorem w_C_lay_Clues : ∀ w ∈ u_ws R_Clues T_Clues 5, w ∈ w_C := fun w h => by
  unfold w_C
  simp only [List.mem_append]
  exact Or.inr (Or.inr (Or.inr (Or.inr (Or.inr (Or.inr (Or.inr (Or.inr (Or.inr (Or.inr (Or.inr (Or.inl h)))))))))))
theorem w_C_lay_Layer : ∀ w ∈ u_ws R_Layer T_Layer 1, w ∈ w_C := fun w h => by
  unfold w_C
  simp only [List.mem_append]
  exact Or.inr (Or.inr (Or.inr (Or.inr (Or.inr (Or.inr (Or.inr (Or.inr (Or.inr (Or.inr (Or.inr (Or.inr (Or.inl h))))))))))))
theorem w_C_lay_History : ∀ w ∈ u_ws R_History T_History 3, w ∈ w_C := fun w h => by
  unfold w_C
  simp only [List.mem_append]
  exact Or.inr (Or.inr (Or.inr (Or.inr (Or.inr (Or.inr (Or.inr (Or.inr (Or.inr (Or.inr (Or.inr (Or.inr (Or.inr (Or.inl h)))))))))))))
theorem w_C_lay_ClueText : ∀ w ∈ u_ws R_ClueText T_ClueText 3, w ∈ w_C := fun w h => by
  unfold w_C
  simp only [List.mem_append]
  exact Or.inr (Or.inr (Or.inr (Or.inr (Or.inr (Or.inr (Or.inr (Or.inr (Or.inr (Or.inr (Or.inr (Or.inr (Or.inr (Or.inr (Or.inl h))))))))))))))
theorem w_C_lay_Fillings : ∀ w ∈ u_ws R_Fillings T_Fillings 15, w ∈ w_C := fun w h => by
  unfold w_C
  simp only [List.mem_append]
  exact Or.inr (Or.inr (Or.inr (Or.inr (Or.inr (Or.inr (Or.inr (Or.inr (Or.inr (Or.inr (Or.inr (Or.inr (Or.inr (Or.inr (Or.inr (Or.inl h)))))))))))))))
theorem w_C_lay_Narrower : ∀ w ∈ u_ws R_Narrower T_Narrower 5, w ∈ w_C := fun w h => by
  unfold w_C
  simp only [List.mem_append]
  exact Or.inr (Or.inr (Or.inr (Or.inr (Or.inr (Or.inr (Or.inr (Or.inr (Or.inr (Or.inr (Or.inr (Or.inr (Or.inr (Or.inr (Or.inr (Or.inr (Or.inl h))))))))))))))))
theorem w_C_lay_Search : ∀ w ∈ u_ws R_Search T_Search 16, w ∈ w_C := fun w h => by
  unfold w_C
  simp only [List.mem_append]
  exact Or.inr (Or.inr (Or.inr (Or.inr (Or.inr (Or.inr (Or.inr (Or.inr (Or.inr (Or.inr (Or.inr (Or.inr (Or.inr (Or.inr (Or.inr (Or.inr (Or.inr (Or.inl h)))))))))))))))))
theorem w_C_lay_Stages : ∀ w ∈ u_ws R_Stages T_Stages 9, w ∈ w_C := fun w h => by
  unfold w_C
  simp only [List.mem_append]
  exact Or.inr (Or.inr (Or.inr (Or.inr (Or.inr (Or.inr (Or.inr (Or.inr (Or.inr (Or.inr (Or.inr (Or.inr (Or.inr (Or.inr (Or.inr (Or.inr (Or.inr (Or.inr (Or.inl h))))))))))))))))))
theorem w_C_lay_Advice : ∀ w ∈ u_ws R_Advice T_Advice 9, w ∈ w_C := fun w h => by
  unfold w_C
  simp only [List.mem_append]
  exact Or.inr (Or.inr (Or.inr (Or.inr (Or.inr (Or.inr (Or.inr (Or.inr (Or.inr (Or.inr (Or.inr (Or.inr (Or.inr (Or.inr (Or.inr (Or.inr (Or.inr (Or.inr (Or.inr (h)))))))))))))))))))
theorem w_C_G {c0 : Cond} {own C : String} {idx : Nat} {y : MethodName} {b : ByteArray} {m : Nat} {r : Option FieldType} (h1 : Cond.methodLink own idx y ∈ w_C) (h2 : Cond.instanceMethod y ∈ w_C) (h3 : Cond.selects C y y ∈ w_C) (h4 : Cond.initialized C ∈ w_C) (h5 : Cond.code y b m r ∈ w_C) : GoodIn (c0 :: w_C) (wsV own idx C y (Cond.code y b m r :: w_C)) := by
  intro w hw
  have hm : w ∈ w_C := by
    simp only [wsV, List.mem_append, List.mem_cons, List.not_mem_nil, or_false] at hw
    rcases hw with (rfl | rfl | rfl | rfl) | rfl | h
    · exact h1
    · exact h2
    · exact h3
    · exact h4
    · exact h5
    · exact h
  exact ⟨List.mem_cons_of_mem _ hm, good_of_word (List.all_eq_true.mp w_C_good w hm)⟩
theorem w_C_GS {c0 : Cond} {own : String} {idx : Nat} {y : MethodName} {b : ByteArray} {m : Nat} {r : Option FieldType} (h1 : Cond.methodLink own idx y ∈ w_C) (h2 : Cond.static y ∈ w_C) (h4 : Cond.initialized y.cls ∈ w_C) (h5 : Cond.code y b m r ∈ w_C) : GoodIn (c0 :: w_C) (va_wsS own idx y (Cond.code y b m r :: w_C)) := by
  intro w hw
  have hm : w ∈ w_C := by
    simp only [va_wsS, List.mem_append, List.mem_cons, List.not_mem_nil, or_false] at hw
    rcases hw with (rfl | rfl | rfl) | rfl | h
    · exact h1
    · exact h2
    · exact h4
    · exact h5
    · exact h
  exact ⟨List.mem_cons_of_mem _ hm, good_of_word (List.all_eq_true.mp w_C_good w hm)⟩
def fx_nth {α : Type} : List α → Nat → Option α
  | [], _ => none
  | a :: _, 0 => some a
  | _ :: l, n + 1 => fx_nth l n
def kdL : List (List Nat) := [[2, 2, 2, 2, 2, 2, 2, 2, 2], [0, 0, 0, 1], [2, 2, 2], [0, 2, 2, 2, 2], [2], [2, 0, 0], [2, 0, 0], [2, 2, 0, 0, 0, 2, 2, 2, 2, 2, 2, 2, 2, 2, 2], [2, 2, 2, 2, 2], [2, 2, 2, 2, 2, 2, 2, 2, 2, 2, 2, 2, 2, 2, 2, 0], [2, 2, 2, 2, 2, 2, 2, 2, 2], [2, 2, 2, 2, 2, 0, 0, 0, 0]]
def kd_C : Nat → Nat → Nat := fun ci j => ((fx_nth kdL ci).bind (fun l => fx_nth l j)).getD 2
def plL : List (Nat ⊕ (Nat × Nat)) := [.inl 0, .inl 1, .inl 2, .inl 3, .inr (0, 16), .inr (0, 16), .inr (0, 128), .inr (0, 128), .inl 4, .inr (1, 4), .inl 4, .inr (1, 4), .inl 5, .inr (3, 8), .inl 2, .inl 3, .inr (0, 16), .inr (0, 16), .inr (0, 128), .inr (0, 128), .inl 4, .inr (1, 4), .inl 4, .inr (1, 4), .inl 2, .inl 3, .inr (0, 16), .inr (0, 16), .inr (0, 128), .inr (0, 128), .inl 4, .inr (1, 4), .inl 4, .inr (1, 4), .inl 2, .inl 3, .inr (0, 16), .inr (0, 16), .inr (0, 128), .inr (0, 128), .inl 4, .inr (1, 4), .inl 4, .inr (1, 4), .inl 2, .inl 3, .inr (0, 16), .inr (0, 16), .inr (0, 128), .inr (0, 128), .inl 4, .inr (1, 4), .inl 4, .inr (1, 4), .inl 2, .inl 3, .inr (0, 16), .inr (0, 16), .inr (0, 128), .inr (0, 128), .inl 4, .inr (1, 4), .inl 4, .inr (1, 4), .inl 2, .inl 3, .inr (0, 16), .inr (0, 16), .inr (0, 128), .inr (0, 128), .inl 4, .inr (1, 4), .inl 4, .inr (1, 4), .inl 2, .inl 3, .inr (0, 16), .inr (0, 16), .inr (0, 128), .inr (0, 128), .inl 4, .inr (1, 4), .inl 4, .inr (1, 4), .inl 2, .inl 3, .inr (0, 16), .inr (0, 16), .inr (0, 128), .inr (0, 128), .inl 4, .inr (1, 4), .inl 4, .inr (1, 4), .inl 6, .inr (2, 120), .inl 3, .inr (0, 16), .inr (0, 16), .inr (0, 128), .inr (0, 128), .inl 7, .inr (0, 4), .inr (0, 8), .inr (0, 8), .inr (0, 8), .inr (0, 9), .inr (0, 9), .inr (0, 8), .inr (0, 4), .inr (0, 9), .inr (0, 9), .inl 8, .inl 4, .inr (1, 4), .inl 4, .inr (1, 4), .inl 9, .inl 4, .inr (1, 4), .inr (1, 0), .inr (0, 64), .inr (0, 64), .inr (0, 8), .inr (0, 64), .inr (0, 64), .inr (0, 64), .inr (0, 64), .inr (0, 64), .inr (0, 64), .inl 10, .inr (0, 4), .inr (0, 4), .inr (0, 4), .inr (0, 9), .inr (0, 144), .inr (0, 640), .inr (0, 2560), .inl 11, .inr (0, 16)]
def pl_C (n : Nat) : Nat → Option (Nat ⊕ (Nat × Nat)) := fun q => if q = 120 then some (.inr (1, n)) else fx_nth plL q
def MC (n : Nat) : fx_M := ([(R_Out, T_Out, 9), (R_Grid, T_Grid, 4), (R_Situation, T_Situation, 3), (R_Clues, T_Clues, 5), (R_Layer, T_Layer, 1), (R_History, T_History, 3), (R_ClueText, T_ClueText, 3), (R_Fillings, T_Fillings, 15), (R_Narrower, T_Narrower, 5), (R_Search, T_Search, 16), (R_Stages, T_Stages, 9), (R_Advice, T_Advice, 9)], kd_C, pl_C n, 140, [.int, .long, .byte, .object R_Situation])
theorem fx_nth_lt {α : Type} : ∀ {l : List α} {i : Nat} {x : α}, fx_nth l i = some x → i < l.length
  | [], _, _, h => by cases h
  | _ :: _, 0, _, _ => Nat.succ_pos _
  | _ :: l, i + 1, _, h => Nat.succ_lt_succ (fx_nth_lt (l := l) h)
theorem plL_len : plL.length = 140 := by decide +kernel
theorem MC_ok (n : Nat) : fx_ok (MC n) := by
  refine ⟨fun q x h => ?_, rfl⟩
  show q < 140
  have h2 : pl_C n q = some x := h
  unfold pl_C at h2
  split at h2
  · omega
  · have := fx_nth_lt h2
    rw [plL_len] at this
    exact this
theorem plL_ty : ∀ q, q < 140 → ∀ i, i < 4 ∨ (fx_nth plL q).all (fun x => match x with | .inl _ => true | .inr (t, _) => decide (t < 4)) = true := by
  intro q hq i
  right
  have key : (List.range 140).all (fun q => (fx_nth plL q).all (fun x => match x with | .inl _ => true | .inr (t, _) => decide (t < 4))) = true := by decide +kernel
  exact List.all_eq_true.mp key q (List.mem_range.mpr hq)
theorem MC_tys (n : Nat) : fx_tys (MC n) := by
  intro q i m h
  have h2 : pl_C n q = some (.inr (i, m)) := h
  have hi : i < 4 := by
    unfold pl_C at h2
    split at h2
    · cases h2
      omega
    · have hq := fx_nth_lt h2
      rw [plL_len] at hq
      rcases plL_ty q hq 4 with h3 | h3
      · omega
      · rw [h2] at h3
        simpa using h3
  rcases (show i = 0 ∨ i = 1 ∨ i = 2 ∨ i = 3 by omega) with rfl | rfl | rfl | rfl
  · exact Or.inl ⟨rfl, rfl⟩
  · exact Or.inr (Or.inl ⟨rfl, rfl⟩)
  · exact Or.inr (Or.inr (Or.inl ⟨rfl, rfl⟩))
  · exact Or.inr (Or.inr (Or.inr ⟨rfl, _, rfl⟩))
def rfL : List (List (Option Nat)) := [[some 1, some 2, some 12, some 94, some 96, some 101, some 112, some 117, some 138], [], [some 3, some 8, some 10], [none, some 4, some 5, some 6, some 7], [], [], [], [], [some 9], [], [some 11], [], [some 13], [some 14, some 24, some 34, some 44, some 54, some 64, some 74, some 84], [some 15, some 20, some 22], [none, some 16, some 17, some 18, some 19], [], [], [], [], [some 21], [], [some 23], [], [some 25, some 30, some 32], [none, some 26, some 27, some 28, some 29], [], [], [], [], [some 31], [], [some 33], [], [some 35, some 40, some 42], [none, some 36, some 37, some 38, some 39], [], [], [], [], [some 41], [], [some 43], [], [some 45, some 50, some 52], [none, some 46, some 47, some 48, some 49], [], [], [], [], [some 51], [], [some 53], [], [some 55, some 60, some 62], [none, some 56, some 57, some 58, some 59], [], [], [], [], [some 61], [], [some 63], [], [some 65, some 70, some 72], [none, some 66, some 67, some 68, some 69], [], [], [], [], [some 71], [], [some 73], [], [some 75, some 80, some 82], [none, some 76, some 77, some 78, some 79], [], [], [], [], [some 81], [], [some 83], [], [some 85, some 90, some 92], [none, some 86, some 87, some 88, some 89], [], [], [], [], [some 91], [], [some 93], [], [some 95], [], [none, some 97, some 98, some 99, some 100], [], [], [], [], [some 1, some 3, none, none, none, some 102, some 103, some 104, some 105, some 106, some 107, some 108, some 109, none, none], [], [], [], [], [], [], [], [], [], [], [some 1, some 3, some 101, some 113, some 115], [some 114], [], [some 116], [], [some 1, some 3, some 112, some 130, some 118, some 120, some 121, some 122, some 123, some 124, some 125, some 126, some 127, some 128, some 129], [some 119], [], [], [], [], [], [], [], [], [], [], [], [some 1, some 3, some 131, some 132, some 133, some 134, some 135, some 136, some 137], [], [], [], [], [], [], [], [some 1, some 3, some 101, some 112, some 139], []]
def R0C (b : Bool) : fx_MR := fun q j => if q = 101 ∧ j = 13 then some (if b then 111 else 110) else if q = 101 ∧ j = 14 then some (if b then 110 else 111) else ((fx_nth rfL q).bind (fun l => fx_nth l j)).join
theorem pl_C_0 {n : Nat} : (MC n).2.2.1 0 = some (.inl 0) := rfl
theorem pl_C_1 {n : Nat} : (MC n).2.2.1 1 = some (.inl 1) := rfl
theorem pl_C_2 {n : Nat} : (MC n).2.2.1 2 = some (.inl 2) := rfl
theorem pl_C_3 {n : Nat} : (MC n).2.2.1 3 = some (.inl 3) := rfl
theorem pl_C_4 {n : Nat} : (MC n).2.2.1 4 = some (.inr (0, 16)) := rfl
theorem pl_C_5 {n : Nat} : (MC n).2.2.1 5 = some (.inr (0, 16)) := rfl
theorem pl_C_6 {n : Nat} : (MC n).2.2.1 6 = some (.inr (0, 128)) := rfl
theorem pl_C_7 {n : Nat} : (MC n).2.2.1 7 = some (.inr (0, 128)) := rfl
theorem pl_C_8 {n : Nat} : (MC n).2.2.1 8 = some (.inl 4) := rfl
theorem pl_C_9 {n : Nat} : (MC n).2.2.1 9 = some (.inr (1, 4)) := rfl
theorem pl_C_10 {n : Nat} : (MC n).2.2.1 10 = some (.inl 4) := rfl
theorem pl_C_11 {n : Nat} : (MC n).2.2.1 11 = some (.inr (1, 4)) := rfl
theorem pl_C_12 {n : Nat} : (MC n).2.2.1 12 = some (.inl 5) := rfl
theorem pl_C_13 {n : Nat} : (MC n).2.2.1 13 = some (.inr (3, 8)) := rfl
theorem pl_C_94 {n : Nat} : (MC n).2.2.1 94 = some (.inl 6) := rfl
theorem pl_C_96 {n : Nat} : (MC n).2.2.1 96 = some (.inl 3) := rfl
theorem pl_C_97 {n : Nat} : (MC n).2.2.1 97 = some (.inr (0, 16)) := rfl
theorem pl_C_98 {n : Nat} : (MC n).2.2.1 98 = some (.inr (0, 16)) := rfl
theorem pl_C_99 {n : Nat} : (MC n).2.2.1 99 = some (.inr (0, 128)) := rfl
theorem pl_C_100 {n : Nat} : (MC n).2.2.1 100 = some (.inr (0, 128)) := rfl
theorem pl_C_101 {n : Nat} : (MC n).2.2.1 101 = some (.inl 7) := rfl
theorem pl_C_102 {n : Nat} : (MC n).2.2.1 102 = some (.inr (0, 4)) := rfl
theorem pl_C_103 {n : Nat} : (MC n).2.2.1 103 = some (.inr (0, 8)) := rfl
theorem pl_C_104 {n : Nat} : (MC n).2.2.1 104 = some (.inr (0, 8)) := rfl
theorem pl_C_105 {n : Nat} : (MC n).2.2.1 105 = some (.inr (0, 8)) := rfl
theorem pl_C_106 {n : Nat} : (MC n).2.2.1 106 = some (.inr (0, 9)) := rfl
theorem pl_C_107 {n : Nat} : (MC n).2.2.1 107 = some (.inr (0, 9)) := rfl
theorem pl_C_108 {n : Nat} : (MC n).2.2.1 108 = some (.inr (0, 8)) := rfl
theorem pl_C_110 {n : Nat} : (MC n).2.2.1 110 = some (.inr (0, 9)) := rfl
theorem pl_C_111 {n : Nat} : (MC n).2.2.1 111 = some (.inr (0, 9)) := rfl
theorem pl_C_112 {n : Nat} : (MC n).2.2.1 112 = some (.inl 8) := rfl
theorem pl_C_113 {n : Nat} : (MC n).2.2.1 113 = some (.inl 4) := rfl
theorem pl_C_114 {n : Nat} : (MC n).2.2.1 114 = some (.inr (1, 4)) := rfl
theorem pl_C_115 {n : Nat} : (MC n).2.2.1 115 = some (.inl 4) := rfl
theorem pl_C_116 {n : Nat} : (MC n).2.2.1 116 = some (.inr (1, 4)) := rfl
theorem pl_C_118 {n : Nat} : (MC n).2.2.1 118 = some (.inl 4) := rfl
theorem pl_C_119 {n : Nat} : (MC n).2.2.1 119 = some (.inr (1, 4)) := rfl
theorem pl_C_138 {n : Nat} : (MC n).2.2.1 138 = some (.inl 11) := rfl
theorem kd_C_0_0 {n : Nat} : (MC n).2.1 0 0 = 2 := rfl
theorem kd_C_0_1 {n : Nat} : (MC n).2.1 0 1 = 2 := rfl
theorem kd_C_0_2 {n : Nat} : (MC n).2.1 0 2 = 2 := rfl
theorem kd_C_0_3 {n : Nat} : (MC n).2.1 0 3 = 2 := rfl
theorem kd_C_0_5 {n : Nat} : (MC n).2.1 0 5 = 2 := rfl
theorem kd_C_0_6 {n : Nat} : (MC n).2.1 0 6 = 2 := rfl
theorem kd_C_0_8 {n : Nat} : (MC n).2.1 0 8 = 2 := rfl
theorem R0C_0_0 {b : Bool} : R0C b 0 0 = some 1 := rfl
theorem R0C_0_1 {b : Bool} : R0C b 0 1 = some 2 := rfl
theorem R0C_0_2 {b : Bool} : R0C b 0 2 = some 12 := rfl
theorem R0C_0_3 {b : Bool} : R0C b 0 3 = some 94 := rfl
theorem R0C_0_5 {b : Bool} : R0C b 0 5 = some 101 := rfl
theorem R0C_0_6 {b : Bool} : R0C b 0 6 = some 112 := rfl
theorem R0C_0_8 {b : Bool} : R0C b 0 8 = some 138 := rfl
theorem kd_C_1_0 {n : Nat} : (MC n).2.1 1 0 = 0 := rfl
theorem kd_C_1_1 {n : Nat} : (MC n).2.1 1 1 = 0 := rfl
theorem kd_C_1_2 {n : Nat} : (MC n).2.1 1 2 = 0 := rfl
theorem kd_C_1_3 {n : Nat} : (MC n).2.1 1 3 = 1 := rfl
theorem kd_C_2_0 {n : Nat} : (MC n).2.1 2 0 = 2 := rfl
theorem kd_C_2_1 {n : Nat} : (MC n).2.1 2 1 = 2 := rfl
theorem kd_C_2_2 {n : Nat} : (MC n).2.1 2 2 = 2 := rfl
theorem R0C_2_0 {b : Bool} : R0C b 2 0 = some 3 := rfl
theorem R0C_2_1 {b : Bool} : R0C b 2 1 = some 8 := rfl
theorem R0C_2_2 {b : Bool} : R0C b 2 2 = some 10 := rfl
theorem kd_C_3_0 {n : Nat} : (MC n).2.1 3 0 = 0 := rfl
theorem kd_C_3_1 {n : Nat} : (MC n).2.1 3 1 = 2 := rfl
theorem kd_C_3_2 {n : Nat} : (MC n).2.1 3 2 = 2 := rfl
theorem kd_C_3_3 {n : Nat} : (MC n).2.1 3 3 = 2 := rfl
theorem kd_C_3_4 {n : Nat} : (MC n).2.1 3 4 = 2 := rfl
theorem R0C_3_1 {b : Bool} : R0C b 3 1 = some 4 := rfl
theorem R0C_3_2 {b : Bool} : R0C b 3 2 = some 5 := rfl
theorem R0C_3_3 {b : Bool} : R0C b 3 3 = some 6 := rfl
theorem R0C_3_4 {b : Bool} : R0C b 3 4 = some 7 := rfl
theorem R0C_96_1 {b : Bool} : R0C b 96 1 = some 97 := rfl
theorem R0C_96_2 {b : Bool} : R0C b 96 2 = some 98 := rfl
theorem R0C_96_3 {b : Bool} : R0C b 96 3 = some 99 := rfl
theorem R0C_96_4 {b : Bool} : R0C b 96 4 = some 100 := rfl
theorem kd_C_4_0 {n : Nat} : (MC n).2.1 4 0 = 2 := rfl
theorem R0C_8_0 {b : Bool} : R0C b 8 0 = some 9 := rfl
theorem R0C_10_0 {b : Bool} : R0C b 10 0 = some 11 := rfl
theorem R0C_113_0 {b : Bool} : R0C b 113 0 = some 114 := rfl
theorem R0C_115_0 {b : Bool} : R0C b 115 0 = some 116 := rfl
theorem R0C_118_0 {b : Bool} : R0C b 118 0 = some 119 := rfl
theorem kd_C_5_0 {n : Nat} : (MC n).2.1 5 0 = 2 := rfl
theorem kd_C_5_1 {n : Nat} : (MC n).2.1 5 1 = 0 := rfl
theorem kd_C_5_2 {n : Nat} : (MC n).2.1 5 2 = 0 := rfl
theorem R0C_12_0 {b : Bool} : R0C b 12 0 = some 13 := rfl
theorem kd_C_6_1 {n : Nat} : (MC n).2.1 6 1 = 0 := rfl
theorem kd_C_7_0 {n : Nat} : (MC n).2.1 7 0 = 2 := rfl
theorem kd_C_7_1 {n : Nat} : (MC n).2.1 7 1 = 2 := rfl
theorem kd_C_7_2 {n : Nat} : (MC n).2.1 7 2 = 0 := rfl
theorem kd_C_7_3 {n : Nat} : (MC n).2.1 7 3 = 0 := rfl
theorem kd_C_7_4 {n : Nat} : (MC n).2.1 7 4 = 0 := rfl
theorem kd_C_7_5 {n : Nat} : (MC n).2.1 7 5 = 2 := rfl
theorem kd_C_7_6 {n : Nat} : (MC n).2.1 7 6 = 2 := rfl
theorem kd_C_7_7 {n : Nat} : (MC n).2.1 7 7 = 2 := rfl
theorem kd_C_7_8 {n : Nat} : (MC n).2.1 7 8 = 2 := rfl
theorem kd_C_7_9 {n : Nat} : (MC n).2.1 7 9 = 2 := rfl
theorem kd_C_7_10 {n : Nat} : (MC n).2.1 7 10 = 2 := rfl
theorem kd_C_7_11 {n : Nat} : (MC n).2.1 7 11 = 2 := rfl
theorem kd_C_7_13 {n : Nat} : (MC n).2.1 7 13 = 2 := rfl
theorem kd_C_7_14 {n : Nat} : (MC n).2.1 7 14 = 2 := rfl
theorem R0C_101_0 {b : Bool} : R0C b 101 0 = some 1 := rfl
theorem R0C_101_1 {b : Bool} : R0C b 101 1 = some 3 := rfl
theorem R0C_101_5 {b : Bool} : R0C b 101 5 = some 102 := rfl
theorem R0C_101_6 {b : Bool} : R0C b 101 6 = some 103 := rfl
theorem R0C_101_7 {b : Bool} : R0C b 101 7 = some 104 := rfl
theorem R0C_101_8 {b : Bool} : R0C b 101 8 = some 105 := rfl
theorem R0C_101_9 {b : Bool} : R0C b 101 9 = some 106 := rfl
theorem R0C_101_10 {b : Bool} : R0C b 101 10 = some 107 := rfl
theorem R0C_101_11 {b : Bool} : R0C b 101 11 = some 108 := rfl
theorem kd_C_8_3 {n : Nat} : (MC n).2.1 8 3 = 2 := rfl
theorem R0C_112_3 {b : Bool} : R0C b 112 3 = some 113 := rfl
theorem kd_C_11_5 {n : Nat} : (MC n).2.1 11 5 = 0 := rfl
theorem R0C_101_13 {b : Bool} : R0C b 101 13 = some (if b then 111 else 110) := rfl
theorem R0C_101_14 {b : Bool} : R0C b 101 14 = some (if b then 110 else 111) := rfl
