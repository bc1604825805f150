/-! NAMES of the reference, by an own text program out of the printed names -/
def R_M : String := "PictureCluesModel"
def T_M : u_T := fun k => match k with
  | 0 => ("PictureCluesModel", "m", "[I", true)
  | 1 => ("PictureCluesModel", "past", "[I", true)
  | 2 => ("PictureCluesModel", "undos", "I", false)
  | 3 => ("PictureCluesModel", "w", "I", false)
  | 4 => ("PictureCluesModel", "h", "I", false)
  | 5 => ("PictureCluesModel", "colors", "I", false)
  | 6 => ("PictureCluesModel", "hintLevel", "I", false)
  | 7 => ("PictureCluesModel", "hintCell", "I", false)
  | 8 => ("PictureCluesModel", "hintMark", "I", false)
  | 9 => ("PictureCluesModel", "hintLine", "I", false)
  | 10 => ("PictureCluesModel", "starts", "[I", true)
  | 11 => ("PictureCluesModel", "filling", "[I", true)
  | 12 => ("PictureCluesModel", "fillingStart", "[I", true)
  | 13 => ("PictureCluesModel", "fillings", "I", false)
  | 14 => ("PictureCluesModel", "early", "[I", true)
  | 15 => ("PictureCluesModel", "late", "[I", true)
  | 16 => ("PictureCluesModel", "next", "[I", true)
  | 17 => ("PictureCluesModel", "aside", "[I", true)
  | 18 => ("PictureCluesModel", "text", "[I", true)
  | 19 => ("PictureCluesModel", "textLength", "I", false)
  | 20 => ("PictureCluesModel", "place", "I", false)
  | 21 => ("PictureCluesModel", "fault", "I", false)
  | 22 => ("PictureCluesModel", "read", "[I", true)
  | 23 => ("PictureCluesModel", "before", "[I", true)
  | 24 => ("PictureCluesModel", "after", "[I", true)
  | 25 => ("PictureCluesModel", "solution", "[I", true)
  | 26 => ("PictureCluesModel", "levels", "[J", true)
  | 27 => ("PictureCluesModel", "triedCell", "[I", true)
  | 28 => ("PictureCluesModel", "triedColor", "[I", true)
  | _ => ("PictureCluesModel", "hash", "J", false)
def ty_M : Nat → FieldType := fun k => match k with
  | 0 => .array .int
  | 1 => .array .int
  | 2 => .int
  | 3 => .int
  | 4 => .int
  | 5 => .int
  | 6 => .int
  | 7 => .int
  | 8 => .int
  | 9 => .int
  | 10 => .array .int
  | 11 => .array .int
  | 12 => .array .int
  | 13 => .int
  | 14 => .array .int
  | 15 => .array .int
  | 16 => .array .int
  | 17 => .array .int
  | 18 => .array .int
  | 19 => .int
  | 20 => .int
  | 21 => .int
  | 22 => .array .int
  | 23 => .array .int
  | 24 => .array .int
  | 25 => .array .int
  | 26 => .array .long
  | 27 => .array .int
  | 28 => .array .int
  | _ => .long
theorem nm_M : ∀ a, a < 30 → ∀ b, b < 30 → a ≠ b → (T_M a).2.1 ≠ (T_M b).2.1 := by decide +kernel
theorem tyok_M : ∀ k, k < 30 → parseFieldDescriptor (T_M k).2.2.1 = some (ty_M k) := by decide +kernel
abbrev b_M_init : ByteArray := prog_14_method_1_code
def y_M_init : MethodName := ⟨R_M, "<init>", "()V"⟩
abbrev b_M_in : ByteArray := prog_14_method_2_code
def y_M_in : MethodName := ⟨R_M, "in", "(III)Z"⟩
abbrev b_M_begins : ByteArray := prog_14_method_3_code
def y_M_begins : MethodName := ⟨R_M, "begins", "(III)V"⟩
abbrev b_M_full : ByteArray := prog_14_method_4_code
def y_M_full : MethodName := ⟨R_M, "full", "()I"⟩
abbrev b_M_fills : ByteArray := prog_14_method_5_code
def y_M_fills : MethodName := ⟨R_M, "fills", "()V"⟩
abbrev b_M_lines : ByteArray := prog_14_method_6_code
def y_M_lines : MethodName := ⟨R_M, "lines", "()I"⟩
abbrev b_M_isLine : ByteArray := prog_14_method_7_code
def y_M_isLine : MethodName := ⟨R_M, "isLine", "(I)Z"⟩
abbrev b_M_cells : ByteArray := prog_14_method_8_code
def y_M_cells : MethodName := ⟨R_M, "cells", "(I)I"⟩
abbrev b_M_at : ByteArray := prog_14_method_9_code
def y_M_at : MethodName := ⟨R_M, "at", "(II)I"⟩
abbrev b_M_isCell : ByteArray := prog_14_method_10_code
def y_M_isCell : MethodName := ⟨R_M, "isCell", "(II)Z"⟩
abbrev b_M_keeps : ByteArray := prog_14_method_11_code
def y_M_keeps : MethodName := ⟨R_M, "keeps", "()V"⟩
abbrev b_M_undo : ByteArray := prog_14_method_12_code
def y_M_undo : MethodName := ⟨R_M, "undo", "()I"⟩
abbrev b_M_start : ByteArray := prog_14_method_13_code
def y_M_start : MethodName := ⟨R_M, "start", "(III)I"⟩
abbrev b_M_packs : ByteArray := prog_14_method_14_code
def y_M_packs : MethodName := ⟨R_M, "packs", "(III)I"⟩
abbrev b_M_moves : ByteArray := prog_14_method_15_code
def y_M_moves : MethodName := ⟨R_M, "moves", "(I)Z"⟩
abbrev b_M_colorIn : ByteArray := prog_14_method_16_code
def y_M_colorIn : MethodName := ⟨R_M, "colorIn", "(II)I"⟩
abbrev b_M_takes : ByteArray := prog_14_method_17_code
def y_M_takes : MethodName := ⟨R_M, "takes", "(I)V"⟩
abbrev b_M_lists : ByteArray := prog_14_method_18_code
def y_M_lists : MethodName := ⟨R_M, "lists", "(I)V"⟩
abbrev b_M_isWrong : ByteArray := prog_14_method_19_code
def y_M_isWrong : MethodName := ⟨R_M, "isWrong", "(I)Z"⟩
abbrev b_M_bitsIn : ByteArray := prog_14_method_20_code
def y_M_bitsIn : MethodName := ⟨R_M, "bitsIn", "(I)I"⟩
abbrev b_M_many : ByteArray := prog_14_method_21_code
def y_M_many : MethodName := ⟨R_M, "many", "(I)I"⟩
abbrev b_M_byOverlap : ByteArray := prog_14_method_22_code
def y_M_byOverlap : MethodName := ⟨R_M, "byOverlap", "(II)I"⟩
abbrev b_M_byFillings : ByteArray := prog_14_method_23_code
def y_M_byFillings : MethodName := ⟨R_M, "byFillings", "(I)I"⟩
abbrev b_M_better : ByteArray := prog_14_method_24_code
def y_M_better : MethodName := ⟨R_M, "better", "(III)I"⟩
abbrev b_M_narrows : ByteArray := prog_14_method_25_code
def y_M_narrows : MethodName := ⟨R_M, "narrows", "(I)Z"⟩
abbrev b_M_refutes : ByteArray := prog_14_method_26_code
def y_M_refutes : MethodName := ⟨R_M, "refutes", "(II)Z"⟩
abbrev b_M_refuted : ByteArray := prog_14_method_27_code
def y_M_refuted : MethodName := ⟨R_M, "refuted", "()I"⟩
abbrev b_M_narrowsByTrials : ByteArray := prog_14_method_28_code
def y_M_narrowsByTrials : MethodName := ⟨R_M, "narrowsByTrials", "()Z"⟩
abbrev b_M_narrowsAt : ByteArray := prog_14_method_29_code
def y_M_narrowsAt : MethodName := ⟨R_M, "narrowsAt", "(I)Z"⟩
abbrev b_M_room : ByteArray := prog_14_method_30_code
def y_M_room : MethodName := ⟨R_M, "room", "(I)I"⟩
abbrev b_M_roomWith : ByteArray := prog_14_method_31_code
def y_M_roomWith : MethodName := ⟨R_M, "roomWith", "(III)I"⟩
abbrev b_M_appends : ByteArray := prog_14_method_32_code
def y_M_appends : MethodName := ⟨R_M, "appends", "(III)V"⟩
abbrev b_M_clears : ByteArray := prog_14_method_33_code
def y_M_clears : MethodName := ⟨R_M, "clears", "(II)V"⟩
abbrev b_M_addBlock : ByteArray := prog_14_method_34_code
def y_M_addBlock : MethodName := ⟨R_M, "addBlock", "(III)I"⟩
abbrev b_M_setClue : ByteArray := prog_14_method_35_code
def y_M_setClue : MethodName := ⟨R_M, "setClue", "(IZ)I"⟩
abbrev b_M_known : ByteArray := prog_14_method_36_code
def y_M_known : MethodName := ⟨R_M, "known", "(I)I"⟩
abbrev b_M_line : ByteArray := prog_14_method_37_code
def y_M_line : MethodName := ⟨R_M, "line", "(II)I"⟩
abbrev b_M_block : ByteArray := prog_14_method_38_code
def y_M_block : MethodName := ⟨R_M, "block", "(III)I"⟩
abbrev b_M_paint : ByteArray := prog_14_method_39_code
def y_M_paint : MethodName := ⟨R_M, "paint", "(IIIII)I"⟩
abbrev b_M_takesClue : ByteArray := prog_14_method_40_code
def y_M_takesClue : MethodName := ⟨R_M, "takesClue", "(I)V"⟩
abbrev b_M_takeClues : ByteArray := prog_14_method_41_code
def y_M_takeClues : MethodName := ⟨R_M, "takeClues", "()I"⟩
abbrev b_M_picture : ByteArray := prog_14_method_42_code
def y_M_picture : MethodName := ⟨R_M, "picture", "(II)I"⟩
abbrev b_M_type : ByteArray := prog_14_method_43_code
def y_M_type : MethodName := ⟨R_M, "type", "(I)I"⟩
abbrev b_M_clear : ByteArray := prog_14_method_44_code
def y_M_clear : MethodName := ⟨R_M, "clear", "()I"⟩
abbrev b_M_byteAt : ByteArray := prog_14_method_45_code
def y_M_byteAt : MethodName := ⟨R_M, "byteAt", "(I)I"⟩
abbrev b_M_skips : ByteArray := prog_14_method_46_code
def y_M_skips : MethodName := ⟨R_M, "skips", "()V"⟩
abbrev b_M_fails : ByteArray := prog_14_method_47_code
def y_M_fails : MethodName := ⟨R_M, "fails", "(I)V"⟩
abbrev b_M_isSmall : ByteArray := prog_14_method_48_code
def y_M_isSmall : MethodName := ⟨R_M, "isSmall", "(I)Z"⟩
abbrev b_M_readsWord : ByteArray := prog_14_method_49_code
def y_M_readsWord : MethodName := ⟨R_M, "readsWord", "()I"⟩
abbrev b_M_readRoom : ByteArray := prog_14_method_50_code
def y_M_readRoom : MethodName := ⟨R_M, "readRoom", "(I)I"⟩
abbrev b_M_readsBlock : ByteArray := prog_14_method_51_code
def y_M_readsBlock : MethodName := ⟨R_M, "readsBlock", "(I)V"⟩
abbrev b_M_readsClue : ByteArray := prog_14_method_52_code
def y_M_readsClue : MethodName := ⟨R_M, "readsClue", "(I)V"⟩
abbrev b_M_readsAll : ByteArray := prog_14_method_53_code
def y_M_readsAll : MethodName := ⟨R_M, "readsAll", "()V"⟩
abbrev b_M_load : ByteArray := prog_14_method_54_code
def y_M_load : MethodName := ⟨R_M, "load", "()I"⟩
abbrev b_M_setMark : ByteArray := prog_14_method_55_code
def y_M_setMark : MethodName := ⟨R_M, "setMark", "(III)I"⟩
abbrev b_M_mark : ByteArray := prog_14_method_56_code
def y_M_mark : MethodName := ⟨R_M, "mark", "(II)I"⟩
abbrev b_M_clearMarks : ByteArray := prog_14_method_57_code
def y_M_clearMarks : MethodName := ⟨R_M, "clearMarks", "()I"⟩
abbrev b_M_savesMarks : ByteArray := prog_14_method_58_code
def y_M_savesMarks : MethodName := ⟨R_M, "savesMarks", "()V"⟩
abbrev b_M_restoresMarks : ByteArray := prog_14_method_59_code
def y_M_restoresMarks : MethodName := ⟨R_M, "restoresMarks", "()V"⟩
abbrev b_M_narrow : ByteArray := prog_14_method_60_code
def y_M_narrow : MethodName := ⟨R_M, "narrow", "(I)I"⟩
abbrev b_M_trial : ByteArray := prog_14_method_61_code
def y_M_trial : MethodName := ⟨R_M, "trial", "(III)I"⟩
abbrev b_M_puts : ByteArray := prog_14_method_62_code
def y_M_puts : MethodName := ⟨R_M, "puts", "(I)V"⟩
abbrev b_M_gets : ByteArray := prog_14_method_63_code
def y_M_gets : MethodName := ⟨R_M, "gets", "(I)V"⟩
abbrev b_M_product : ByteArray := prog_14_method_64_code
def y_M_product : MethodName := ⟨R_M, "product", "(I)I"⟩
abbrev b_M_crossing : ByteArray := prog_14_method_65_code
def y_M_crossing : MethodName := ⟨R_M, "crossing", "()I"⟩
abbrev b_M_nextTry : ByteArray := prog_14_method_66_code
def y_M_nextTry : MethodName := ⟨R_M, "nextTry", "(I)I"⟩
abbrev b_M_counts : ByteArray := prog_14_method_67_code
def y_M_counts : MethodName := ⟨R_M, "counts", "(I)I"⟩
abbrev b_M_solutions : ByteArray := prog_14_method_68_code
def y_M_solutions : MethodName := ⟨R_M, "solutions", "(I)I"⟩
abbrev b_M_can : ByteArray := prog_14_method_69_code
def y_M_can : MethodName := ⟨R_M, "can", "(II)Z"⟩
abbrev b_M_finds : ByteArray := prog_14_method_70_code
def y_M_finds : MethodName := ⟨R_M, "finds", "()Z"⟩
abbrev b_M_solve : ByteArray := prog_14_method_71_code
def y_M_solve : MethodName := ⟨R_M, "solve", "()I"⟩
abbrev b_M_knownCells : ByteArray := prog_14_method_72_code
def y_M_knownCells : MethodName := ⟨R_M, "knownCells", "()I"⟩
abbrev b_M_difficulty : ByteArray := prog_14_method_73_code
def y_M_difficulty : MethodName := ⟨R_M, "difficulty", "()I"⟩
abbrev b_M_mistakes : ByteArray := prog_14_method_74_code
def y_M_mistakes : MethodName := ⟨R_M, "mistakes", "()I"⟩
abbrev b_M_wrongLines : ByteArray := prog_14_method_75_code
def y_M_wrongLines : MethodName := ⟨R_M, "wrongLines", "()I"⟩
abbrev b_M_keepsHint : ByteArray := prog_14_method_76_code
def y_M_keepsHint : MethodName := ⟨R_M, "keepsHint", "(IIII)V"⟩
abbrev b_M_gives : ByteArray := prog_14_method_77_code
def y_M_gives : MethodName := ⟨R_M, "gives", "(II)Z"⟩
abbrev b_M_givesAny : ByteArray := prog_14_method_78_code
def y_M_givesAny : MethodName := ⟨R_M, "givesAny", "(I)Z"⟩
abbrev b_M_hint : ByteArray := prog_14_method_79_code
def y_M_hint : MethodName := ⟨R_M, "hint", "()I"⟩
abbrev b_M_hintPart : ByteArray := prog_14_method_80_code
def y_M_hintPart : MethodName := ⟨R_M, "hintPart", "(I)I"⟩
abbrev b_M_hinted : ByteArray := prog_14_method_81_code
def y_M_hinted : MethodName := ⟨R_M, "hinted", "(I)I"⟩
abbrev b_M_takeHint : ByteArray := prog_14_method_82_code
def y_M_takeHint : MethodName := ⟨R_M, "takeHint", "()I"⟩
abbrev b_M_fits : ByteArray := prog_14_method_83_code
def y_M_fits : MethodName := ⟨R_M, "fits", "(I)Z"⟩
abbrev b_M_linesWith : ByteArray := prog_14_method_84_code
def y_M_linesWith : MethodName := ⟨R_M, "linesWith", "(Z)I"⟩
abbrev b_M_blocks : ByteArray := prog_14_method_85_code
def y_M_blocks : MethodName := ⟨R_M, "blocks", "()I"⟩
abbrev b_M_painted : ByteArray := prog_14_method_86_code
def y_M_painted : MethodName := ⟨R_M, "painted", "()I"⟩
abbrev b_M_count : ByteArray := prog_14_method_87_code
def y_M_count : MethodName := ⟨R_M, "count", "(I)I"⟩
abbrev b_M_mixes : ByteArray := prog_14_method_88_code
def y_M_mixes : MethodName := ⟨R_M, "mixes", "(J)V"⟩
abbrev b_M_digest : ByteArray := prog_14_method_89_code
def y_M_digest : MethodName := ⟨R_M, "digest", "()J"⟩
def w_M_0 : List Cond := [.code y_M_full b_M_full 1 (some .int), .fieldLink R_M 73 "PictureCluesModel" "colors" "I", .code y_M_fills b_M_fills 2 none, .fieldLink R_M 7 "PictureCluesModel" "m" "[I", .methodLink R_M 85 y_M_full, .instanceMethod y_M_full, .selects R_M y_M_full y_M_full, .initialized R_M, .code y_M_begins b_M_begins 5 none, .fieldLink R_M 66 "PictureCluesModel" "w" "I", .fieldLink R_M 70 "PictureCluesModel" "h" "I", .fieldLink R_M 76 "PictureCluesModel" "undos" "I", .fieldLink R_M 79 "PictureCluesModel" "hintLevel" "I", .methodLink R_M 82 y_M_fills, .instanceMethod y_M_fills, .selects R_M y_M_fills y_M_fills, .methodLink R_M 1 objectInit, .instanceMethod objectInit, .code objectInit ⟨#[0xb1]⟩ 1 none, .arrayClass .int, .fieldLink R_M 13 "PictureCluesModel" "past" "[I", .fieldLink R_M 16 "PictureCluesModel" "starts" "[I", .fieldLink R_M 19 "PictureCluesModel" "filling" "[I", .fieldLink R_M 22 "PictureCluesModel" "fillingStart" "[I", .fieldLink R_M 25 "PictureCluesModel" "early" "[I", .fieldLink R_M 28 "PictureCluesModel" "late" "[I", .fieldLink R_M 31 "PictureCluesModel" "next" "[I", .fieldLink R_M 34 "PictureCluesModel" "aside" "[I", .fieldLink R_M 37 "PictureCluesModel" "text" "[I", .fieldLink R_M 40 "PictureCluesModel" "read" "[I", .fieldLink R_M 43 "PictureCluesModel" "before" "[I", .fieldLink R_M 46 "PictureCluesModel" "after" "[I", .fieldLink R_M 49 "PictureCluesModel" "solution" "[I", .arrayClass .long, .fieldLink R_M 52 "PictureCluesModel" "levels" "[J", .fieldLink R_M 56 "PictureCluesModel" "triedCell" "[I", .fieldLink R_M 59 "PictureCluesModel" "triedColor" "[I", .methodLink R_M 62 y_M_begins, .instanceMethod y_M_begins, .selects R_M y_M_begins y_M_begins, .code y_M_init b_M_init 1 none, .code y_M_in b_M_in 3 (some .boolean), .code y_M_lines b_M_lines 1 (some .int), .code y_M_isLine b_M_isLine 2 (some .boolean), .methodLink R_M 89 y_M_lines, .instanceMethod y_M_lines, .selects R_M y_M_lines y_M_lines, .methodLink R_M 92 y_M_in, .static y_M_in, .code y_M_cells b_M_cells 2 (some .int), .code y_M_at b_M_at 3 (some .int), .code y_M_isCell b_M_isCell 3 (some .boolean), .code y_M_keeps b_M_keeps 2 none, .code y_M_undo b_M_undo 2 (some .int), .code y_M_start b_M_start 4 (some .int), .code y_M_packs b_M_packs 8 (some .int), .code y_M_moves b_M_moves 4 (some .boolean), .methodLink R_M 96 y_M_packs, .instanceMethod y_M_packs, .selects R_M y_M_packs y_M_packs]
def w_M_1 : List Cond := [.methodLink R_M 100 y_M_cells, .instanceMethod y_M_cells, .selects R_M y_M_cells y_M_cells, .code y_M_colorIn b_M_colorIn 3 (some .int), .code y_M_takes b_M_takes 5 none, .fieldLink R_M 111 "PictureCluesModel" "fillings" "I", .methodLink R_M 104 y_M_at, .instanceMethod y_M_at, .selects R_M y_M_at y_M_at, .methodLink R_M 108 y_M_colorIn, .instanceMethod y_M_colorIn, .selects R_M y_M_colorIn y_M_colorIn, .methodLink R_M 114 y_M_takes, .instanceMethod y_M_takes, .selects R_M y_M_takes y_M_takes, .methodLink R_M 118 y_M_moves, .instanceMethod y_M_moves, .selects R_M y_M_moves y_M_moves, .code y_M_lists b_M_lists 6 none, .methodLink R_M 122 y_M_lists, .instanceMethod y_M_lists, .selects R_M y_M_lists y_M_lists, .code y_M_isWrong b_M_isWrong 2 (some .boolean), .code y_M_bitsIn b_M_bitsIn 3 (some .int), .methodLink R_M 125 y_M_bitsIn, .static y_M_bitsIn, .code y_M_many b_M_many 4 (some .int), .code y_M_byOverlap b_M_byOverlap 7 (some .int), .code y_M_byFillings b_M_byFillings 4 (some .int), .code y_M_better b_M_better 4 (some .int), .methodLink R_M 128 y_M_byOverlap, .instanceMethod y_M_byOverlap, .selects R_M y_M_byOverlap y_M_byOverlap, .methodLink R_M 131 y_M_byFillings, .instanceMethod y_M_byFillings, .selects R_M y_M_byFillings y_M_byFillings, .methodLink R_M 134 y_M_isWrong, .instanceMethod y_M_isWrong, .selects R_M y_M_isWrong y_M_isWrong, .methodLink R_M 137 y_M_better, .instanceMethod y_M_better, .selects R_M y_M_better y_M_better, .code y_M_narrows b_M_narrows 5 (some .boolean), .methodLink R_M 140 y_M_narrows, .instanceMethod y_M_narrows, .selects R_M y_M_narrows y_M_narrows, .code y_M_refutes b_M_refutes 5 (some .boolean), .methodLink R_M 143 y_M_refutes, .instanceMethod y_M_refutes, .selects R_M y_M_refutes y_M_refutes, .code y_M_refuted b_M_refuted 4 (some .int), .methodLink R_M 147 y_M_refuted, .instanceMethod y_M_refuted, .selects R_M y_M_refuted y_M_refuted, .code y_M_narrowsByTrials b_M_narrowsByTrials 3 (some .boolean), .methodLink R_M 150 y_M_narrowsByTrials, .instanceMethod y_M_narrowsByTrials, .selects R_M y_M_narrowsByTrials y_M_narrowsByTrials, .code y_M_narrowsAt b_M_narrowsAt 2 (some .boolean), .code y_M_room b_M_room 5 (some .int)]
def w_M_2 : List Cond := [.code y_M_roomWith b_M_roomWith 6 (some .int), .methodLink R_M 154 y_M_room, .instanceMethod y_M_room, .selects R_M y_M_room y_M_room, .code y_M_appends b_M_appends 5 none, .code y_M_clears b_M_clears 3 none, .methodLink R_M 157 y_M_isLine, .instanceMethod y_M_isLine, .selects R_M y_M_isLine y_M_isLine, .methodLink R_M 160 y_M_roomWith, .instanceMethod y_M_roomWith, .selects R_M y_M_roomWith y_M_roomWith, .methodLink R_M 163 y_M_keeps, .instanceMethod y_M_keeps, .selects R_M y_M_keeps y_M_keeps, .methodLink R_M 166 y_M_appends, .instanceMethod y_M_appends, .selects R_M y_M_appends y_M_appends, .code y_M_addBlock b_M_addBlock 4 (some .int), .methodLink R_M 169 y_M_clears, .instanceMethod y_M_clears, .selects R_M y_M_clears y_M_clears, .code y_M_setClue b_M_setClue 4 (some .int), .code y_M_known b_M_known 4 (some .int), .methodLink R_M 173 y_M_many, .instanceMethod y_M_many, .selects R_M y_M_many y_M_many, .methodLink R_M 176 y_M_known, .instanceMethod y_M_known, .selects R_M y_M_known y_M_known, .code y_M_line b_M_line 3 (some .int), .code y_M_block b_M_block 4 (some .int), .code y_M_paint b_M_paint 9 (some .int), .methodLink R_M 179 y_M_isCell, .instanceMethod y_M_isCell, .selects R_M y_M_isCell y_M_isCell, .code y_M_takesClue b_M_takesClue 6 none, .methodLink R_M 182 y_M_takesClue, .instanceMethod y_M_takesClue, .selects R_M y_M_takesClue y_M_takesClue, .code y_M_takeClues b_M_takeClues 3 (some .int), .code y_M_picture b_M_picture 3 (some .int), .code y_M_type b_M_type 2 (some .int), .fieldLink R_M 185 "PictureCluesModel" "textLength" "I", .code y_M_clear b_M_clear 2 (some .int), .code y_M_byteAt b_M_byteAt 2 (some .int), .code y_M_skips b_M_skips 1 none, .fieldLink R_M 188 "PictureCluesModel" "place" "I", .methodLink R_M 191 y_M_byteAt, .instanceMethod y_M_byteAt, .selects R_M y_M_byteAt y_M_byteAt, .code y_M_fails b_M_fails 2 none, .fieldLink R_M 194 "PictureCluesModel" "fault" "I", .code y_M_isSmall b_M_isSmall 2 (some .boolean), .code y_M_readsWord b_M_readsWord 4 (some .int), .methodLink R_M 197 y_M_isSmall, .instanceMethod y_M_isSmall, .selects R_M y_M_isSmall y_M_isSmall, .methodLink R_M 200 y_M_fails, .instanceMethod y_M_fails]
def w_M_3 : List Cond := [.selects R_M y_M_fails y_M_fails, .methodLink R_M 203 y_M_skips, .instanceMethod y_M_skips, .selects R_M y_M_skips y_M_skips, .code y_M_readRoom b_M_readRoom 5 (some .int), .methodLink R_M 206 y_M_readRoom, .instanceMethod y_M_readRoom, .selects R_M y_M_readRoom y_M_readRoom, .code y_M_readsBlock b_M_readsBlock 6 none, .methodLink R_M 209 y_M_readsWord, .instanceMethod y_M_readsWord, .selects R_M y_M_readsWord y_M_readsWord, .methodLink R_M 212 y_M_readsBlock, .instanceMethod y_M_readsBlock, .selects R_M y_M_readsBlock y_M_readsBlock, .code y_M_readsClue b_M_readsClue 2 none, .methodLink R_M 215 y_M_readsClue, .instanceMethod y_M_readsClue, .selects R_M y_M_readsClue y_M_readsClue, .code y_M_readsAll b_M_readsAll 2 none, .methodLink R_M 218 y_M_readsAll, .instanceMethod y_M_readsAll, .selects R_M y_M_readsAll y_M_readsAll, .code y_M_load b_M_load 4 (some .int), .code y_M_setMark b_M_setMark 5 (some .int), .code y_M_mark b_M_mark 3 (some .int), .code y_M_clearMarks b_M_clearMarks 3 (some .int), .code y_M_savesMarks b_M_savesMarks 2 none, .code y_M_restoresMarks b_M_restoresMarks 2 none, .methodLink R_M 221 y_M_savesMarks, .instanceMethod y_M_savesMarks, .selects R_M y_M_savesMarks y_M_savesMarks, .methodLink R_M 224 y_M_narrowsAt, .instanceMethod y_M_narrowsAt, .selects R_M y_M_narrowsAt y_M_narrowsAt, .methodLink R_M 227 y_M_restoresMarks, .instanceMethod y_M_restoresMarks, .selects R_M y_M_restoresMarks y_M_restoresMarks, .code y_M_narrow b_M_narrow 5 (some .int), .code y_M_trial b_M_trial 5 (some .int), .code y_M_puts b_M_puts 6 none, .code y_M_gets b_M_gets 3 none, .code y_M_product b_M_product 4 (some .int), .code y_M_crossing b_M_crossing 2 (some .int), .code y_M_nextTry b_M_nextTry 4 (some .int), .methodLink R_M 230 y_M_gets, .instanceMethod y_M_gets, .selects R_M y_M_gets y_M_gets, .methodLink R_M 233 y_M_crossing, .instanceMethod y_M_crossing, .selects R_M y_M_crossing y_M_crossing, .methodLink R_M 236 y_M_puts, .instanceMethod y_M_puts, .selects R_M y_M_puts y_M_puts, .methodLink R_M 239 y_M_product, .instanceMethod y_M_product, .selects R_M y_M_product y_M_product, .methodLink R_M 242 y_M_nextTry, .instanceMethod y_M_nextTry, .selects R_M y_M_nextTry y_M_nextTry]
def w_M_4 : List Cond := [.code y_M_counts b_M_counts 6 (some .int), .methodLink R_M 245 y_M_counts, .instanceMethod y_M_counts, .selects R_M y_M_counts y_M_counts, .code y_M_solutions b_M_solutions 3 (some .int), .code y_M_can b_M_can 4 (some .boolean), .methodLink R_M 248 y_M_can, .instanceMethod y_M_can, .selects R_M y_M_can y_M_can, .code y_M_finds b_M_finds 4 (some .boolean), .methodLink R_M 251 y_M_finds, .instanceMethod y_M_finds, .selects R_M y_M_finds y_M_finds, .code y_M_solve b_M_solve 3 (some .int), .code y_M_knownCells b_M_knownCells 3 (some .int), .methodLink R_M 254 y_M_knownCells, .instanceMethod y_M_knownCells, .selects R_M y_M_knownCells y_M_knownCells, .code y_M_difficulty b_M_difficulty 5 (some .int), .code y_M_mistakes b_M_mistakes 3 (some .int), .code y_M_wrongLines b_M_wrongLines 3 (some .int), .code y_M_keepsHint b_M_keepsHint 5 none, .fieldLink R_M 257 "PictureCluesModel" "hintCell" "I", .fieldLink R_M 260 "PictureCluesModel" "hintMark" "I", .fieldLink R_M 263 "PictureCluesModel" "hintLine" "I", .methodLink R_M 266 y_M_keepsHint, .instanceMethod y_M_keepsHint, .selects R_M y_M_keepsHint y_M_keepsHint, .code y_M_gives b_M_gives 5 (some .boolean), .methodLink R_M 270 y_M_gives, .instanceMethod y_M_gives, .selects R_M y_M_gives y_M_gives, .code y_M_givesAny b_M_givesAny 4 (some .boolean), .methodLink R_M 273 y_M_wrongLines, .instanceMethod y_M_wrongLines, .selects R_M y_M_wrongLines y_M_wrongLines, .methodLink R_M 276 y_M_givesAny, .instanceMethod y_M_givesAny, .selects R_M y_M_givesAny y_M_givesAny, .code y_M_hint b_M_hint 3 (some .int), .code y_M_hintPart b_M_hintPart 2 (some .int), .code y_M_hinted b_M_hinted 2 (some .int), .methodLink R_M 279 y_M_hintPart, .instanceMethod y_M_hintPart, .selects R_M y_M_hintPart y_M_hintPart, .code y_M_takeHint b_M_takeHint 1 (some .int), .code y_M_fits b_M_fits 7 (some .boolean), .methodLink R_M 282 y_M_fits, .instanceMethod y_M_fits, .selects R_M y_M_fits y_M_fits, .code y_M_linesWith b_M_linesWith 4 (some .int), .code y_M_blocks b_M_blocks 3 (some .int), .code y_M_painted b_M_painted 3 (some .int), .methodLink R_M 285 y_M_linesWith, .instanceMethod y_M_linesWith, .selects R_M y_M_linesWith y_M_linesWith, .methodLink R_M 289 y_M_blocks, .instanceMethod y_M_blocks, .selects R_M y_M_blocks y_M_blocks, .methodLink R_M 292 y_M_painted]
def w_M_5 : List Cond := [.instanceMethod y_M_painted, .selects R_M y_M_painted y_M_painted, .code y_M_count b_M_count 2 (some .int), .code y_M_mixes b_M_mixes 3 none, .constantLong R_M 295 (31), .fieldLink R_M 297 "PictureCluesModel" "hash" "J", .constantLong R_M 301 (633), .methodLink R_M 303 y_M_count, .instanceMethod y_M_count, .selects R_M y_M_count y_M_count, .methodLink R_M 306 y_M_mixes, .instanceMethod y_M_mixes, .selects R_M y_M_mixes y_M_mixes, .methodLink R_M 310 y_M_line, .instanceMethod y_M_line, .selects R_M y_M_line y_M_line, .methodLink R_M 313 y_M_block, .instanceMethod y_M_block, .selects R_M y_M_block y_M_block, .code y_M_digest b_M_digest 3 (some .long)]
def w_M : List Cond := w_M_0 ++ (w_M_1 ++ (w_M_2 ++ (w_M_3 ++ (w_M_4 ++ (w_M_5 ++ (u_ws R_M T_M 30))))))
theorem w_M_good : w_M.all goodWord = true := by decide +kernel
theorem w_M_has {w : Cond} (i : Nat) (h : w_M[i]? = some w) : w ∈ w_M := List.mem_of_getElem? h
theorem w_M_lay : ∀ w ∈ u_ws R_M T_M 30, w ∈ w_M := fun w h => by
  unfold w_M
  simp only [List.mem_append]
  repeat (first | exact h | refine Or.inr ?_)
theorem w_M_G {c0 : Cond} {own C : String} {idx : Nat} {y : MethodName} {b : ByteArray} {m : Nat} {r : Option FieldType} (h1 : Cond.methodLink own idx y ∈ w_M) (h2 : Cond.instanceMethod y ∈ w_M) (h3 : Cond.selects C y y ∈ w_M) (h4 : Cond.initialized C ∈ w_M) (h5 : Cond.code y b m r ∈ w_M) : GoodIn (c0 :: w_M) (wsV own idx C y (Cond.code y b m r :: w_M)) := by
  intro w hw
  have hm : w ∈ w_M := by
    simp only [wsV, List.mem_append, List.mem_cons, List.not_mem_nil, or_false] at hw
    rcases hw with (rfl | rfl | rfl | rfl) | rfl | h
    · exact h1
    · exact h2
    · exact h3
    · exact h4
    · exact h5
    · exact h
  exact ⟨List.mem_cons_of_mem _ hm, good_of_word (List.all_eq_true.mp w_M_good w hm)⟩
theorem w_M_GS {c0 : Cond} {own : String} {idx : Nat} {y : MethodName} {b : ByteArray} {m : Nat} {r : Option FieldType} (h1 : Cond.methodLink own idx y ∈ w_M) (h2 : Cond.static y ∈ w_M) (h4 : Cond.initialized own ∈ w_M) (h5 : Cond.code y b m r ∈ w_M) : GoodIn (c0 :: w_M) (wsS own idx y (Cond.code y b m r :: w_M)) := by
  intro w hw
  have hm : w ∈ w_M := by
    simp only [wsS, List.mem_append, List.mem_cons, List.not_mem_nil, or_false] at hw
    rcases hw with (rfl | rfl | rfl) | rfl | h
    · exact h1
    · exact h2
    · exact h4
    · exact h5
    · exact h
  exact ⟨List.mem_cons_of_mem _ hm, good_of_word (List.all_eq_true.mp w_M_good w hm)⟩
def kd_M : Nat → Nat := fun j => match j with
  | 0 => 2
  | 1 => 2
  | 10 => 2
  | 11 => 2
  | 12 => 2
  | 14 => 2
  | 15 => 2
  | 16 => 2
  | 17 => 2
  | 18 => 2
  | 22 => 2
  | 23 => 2
  | 24 => 2
  | 25 => 2
  | 26 => 2
  | 27 => 2
  | 28 => 2
  | 29 => 1
  | _ => 0
def pl_M : Nat → Option (Nat ⊕ (Nat × Nat)) := fun q => match q with
  | 0 => some (.inl 0)
  | 1 => some (.inr (0, 416))
  | 2 => some (.inr (0, 3328))
  | 3 => some (.inr (0, 8))
  | 4 => some (.inr (0, 70))
  | 5 => some (.inr (0, 560))
  | 6 => some (.inr (0, 8))
  | 7 => some (.inr (0, 8))
  | 8 => some (.inr (0, 8))
  | 9 => some (.inr (0, 64))
  | 10 => some (.inr (0, 120))
  | 11 => some (.inr (0, 288))
  | 12 => some (.inr (0, 64))
  | 13 => some (.inr (0, 64))
  | 14 => some (.inr (0, 64))
  | 15 => some (.inr (1, 272))
  | 16 => some (.inr (0, 65))
  | 17 => some (.inr (0, 65))
  | _ => none
def MM : fx_M := ([(R_M, T_M, 30)], (fun _ j => kd_M j), pl_M, 18, [.int, .long])
theorem MM_ok : fx_ok MM := by
  refine ⟨fun q x h => ?_, rfl⟩
  show q < 18
  rcases Nat.lt_or_ge q 18 with h1 | h1
  · exact h1
  · exfalso
    have h2 : pl_M q = some x := h
    unfold pl_M at h2
    split at h2 <;> first | omega | cases h2
theorem MM_tys : fx_tys MM := by
  intro q i n h
  have h2 : pl_M q = some (.inr (i, n)) := h
  unfold pl_M at h2
  split at h2 <;> cases h2 <;> first | exact Or.inl ⟨rfl, rfl⟩ | exact Or.inr (Or.inl ⟨rfl, rfl⟩)
def R0_M : fx_MR := fun q j => match q, j with
  | 0, 0 => some 1
  | 0, 1 => some 2
  | 0, 10 => some 3
  | 0, 11 => some 4
  | 0, 12 => some 5
  | 0, 14 => some 6
  | 0, 15 => some 7
  | 0, 16 => some 8
  | 0, 17 => some 9
  | 0, 18 => some 10
  | 0, 22 => some 11
  | 0, 23 => some 12
  | 0, 24 => some 13
  | 0, 25 => some 14
  | 0, 26 => some 15
  | 0, 27 => some 16
  | 0, 28 => some 17
  | _, _ => none
theorem R0_M_0 : R0_M 0 0 = some 1 := rfl
theorem R0_M_1 : R0_M 0 1 = some 2 := rfl
theorem R0_M_10 : R0_M 0 10 = some 3 := rfl
theorem R0_M_11 : R0_M 0 11 = some 4 := rfl
theorem R0_M_12 : R0_M 0 12 = some 5 := rfl
theorem R0_M_14 : R0_M 0 14 = some 6 := rfl
theorem R0_M_15 : R0_M 0 15 = some 7 := rfl
theorem R0_M_16 : R0_M 0 16 = some 8 := rfl
theorem R0_M_17 : R0_M 0 17 = some 9 := rfl
theorem R0_M_18 : R0_M 0 18 = some 10 := rfl
theorem R0_M_22 : R0_M 0 22 = some 11 := rfl
theorem R0_M_23 : R0_M 0 23 = some 12 := rfl
theorem R0_M_24 : R0_M 0 24 = some 13 := rfl
theorem R0_M_25 : R0_M 0 25 = some 14 := rfl
theorem R0_M_26 : R0_M 0 26 = some 15 := rfl
theorem R0_M_27 : R0_M 0 27 = some 16 := rfl
theorem R0_M_28 : R0_M 0 28 = some 17 := rfl
theorem pl_M_0 : MM.2.2.1 0 = some (.inl 0) := rfl
theorem pl_M_1 : MM.2.2.1 1 = some (.inr (0, 416)) := rfl
theorem pl_M_2 : MM.2.2.1 2 = some (.inr (0, 3328)) := rfl
theorem pl_M_3 : MM.2.2.1 3 = some (.inr (0, 8)) := rfl
theorem pl_M_4 : MM.2.2.1 4 = some (.inr (0, 70)) := rfl
theorem pl_M_5 : MM.2.2.1 5 = some (.inr (0, 560)) := rfl
theorem pl_M_6 : MM.2.2.1 6 = some (.inr (0, 8)) := rfl
theorem pl_M_7 : MM.2.2.1 7 = some (.inr (0, 8)) := rfl
theorem pl_M_8 : MM.2.2.1 8 = some (.inr (0, 8)) := rfl
theorem pl_M_9 : MM.2.2.1 9 = some (.inr (0, 64)) := rfl
theorem pl_M_10 : MM.2.2.1 10 = some (.inr (0, 120)) := rfl
theorem pl_M_11 : MM.2.2.1 11 = some (.inr (0, 288)) := rfl
theorem pl_M_12 : MM.2.2.1 12 = some (.inr (0, 64)) := rfl
theorem pl_M_13 : MM.2.2.1 13 = some (.inr (0, 64)) := rfl
theorem pl_M_14 : MM.2.2.1 14 = some (.inr (0, 64)) := rfl
theorem pl_M_15 : MM.2.2.1 15 = some (.inr (1, 272)) := rfl
theorem pl_M_16 : MM.2.2.1 16 = some (.inr (0, 65)) := rfl
theorem pl_M_17 : MM.2.2.1 17 = some (.inr (0, 65)) := rfl
theorem kd_M_0 : MM.2.1 0 0 = 2 := rfl
theorem kd_M_1 : MM.2.1 0 1 = 2 := rfl
theorem kd_M_2 : MM.2.1 0 2 = 0 := rfl
theorem kd_M_3 : MM.2.1 0 3 = 0 := rfl
theorem kd_M_4 : MM.2.1 0 4 = 0 := rfl
theorem kd_M_5 : MM.2.1 0 5 = 0 := rfl
theorem kd_M_6 : MM.2.1 0 6 = 0 := rfl
theorem kd_M_7 : MM.2.1 0 7 = 0 := rfl
theorem kd_M_8 : MM.2.1 0 8 = 0 := rfl
theorem kd_M_9 : MM.2.1 0 9 = 0 := rfl
theorem kd_M_10 : MM.2.1 0 10 = 2 := rfl
theorem kd_M_11 : MM.2.1 0 11 = 2 := rfl
theorem kd_M_12 : MM.2.1 0 12 = 2 := rfl
theorem kd_M_13 : MM.2.1 0 13 = 0 := rfl
theorem kd_M_14 : MM.2.1 0 14 = 2 := rfl
theorem kd_M_15 : MM.2.1 0 15 = 2 := rfl
theorem kd_M_16 : MM.2.1 0 16 = 2 := rfl
theorem kd_M_17 : MM.2.1 0 17 = 2 := rfl
theorem kd_M_18 : MM.2.1 0 18 = 2 := rfl
theorem kd_M_19 : MM.2.1 0 19 = 0 := rfl
theorem kd_M_20 : MM.2.1 0 20 = 0 := rfl
theorem kd_M_21 : MM.2.1 0 21 = 0 := rfl
theorem kd_M_22 : MM.2.1 0 22 = 2 := rfl
theorem kd_M_23 : MM.2.1 0 23 = 2 := rfl
theorem kd_M_24 : MM.2.1 0 24 = 2 := rfl
theorem kd_M_25 : MM.2.1 0 25 = 2 := rfl
theorem kd_M_26 : MM.2.1 0 26 = 2 := rfl
theorem kd_M_27 : MM.2.1 0 27 = 2 := rfl
theorem kd_M_28 : MM.2.1 0 28 = 2 := rfl
theorem kd_M_29 : MM.2.1 0 29 = 1 := rfl
theorem e_M_g7 {l : Launch} {c0 : Cond} {rm : Room} {nL : Nat} {cc : ByteArray} : fx_E1 l R_M (c0 :: w_M) rm MM nL cc (.getfield 7) (fx_tget MM 0 0) := fx_getf (C := R_M) (T := T_M) (N := 30) rfl (fun w h => List.mem_cons_of_mem _ (w_M_lay w h)) (by decide) (List.mem_cons_of_mem _ (w_M_has 3 rfl)) rfl MM_ok
theorem e_M_g13 {l : Launch} {c0 : Cond} {rm : Room} {nL : Nat} {cc : ByteArray} : fx_E1 l R_M (c0 :: w_M) rm MM nL cc (.getfield 13) (fx_tget MM 0 1) := fx_getf (C := R_M) (T := T_M) (N := 30) rfl (fun w h => List.mem_cons_of_mem _ (w_M_lay w h)) (by decide) (List.mem_cons_of_mem _ (w_M_has 20 rfl)) rfl MM_ok
theorem e_M_g16 {l : Launch} {c0 : Cond} {rm : Room} {nL : Nat} {cc : ByteArray} : fx_E1 l R_M (c0 :: w_M) rm MM nL cc (.getfield 16) (fx_tget MM 0 10) := fx_getf (C := R_M) (T := T_M) (N := 30) rfl (fun w h => List.mem_cons_of_mem _ (w_M_lay w h)) (by decide) (List.mem_cons_of_mem _ (w_M_has 21 rfl)) rfl MM_ok
theorem e_M_g19 {l : Launch} {c0 : Cond} {rm : Room} {nL : Nat} {cc : ByteArray} : fx_E1 l R_M (c0 :: w_M) rm MM nL cc (.getfield 19) (fx_tget MM 0 11) := fx_getf (C := R_M) (T := T_M) (N := 30) rfl (fun w h => List.mem_cons_of_mem _ (w_M_lay w h)) (by decide) (List.mem_cons_of_mem _ (w_M_has 22 rfl)) rfl MM_ok
theorem e_M_g22 {l : Launch} {c0 : Cond} {rm : Room} {nL : Nat} {cc : ByteArray} : fx_E1 l R_M (c0 :: w_M) rm MM nL cc (.getfield 22) (fx_tget MM 0 12) := fx_getf (C := R_M) (T := T_M) (N := 30) rfl (fun w h => List.mem_cons_of_mem _ (w_M_lay w h)) (by decide) (List.mem_cons_of_mem _ (w_M_has 23 rfl)) rfl MM_ok
theorem e_M_g25 {l : Launch} {c0 : Cond} {rm : Room} {nL : Nat} {cc : ByteArray} : fx_E1 l R_M (c0 :: w_M) rm MM nL cc (.getfield 25) (fx_tget MM 0 14) := fx_getf (C := R_M) (T := T_M) (N := 30) rfl (fun w h => List.mem_cons_of_mem _ (w_M_lay w h)) (by decide) (List.mem_cons_of_mem _ (w_M_has 24 rfl)) rfl MM_ok
theorem e_M_g28 {l : Launch} {c0 : Cond} {rm : Room} {nL : Nat} {cc : ByteArray} : fx_E1 l R_M (c0 :: w_M) rm MM nL cc (.getfield 28) (fx_tget MM 0 15) := fx_getf (C := R_M) (T := T_M) (N := 30) rfl (fun w h => List.mem_cons_of_mem _ (w_M_lay w h)) (by decide) (List.mem_cons_of_mem _ (w_M_has 25 rfl)) rfl MM_ok
theorem e_M_g31 {l : Launch} {c0 : Cond} {rm : Room} {nL : Nat} {cc : ByteArray} : fx_E1 l R_M (c0 :: w_M) rm MM nL cc (.getfield 31) (fx_tget MM 0 16) := fx_getf (C := R_M) (T := T_M) (N := 30) rfl (fun w h => List.mem_cons_of_mem _ (w_M_lay w h)) (by decide) (List.mem_cons_of_mem _ (w_M_has 26 rfl)) rfl MM_ok
theorem e_M_g34 {l : Launch} {c0 : Cond} {rm : Room} {nL : Nat} {cc : ByteArray} : fx_E1 l R_M (c0 :: w_M) rm MM nL cc (.getfield 34) (fx_tget MM 0 17) := fx_getf (C := R_M) (T := T_M) (N := 30) rfl (fun w h => List.mem_cons_of_mem _ (w_M_lay w h)) (by decide) (List.mem_cons_of_mem _ (w_M_has 27 rfl)) rfl MM_ok
theorem e_M_g37 {l : Launch} {c0 : Cond} {rm : Room} {nL : Nat} {cc : ByteArray} : fx_E1 l R_M (c0 :: w_M) rm MM nL cc (.getfield 37) (fx_tget MM 0 18) := fx_getf (C := R_M) (T := T_M) (N := 30) rfl (fun w h => List.mem_cons_of_mem _ (w_M_lay w h)) (by decide) (List.mem_cons_of_mem _ (w_M_has 28 rfl)) rfl MM_ok
theorem e_M_g40 {l : Launch} {c0 : Cond} {rm : Room} {nL : Nat} {cc : ByteArray} : fx_E1 l R_M (c0 :: w_M) rm MM nL cc (.getfield 40) (fx_tget MM 0 22) := fx_getf (C := R_M) (T := T_M) (N := 30) rfl (fun w h => List.mem_cons_of_mem _ (w_M_lay w h)) (by decide) (List.mem_cons_of_mem _ (w_M_has 29 rfl)) rfl MM_ok
theorem e_M_g43 {l : Launch} {c0 : Cond} {rm : Room} {nL : Nat} {cc : ByteArray} : fx_E1 l R_M (c0 :: w_M) rm MM nL cc (.getfield 43) (fx_tget MM 0 23) := fx_getf (C := R_M) (T := T_M) (N := 30) rfl (fun w h => List.mem_cons_of_mem _ (w_M_lay w h)) (by decide) (List.mem_cons_of_mem _ (w_M_has 30 rfl)) rfl MM_ok
theorem e_M_g46 {l : Launch} {c0 : Cond} {rm : Room} {nL : Nat} {cc : ByteArray} : fx_E1 l R_M (c0 :: w_M) rm MM nL cc (.getfield 46) (fx_tget MM 0 24) := fx_getf (C := R_M) (T := T_M) (N := 30) rfl (fun w h => List.mem_cons_of_mem _ (w_M_lay w h)) (by decide) (List.mem_cons_of_mem _ (w_M_has 31 rfl)) rfl MM_ok
theorem e_M_g49 {l : Launch} {c0 : Cond} {rm : Room} {nL : Nat} {cc : ByteArray} : fx_E1 l R_M (c0 :: w_M) rm MM nL cc (.getfield 49) (fx_tget MM 0 25) := fx_getf (C := R_M) (T := T_M) (N := 30) rfl (fun w h => List.mem_cons_of_mem _ (w_M_lay w h)) (by decide) (List.mem_cons_of_mem _ (w_M_has 32 rfl)) rfl MM_ok
theorem e_M_g52 {l : Launch} {c0 : Cond} {rm : Room} {nL : Nat} {cc : ByteArray} : fx_E1 l R_M (c0 :: w_M) rm MM nL cc (.getfield 52) (fx_tget MM 0 26) := fx_getf (C := R_M) (T := T_M) (N := 30) rfl (fun w h => List.mem_cons_of_mem _ (w_M_lay w h)) (by decide) (List.mem_cons_of_mem _ (w_M_has 34 rfl)) rfl MM_ok
theorem e_M_g56 {l : Launch} {c0 : Cond} {rm : Room} {nL : Nat} {cc : ByteArray} : fx_E1 l R_M (c0 :: w_M) rm MM nL cc (.getfield 56) (fx_tget MM 0 27) := fx_getf (C := R_M) (T := T_M) (N := 30) rfl (fun w h => List.mem_cons_of_mem _ (w_M_lay w h)) (by decide) (List.mem_cons_of_mem _ (w_M_has 35 rfl)) rfl MM_ok
theorem e_M_g59 {l : Launch} {c0 : Cond} {rm : Room} {nL : Nat} {cc : ByteArray} : fx_E1 l R_M (c0 :: w_M) rm MM nL cc (.getfield 59) (fx_tget MM 0 28) := fx_getf (C := R_M) (T := T_M) (N := 30) rfl (fun w h => List.mem_cons_of_mem _ (w_M_lay w h)) (by decide) (List.mem_cons_of_mem _ (w_M_has 36 rfl)) rfl MM_ok
theorem e_M_g66 {l : Launch} {c0 : Cond} {rm : Room} {nL : Nat} {cc : ByteArray} : fx_E1 l R_M (c0 :: w_M) rm MM nL cc (.getfield 66) (fx_tget MM 0 3) := fx_getf (C := R_M) (T := T_M) (N := 30) rfl (fun w h => List.mem_cons_of_mem _ (w_M_lay w h)) (by decide) (List.mem_cons_of_mem _ (w_M_has 9 rfl)) rfl MM_ok
theorem e_M_p66 {l : Launch} {c0 : Cond} {rm : Room} {nL : Nat} {cc : ByteArray} : fx_E1 l R_M (c0 :: w_M) rm MM nL cc (.putfield 66) (fx_tput MM 0 3) := fx_putI (C := R_M) (T := T_M) (N := 30) rfl (fun w h => List.mem_cons_of_mem _ (w_M_lay w h)) ty_M tyok_M nm_M (by decide) (List.mem_cons_of_mem _ (w_M_has 9 rfl)) rfl rfl rfl rfl MM_ok
theorem e_M_g70 {l : Launch} {c0 : Cond} {rm : Room} {nL : Nat} {cc : ByteArray} : fx_E1 l R_M (c0 :: w_M) rm MM nL cc (.getfield 70) (fx_tget MM 0 4) := fx_getf (C := R_M) (T := T_M) (N := 30) rfl (fun w h => List.mem_cons_of_mem _ (w_M_lay w h)) (by decide) (List.mem_cons_of_mem _ (w_M_has 10 rfl)) rfl MM_ok
theorem e_M_p70 {l : Launch} {c0 : Cond} {rm : Room} {nL : Nat} {cc : ByteArray} : fx_E1 l R_M (c0 :: w_M) rm MM nL cc (.putfield 70) (fx_tput MM 0 4) := fx_putI (C := R_M) (T := T_M) (N := 30) rfl (fun w h => List.mem_cons_of_mem _ (w_M_lay w h)) ty_M tyok_M nm_M (by decide) (List.mem_cons_of_mem _ (w_M_has 10 rfl)) rfl rfl rfl rfl MM_ok
theorem e_M_g73 {l : Launch} {c0 : Cond} {rm : Room} {nL : Nat} {cc : ByteArray} : fx_E1 l R_M (c0 :: w_M) rm MM nL cc (.getfield 73) (fx_tget MM 0 5) := fx_getf (C := R_M) (T := T_M) (N := 30) rfl (fun w h => List.mem_cons_of_mem _ (w_M_lay w h)) (by decide) (List.mem_cons_of_mem _ (w_M_has 1 rfl)) rfl MM_ok
theorem e_M_p73 {l : Launch} {c0 : Cond} {rm : Room} {nL : Nat} {cc : ByteArray} : fx_E1 l R_M (c0 :: w_M) rm MM nL cc (.putfield 73) (fx_tput MM 0 5) := fx_putI (C := R_M) (T := T_M) (N := 30) rfl (fun w h => List.mem_cons_of_mem _ (w_M_lay w h)) ty_M tyok_M nm_M (by decide) (List.mem_cons_of_mem _ (w_M_has 1 rfl)) rfl rfl rfl rfl MM_ok
theorem e_M_g76 {l : Launch} {c0 : Cond} {rm : Room} {nL : Nat} {cc : ByteArray} : fx_E1 l R_M (c0 :: w_M) rm MM nL cc (.getfield 76) (fx_tget MM 0 2) := fx_getf (C := R_M) (T := T_M) (N := 30) rfl (fun w h => List.mem_cons_of_mem _ (w_M_lay w h)) (by decide) (List.mem_cons_of_mem _ (w_M_has 11 rfl)) rfl MM_ok
theorem e_M_p76 {l : Launch} {c0 : Cond} {rm : Room} {nL : Nat} {cc : ByteArray} : fx_E1 l R_M (c0 :: w_M) rm MM nL cc (.putfield 76) (fx_tput MM 0 2) := fx_putI (C := R_M) (T := T_M) (N := 30) rfl (fun w h => List.mem_cons_of_mem _ (w_M_lay w h)) ty_M tyok_M nm_M (by decide) (List.mem_cons_of_mem _ (w_M_has 11 rfl)) rfl rfl rfl rfl MM_ok
theorem e_M_g79 {l : Launch} {c0 : Cond} {rm : Room} {nL : Nat} {cc : ByteArray} : fx_E1 l R_M (c0 :: w_M) rm MM nL cc (.getfield 79) (fx_tget MM 0 6) := fx_getf (C := R_M) (T := T_M) (N := 30) rfl (fun w h => List.mem_cons_of_mem _ (w_M_lay w h)) (by decide) (List.mem_cons_of_mem _ (w_M_has 12 rfl)) rfl MM_ok
theorem e_M_p79 {l : Launch} {c0 : Cond} {rm : Room} {nL : Nat} {cc : ByteArray} : fx_E1 l R_M (c0 :: w_M) rm MM nL cc (.putfield 79) (fx_tput MM 0 6) := fx_putI (C := R_M) (T := T_M) (N := 30) rfl (fun w h => List.mem_cons_of_mem _ (w_M_lay w h)) ty_M tyok_M nm_M (by decide) (List.mem_cons_of_mem _ (w_M_has 12 rfl)) rfl rfl rfl rfl MM_ok
theorem e_M_g111 {l : Launch} {c0 : Cond} {rm : Room} {nL : Nat} {cc : ByteArray} : fx_E1 l R_M (c0 :: w_M) rm MM nL cc (.getfield 111) (fx_tget MM 0 13) := fx_getf (C := R_M) (T := T_M) (N := 30) rfl (fun w h => List.mem_cons_of_mem _ (w_M_lay w h)) (by decide) (List.mem_cons_of_mem _ (w_M_has 65 rfl)) rfl MM_ok
theorem e_M_p111 {l : Launch} {c0 : Cond} {rm : Room} {nL : Nat} {cc : ByteArray} : fx_E1 l R_M (c0 :: w_M) rm MM nL cc (.putfield 111) (fx_tput MM 0 13) := fx_putI (C := R_M) (T := T_M) (N := 30) rfl (fun w h => List.mem_cons_of_mem _ (w_M_lay w h)) ty_M tyok_M nm_M (by decide) (List.mem_cons_of_mem _ (w_M_has 65 rfl)) rfl rfl rfl rfl MM_ok
theorem e_M_g185 {l : Launch} {c0 : Cond} {rm : Room} {nL : Nat} {cc : ByteArray} : fx_E1 l R_M (c0 :: w_M) rm MM nL cc (.getfield 185) (fx_tget MM 0 19) := fx_getf (C := R_M) (T := T_M) (N := 30) rfl (fun w h => List.mem_cons_of_mem _ (w_M_lay w h)) (by decide) (List.mem_cons_of_mem _ (w_M_has 163 rfl)) rfl MM_ok
theorem e_M_p185 {l : Launch} {c0 : Cond} {rm : Room} {nL : Nat} {cc : ByteArray} : fx_E1 l R_M (c0 :: w_M) rm MM nL cc (.putfield 185) (fx_tput MM 0 19) := fx_putI (C := R_M) (T := T_M) (N := 30) rfl (fun w h => List.mem_cons_of_mem _ (w_M_lay w h)) ty_M tyok_M nm_M (by decide) (List.mem_cons_of_mem _ (w_M_has 163 rfl)) rfl rfl rfl rfl MM_ok
theorem e_M_g188 {l : Launch} {c0 : Cond} {rm : Room} {nL : Nat} {cc : ByteArray} : fx_E1 l R_M (c0 :: w_M) rm MM nL cc (.getfield 188) (fx_tget MM 0 20) := fx_getf (C := R_M) (T := T_M) (N := 30) rfl (fun w h => List.mem_cons_of_mem _ (w_M_lay w h)) (by decide) (List.mem_cons_of_mem _ (w_M_has 167 rfl)) rfl MM_ok
theorem e_M_p188 {l : Launch} {c0 : Cond} {rm : Room} {nL : Nat} {cc : ByteArray} : fx_E1 l R_M (c0 :: w_M) rm MM nL cc (.putfield 188) (fx_tput MM 0 20) := fx_putI (C := R_M) (T := T_M) (N := 30) rfl (fun w h => List.mem_cons_of_mem _ (w_M_lay w h)) ty_M tyok_M nm_M (by decide) (List.mem_cons_of_mem _ (w_M_has 167 rfl)) rfl rfl rfl rfl MM_ok
theorem e_M_g194 {l : Launch} {c0 : Cond} {rm : Room} {nL : Nat} {cc : ByteArray} : fx_E1 l R_M (c0 :: w_M) rm MM nL cc (.getfield 194) (fx_tget MM 0 21) := fx_getf (C := R_M) (T := T_M) (N := 30) rfl (fun w h => List.mem_cons_of_mem _ (w_M_lay w h)) (by decide) (List.mem_cons_of_mem _ (w_M_has 172 rfl)) rfl MM_ok
theorem e_M_p194 {l : Launch} {c0 : Cond} {rm : Room} {nL : Nat} {cc : ByteArray} : fx_E1 l R_M (c0 :: w_M) rm MM nL cc (.putfield 194) (fx_tput MM 0 21) := fx_putI (C := R_M) (T := T_M) (N := 30) rfl (fun w h => List.mem_cons_of_mem _ (w_M_lay w h)) ty_M tyok_M nm_M (by decide) (List.mem_cons_of_mem _ (w_M_has 172 rfl)) rfl rfl rfl rfl MM_ok
theorem e_M_g257 {l : Launch} {c0 : Cond} {rm : Room} {nL : Nat} {cc : ByteArray} : fx_E1 l R_M (c0 :: w_M) rm MM nL cc (.getfield 257) (fx_tget MM 0 7) := fx_getf (C := R_M) (T := T_M) (N := 30) rfl (fun w h => List.mem_cons_of_mem _ (w_M_lay w h)) (by decide) (List.mem_cons_of_mem _ (w_M_has 262 rfl)) rfl MM_ok
theorem e_M_p257 {l : Launch} {c0 : Cond} {rm : Room} {nL : Nat} {cc : ByteArray} : fx_E1 l R_M (c0 :: w_M) rm MM nL cc (.putfield 257) (fx_tput MM 0 7) := fx_putI (C := R_M) (T := T_M) (N := 30) rfl (fun w h => List.mem_cons_of_mem _ (w_M_lay w h)) ty_M tyok_M nm_M (by decide) (List.mem_cons_of_mem _ (w_M_has 262 rfl)) rfl rfl rfl rfl MM_ok
theorem e_M_g260 {l : Launch} {c0 : Cond} {rm : Room} {nL : Nat} {cc : ByteArray} : fx_E1 l R_M (c0 :: w_M) rm MM nL cc (.getfield 260) (fx_tget MM 0 8) := fx_getf (C := R_M) (T := T_M) (N := 30) rfl (fun w h => List.mem_cons_of_mem _ (w_M_lay w h)) (by decide) (List.mem_cons_of_mem _ (w_M_has 263 rfl)) rfl MM_ok
theorem e_M_p260 {l : Launch} {c0 : Cond} {rm : Room} {nL : Nat} {cc : ByteArray} : fx_E1 l R_M (c0 :: w_M) rm MM nL cc (.putfield 260) (fx_tput MM 0 8) := fx_putI (C := R_M) (T := T_M) (N := 30) rfl (fun w h => List.mem_cons_of_mem _ (w_M_lay w h)) ty_M tyok_M nm_M (by decide) (List.mem_cons_of_mem _ (w_M_has 263 rfl)) rfl rfl rfl rfl MM_ok
theorem e_M_g263 {l : Launch} {c0 : Cond} {rm : Room} {nL : Nat} {cc : ByteArray} : fx_E1 l R_M (c0 :: w_M) rm MM nL cc (.getfield 263) (fx_tget MM 0 9) := fx_getf (C := R_M) (T := T_M) (N := 30) rfl (fun w h => List.mem_cons_of_mem _ (w_M_lay w h)) (by decide) (List.mem_cons_of_mem _ (w_M_has 264 rfl)) rfl MM_ok
theorem e_M_p263 {l : Launch} {c0 : Cond} {rm : Room} {nL : Nat} {cc : ByteArray} : fx_E1 l R_M (c0 :: w_M) rm MM nL cc (.putfield 263) (fx_tput MM 0 9) := fx_putI (C := R_M) (T := T_M) (N := 30) rfl (fun w h => List.mem_cons_of_mem _ (w_M_lay w h)) ty_M tyok_M nm_M (by decide) (List.mem_cons_of_mem _ (w_M_has 264 rfl)) rfl rfl rfl rfl MM_ok
theorem e_M_g297 {l : Launch} {c0 : Cond} {rm : Room} {nL : Nat} {cc : ByteArray} : fx_E1 l R_M (c0 :: w_M) rm MM nL cc (.getfield 297) (fx_tget MM 0 29) := fx_getf (C := R_M) (T := T_M) (N := 30) rfl (fun w h => List.mem_cons_of_mem _ (w_M_lay w h)) (by decide) (List.mem_cons_of_mem _ (w_M_has 305 rfl)) rfl MM_ok
theorem e_M_p297 {l : Launch} {c0 : Cond} {rm : Room} {nL : Nat} {cc : ByteArray} : fx_E1 l R_M (c0 :: w_M) rm MM nL cc (.putfield 297) (fx_tput MM 0 29) := fx_putJ (C := R_M) (T := T_M) (N := 30) rfl (fun w h => List.mem_cons_of_mem _ (w_M_lay w h)) ty_M tyok_M nm_M (by decide) (List.mem_cons_of_mem _ (w_M_has 305 rfl)) rfl rfl rfl rfl MM_ok
theorem e_M_l295 {l : Launch} {c0 : Cond} {rm : Room} {nL : Nat} {cc : ByteArray} : fx_E1 l R_M (c0 :: w_M) rm MM nL cc (.ldc2_w 295) (fx_tldc (.long (31))) := fx_ldcL (List.mem_cons_of_mem _ (w_M_has 304 rfl))
theorem e_M_l301 {l : Launch} {c0 : Cond} {rm : Room} {nL : Nat} {cc : ByteArray} : fx_E1 l R_M (c0 :: w_M) rm MM nL cc (.ldc2_w 301) (fx_tldc (.long (633))) := fx_ldcL (List.mem_cons_of_mem _ (w_M_has 306 rfl))
