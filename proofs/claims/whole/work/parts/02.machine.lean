/-! A SMALL MACHINE of our own: what the methods do to a list of cells; a reference is a place in that list (0 to 7: cells that were there before; they are only read). -/
abbrev am_E : Type := Option ((Nat × vp_A) ⊕ (Nat × List Value))
/-- cells made, slots made, the cells -/
abbrev am_W : Type := Nat × Nat × List am_E
/-- name, code, places of locals, result, number of its class, places of longs, a constructor or not -/
abbrev am_M : Type := MethodName × ByteArray × Nat × Option FieldType × Nat × List Nat × Bool
abbrev am_F : Type := Nat × List (Option Value) × List Value × am_W
def m_C_init : am_M := (⟨"GridColours", "<init>", "()V"⟩, prog_1_method_1_code, 1, none, 0, [], true)
def m_T_init : am_M := (⟨"GridColours$Tape", "<init>", "()V"⟩, prog_7_method_1_code, 1, none, 6, [], true)
def m_G_init : am_M := (⟨"GridColours$Grid", "<init>", "()V"⟩, prog_2_method_1_code, 1, none, 1, [], true)
def m_R_init : am_M := (⟨"GridColours$Reader", "<init>", "()V"⟩, prog_4_method_1_code, 1, none, 3, [], true)
def m_S_init : am_M := (⟨"GridColours$Seeker", "<init>", "()V"⟩, prog_5_method_1_code, 1, none, 4, [], true)
def m_H_init : am_M := (⟨"GridColours$History", "<init>", "()V"⟩, prog_3_method_1_code, 1, none, 2, [], true)
def m_F_init : am_M := (⟨"GridColours$Shelf", "<init>", "(I)V"⟩, prog_6_method_1_code, 4, none, 5, [], true)
def m_C_feed : am_M := (⟨"GridColours", "feed", "(IIIII)I"⟩, prog_1_method_2_code, 6, (some .int), 0, [], false)
def m_T_length : am_M := (⟨"GridColours$Tape", "length", "()I"⟩, prog_7_method_2_code, 1, (some .int), 6, [], false)
def m_T_append : am_M := (⟨"GridColours$Tape", "append", "(I)V"⟩, prog_7_method_3_code, 3, none, 6, [], false)
def m_C_end : am_M := (⟨"GridColours", "end", "(I)Z"⟩, prog_1_method_3_code, 2, (some .boolean), 0, [], false)
def m_T_cut : am_M := (⟨"GridColours$Tape", "cut", "(I)Z"⟩, prog_7_method_4_code, 2, (some .boolean), 6, [], false)
def m_C_text : am_M := (⟨"GridColours", "text", "()I"⟩, prog_1_method_4_code, 2, (some .int), 0, [], false)
def m_R_read : am_M := (⟨"GridColours$Reader", "read", "(LGridColours$Tape;)Z"⟩, prog_4_method_2_code, 4, (some .boolean), 3, [], false)
def m_G_start : am_M := (⟨"GridColours$Grid", "start", "(III)V"⟩, prog_2_method_10_code, 5, none, 1, [], false)
def m_G_size : am_M := (⟨"GridColours$Grid", "size", "()I"⟩, prog_2_method_5_code, 1, (some .int), 1, [], false)
def m_R_step : am_M := (⟨"GridColours$Reader", "step", "(LGridColours$Tape;)V"⟩, prog_4_method_11_code, 3, none, 3, [], false)
def m_T_byteAt : am_M := (⟨"GridColours$Tape", "byteAt", "(I)I"⟩, prog_7_method_5_code, 2, (some .int), 6, [], false)
def m_R_isBlank : am_M := (⟨"GridColours$Reader", "isBlank", "(I)Z"⟩, prog_4_method_14_code, 1, (some .boolean), 3, [], false)
def m_R_readRun : am_M := (⟨"GridColours$Reader", "readRun", "(LGridColours$Tape;)V"⟩, prog_4_method_12_code, 5, none, 3, [], false)
def m_R_isLetter : am_M := (⟨"GridColours$Reader", "isLetter", "(I)Z"⟩, prog_4_method_15_code, 1, (some .boolean), 3, [], false)
def m_R_isDigit : am_M := (⟨"GridColours$Reader", "isDigit", "(I)Z"⟩, prog_4_method_16_code, 1, (some .boolean), 3, [], false)
def m_R_refuse : am_M := (⟨"GridColours$Reader", "refuse", "(I)Z"⟩, prog_4_method_10_code, 2, (some .boolean), 3, [], false)
def m_R_readGrid : am_M := (⟨"GridColours$Reader", "readGrid", "(LGridColours$Tape;)Z"⟩, prog_4_method_7_code, 4, (some .boolean), 3, [], false)
def m_R_isWord : am_M := (⟨"GridColours$Reader", "isWord", "(LGridColours$Tape;Ljava/lang/String;)Z"⟩, prog_4_method_13_code, 4, (some .boolean), 3, [], false)
def m_R_readNumber : am_M := (⟨"GridColours$Reader", "readNumber", "(LGridColours$Tape;II)Z"⟩, prog_4_method_9_code, 4, (some .boolean), 3, [], false)
def m_R_readRow : am_M := (⟨"GridColours$Reader", "readRow", "(LGridColours$Tape;)Z"⟩, prog_4_method_8_code, 3, (some .boolean), 3, [], false)
def m_G_high : am_M := (⟨"GridColours$Grid", "high", "()I"⟩, prog_2_method_2_code, 1, (some .int), 1, [], false)
def m_G_wide : am_M := (⟨"GridColours$Grid", "wide", "()I"⟩, prog_2_method_3_code, 1, (some .int), 1, [], false)
def m_G_shades : am_M := (⟨"GridColours$Grid", "shades", "()I"⟩, prog_2_method_4_code, 1, (some .int), 1, [], false)
def m_G_cellAt : am_M := (⟨"GridColours$Grid", "cellAt", "(II)I"⟩, prog_2_method_9_code, 3, (some .int), 1, [], false)
def m_G_put : am_M := (⟨"GridColours$Grid", "put", "(II)V"⟩, prog_2_method_15_code, 6, none, 1, [3], false)
def m_G_hasCell : am_M := (⟨"GridColours$Grid", "hasCell", "(I)Z"⟩, prog_2_method_7_code, 2, (some .boolean), 1, [], false)
def m_G_hasColourOrBlank : am_M := (⟨"GridColours$Grid", "hasColourOrBlank", "(I)Z"⟩, prog_2_method_8_code, 2, (some .boolean), 1, [], false)
def m_R_faultKind : am_M := (⟨"GridColours$Reader", "faultKind", "()I"⟩, prog_4_method_3_code, 1, (some .int), 3, [], false)
def m_R_faultPlace : am_M := (⟨"GridColours$Reader", "faultPlace", "()I"⟩, prog_4_method_4_code, 1, (some .int), 3, [], false)
def m_R_told : am_M := (⟨"GridColours$Reader", "told", "()LGridColours$Grid;"⟩, prog_4_method_6_code, 1, (some (.object "GridColours$Grid")), 3, [], false)
def m_G_copy : am_M := (⟨"GridColours$Grid", "copy", "(LGridColours$Grid;)V"⟩, prog_2_method_11_code, 3, none, 1, [], false)
def m_G_cellsOf : am_M := (⟨"GridColours$Grid", "cellsOf", "(I)J"⟩, prog_2_method_13_code, 2, (some .long), 1, [], false)
def m_H_forget : am_M := (⟨"GridColours$History", "forget", "()V"⟩, prog_3_method_5_code, 1, none, 2, [], false)
def m_R_linesRead : am_M := (⟨"GridColours$Reader", "linesRead", "()I"⟩, prog_4_method_5_code, 1, (some .int), 3, [], false)
def m_C_fault : am_M := (⟨"GridColours", "fault", "()I"⟩, prog_1_method_5_code, 1, (some .int), 0, [], false)
def m_C_now : am_M := (⟨"GridColours", "now", "(I)I"⟩, prog_1_method_6_code, 2, (some .int), 0, [], false)
def m_J_bitCount : am_M := (⟨"java/lang/Long", "bitCount", "(J)I"⟩, prog_15_method_50_code, 2, (some .int), 10, [0], false)
def m_G_isGood : am_M := (⟨"GridColours$Grid", "isGood", "()Z"⟩, prog_2_method_21_code, 1, (some .boolean), 1, [], false)
def m_G_anyRectangle : am_M := (⟨"GridColours$Grid", "anyRectangle", "(J)J"⟩, prog_2_method_22_code, 6, (some .long), 1, [1, 4], false)
def m_G_rectangleIn : am_M := (⟨"GridColours$Grid", "rectangleIn", "(J)J"⟩, prog_2_method_23_code, 11, (some .long), 1, [1, 9], false)
def m_G_columnsOf : am_M := (⟨"GridColours$Grid", "columnsOf", "(JI)I"⟩, prog_2_method_18_code, 4, (some .int), 1, [1], false)
def m_H_size : am_M := (⟨"GridColours$History", "size", "()I"⟩, prog_3_method_2_code, 1, (some .int), 2, [], false)
def m_C_at : am_M := (⟨"GridColours", "at", "(I)I"⟩, prog_1_method_7_code, 2, (some .int), 0, [], false)
def m_G_colourOf : am_M := (⟨"GridColours$Grid", "colourOf", "(I)I"⟩, prog_2_method_14_code, 3, (some .int), 1, [], false)
def m_C_rectangles : am_M := (⟨"GridColours", "rectangles", "(I)I"⟩, prog_1_method_9_code, 2, (some .int), 0, [], false)
def m_G_countAll : am_M := (⟨"GridColours$Grid", "countAll", "()I"⟩, prog_2_method_20_code, 3, (some .int), 1, [], false)
def m_G_countOf : am_M := (⟨"GridColours$Grid", "countOf", "(I)I"⟩, prog_2_method_19_code, 8, (some .int), 1, [2], false)
def m_I_bitCount : am_M := (⟨"java/lang/Integer", "bitCount", "(I)I"⟩, prog_14_method_49_code, 1, (some .int), 9, [], false)
def m_C_pairsOf : am_M := (⟨"GridColours", "pairsOf", "(I)I"⟩, prog_1_method_37_code, 1, (some .int), 0, [], false)
def m_C_rectangle : am_M := (⟨"GridColours", "rectangle", "(II)I"⟩, prog_1_method_10_code, 3, (some .int), 0, [], false)
def m_G_sideOf : am_M := (⟨"GridColours$Grid", "sideOf", "(II)I"⟩, prog_2_method_25_code, 7, (some .int), 1, [], false)
def m_G_countBetween : am_M := (⟨"GridColours$Grid", "countBetween", "(II)I"⟩, prog_2_method_26_code, 7, (some .int), 1, [5], false)
def m_G_columnBetween : am_M := (⟨"GridColours$Grid", "columnBetween", "(IIIZ)I"⟩, prog_2_method_27_code, 9, (some .int), 1, [], false)
def m_G_columnsBetween : am_M := (⟨"GridColours$Grid", "columnsBetween", "(III)I"⟩, prog_2_method_28_code, 7, (some .int), 1, [5], false)
def m_C_through : am_M := (⟨"GridColours", "through", "(I)I"⟩, prog_1_method_11_code, 2, (some .int), 0, [], false)
def m_G_countThrough : am_M := (⟨"GridColours$Grid", "countThrough", "(II)I"⟩, prog_2_method_24_code, 11, (some .int), 1, [3], false)
def m_C_worst : am_M := (⟨"GridColours", "worst", "()I"⟩, prog_1_method_12_code, 5, (some .int), 0, [], false)
def m_C_may : am_M := (⟨"GridColours", "may", "(I)I"⟩, prog_1_method_13_code, 4, (some .int), 0, [], false)
def m_C_most : am_M := (⟨"GridColours", "most", "(II)I"⟩, prog_1_method_15_code, 3, (some .int), 0, [], false)
def m_C_isOpenSize : am_M := (⟨"GridColours", "isOpenSize", "(II)Z"⟩, prog_1_method_35_code, 2, (some .boolean), 0, [], false)
def m_C_openCells : am_M := (⟨"GridColours", "openCells", "(II)I"⟩, prog_1_method_36_code, 3, (some .int), 0, [], false)
def m_C_crowded : am_M := (⟨"GridColours", "crowded", "(III)I"⟩, prog_1_method_16_code, 4, (some .int), 0, [], false)
def m_C_paired : am_M := (⟨"GridColours", "paired", "(III)I"⟩, prog_1_method_17_code, 7, (some .int), 0, [], false)
def m_C_search : am_M := (⟨"GridColours", "search", "(I)I"⟩, prog_1_method_18_code, 2, (some .int), 0, [], false)
def m_G_exists : am_M := (⟨"GridColours$Grid", "exists", "()Z"⟩, prog_2_method_6_code, 1, (some .boolean), 1, [], false)
def m_S_seek : am_M := (⟨"GridColours$Seeker", "seek", "(LGridColours$Grid;)V"⟩, prog_5_method_5_code, 2, none, 4, [], false)
def m_G_isSame : am_M := (⟨"GridColours$Grid", "isSame", "(LGridColours$Grid;)Z"⟩, prog_2_method_12_code, 3, (some .boolean), 1, [], false)
def m_S_goThrough : am_M := (⟨"GridColours$Seeker", "goThrough", "()I"⟩, prog_5_method_6_code, 3, (some .int), 4, [], false)
def m_S_listBlanks : am_M := (⟨"GridColours$Seeker", "listBlanks", "()V"⟩, prog_5_method_7_code, 2, none, 4, [], false)
def m_S_colourBlank : am_M := (⟨"GridColours$Seeker", "colourBlank", "(I)I"⟩, prog_5_method_8_code, 5, (some .int), 4, [], false)
def m_S_triesMade : am_M := (⟨"GridColours$Seeker", "triesMade", "()I"⟩, prog_5_method_2_code, 1, (some .int), 4, [], false)
def m_S_outcome : am_M := (⟨"GridColours$Seeker", "outcome", "()I"⟩, prog_5_method_3_code, 1, (some .int), 4, [], false)
def m_C_found : am_M := (⟨"GridColours", "found", "(I)I"⟩, prog_1_method_19_code, 2, (some .int), 0, [], false)
def m_C_isFillable : am_M := (⟨"GridColours", "isFillable", "()Z"⟩, prog_1_method_39_code, 1, (some .boolean), 0, [], false)
def m_S_result : am_M := (⟨"GridColours$Seeker", "result", "()LGridColours$Grid;"⟩, prog_5_method_4_code, 1, (some (.object "GridColours$Grid")), 4, [], false)
def m_C_fill : am_M := (⟨"GridColours", "fill", "()I"⟩, prog_1_method_20_code, 2, (some .int), 0, [], false)
def m_H_keep : am_M := (⟨"GridColours$History", "keep", "(LGridColours$Grid;)V"⟩, prog_3_method_3_code, 2, none, 2, [], false)
def m_F_store : am_M := (⟨"GridColours$Shelf", "store", "(ILGridColours$Grid;)Z"⟩, prog_6_method_3_code, 3, (some .boolean), 5, [], false)
def m_F_hasPlace : am_M := (⟨"GridColours$Shelf", "hasPlace", "(I)Z"⟩, prog_6_method_2_code, 2, (some .boolean), 5, [], false)
def m_C_likes : am_M := (⟨"GridColours", "likes", "()I"⟩, prog_1_method_21_code, 4, (some .int), 0, [], false)
def m_C_isOrder : am_M := (⟨"GridColours", "isOrder", "(II)Z"⟩, prog_1_method_40_code, 4, (some .boolean), 0, [], false)
def m_C_likesByRows : am_M := (⟨"GridColours", "likesByRows", "(I)I"⟩, prog_1_method_41_code, 5, (some .int), 0, [], false)
def m_G_isLikeItself : am_M := (⟨"GridColours$Grid", "isLikeItself", "(II)Z"⟩, prog_2_method_29_code, 4, (some .boolean), 1, [], false)
def m_G_moved : am_M := (⟨"GridColours$Grid", "moved", "(JII)J"⟩, prog_2_method_31_code, 11, (some .long), 1, [1, 5], false)
def m_G_isOfOneColour : am_M := (⟨"GridColours$Grid", "isOfOneColour", "(J)Z"⟩, prog_2_method_30_code, 4, (some .boolean), 1, [1], false)
def m_C_lay : am_M := (⟨"GridColours", "lay", "()I"⟩, prog_1_method_22_code, 2, (some .int), 0, [], false)
def m_T_holdsOnly : am_M := (⟨"GridColours$Tape", "holdsOnly", "(II)Z"⟩, prog_7_method_6_code, 4, (some .boolean), 6, [], false)
def m_C_layTape : am_M := (⟨"GridColours", "layTape", "()V"⟩, prog_1_method_42_code, 5, none, 0, [], false)
def m_C_apart : am_M := (⟨"GridColours", "apart", "()I"⟩, prog_1_method_23_code, 4, (some .int), 0, [], false)
def m_C_liesApart : am_M := (⟨"GridColours", "liesApart", "(I)Z"⟩, prog_1_method_43_code, 7, (some .boolean), 0, [], false)
def m_C_paint : am_M := (⟨"GridColours", "paint", "(II)I"⟩, prog_1_method_24_code, 3, (some .int), 0, [], false)
def m_C_rows : am_M := (⟨"GridColours", "rows", "(II)Z"⟩, prog_1_method_25_code, 4, (some .boolean), 0, [], false)
def m_C_isPairBelow : am_M := (⟨"GridColours", "isPairBelow", "(III)Z"⟩, prog_1_method_38_code, 3, (some .boolean), 0, [], false)
def m_G_exchange : am_M := (⟨"GridColours$Grid", "exchange", "(II)V"⟩, prog_2_method_16_code, 4, none, 1, [], false)
def m_C_columns : am_M := (⟨"GridColours", "columns", "(II)Z"⟩, prog_1_method_26_code, 4, (some .boolean), 0, [], false)
def m_C_name : am_M := (⟨"GridColours", "name", "(II)I"⟩, prog_1_method_27_code, 3, (some .int), 0, [], false)
def m_G_exchangeColours : am_M := (⟨"GridColours$Grid", "exchangeColours", "(II)V"⟩, prog_2_method_17_code, 5, none, 1, [3], false)
def m_C_turn : am_M := (⟨"GridColours", "turn", "()I"⟩, prog_1_method_28_code, 3, (some .int), 0, [], false)
def m_C_drawn : am_M := (⟨"GridColours", "drawn", "(II)I"⟩, prog_1_method_29_code, 4, (some .int), 0, [], false)
def m_C_drawOn : am_M := (⟨"GridColours", "drawOn", "(LGridColours$Grid;II)I"⟩, prog_1_method_44_code, 8, (some .int), 0, [], false)
def m_C_nextState : am_M := (⟨"GridColours", "nextState", "(I)I"⟩, prog_1_method_45_code, 1, (some .int), 0, [], false)
def m_C_drawOf : am_M := (⟨"GridColours", "drawOf", "(II)I"⟩, prog_1_method_46_code, 2, (some .int), 0, [], false)
def m_C_undo : am_M := (⟨"GridColours", "undo", "()I"⟩, prog_1_method_30_code, 1, (some .int), 0, [], false)
def m_H_takeBack : am_M := (⟨"GridColours$History", "takeBack", "(LGridColours$Grid;)Z"⟩, prog_3_method_4_code, 2, (some .boolean), 2, [], false)
def m_F_fetch : am_M := (⟨"GridColours$Shelf", "fetch", "(ILGridColours$Grid;)Z"⟩, prog_6_method_4_code, 3, (some .boolean), 5, [], false)
def m_C_image : am_M := (⟨"GridColours", "image", "(I)Z"⟩, prog_1_method_31_code, 2, (some .boolean), 0, [], false)
def m_C_restore : am_M := (⟨"GridColours", "restore", "(I)Z"⟩, prog_1_method_32_code, 2, (some .boolean), 0, [], false)
def m_C_having : am_M := (⟨"GridColours", "having", "(I)J"⟩, prog_1_method_8_code, 2, (some .long), 0, [], false)
def m_C_mend : am_M := (⟨"GridColours", "mend", "()J"⟩, prog_1_method_14_code, 4, (some .long), 0, [2], false)
def m_C_leastMend : am_M := (⟨"GridColours", "leastMend", "(LGridColours$Grid;JI)J"⟩, prog_1_method_33_code, 11, (some .long), 0, [1, 4, 6, 9], false)
def m_C_isLess : am_M := (⟨"GridColours", "isLess", "(JJ)Z"⟩, prog_1_method_34_code, 4, (some .boolean), 0, [0, 2], false)
def m_M_thrown : am_M := (⟨"GridColoursModel", "thrown", "()I"⟩, prog_9_method_1_code, 1, (some .int), 7, [], false)
def m_M_feed : am_M := (⟨"GridColoursModel", "feed", "(IIIII)I"⟩, prog_9_method_6_code, 6, (some .int), 7, [], false)
def m_M_lay : am_M := (⟨"GridColoursModel", "lay", "(I)V"⟩, prog_9_method_5_code, 3, none, 7, [], false)
def m_M_end : am_M := (⟨"GridColoursModel", "end", "(I)Z"⟩, prog_9_method_7_code, 2, (some .boolean), 7, [], false)
def m_M_init : am_M := (⟨"GridColoursModel", "<init>", "()V"⟩, prog_9_method_15_code, 1, none, 7, [], true)
def m_M_text : am_M := (⟨"GridColoursModel", "text", "()I"⟩, prog_9_method_22_code, 3, (some .int), 7, [], false)
def m_M_next : am_M := (⟨"GridColoursModel", "next", "()V"⟩, prog_9_method_11_code, 5, none, 7, [], false)
def m_M_isLetter : am_M := (⟨"GridColoursModel", "isLetter", "(I)Z"⟩, prog_9_method_10_code, 1, (some .boolean), 7, [], false)
def m_M_isDigit : am_M := (⟨"GridColoursModel", "isDigit", "(I)Z"⟩, prog_9_method_9_code, 1, (some .boolean), 7, [], false)
def m_M_tapeAt : am_M := (⟨"GridColoursModel", "tapeAt", "(I)I"⟩, prog_9_method_8_code, 2, (some .int), 7, [], false)
def m_M_readLine : am_M := (⟨"GridColoursModel", "readLine", "()Z"⟩, prog_9_method_20_code, 1, (some .boolean), 7, [], false)
def m_M_spelt : am_M := (⟨"GridColoursModel", "spelt", "(IIII)J"⟩, prog_9_method_12_code, 6, (some .long), 7, [4], false)
def m_M_isWord : am_M := (⟨"GridColoursModel", "isWord", "(J)Z"⟩, prog_9_method_13_code, 3, (some .boolean), 7, [1], false)
def m_M_readGrid : am_M := (⟨"GridColoursModel", "readGrid", "()Z"⟩, prog_9_method_18_code, 3, (some .boolean), 7, [], false)
def m_M_told : am_M := (⟨"GridColoursModel", "told", "(II)I"⟩, prog_9_method_17_code, 4, (some .int), 7, [], false)
def m_M_bad : am_M := (⟨"GridColoursModel", "bad", "(I)Z"⟩, prog_9_method_14_code, 2, (some .boolean), 7, [], false)
def m_M_isIn : am_M := (⟨"GridColoursModel", "isIn", "(III)Z"⟩, prog_9_method_3_code, 3, (some .boolean), 7, [], false)
def m_M_readCells : am_M := (⟨"GridColoursModel", "readCells", "()Z"⟩, prog_9_method_19_code, 3, (some .boolean), 7, [], false)
def m_M_readEnd : am_M := (⟨"GridColoursModel", "readEnd", "()Z"⟩, prog_9_method_21_code, 1, (some .boolean), 7, [], false)
def m_M_copy : am_M := (⟨"GridColoursModel", "copy", "([II[II)V"⟩, prog_9_method_16_code, 5, none, 7, [], false)
def m_M_fault : am_M := (⟨"GridColoursModel", "fault", "()I"⟩, prog_9_method_23_code, 1, (some .int), 7, [], false)
def m_M_now : am_M := (⟨"GridColoursModel", "now", "(I)I"⟩, prog_9_method_35_code, 2, (some .int), 7, [], false)
def m_M_high : am_M := (⟨"GridColoursModel", "high", "()I"⟩, prog_9_method_24_code, 1, (some .int), 7, [], false)
def m_M_broad : am_M := (⟨"GridColoursModel", "broad", "()I"⟩, prog_9_method_25_code, 1, (some .int), 7, [], false)
def m_M_blanks : am_M := (⟨"GridColoursModel", "blanks", "([I)I"⟩, prog_9_method_34_code, 4, (some .int), 7, [], false)
def m_M_isGood : am_M := (⟨"GridColoursModel", "isGood", "()Z"⟩, prog_9_method_33_code, 1, (some .boolean), 7, [], false)
def m_M_laysFours : am_M := (⟨"GridColoursModel", "laysFours", "(I)V"⟩, prog_9_method_32_code, 7, none, 7, [], false)
def m_M_four : am_M := (⟨"GridColoursModel", "four", "([IIIII)I"⟩, prog_9_method_29_code, 6, (some .int), 7, [], false)
def m_M_colourAt : am_M := (⟨"GridColoursModel", "colourAt", "([III)I"⟩, prog_9_method_28_code, 3, (some .int), 7, [], false)
def m_M_cellBit : am_M := (⟨"GridColoursModel", "cellBit", "(II)J"⟩, prog_9_method_31_code, 3, (some .long), 7, [], false)
def m_M_at : am_M := (⟨"GridColoursModel", "at", "(I)I"⟩, prog_9_method_36_code, 2, (some .int), 7, [], false)
def m_M_isCell : am_M := (⟨"GridColoursModel", "isCell", "(I)Z"⟩, prog_9_method_27_code, 2, (some .boolean), 7, [], false)
def m_M_cellMany : am_M := (⟨"GridColoursModel", "cellMany", "()I"⟩, prog_9_method_26_code, 1, (some .int), 7, [], false)
def m_M_having : am_M := (⟨"GridColoursModel", "having", "(I)J"⟩, prog_9_method_38_code, 5, (some .long), 7, [2], false)
def m_M_isColour : am_M := (⟨"GridColoursModel", "isColour", "(II)Z"⟩, prog_9_method_37_code, 3, (some .boolean), 7, [], false)
def m_M_refuse : am_M := (⟨"GridColoursModel", "refuse", "()I"⟩, prog_9_method_2_code, 1, (some .int), 7, [], false)
def m_M_rectangles : am_M := (⟨"GridColoursModel", "rectangles", "(I)I"⟩, prog_9_method_39_code, 2, (some .int), 7, [], false)
def m_M_rectangle : am_M := (⟨"GridColoursModel", "rectangle", "(II)I"⟩, prog_9_method_40_code, 3, (some .int), 7, [], false)
def m_M_through : am_M := (⟨"GridColoursModel", "through", "(I)I"⟩, prog_9_method_41_code, 2, (some .int), 7, [], false)
def m_M_through_1 : am_M := (⟨"GridColoursModel", "through", "([II)I"⟩, prog_9_method_30_code, 7, (some .int), 7, [], false)
def m_M_worst : am_M := (⟨"GridColoursModel", "worst", "()I"⟩, prog_9_method_42_code, 6, (some .int), 7, [], false)
def m_M_may : am_M := (⟨"GridColoursModel", "may", "(I)I"⟩, prog_9_method_43_code, 4, (some .int), 7, [], false)
def m_M_mend : am_M := (⟨"GridColoursModel", "mend", "()J"⟩, prog_9_method_45_code, 5, (some .long), 7, [], false)
def m_M_meets : am_M := (⟨"GridColoursModel", "meets", "(J)Z"⟩, prog_9_method_44_code, 4, (some .boolean), 7, [1], false)
def m_M_most : am_M := (⟨"GridColoursModel", "most", "(II)I"⟩, prog_9_method_49_code, 3, (some .int), 7, [], false)
def m_M_isSize : am_M := (⟨"GridColoursModel", "isSize", "(II)Z"⟩, prog_9_method_48_code, 2, (some .boolean), 7, [], false)
def m_M_laysMost : am_M := (⟨"GridColoursModel", "laysMost", "(II)I"⟩, prog_9_method_47_code, 10, (some .int), 7, [], false)
def m_M_pairs : am_M := (⟨"GridColoursModel", "pairs", "(II)I"⟩, prog_9_method_46_code, 6, (some .int), 7, [], false)
def m_M_bits : am_M := (⟨"GridColoursModel", "bits", "(I)I"⟩, prog_9_method_4_code, 3, (some .int), 7, [], false)
def m_M_crowded : am_M := (⟨"GridColoursModel", "crowded", "(III)I"⟩, prog_9_method_50_code, 4, (some .int), 7, [], false)
def m_M_paired : am_M := (⟨"GridColoursModel", "paired", "(III)I"⟩, prog_9_method_51_code, 7, (some .int), 7, [], false)
def m_M_search : am_M := (⟨"GridColoursModel", "search", "(I)I"⟩, prog_9_method_53_code, 2, (some .int), 7, [], false)
def m_M_searches : am_M := (⟨"GridColoursModel", "searches", "()V"⟩, prog_9_method_52_code, 5, none, 7, [], false)
def m_M_found : am_M := (⟨"GridColoursModel", "found", "(I)I"⟩, prog_9_method_54_code, 2, (some .int), 7, [], false)
def m_M_fill : am_M := (⟨"GridColoursModel", "fill", "()I"⟩, prog_9_method_55_code, 2, (some .int), 7, [], false)
def m_M_snap : am_M := (⟨"GridColoursModel", "snap", "()V"⟩, prog_9_method_62_code, 2, none, 7, [], false)
def m_M_likes : am_M := (⟨"GridColoursModel", "likes", "()I"⟩, prog_9_method_58_code, 1, (some .int), 7, [], false)
def m_M_ordersOn : am_M := (⟨"GridColoursModel", "ordersOn", "(IZI)I"⟩, prog_9_method_57_code, 7, (some .int), 7, [], false)
def m_M_isLike : am_M := (⟨"GridColoursModel", "isLike", "()Z"⟩, prog_9_method_56_code, 6, (some .boolean), 7, [], false)
def m_M_lay_1 : am_M := (⟨"GridColoursModel", "lay", "()I"⟩, prog_9_method_59_code, 4, (some .int), 7, [], false)
def m_M_apart : am_M := (⟨"GridColoursModel", "apart", "()I"⟩, prog_9_method_61_code, 4, (some .int), 7, [], false)
def m_M_isApart : am_M := (⟨"GridColoursModel", "isApart", "(II)Z"⟩, prog_9_method_60_code, 7, (some .boolean), 7, [], false)
def m_M_paint : am_M := (⟨"GridColoursModel", "paint", "(II)I"⟩, prog_9_method_64_code, 3, (some .int), 7, [], false)
def m_M_rows : am_M := (⟨"GridColoursModel", "rows", "(II)Z"⟩, prog_9_method_66_code, 4, (some .boolean), 7, [], false)
def m_M_swap : am_M := (⟨"GridColoursModel", "swap", "(II)V"⟩, prog_9_method_65_code, 4, none, 7, [], false)
def m_M_columns : am_M := (⟨"GridColoursModel", "columns", "(II)Z"⟩, prog_9_method_67_code, 4, (some .boolean), 7, [], false)
def m_M_name : am_M := (⟨"GridColoursModel", "name", "(II)I"⟩, prog_9_method_68_code, 6, (some .int), 7, [], false)
def m_M_turn : am_M := (⟨"GridColoursModel", "turn", "()I"⟩, prog_9_method_69_code, 3, (some .int), 7, [], false)
def m_M_drawn : am_M := (⟨"GridColoursModel", "drawn", "(II)I"⟩, prog_9_method_72_code, 5, (some .int), 7, [], false)
def m_M_does : am_M := (⟨"GridColoursModel", "does", "()Z"⟩, prog_9_method_71_code, 4, (some .boolean), 7, [], false)
def m_M_draw : am_M := (⟨"GridColoursModel", "draw", "(I)I"⟩, prog_9_method_70_code, 2, (some .int), 7, [], false)
def m_M_stay : am_M := (⟨"GridColoursModel", "stay", "()V"⟩, prog_9_method_63_code, 1, none, 7, [], false)
def m_M_undo : am_M := (⟨"GridColoursModel", "undo", "()I"⟩, prog_9_method_73_code, 1, (some .int), 7, [], false)
def m_M_image : am_M := (⟨"GridColoursModel", "image", "(I)Z"⟩, prog_9_method_74_code, 2, (some .boolean), 7, [], false)
def m_M_restore : am_M := (⟨"GridColoursModel", "restore", "(I)Z"⟩, prog_9_method_75_code, 2, (some .boolean), 7, [], false)
def m_L_law : am_M := (⟨"GridColoursLaw", "law", "([I)Z"⟩, code, 8, some .boolean, 8, [6], false)
/-- fields by the class that asks and the index: class, place, kind (0 int, 1 long, 2 reference) -/
def am_fls (own : Nat) : List (Nat × Nat × Nat × Nat) := match own with
  | 0 => [(10, 0, 0, 3), (19, 0, 1, 3), (23, 0, 2, 3), (29, 0, 3, 3), (36, 0, 4, 3), (43, 0, 5, 3), (52, 0, 6, 3), (56, 0, 7, 0)]
  | 1 => [(9, 1, 0, 3), (15, 1, 1, 0), (19, 1, 2, 0), (22, 1, 3, 0)]
  | 2 => [(14, 2, 0, 3), (20, 2, 1, 0), (24, 2, 2, 0)]
  | 3 => [(12, 3, 0, 3), (18, 3, 1, 0), (22, 3, 2, 0), (25, 3, 3, 0), (28, 3, 4, 0), (31, 3, 5, 0), (34, 3, 6, 0), (37, 3, 7, 0)]
  | 4 => [(12, 4, 0, 3), (18, 4, 1, 3), (21, 4, 2, 3), (25, 4, 3, 0), (29, 4, 4, 0), (32, 4, 5, 0)]
  | 5 => [(15, 5, 0, 3), (21, 5, 1, 3)]
  | 6 => [(9, 6, 0, 3), (15, 6, 1, 0)]
  | 7 => [(1, 7, 0, 0), (7, 7, 1, 3), (11, 7, 2, 0), (18, 7, 3, 0), (21, 7, 4, 0), (24, 7, 5, 0), (27, 7, 6, 0), (37, 7, 10, 1), (41, 7, 7, 0), (52, 7, 8, 0), (55, 7, 9, 0), (64, 7, 11, 3), (67, 7, 12, 3), (70, 7, 13, 3), (73, 7, 14, 3), (76, 7, 15, 3), (79, 7, 16, 3), (82, 7, 17, 3), (85, 7, 18, 3), (89, 7, 21, 3), (92, 7, 22, 3), (97, 7, 24, 3), (100, 7, 25, 3), (103, 7, 26, 3), (106, 7, 27, 3), (109, 7, 30, 3), (112, 7, 31, 3), (115, 7, 32, 3), (132, 7, 20, 0), (160, 7, 19, 0), (181, 7, 23, 0), (227, 7, 28, 0), (230, 7, 29, 0), (253, 7, 33, 0)]
  | _ => []
/-- methods by the class that asks and the index: kind (0 invokevirtual, 1 invokestatic, 2 invokespecial, 3 the same of a nest mate, 4 invokestatic of a nest mate, 5 Object(), 6 String.length, 7 String.charAt, 8 the law's having, 9 the law's mend), the method, its arguments -/
def am_mts (own : Nat) : List (Nat × Nat × am_M × Nat) := match own with
  | 0 => [(1, 5, m_C_init, 0), (9, 3, m_T_init, 0), (18, 3, m_G_init, 0), (28, 3, m_R_init, 0), (35, 3, m_S_init, 0), (42, 3, m_H_init, 0), (49, 2, m_F_init, 1), (60, 0, m_T_length, 0), (64, 0, m_T_append, 1), (67, 0, m_T_cut, 1), (71, 0, m_R_read, 1), (75, 0, m_R_faultKind, 0), (78, 0, m_R_faultPlace, 0), (81, 0, m_R_told, 0), (85, 0, m_G_copy, 1), (89, 0, m_H_forget, 0), (92, 0, m_R_linesRead, 0), (95, 0, m_G_high, 0), (98, 0, m_G_wide, 0), (101, 0, m_G_shades, 0), (104, 0, m_G_cellsOf, 1), (108, 1, m_J_bitCount, 1), (114, 0, m_G_isGood, 0), (118, 0, m_H_size, 0), (121, 0, m_G_hasCell, 1), (124, 0, m_G_colourOf, 1), (128, 0, m_G_hasColourOrBlank, 1), (138, 0, m_G_countAll, 0), (141, 0, m_G_countOf, 1), (144, 0, m_G_sideOf, 2), (148, 0, m_G_countThrough, 2), (151, 0, m_G_size, 0), (152, 1, m_C_leastMend, 3), (160, 1, m_C_isOpenSize, 2), (164, 1, m_C_openCells, 2), (167, 1, m_C_pairsOf, 1), (170, 0, m_G_exists, 0), (173, 0, m_S_seek, 1), (176, 0, m_S_triesMade, 0), (179, 0, m_S_outcome, 0), (182, 0, m_C_isFillable, 0), (185, 0, m_S_result, 0), (188, 0, m_H_keep, 1), (191, 1, m_C_isOrder, 2), (194, 0, m_C_likesByRows, 1), (197, 0, m_T_holdsOnly, 2), (200, 0, m_C_layTape, 0), (203, 0, m_C_liesApart, 1), (206, 0, m_G_put, 2), (210, 1, m_C_isPairBelow, 3), (214, 0, m_G_cellAt, 2), (217, 0, m_G_exchange, 2), (220, 0, m_G_exchangeColours, 2), (223, 0, m_G_start, 3), (227, 1, m_C_drawOn, 3), (231, 0, m_H_takeBack, 1), (235, 0, m_F_store, 2), (239, 0, m_F_fetch, 2), (242, 0, m_G_anyRectangle, 1), (246, 1, m_C_isLess, 2), (256, 0, m_G_isLikeItself, 2), (259, 0, m_T_byteAt, 1), (262, 1, m_C_nextState, 1), (265, 1, m_C_drawOf, 2)]
  | 1 => [(3, 5, m_C_init, 0), (25, 0, m_G_size, 0), (31, 0, m_G_cellsOf, 1), (35, 0, m_G_hasCell, 1), (39, 0, m_G_hasColourOrBlank, 1), (42, 0, m_G_colourOf, 1), (46, 0, m_G_put, 2), (50, 0, m_G_columnsOf, 2), (54, 1, m_I_bitCount, 1), (59, 4, m_C_pairsOf, 1), (62, 0, m_G_countOf, 1), (65, 0, m_G_anyRectangle, 1), (69, 0, m_G_rectangleIn, 1), (72, 0, m_G_countBetween, 2), (76, 0, m_G_columnBetween, 4), (80, 0, m_G_columnsBetween, 3), (84, 0, m_G_cellAt, 2), (87, 0, m_G_moved, 3), (91, 0, m_G_isOfOneColour, 1)]
  | 2 => [(3, 5, m_C_init, 0), (11, 2, m_F_init, 1), (27, 0, m_F_store, 2), (31, 10, m_C_init, 2), (37, 0, m_F_fetch, 2)]
  | 3 => [(3, 5, m_C_init, 0), (11, 3, m_G_init, 0), (40, 0, m_G_start, 3), (44, 0, m_R_step, 1), (48, 0, m_T_length, 0), (54, 0, m_R_refuse, 1), (58, 0, m_R_readGrid, 1), (62, 0, m_R_readRow, 1), (66, 0, m_R_isWord, 2), (70, 0, m_R_readNumber, 3), (76, 0, m_G_high, 0), (79, 0, m_G_wide, 0), (82, 0, m_G_shades, 0), (85, 0, m_G_cellAt, 2), (89, 0, m_G_put, 2), (93, 10, m_C_init, 2), (98, 0, m_T_byteAt, 1), (102, 1, m_R_isBlank, 1), (105, 0, m_R_readRun, 1), (108, 1, m_R_isLetter, 1), (111, 1, m_R_isDigit, 1), (114, 6, m_C_init, 0), (117, 7, m_C_init, 1)]
  | 4 => [(3, 5, m_C_init, 0), (11, 3, m_G_init, 0), (35, 0, m_G_isSame, 1), (39, 0, m_G_copy, 1), (43, 0, m_G_isGood, 0), (47, 0, m_S_goThrough, 0), (51, 0, m_S_listBlanks, 0), (55, 0, m_S_colourBlank, 1), (59, 0, m_G_size, 0), (62, 0, m_G_colourOf, 1), (65, 0, m_G_shades, 0), (68, 0, m_G_countThrough, 2), (72, 0, m_G_put, 2)]
  | 5 => [(1, 5, m_C_init, 0), (7, 11, m_C_init, 2), (25, 3, m_G_init, 0), (26, 0, m_F_hasPlace, 1), (30, 0, m_G_copy, 1)]
  | 6 => [(3, 5, m_C_init, 0), (19, 0, m_T_byteAt, 1)]
  | 7 => [(14, 0, m_M_lay, 1), (30, 1, m_M_isLetter, 1), (34, 1, m_M_isDigit, 1), (44, 0, m_M_tapeAt, 1), (58, 5, m_C_init, 0), (118, 0, m_M_bad, 1), (121, 1, m_M_isIn, 3), (125, 0, m_M_next, 0), (128, 0, m_M_told, 2), (135, 1, m_M_spelt, 4), (139, 0, m_M_isWord, 1), (143, 0, m_M_readGrid, 0), (147, 0, m_M_readCells, 0), (150, 0, m_M_readLine, 0), (153, 0, m_M_readEnd, 0), (156, 1, m_M_copy, 4), (163, 0, m_M_high, 0), (167, 0, m_M_broad, 0), (170, 0, m_M_cellMany, 0), (173, 1, m_M_colourAt, 3), (177, 1, m_M_four, 5), (184, 0, m_M_cellBit, 2), (188, 0, m_M_laysFours, 1), (191, 0, m_M_blanks, 1), (195, 0, m_M_isGood, 0), (198, 0, m_M_isCell, 1), (201, 0, m_M_isColour, 2), (205, 0, m_M_refuse, 0), (208, 1, m_M_through_1, 2), (212, 0, m_M_meets, 1), (215, 1, m_M_pairs, 2), (218, 1, m_M_bits, 1), (221, 1, m_M_isSize, 2), (224, 0, m_M_laysMost, 2), (233, 0, m_M_searches, 0), (236, 0, m_M_snap, 0), (239, 0, m_M_ordersOn, 3), (243, 0, m_M_isLike, 0), (246, 0, m_M_isApart, 2), (249, 0, m_M_swap, 2), (257, 0, m_M_draw, 1), (260, 0, m_M_does, 0), (263, 0, m_M_stay, 0)]
  | 8 => [(7, 0, m_C_having, 1), (15, 0, m_C_mend, 0), (19, 2, m_C_init, 0), (22, 2, m_M_init, 0), (23, 0, m_C_feed, 5), (27, 0, m_M_feed, 5), (28, 0, m_C_end, 1), (32, 0, m_M_end, 1), (33, 0, m_C_text, 0), (37, 0, m_M_text, 0), (38, 0, m_C_fault, 0), (41, 0, m_M_fault, 0), (42, 0, m_C_now, 1), (46, 0, m_M_now, 1), (47, 0, m_C_at, 1), (50, 0, m_M_at, 1), (51, 8, m_C_having, 3), (56, 0, m_M_having, 1), (57, 0, m_M_thrown, 0), (60, 0, m_C_rectangles, 1), (63, 0, m_M_rectangles, 1), (64, 0, m_C_rectangle, 2), (68, 0, m_M_rectangle, 2), (69, 0, m_C_through, 1), (72, 0, m_M_through, 1), (73, 0, m_C_worst, 0), (76, 0, m_M_worst, 0), (77, 0, m_C_may, 1), (80, 0, m_M_may, 1), (81, 9, m_C_mend, 2), (84, 0, m_M_mend, 0), (85, 0, m_C_most, 2), (88, 0, m_M_most, 2), (89, 0, m_C_crowded, 3), (93, 0, m_M_crowded, 3), (94, 0, m_C_paired, 3), (97, 0, m_M_paired, 3), (98, 0, m_C_search, 1), (101, 0, m_M_search, 1), (102, 0, m_C_found, 1), (105, 0, m_M_found, 1), (106, 0, m_C_fill, 0), (109, 0, m_M_fill, 0), (110, 0, m_C_likes, 0), (113, 0, m_M_likes, 0), (114, 0, m_C_lay, 0), (117, 0, m_M_lay_1, 0), (118, 0, m_C_apart, 0), (121, 0, m_M_apart, 0), (122, 0, m_C_paint, 2), (125, 0, m_M_paint, 2), (126, 0, m_C_rows, 2), (130, 0, m_M_rows, 2), (131, 0, m_C_columns, 2), (134, 0, m_M_columns, 2), (135, 0, m_C_name, 2), (138, 0, m_M_name, 2), (139, 0, m_C_turn, 0), (142, 0, m_M_turn, 0), (143, 0, m_C_drawn, 2), (146, 0, m_M_drawn, 2), (147, 0, m_C_undo, 0), (150, 0, m_M_undo, 0), (151, 0, m_C_image, 1), (154, 0, m_M_image, 1), (155, 0, m_C_restore, 1), (158, 0, m_M_restore, 1)]
  | _ => []
/-- classes that are made -/
def am_cls (own : Nat) : List (Nat × Nat) := match own with
  | 0 => [(7, 6), (16, 1), (26, 3), (33, 4), (40, 2), (47, 5)]
  | 2 => [(9, 5)]
  | 3 => [(9, 1)]
  | 4 => [(9, 1)]
  | 5 => [(13, 1)]
  | 8 => [(8, 0), (20, 7)]
  | _ => []
/-- constants; texts are special cells: 2 is "grid", 3 is "row" -/
def am_cts (own : Nat) : List (Nat × Value) := match own with
  | 0 => [(156, .long (-1)), (250, .long (-9223372036854775808)), (268, .int 1103515245)]
  | 1 => [(29, .long (-1))]
  | 3 => [(65, .ref 2), (74, .ref 3)]
  | 4 => [(54, .int 1000000)]
  | 7 => [(48, .long 27), (50, .long 96), (96, .int 32768), (256, .int 1103515245)]
  | 9 => [(265, .int 1431655765), (266, .int 858993459), (267, .int 252645135)]
  | 10 => [(314, .long 6148914691236517205), (316, .long 3689348814741910323), (318, .long 1085102592571150095)]
  | _ => []
def am_gs : Nat := 252
def am_fl (own idx : Nat) : Option (Nat × Nat × Nat) := (am_fls own).lookup idx
def am_mt (own idx : Nat) : Option (Nat × am_M × Nat) := (am_mts own).lookup idx
def am_cl (own idx : Nat) : Option Nat := (am_cls own).lookup idx
def am_ct (own idx : Nat) : Option Value := (am_cts own).lookup idx
-- cells
def am_ob (w : am_W) (i : Nat) : Option (Nat × List Value) := match w.2.2[i]? with
  | some (some (.inr o)) => some o
  | _ => none
def am_ar (w : am_W) (i : Nat) : Option (Nat × vp_A) := match w.2.2[i]? with
  | some (some (.inl a)) => some a
  | _ => none
def am_st1 (w : am_W) (i : Nat) (e : (Nat × vp_A) ⊕ (Nat × List Value)) : am_W := (w.1, w.2.1, w.2.2.set i (some e))
def am_gv (w : am_W) (i ci k : Nat) : Option Value := match am_ob w i with
  | some (c, fs) => if c = ci then fs[k]? else none
  | none => none
def am_gi (w : am_W) (i ci k : Nat) : Option Int32 := match am_gv w i ci k with
  | some (.int x) => some x
  | _ => none
def am_gl (w : am_W) (i ci k : Nat) : Option Int64 := match am_gv w i ci k with
  | some (.long x) => some x
  | _ => none
def am_gr (w : am_W) (i ci k : Nat) : Option Nat := match am_gv w i ci k with
  | some (.ref x) => some x
  | _ => none
def am_pv (w : am_W) (i ci k : Nat) (v : Value) : Option am_W := match am_ob w i with
  | some (c, fs) => if c = ci ∧ k < fs.length ∧ 8 ≤ i then some (am_st1 w i (.inr (c, fs.set k v))) else none
  | none => none
def am_al (w : am_W) (i : Nat) : Option Int32 := match am_ar w i with
  | some (t, n, _) => if t < 4 then some (Int32.ofNat n) else none
  | none => none
def am_ai (w : am_W) (i : Nat) (j : Int32) : Option Int32 := match am_ar w i with
  | some (0, n, .inl f) => if j < 0 ∨ n ≤ j.toNatClampNeg then none else some (f j.toNatClampNeg)
  | _ => none
def am_aj (w : am_W) (i : Nat) (j : Int32) : Option Int64 := match am_ar w i with
  | some (1, n, .inr (.inl f)) => if j < 0 ∨ n ≤ j.toNatClampNeg then none else some (f j.toNatClampNeg)
  | _ => none
def am_az (w : am_W) (i : Nat) (j : Int32) : Option Int32 := match am_ar w i with
  | some (2, n, .inl f) => if j < 0 ∨ n ≤ j.toNatClampNeg then none else some (f j.toNatClampNeg)
  | _ => none
def am_ax (w : am_W) (i : Nat) (j : Int32) : Option Nat := match am_ar w i with
  | some (3, n, .inr (.inr (.inr (.inr f)))) => if j < 0 ∨ n ≤ j.toNatClampNeg then none else f j.toNatClampNeg
  | _ => none
def am_si (w : am_W) (i : Nat) (j x : Int32) : Option am_W := match am_ar w i with
  | some (0, n, .inl f) => if j < 0 ∨ n ≤ j.toNatClampNeg ∨ i < 8 then none else some (am_st1 w i (.inl (0, n, .inl (upd f j.toNatClampNeg x))))
  | _ => none
def am_sj (w : am_W) (i : Nat) (j : Int32) (x : Int64) : Option am_W := match am_ar w i with
  | some (1, n, .inr (.inl f)) => if j < 0 ∨ n ≤ j.toNatClampNeg ∨ i < 8 then none else some (am_st1 w i (.inl (1, n, .inr (.inl (vp_updL f j.toNatClampNeg x)))))
  | _ => none
def am_sz (w : am_W) (i : Nat) (j x : Int32) : Option am_W := match am_ar w i with
  | some (2, n, .inl f) => if j < 0 ∨ n ≤ j.toNatClampNeg ∨ i < 8 then none else some (am_st1 w i (.inl (2, n, .inl (upd f j.toNatClampNeg (vp_nar .boolean x)))))
  | _ => none
def am_sx (w : am_W) (i : Nat) (j : Int32) (x : Nat) : Option am_W := match am_ar w i, am_ob w x with
  | some (3, n, .inr (.inr (.inr (.inr f)))), some (1, _) => if j < 0 ∨ n ≤ j.toNatClampNeg ∨ i < 8 ∨ x < 8 then none else some (am_st1 w i (.inl (3, n, .inr (.inr (.inr (.inr (va_up f j.toNatClampNeg (some x))))))))
  | _, _ => none
/-- what a new object holds -/
def am_df (ci : Nat) : Option (List Value) := match ci with
  | 0 => some [.null, .null, .null, .null, .null, .null, .null, .int 0]
  | 1 => some [.null, .int 0, .int 0, .int 0]
  | 2 => some [.null, .int 0, .int 0]
  | 3 => some [.null, .int 0, .int 0, .int 0, .int 0, .int 0, .int 0, .int 0]
  | 4 => some [.null, .null, .null, .int 0, .int 0, .int 0]
  | 5 => some [.null, .null]
  | 6 => some [.null, .int 0]
  | 7 => some [.int 0, .null, .int 0, .int 0, .int 0, .int 0, .int 0, .int 0, .int 0, .int 0, .long 0, .null, .null, .null, .null, .null, .null, .null, .null, .int 0, .int 0, .null, .null, .int 0, .null, .null, .null, .null, .int 0, .int 0, .null, .null, .null, .int 0]
  | _ => none
def am_nw (w : am_W) (e : (Nat × vp_A) ⊕ (Nat × List Value)) (n : Nat) : Option am_W := if w.1 + 8 = w.2.2.length then some (w.1 + 1, w.2.1 + n, w.2.2 ++ [some e]) else none
/-- a new array of n places: ints, longs, booleans, references -/
def am_na (w : am_W) (t : Nat) (n : Int32) : Option am_W := if n < 0 ∨ 100000 < n.toNatClampNeg then none else match t with
  | 0 => am_nw w (.inl (0, n.toNatClampNeg, .inl (fun _ => 0))) n.toNatClampNeg
  | 1 => am_nw w (.inl (1, n.toNatClampNeg, .inr (.inl (fun _ => 0)))) n.toNatClampNeg
  | 2 => am_nw w (.inl (2, n.toNatClampNeg, .inl (fun _ => 0))) n.toNatClampNeg
  | 3 => am_nw w (.inl (3, n.toNatClampNeg, .inr (.inr (.inr (.inr (fun _ => none)))))) n.toNatClampNeg
  | _ => none
/-- texts as rows of signs -/
def am_tl (w : am_W) (i : Nat) : Option Int32 := match am_ar w i with
  | some (9, n, .inl _) => if i < 8 then some (Int32.ofNat n) else none
  | _ => none
def am_tc (w : am_W) (i : Nat) (j : Int32) : Option Int32 := match am_ar w i with
  | some (9, n, .inl f) => if j < 0 ∨ n ≤ j.toNatClampNeg ∨ 8 ≤ i then none else some (f j.toNatClampNeg)
  | _ => none
-- steps
def am_tg (pc : Nat) (off : Int) : Option Nat := if 0 ≤ (pc : Int) + off then some ((pc : Int) + off).toNat else none
def am_br (c : Bool) (pc : Nat) (off : Int) (ls : List (Option Value)) (r : List Value) (w : am_W) : Option am_F := match am_tg pc off with
  | some t => (match c with
    | true => some (t, ls, r, w)
    | false => some (pc + 3, ls, r, w))
  | none => none
def am_b2 (f : Int32 → Int32 → Int32) (pc : Nat) (ls : List (Option Value)) (st : List Value) (w : am_W) : Option am_F := match st with
  | .int y :: .int x :: r => some (pc + 1, ls, .int (f x y) :: r, w)
  | _ => none
def am_l2 (f : Int64 → Int64 → Int64) (pc : Nat) (ls : List (Option Value)) (st : List Value) (w : am_W) : Option am_F := match st with
  | .long y :: .long x :: r => some (pc + 1, ls, .long (f x y) :: r, w)
  | _ => none
def am_ldi (k len pc : Nat) (ls : List (Option Value)) (st : List Value) (w : am_W) : Option am_F := match ls[k]? with
  | some (some (.int x)) => some (pc + len, ls, .int x :: st, w)
  | _ => none
def am_ldl (M : am_M) (k len pc : Nat) (ls : List (Option Value)) (st : List Value) (w : am_W) : Option am_F := match ls[k]? with
  | some (some (.long x)) => if k ∈ M.2.2.2.2.2.1 then some (pc + len, ls, .long x :: st, w) else none
  | _ => none
def am_lda (k len pc : Nat) (ls : List (Option Value)) (st : List Value) (w : am_W) : Option am_F := match ls[k]? with
  | some (some (.ref x)) => some (pc + len, ls, .ref x :: st, w)
  | _ => none
/-- may a value of one place, or of two, be stored at k -/
def am_ok1 (M : am_M) (k : Nat) : Bool := decide (k < M.2.2.1) && M.2.2.2.2.2.1.all (fun q => !(q + 1 == k))
def am_ok2 (M : am_M) (k : Nat) : Bool := decide (k + 1 < M.2.2.1) && M.2.2.2.2.2.1.all (fun q => !(q + 1 == k)) && M.2.2.2.2.2.1.contains k
def am_sti (M : am_M) (k len pc : Nat) (ls : List (Option Value)) (st : List Value) (w : am_W) : Option am_F := match st with
  | .int x :: r => if am_ok1 M k = true then some (pc + len, ls.set k (some (.int x)), r, w) else none
  | _ => none
def am_sta (M : am_M) (k len pc : Nat) (ls : List (Option Value)) (st : List Value) (w : am_W) : Option am_F := match st with
  | .ref x :: r => if am_ok1 M k = true then some (pc + len, ls.set k (some (.ref x)), r, w) else none
  | _ => none
def am_stl (M : am_M) (k len pc : Nat) (ls : List (Option Value)) (st : List Value) (w : am_W) : Option am_F := match st with
  | .long x :: r => if am_ok2 M k = true then some (pc + len, (ls.set k (some (.long x))).set (k + 1) none, r, w) else none
  | _ => none
def am_getf (own idx pc : Nat) (ls : List (Option Value)) (st : List Value) (w : am_W) : Option am_F := match am_fl own idx, st with
  | some (ci, k, 0), .ref i :: r => match am_gi w i ci k with
    | some x => some (pc + 3, ls, .int x :: r, w)
    | none => none
  | some (ci, k, 1), .ref i :: r => match am_gl w i ci k with
    | some x => some (pc + 3, ls, .long x :: r, w)
    | none => none
  | some (ci, k, 2), .ref i :: r => match am_gr w i ci k with
    | some x => some (pc + 3, ls, .ref x :: r, w)
    | none => none
  | some (ci, k, 3), .ref i :: r => match am_gr w i ci k with
    | some x => some (pc + 3, ls, .ref x :: r, w)
    | none => none
  | _, _ => none
def am_putf (ini : Bool) (own idx pc : Nat) (ls : List (Option Value)) (st : List Value) (w : am_W) : Option am_F := match am_fl own idx, st with
  | some (ci, k, 0), .int x :: .ref i :: r => match am_pv w i ci k (.int x) with
    | some w' => some (pc + 3, ls, r, w')
    | none => none
  | some (ci, k, 1), .long x :: .ref i :: r => match am_pv w i ci k (.long x) with
    | some w' => some (pc + 3, ls, r, w')
    | none => none
  | some (ci, k, 2), .ref x :: .ref i :: r => match am_pv w i ci k (.ref x) with
    | some w' => some (pc + 3, ls, r, w')
    | none => none
  | some (ci, k, 3), .ref x :: .ref i :: r => if ini = true then (match am_pv w i ci k (.ref x) with
    | some w' => some (pc + 3, ls, r, w')
    | none => none) else none
  | _, _ => none
/-- one step that stays in the method -/
def am_st (M : am_M) (i : Instr) (len pc : Nat) (ls : List (Option Value)) (st : List Value) (w : am_W) : Option am_F := match i with
  | .iconst n => if len = 1 then some (pc + 1, ls, .int (Int32.ofInt n) :: st, w) else none
  | .bipush n => if len = 2 then some (pc + 2, ls, .int (Int8.ofInt n).toInt32 :: st, w) else none
  | .sipush n => if len = 3 then some (pc + 3, ls, .int (Int16.ofInt n).toInt32 :: st, w) else none
  | .lconst n => if len = 1 then some (pc + 1, ls, .long (Int64.ofNat (n : Nat)) :: st, w) else none
  | .ldc k => if len = 2 then (match am_ct M.2.2.2.2.1 k with
    | some (.int x) => some (pc + 2, ls, .int x :: st, w)
    | some (.ref x) => some (pc + 2, ls, .ref x :: st, w)
    | _ => none) else none
  | .ldc_w k => if len = 3 then (match am_ct M.2.2.2.2.1 k with
    | some (.int x) => some (pc + 3, ls, .int x :: st, w)
    | _ => none) else none
  | .ldc2_w k => if len = 3 then (match am_ct M.2.2.2.2.1 k with
    | some (.long x) => some (pc + 3, ls, .long x :: st, w)
    | _ => none) else none
  | .iload_n k => if len = 1 then am_ldi k 1 pc ls st w else none
  | .iload k => if len = 2 then am_ldi k 2 pc ls st w else none
  | .lload_n k => if len = 1 then am_ldl M k 1 pc ls st w else none
  | .lload k => if len = 2 then am_ldl M k 2 pc ls st w else none
  | .aload_n k => if len = 1 then am_lda k 1 pc ls st w else none
  | .aload k => if len = 2 then am_lda k 2 pc ls st w else none
  | .istore_n k => if len = 1 then am_sti M k 1 pc ls st w else none
  | .istore k => if len = 2 then am_sti M k 2 pc ls st w else none
  | .lstore_n k => if len = 1 then am_stl M k 1 pc ls st w else none
  | .lstore k => if len = 2 then am_stl M k 2 pc ls st w else none
  | .astore_n k => if len = 1 then am_sta M k 1 pc ls st w else none
  | .astore k => if len = 2 then am_sta M k 2 pc ls st w else none
  | .iinc k n => if len = 3 then (match ls[k]? with
    | some (some (.int x)) => if am_ok1 M k = true then some (pc + 3, ls.set k (some (.int (x + Int32.ofInt n))), st, w) else none
    | _ => none) else none
  | .iadd => if len = 1 then am_b2 (· + ·) pc ls st w else none
  | .isub => if len = 1 then am_b2 (· - ·) pc ls st w else none
  | .imul => if len = 1 then am_b2 (· * ·) pc ls st w else none
  | .iand => if len = 1 then am_b2 (· &&& ·) pc ls st w else none
  | .ior => if len = 1 then am_b2 (· ||| ·) pc ls st w else none
  | .ixor => if len = 1 then am_b2 (· ^^^ ·) pc ls st w else none
  | .ishl => if len = 1 then am_b2 (fun x y => x <<< (y &&& 31)) pc ls st w else none
  | .ishr => if len = 1 then am_b2 (fun x y => x >>> (y &&& 31)) pc ls st w else none
  | .iushr => if len = 1 then am_b2 (fun x y => (x.toUInt32 >>> (y.toUInt32 &&& Int32.toUInt32 31)).toInt32) pc ls st w else none
  | .idiv => if len = 1 then (match st with
    | .int y :: .int x :: r => if y = 0 then none else some (pc + 1, ls, .int (x / y) :: r, w)
    | _ => none) else none
  | .irem => if len = 1 then (match st with
    | .int y :: .int x :: r => if y = 0 then none else some (pc + 1, ls, .int (x - x / y * y) :: r, w)
    | _ => none) else none
  | .ineg => if len = 1 then (match st with
    | .int x :: r => some (pc + 1, ls, .int (-x) :: r, w)
    | _ => none) else none
  | .ladd => if len = 1 then am_l2 (· + ·) pc ls st w else none
  | .lsub => if len = 1 then am_l2 (· - ·) pc ls st w else none
  | .lmul => if len = 1 then am_l2 (· * ·) pc ls st w else none
  | .land => if len = 1 then am_l2 (· &&& ·) pc ls st w else none
  | .lor => if len = 1 then am_l2 (· ||| ·) pc ls st w else none
  | .lxor => if len = 1 then am_l2 (· ^^^ ·) pc ls st w else none
  | .lshl => if len = 1 then (match st with
    | .int y :: .long x :: r => some (pc + 1, ls, .long (x <<< (y.toInt64 &&& 63)) :: r, w)
    | _ => none) else none
  | .lushr => if len = 1 then (match st with
    | .int y :: .long x :: r => some (pc + 1, ls, .long (x.toUInt64 >>> (y.toInt64.toUInt64 &&& Int64.toUInt64 63)).toInt64 :: r, w)
    | _ => none) else none
  | .lcmp => if len = 1 then (match st with
    | .long y :: .long x :: r => some (pc + 1, ls, .int (lg_cmp x y) :: r, w)
    | _ => none) else none
  | .i2l => if len = 1 then (match st with
    | .int x :: r => some (pc + 1, ls, .long x.toInt64 :: r, w)
    | _ => none) else none
  | .l2i => if len = 1 then (match st with
    | .long x :: r => some (pc + 1, ls, .int x.toInt32 :: r, w)
    | _ => none) else none
  | .dup => if len = 1 then (match st with
    | .int x :: r => some (pc + 1, ls, .int x :: .int x :: r, w)
    | .ref x :: r => some (pc + 1, ls, .ref x :: .ref x :: r, w)
    | _ => none) else none
  | .dup2 => if len = 1 then (match st with
    | .int y :: .ref x :: r => some (pc + 1, ls, .int y :: .ref x :: .int y :: .ref x :: r, w)
    | _ => none) else none
  | .pop => if len = 1 then (match st with
    | .int _ :: r => some (pc + 1, ls, r, w)
    | .ref _ :: r => some (pc + 1, ls, r, w)
    | _ => none) else none
  | .goto off => if len = 3 then (match am_tg pc off with
    | some t => some (t, ls, st, w)
    | none => none) else none
  | .ifCond c off => if len = 3 then (match st with
    | .int x :: r => (match c with
      | .eq => am_br (decide (x = 0)) pc off ls r w
      | .ne => am_br (decide (¬ x = 0)) pc off ls r w
      | .lt => am_br (decide (x < 0)) pc off ls r w
      | .ge => am_br (decide (0 ≤ x)) pc off ls r w
      | .gt => am_br (decide (0 < x)) pc off ls r w
      | .le => am_br (decide (x ≤ 0)) pc off ls r w)
    | _ => none) else none
  | .if_icmp c off => if len = 3 then (match st with
    | .int y :: .int x :: r => (match c with
      | .eq => am_br (decide (x = y)) pc off ls r w
      | .ne => am_br (decide (¬ x = y)) pc off ls r w
      | .lt => am_br (decide (x < y)) pc off ls r w
      | .ge => am_br (decide (y ≤ x)) pc off ls r w
      | .gt => am_br (decide (y < x)) pc off ls r w
      | .le => am_br (decide (x ≤ y)) pc off ls r w)
    | _ => none) else none
  | .ifnull _ => if len = 3 then (match st with
    | .ref _ :: r => some (pc + 3, ls, r, w)
    | _ => none) else none
  | .tableswitch d lo hi offs => match st with
    | .int x :: r => if x.toInt < lo ∨ hi < x.toInt then (match am_tg pc d with
        | some t => some (t, ls, r, w)
        | none => none) else (match offs[(x.toInt - lo).toNat]? with
        | some o => (match am_tg pc o with
          | some t => some (t, ls, r, w)
          | none => none)
        | none => none)
    | _ => none
  | .getfield k => if len = 3 then am_getf M.2.2.2.2.1 k pc ls st w else none
  | .putfield k => if len = 3 then am_putf M.2.2.2.2.2.2 M.2.2.2.2.1 k pc ls st w else none
  | .getstatic k => if len = 3 ∧ M.2.2.2.2.1 = 0 ∧ k = am_gs then some (pc + 3, ls, .ref 1 :: st, w) else none
  | .iaload => if len = 1 then (match st with
    | .int j :: .ref a :: r => (match am_ai w a j with
      | some x => some (pc + 1, ls, .int x :: r, w)
      | none => none)
    | _ => none) else none
  | .laload => if len = 1 then (match st with
    | .int j :: .ref a :: r => (match am_aj w a j with
      | some x => some (pc + 1, ls, .long x :: r, w)
      | none => none)
    | _ => none) else none
  | .baload => if len = 1 then (match st with
    | .int j :: .ref a :: r => (match am_az w a j with
      | some x => some (pc + 1, ls, .int x :: r, w)
      | none => none)
    | _ => none) else none
  | .aaload => if len = 1 then (match st with
    | .int j :: .ref a :: r => (match am_ax w a j with
      | some x => some (pc + 1, ls, .ref x :: r, w)
      | none => none)
    | _ => none) else none
  | .iastore => if len = 1 then (match st with
    | .int x :: .int j :: .ref a :: r => (match am_si w a j x with
      | some w' => some (pc + 1, ls, r, w')
      | none => none)
    | _ => none) else none
  | .lastore => if len = 1 then (match st with
    | .long x :: .int j :: .ref a :: r => (match am_sj w a j x with
      | some w' => some (pc + 1, ls, r, w')
      | none => none)
    | _ => none) else none
  | .bastore => if len = 1 then (match st with
    | .int x :: .int j :: .ref a :: r => (match am_sz w a j x with
      | some w' => some (pc + 1, ls, r, w')
      | none => none)
    | _ => none) else none
  | .aastore => if len = 1 then (match st with
    | .ref x :: .int j :: .ref a :: r => (match am_sx w a j x with
      | some w' => some (pc + 1, ls, r, w')
      | none => none)
    | _ => none) else none
  | .arraylength => if len = 1 then (match st with
    | .ref a :: r => (match am_al w a with
      | some x => some (pc + 1, ls, .int x :: r, w)
      | none => none)
    | _ => none) else none
  | .newarray t => if len = 2 then (match st with
    | .int n :: r => (match am_na w (match t with | .int => 0 | .long => 1 | .boolean => 2 | _ => 9) n with
      | some w' => some (pc + 2, ls, .ref w.2.2.length :: r, w')
      | none => none)
    | _ => none) else none
  | .anewarray k => if len = 3 ∧ am_cl M.2.2.2.2.1 k = some 1 then (match st with
    | .int n :: r => (match am_na w 3 n with
      | some w' => some (pc + 3, ls, .ref w.2.2.length :: r, w')
      | none => none)
    | _ => none) else none
  | .new k => if len = 3 then (match am_cl M.2.2.2.2.1 k with
    | some ci => (match am_df ci with
      | some fs => (match am_nw w (.inr (ci, fs)) fs.length with
        | some w' => some (pc + 3, ls, .ref w.2.2.length :: st, w')
        | none => none)
      | none => none)
    | none => none) else none
  | .invokespecial k => if len = 3 then (match am_mt M.2.2.2.2.1 k, st with
    | some (5, _, _), .ref _ :: r => if (r.map fun v => v.category).sum ≤ 8 then some (pc + 3, ls, r, w) else none
    | _, _ => none) else none
  | .invokestatic k => if len = 3 then (match am_mt M.2.2.2.2.1 k, st with
    | some (10, _, _), .int y :: .int x :: r => if (r.map fun v => v.category).sum ≤ 8 then some (pc + 3, ls, .int (if y < x then y else x) :: r, w) else none
    | some (11, _, _), .int y :: .int x :: r => if (r.map fun v => v.category).sum ≤ 8 then some (pc + 3, ls, .int (if x < y then y else x) :: r, w) else none
    | _, _ => none) else none
  | .invokevirtual k => if len = 3 then (match am_mt M.2.2.2.2.1 k, st with
    | some (6, _, _), .ref i :: r => if (r.map fun v => v.category).sum ≤ 8 then (match am_tl w i with
      | some x => some (pc + 3, ls, .int x :: r, w)
      | none => none) else none
    | some (7, _, _), .int j :: .ref i :: r => if (r.map fun v => v.category).sum ≤ 8 then (match am_tc w i j with
      | some x => some (pc + 3, ls, .int x :: r, w)
      | none => none) else none
    | _, _ => none) else none
  | _ => none
/-- a method's end; a new NoSuchElementException is the end, too: .retAddr 0 -/
def am_ret (M : am_M) (i : Instr) (len : Nat) (st : List Value) (w : am_W) : Option (am_W × Option Value) := if len = 1 then (match i with
  | .ireturn => (match M.2.2.2.1, st with
    | some .int, [.int v] => some (w, some (.int v))
    | some .boolean, [.int v] => if v = 0 ∨ v = 1 then some (w, some (.int v)) else none
    | _, _ => none)
  | .lreturn => (match M.2.2.2.1, st with
    | some .long, [.long v] => some (w, some (.long v))
    | _, _ => none)
  | .areturn => (match M.2.2.2.1, st with
    | some (.object _), [.ref v] => some (w, some (.ref v))
    | _, _ => none)
  | .return_ => (match M.2.2.2.1, st with
    | none, [] => some (w, none)
    | _, _ => none)
  | _ => none) else (match i with
  | .new k => if M.2.2.2.2.1 = 0 ∧ k = 131 ∧ st = [] then some ((w.1 + 1, w.2.1 + 6, w.2.2), some (.retAddr 0)) else none
  | _ => none)
/-- the locals at a method's entry -/
def am_en0 : List Value → List (Option Value)
  | [] => []
  | .long x :: r => some (.long x) :: none :: am_en0 r
  | .double x :: r => some (.double x) :: none :: am_en0 r
  | v :: r => some v :: am_en0 r
def am_en (M : am_M) (as : List Value) : List (Option Value) := am_en0 as ++ List.replicate (M.2.2.1 - (am_en0 as).length) none
/-- may these arguments come -/
def am_fit (M : am_M) (as rest : List Value) : Bool := decide ((am_en0 as).length ≤ M.2.2.1) && decide ((rest.map fun v => v.category).sum ≤ 8) && decide (M.2.2.1 ≤ 40)
/-- is it an object of the class -/
def am_is (w : am_W) (i ci : Nat) : Bool := match am_ob w i with
  | some (c, _) => decide (c = ci ∧ 8 ≤ i)
  | none => false
/-- a call: 0, or 1 more than the cell for the answer of having and mend; the method; its arguments; the rest of the stack -/
def am_inv (M : am_M) (i : Instr) (len : Nat) (st : List Value) (w : am_W) : Option (Nat × am_M × List Value × List Value) := if len = 3 then (match i with
  | .invokevirtual k => (match am_mt M.2.2.2.2.1 k with
    | some (0, M', n) => (match st.drop n with
      | .ref b :: rest => if am_is w b M'.2.2.2.2.1 = true ∧ am_fit M' (.ref b :: (st.take n).reverse) rest = true ∧ n ≤ st.length then some (0, M', .ref b :: (st.take n).reverse, rest) else none
      | _ => none)
    | _ => none)
  | .invokespecial k => (match am_mt M.2.2.2.2.1 k with
    | some (2, M', n) => (match st.drop n with
      | .ref b :: rest => if am_fit M' (.ref b :: (st.take n).reverse) rest = true ∧ n ≤ st.length then some (0, M', .ref b :: (st.take n).reverse, rest) else none
      | _ => none)
    | some (3, M', n) => (match st.drop n with
      | .ref b :: rest => if am_fit M' (.ref b :: (st.take n).reverse) rest = true ∧ n ≤ st.length then some (0, M', .ref b :: (st.take n).reverse, rest) else none
      | _ => none)
    | _ => none)
  | .invokestatic k => (match am_mt M.2.2.2.2.1 k with
    | some (1, M', n) => if am_fit M' (st.take n).reverse (st.drop n) = true ∧ n ≤ st.length then some (0, M', (st.take n).reverse, st.drop n) else none
    | some (4, M', n) => if am_fit M' (st.take n).reverse (st.drop n) = true ∧ n ≤ st.length then some (0, M', (st.take n).reverse, st.drop n) else none
    | some (8, _, _) => (match st with
      | .ref o :: .int p :: .ref b :: rest => if am_is w b 0 = true ∧ am_fit m_C_having [.ref b, .int p] rest = true ∧ 8 ≤ o then some (o + 1, m_C_having, [.ref b, .int p], rest) else none
      | _ => none)
    | some (9, _, _) => (match st with
      | .ref o :: .ref b :: rest => if am_is w b 0 = true ∧ am_fit m_C_mend [.ref b] rest = true ∧ 8 ≤ o then some (o + 1, m_C_mend, [.ref b], rest) else none
      | _ => none)
    | _ => none)
  | _ => none) else none
/-- what stands on the stack behind a call -/
def am_aft (kd : Nat) (v : Option Value) (w : am_W) : Option (am_W × List Value) := match kd, v with
  | 0, some (.retAddr _) => none
  | 0, v => some (w, v.toList)
  | _ + 1, some (.retAddr _) => some (w, [.int 1])
  | o + 1, some (.long x) => match am_sj w o 0 x with
    | some w' => some (w', [.int 0])
    | none => none
  | _ + 1, _ => none
/-- the machine: n steps at most, d calls deep at most -/
def am : Nat → Nat → am_M → Nat → List (Option Value) → List Value → am_W → Option (am_W × Option Value)
  | 0, _, _, _, _, _, _ => none
  | n + 1, d, M, pc, ls, st, w =>
    match decode M.2.1 pc with
    | .error _ => none
    | .ok (i, len) =>
      match am_ret M i len st w with
      | some r => some r
      | none =>
        match am_inv M i len st w with
        | some (kd, M', as, rest) =>
          match d with
          | 0 => none
          | d' + 1 =>
            match am n d' M' 0 (am_en M' as) [] w with
            | none => none
            | some (w', v) =>
              match am_aft kd v w' with
              | none => none
              | some (w'', vs) => am n (d' + 1) M (pc + 3) ls (vs ++ rest) w''
        | none =>
          match am_st M i len pc ls st w with
          | none => none
          | some (pc', ls', st', w') => am n d M pc' ls' st' w'

