theorem hc_0 : xCl[0]? = some ("PieceTexts", TX_0, 4) := rfl
theorem hi_0 : ∀ w ∈ u_ws "PieceTexts" TX_0 4, w ∈ xT := xatS_in (by decide +kernel)
theorem ht_0 : ∀ k, k < 4 → parseFieldDescriptor (TX_0 k).2.2.1 = some (tyX_0 k) := by decide +kernel
theorem hn_0 : ∀ a, a < 4 → ∀ b, b < 4 → a ≠ b → (TX_0 a).2.1 ≠ (TX_0 b).2.1 := by decide +kernel
theorem hdf_0 : ∀ j, j < 4 → defaultValue (tyX_0 j) = vp_V [.null, .int 0, .null, .null] j := fun j hj => by
  rcases (show j = 0 ∨ j = 1 ∨ j = 2 ∨ j = 3 by omega) with rfl | rfl | rfl | rfl <;> rfl
theorem hc_1 : xCl[1]? = some ("PieceTexts$Halves", TX_1, 2) := rfl
theorem hi_1 : ∀ w ∈ u_ws "PieceTexts$Halves" TX_1 2, w ∈ xT := xatS_in (by decide +kernel)
theorem ht_1 : ∀ k, k < 2 → parseFieldDescriptor (TX_1 k).2.2.1 = some (tyX_1 k) := by decide +kernel
theorem hn_1 : ∀ a, a < 2 → ∀ b, b < 2 → a ≠ b → (TX_1 a).2.1 ≠ (TX_1 b).2.1 := by decide +kernel
theorem hdf_1 : ∀ j, j < 2 → defaultValue (tyX_1 j) = vp_V [.null, .null] j := fun j hj => by
  rcases (show j = 0 ∨ j = 1 by omega) with rfl | rfl <;> rfl
theorem hc_2 : xCl[2]? = some ("PieceTexts$Piece", TX_2, 8) := rfl
theorem hi_2 : ∀ w ∈ u_ws "PieceTexts$Piece" TX_2 8, w ∈ xT := xatS_in (by decide +kernel)
theorem ht_2 : ∀ k, k < 8 → parseFieldDescriptor (TX_2 k).2.2.1 = some (tyX_2 k) := by decide +kernel
theorem hn_2 : ∀ a, a < 8 → ∀ b, b < 8 → a ≠ b → (TX_2 a).2.1 ≠ (TX_2 b).2.1 := by decide +kernel
theorem hdf_2 : ∀ j, j < 8 → defaultValue (tyX_2 j) = vp_V [.int 0, .int 0, .int 0, .null, .null, .int 0, .int 0, .int 0] j := fun j hj => by
  rcases (show j = 0 ∨ j = 1 ∨ j = 2 ∨ j = 3 ∨ j = 4 ∨ j = 5 ∨ j = 6 ∨ j = 7 by omega) with rfl | rfl | rfl | rfl | rfl | rfl | rfl | rfl <;> rfl
theorem hc_3 : xCl[3]? = some ("PieceTexts$Reader", TX_3, 4) := rfl
theorem hi_3 : ∀ w ∈ u_ws "PieceTexts$Reader" TX_3 4, w ∈ xT := xatS_in (by decide +kernel)
theorem ht_3 : ∀ k, k < 4 → parseFieldDescriptor (TX_3 k).2.2.1 = some (tyX_3 k) := by decide +kernel
theorem hn_3 : ∀ a, a < 4 → ∀ b, b < 4 → a ≠ b → (TX_3 a).2.1 ≠ (TX_3 b).2.1 := by decide +kernel
theorem hdf_3 : ∀ j, j < 4 → defaultValue (tyX_3 j) = vp_V [.null, .int 0, .null, .int 0] j := fun j hj => by
  rcases (show j = 0 ∨ j = 1 ∨ j = 2 ∨ j = 3 by omega) with rfl | rfl | rfl | rfl <;> rfl
theorem hc_4 : xCl[4]? = some ("PieceTexts$Trees", TX_4, 1) := rfl
theorem hi_4 : ∀ w ∈ u_ws "PieceTexts$Trees" TX_4 1, w ∈ xT := xatS_in (by decide +kernel)
theorem ht_4 : ∀ k, k < 1 → parseFieldDescriptor (TX_4 k).2.2.1 = some (tyX_4 k) := by decide +kernel
theorem hn_4 : ∀ a, a < 1 → ∀ b, b < 1 → a ≠ b → (TX_4 a).2.1 ≠ (TX_4 b).2.1 := by decide +kernel
theorem hdf_4 : ∀ j, j < 1 → defaultValue (tyX_4 j) = vp_V [.null] j := fun j hj => by
  rcases (show j = 0 by omega) with rfl <;> rfl
theorem hc_5 : xCl[5]? = some ("PieceTextsModel", TX_5, 8) := rfl
theorem hi_5 : ∀ w ∈ u_ws "PieceTextsModel" TX_5 8, w ∈ xT := xatS_in (by decide +kernel)
theorem ht_5 : ∀ k, k < 8 → parseFieldDescriptor (TX_5 k).2.2.1 = some (tyX_5 k) := by decide +kernel
theorem hn_5 : ∀ a, a < 8 → ∀ b, b < 8 → a ≠ b → (TX_5 a).2.1 ≠ (TX_5 b).2.1 := by decide +kernel
theorem hdf_5 : ∀ j, j < 8 → defaultValue (tyX_5 j) = vp_V [.int 0, .int 0, .null, .null, .null, .null, .null, .null] j := fun j hj => by
  rcases (show j = 0 ∨ j = 1 ∨ j = 2 ∨ j = 3 ∨ j = 4 ∨ j = 5 ∨ j = 6 ∨ j = 7 by omega) with rfl | rfl | rfl | rfl | rfl | rfl | rfl | rfl <;> rfl
theorem ha_0 : xAT[0]? = some (.byte) := rfl
theorem ha_1 : xAT[1]? = some (.long) := rfl
theorem ha_2 : xAT[2]? = some (.object "PieceTexts$Piece") := rfl
theorem ha_3 : xAT[3]? = some (.int) := rfl
abbrev m_T_init : xM := (⟨"PieceTexts$Trees", "<init>", "()V"⟩, prog_7_method_1_code, 1, none, [])
abbrev m_P_init : xM := (⟨"PieceTexts", "<init>", "()V"⟩, prog_1_method_1_code, 1, none, [])
abbrev m_P_append : xM := (⟨"PieceTexts", "append", "(B)V"⟩, prog_1_method_16_code, 2, none, [])
abbrev m_P_bytesOf : xM := (⟨"PieceTexts", "bytesOf", "(J)I"⟩, prog_1_method_15_code, 3, some (.int), [])
abbrev m_P_write : xM := (⟨"PieceTexts", "write", "(J)I"⟩, prog_1_method_2_code, 6, some (.int), [])
abbrev m_R_charactersOf : xM := (⟨"PieceTexts$Row", "charactersOf", "(LPieceTexts$Piece;)I"⟩, prog_5_method_4_code, 1, some (.int), [])
abbrev m_P_become : xM := (⟨"PieceTexts", "become", "(ILPieceTexts$Piece;)I"⟩, prog_1_method_20_code, 3, some (.int), [])
abbrev m_P_isText : xM := (⟨"PieceTexts", "isText", "(I)Z"⟩, prog_1_method_18_code, 2, some (.boolean), [])
abbrev m_P_demandText : xM := (⟨"PieceTexts", "demandText", "(I)V"⟩, prog_1_method_24_code, 2, none, [])
abbrev m_P_rootOf : xM := (⟨"PieceTexts", "rootOf", "(I)LPieceTexts$Piece;"⟩, prog_1_method_19_code, 2, some (.object "PieceTexts$Piece"), [])
abbrev m_P_demandEdge : xM := (⟨"PieceTexts", "demandEdge", "(II)V"⟩, prog_1_method_25_code, 3, none, [])
abbrev m_P_charactersInAll : xM := (⟨"PieceTexts", "charactersInAll", "()I"⟩, prog_1_method_21_code, 6, some (.int), [])
abbrev m_R_piecesOf : xM := (⟨"PieceTexts$Row", "piecesOf", "(LPieceTexts$Piece;)I"⟩, prog_5_method_3_code, 1, some (.int), [])
abbrev m_P_piecesInAll : xM := (⟨"PieceTexts", "piecesInAll", "()I"⟩, prog_1_method_22_code, 6, some (.int), [])
abbrev m_P_demandRoom : xM := (⟨"PieceTexts", "demandRoom", "(II)V"⟩, prog_1_method_28_code, 3, none, [])
abbrev m_R_orderAt : xM := (⟨"PieceTexts$Row", "orderAt", "(LPieceTexts$Piece;I)I"⟩, prog_5_method_5_code, 6, some (.int), [])
abbrev m_Y_before : xM := (⟨"PieceTexts$Tally", "before", "(LPieceTexts$Piece;I)I"⟩, prog_6_method_8_code, 2, some (.int), [])
abbrev m_Y_behind : xM := (⟨"PieceTexts$Tally", "behind", "(LPieceTexts$Piece;I)I"⟩, prog_6_method_9_code, 2, some (.int), [])
abbrev m_R_numbered : xM := (⟨"PieceTexts$Row", "numbered", "(LPieceTexts$Piece;I)LPieceTexts$Piece;"⟩, prog_5_method_6_code, 5, some (.object "PieceTexts$Piece"), [])
abbrev m_R_startOf : xM := (⟨"PieceTexts$Row", "startOf", "(LPieceTexts$Piece;I)I"⟩, prog_5_method_7_code, 6, some (.int), [])
abbrev m_R_sourceAt : xM := (⟨"PieceTexts$Row", "sourceAt", "(LPieceTexts$Piece;I)I"⟩, prog_5_method_8_code, 4, some (.int), [])
abbrev m_R_tagAt : xM := (⟨"PieceTexts$Row", "tagAt", "(LPieceTexts$Piece;I)I"⟩, prog_5_method_9_code, 3, some (.int), [])
abbrev m_Y_meldsLeft : xM := (⟨"PieceTexts$Tally", "meldsLeft", "(LPieceTexts$Piece;III)I"⟩, prog_6_method_10_code, 4, some (.int), [])
abbrev m_Y_meldsRight : xM := (⟨"PieceTexts$Tally", "meldsRight", "(LPieceTexts$Piece;III)I"⟩, prog_6_method_11_code, 4, some (.int), [])
abbrev m_Y_afterPut : xM := (⟨"PieceTexts$Tally", "afterPut", "(LPieceTexts$Piece;IIII)I"⟩, prog_6_method_2_code, 5, some (.int), [])
abbrev m_T_firstOf : xM := (⟨"PieceTexts$Trees", "firstOf", "(LPieceTexts$Piece;)LPieceTexts$Piece;"⟩, prog_7_method_11_code, 3, some (.object "PieceTexts$Piece"), [])
abbrev m_T_giveBack : xM := (⟨"PieceTexts$Trees", "giveBack", "(LPieceTexts$Piece;)V"⟩, prog_7_method_3_code, 2, none, [])
abbrev m_R_heightOf : xM := (⟨"PieceTexts$Row", "heightOf", "(LPieceTexts$Piece;)I"⟩, prog_5_method_2_code, 1, some (.int), [])
abbrev m_T_sum : xM := (⟨"PieceTexts$Trees", "sum", "(LPieceTexts$Piece;)V"⟩, prog_7_method_19_code, 6, none, [])
abbrev m_T_raiseLeft : xM := (⟨"PieceTexts$Trees", "raiseLeft", "(LPieceTexts$Piece;)LPieceTexts$Piece;"⟩, prog_7_method_17_code, 2, some (.object "PieceTexts$Piece"), [])
abbrev m_T_raiseRight : xM := (⟨"PieceTexts$Trees", "raiseRight", "(LPieceTexts$Piece;)LPieceTexts$Piece;"⟩, prog_7_method_18_code, 2, some (.object "PieceTexts$Piece"), [])
abbrev m_T_balance : xM := (⟨"PieceTexts$Trees", "balance", "(LPieceTexts$Piece;)LPieceTexts$Piece;"⟩, prog_7_method_16_code, 4, some (.object "PieceTexts$Piece"), [])
abbrev m_T_join : xM := (⟨"PieceTexts$Trees", "join", "(LPieceTexts$Piece;LPieceTexts$Piece;LPieceTexts$Piece;I)LPieceTexts$Piece;"⟩, prog_7_method_15_code, 5, some (.object "PieceTexts$Piece"), [])
abbrev m_T_lastOf : xM := (⟨"PieceTexts$Trees", "lastOf", "(LPieceTexts$Piece;)LPieceTexts$Piece;"⟩, prog_7_method_12_code, 3, some (.object "PieceTexts$Piece"), [])
abbrev m_T_withoutFirst : xM := (⟨"PieceTexts$Trees", "withoutFirst", "(LPieceTexts$Piece;I)LPieceTexts$Piece;"⟩, prog_7_method_13_code, 2, some (.object "PieceTexts$Piece"), [])
abbrev m_T_withoutLast : xM := (⟨"PieceTexts$Trees", "withoutLast", "(LPieceTexts$Piece;I)LPieceTexts$Piece;"⟩, prog_7_method_14_code, 2, some (.object "PieceTexts$Piece"), [])
abbrev m_T_meet : xM := (⟨"PieceTexts$Trees", "meet", "(LPieceTexts$Piece;LPieceTexts$Piece;)LPieceTexts$Piece;"⟩, prog_7_method_7_code, 6, some (.object "PieceTexts$Piece"), [])
abbrev m_H_init : xM := (⟨"PieceTexts$Halves", "<init>", "()V"⟩, prog_2_method_1_code, 1, none, [])
abbrev m_N_init : xM := (⟨"PieceTexts$Piece", "<init>", "()V"⟩, prog_3_method_1_code, 1, none, [])
abbrev m_T_alone : xM := (⟨"PieceTexts$Trees", "alone", "(LPieceTexts$Piece;)LPieceTexts$Piece;"⟩, prog_7_method_10_code, 1, some (.object "PieceTexts$Piece"), [])
abbrev m_T_take : xM := (⟨"PieceTexts$Trees", "take", "(III)LPieceTexts$Piece;"⟩, prog_7_method_2_code, 5, some (.object "PieceTexts$Piece"), [])
abbrev m_T_partInto : xM := (⟨"PieceTexts$Trees", "partInto", "(LPieceTexts$Halves;LPieceTexts$Piece;II)V"⟩, prog_7_method_6_code, 9, none, [])
abbrev m_T_part : xM := (⟨"PieceTexts$Trees", "part", "(LPieceTexts$Piece;I)LPieceTexts$Halves;"⟩, prog_7_method_5_code, 4, some (.object "PieceTexts$Halves"), [])
abbrev m_P_put : xM := (⟨"PieceTexts", "put", "(IIIII)I"⟩, prog_1_method_3_code, 9, some (.int), [])
abbrev m_P_demandFree : xM := (⟨"PieceTexts", "demandFree", "(II)V"⟩, prog_1_method_27_code, 3, none, [])
abbrev m_P_demandRange : xM := (⟨"PieceTexts", "demandRange", "(III)V"⟩, prog_1_method_26_code, 4, none, [])
abbrev m_Y_afterCut : xM := (⟨"PieceTexts$Tally", "afterCut", "(LPieceTexts$Piece;II)I"⟩, prog_6_method_3_code, 5, some (.int), [])
abbrev m_Y_within : xM := (⟨"PieceTexts$Tally", "within", "(LPieceTexts$Piece;II)I"⟩, prog_6_method_6_code, 3, some (.int), [])
abbrev m_P_cut : xM := (⟨"PieceTexts", "cut", "(IIII)I"⟩, prog_1_method_4_code, 8, some (.int), [])
abbrev m_Y_afterPaste : xM := (⟨"PieceTexts$Tally", "afterPaste", "(LPieceTexts$Piece;ILPieceTexts$Piece;)I"⟩, prog_6_method_4_code, 4, some (.int), [])
abbrev m_P_paste : xM := (⟨"PieceTexts", "paste", "(III)I"⟩, prog_1_method_5_code, 7, some (.int), [])
abbrev m_T_twin : xM := (⟨"PieceTexts$Trees", "twin", "(LPieceTexts$Piece;III)LPieceTexts$Piece;"⟩, prog_7_method_8_code, 11, some (.object "PieceTexts$Piece"), [])
abbrev m_P_copy : xM := (⟨"PieceTexts", "copy", "(IIII)I"⟩, prog_1_method_6_code, 6, some (.int), [])
abbrev m_Y_tagged : xM := (⟨"PieceTexts$Tally", "tagged", "(III)I"⟩, prog_6_method_12_code, 3, some (.int), [])
abbrev m_Y_withinTagged : xM := (⟨"PieceTexts$Tally", "withinTagged", "(LPieceTexts$Piece;IIII)I"⟩, prog_6_method_7_code, 11, some (.int), [])
abbrev m_Y_afterTag : xM := (⟨"PieceTexts$Tally", "afterTag", "(LPieceTexts$Piece;IIII)I"⟩, prog_6_method_5_code, 8, some (.int), [])
abbrev m_T_retag : xM := (⟨"PieceTexts$Trees", "retag", "(LPieceTexts$Piece;III)LPieceTexts$Piece;"⟩, prog_7_method_9_code, 7, some (.object "PieceTexts$Piece"), [])
abbrev m_P_tag : xM := (⟨"PieceTexts", "tag", "(IIIII)I"⟩, prog_1_method_7_code, 10, some (.int), [])
abbrev m_T_giveBackAll : xM := (⟨"PieceTexts$Trees", "giveBackAll", "(LPieceTexts$Piece;I)V"⟩, prog_7_method_4_code, 3, none, [])
abbrev m_P_wipe : xM := (⟨"PieceTexts", "wipe", "(I)I"⟩, prog_1_method_8_code, 4, some (.int), [])
abbrev m_P_length : xM := (⟨"PieceTexts", "length", "(I)I"⟩, prog_1_method_9_code, 2, some (.int), [])
abbrev m_P_byteAt : xM := (⟨"PieceTexts", "byteAt", "(I)I"⟩, prog_1_method_17_code, 2, some (.int), [])
abbrev m_P_look : xM := (⟨"PieceTexts", "look", "(III)I"⟩, prog_1_method_10_code, 5, some (.int), [])
abbrev m_P_piece : xM := (⟨"PieceTexts", "piece", "(III)I"⟩, prog_1_method_11_code, 6, some (.int), [])
abbrev m_D_init : xM := (⟨"PieceTexts$Reader", "<init>", "(LPieceTexts$Piece;I)V"⟩, prog_4_method_1_code, 3, none, [])
abbrev m_D_nextSource : xM := (⟨"PieceTexts$Reader", "nextSource", "()I"⟩, prog_4_method_2_code, 2, some (.int), [])
abbrev m_P_find : xM := (⟨"PieceTexts", "find", "(III)I"⟩, prog_1_method_12_code, 8, some (.int), [])
abbrev m_P_differ : xM := (⟨"PieceTexts", "differ", "(II)I"⟩, prog_1_method_13_code, 7, some (.int), [])
abbrev m_R_isShallow : xM := (⟨"PieceTexts$Row", "isShallow", "(LPieceTexts$Piece;)Z"⟩, prog_5_method_10_code, 4, some (.boolean), [])
abbrev m_P_allShallow : xM := (⟨"PieceTexts", "allShallow", "()Z"⟩, prog_1_method_23_code, 5, some (.boolean), [])
abbrev m_P_count : xM := (⟨"PieceTexts", "count", "(I)I"⟩, prog_1_method_14_code, 2, some (.int), [])
abbrev m_M_init : xM := (⟨"PieceTextsModel", "<init>", "()V"⟩, prog_9_method_1_code, 1, none, [])
abbrev m_M_thrown : xM := (⟨"PieceTextsModel", "thrown", "()I"⟩, prog_9_method_2_code, 1, some (.int), [])
abbrev m_M_raise : xM := (⟨"PieceTextsModel", "raise", "(I)I"⟩, prog_9_method_3_code, 2, some (.int), [])
abbrev m_M_isText : xM := (⟨"PieceTextsModel", "isText", "(I)Z"⟩, prog_9_method_4_code, 1, some (.boolean), [])
abbrev m_M_size : xM := (⟨"PieceTextsModel", "size", "(I)I"⟩, prog_9_method_5_code, 2, some (.int), [])
abbrev m_M_isPlace : xM := (⟨"PieceTextsModel", "isPlace", "(II)Z"⟩, prog_9_method_6_code, 3, some (.boolean), [])
abbrev m_M_isRange : xM := (⟨"PieceTextsModel", "isRange", "(III)Z"⟩, prog_9_method_7_code, 4, some (.boolean), [])
abbrev m_M_write : xM := (⟨"PieceTextsModel", "write", "(J)I"⟩, prog_9_method_8_code, 5, some (.int), [])
abbrev m_M_keep : xM := (⟨"PieceTextsModel", "keep", "(III)V"⟩, prog_9_method_9_code, 5, none, [])
abbrev m_M_remove : xM := (⟨"PieceTextsModel", "remove", "(III)V"⟩, prog_9_method_10_code, 5, none, [])
abbrev m_M_insert : xM := (⟨"PieceTextsModel", "insert", "(III)V"⟩, prog_9_method_11_code, 6, none, [])
abbrev m_M_parts : xM := (⟨"PieceTextsModel", "parts", "(II)Z"⟩, prog_9_method_12_code, 3, some (.boolean), [])
abbrev m_M_pieces : xM := (⟨"PieceTextsModel", "pieces", "(I)I"⟩, prog_9_method_13_code, 4, some (.int), [])
abbrev m_M_allPieces : xM := (⟨"PieceTextsModel", "allPieces", "()I"⟩, prog_9_method_14_code, 3, some (.int), [])
abbrev m_M_put : xM := (⟨"PieceTextsModel", "put", "(IIIII)I"⟩, prog_9_method_15_code, 7, some (.int), [])
abbrev m_M_cut : xM := (⟨"PieceTextsModel", "cut", "(IIII)I"⟩, prog_9_method_16_code, 5, some (.int), [])
abbrev m_M_paste : xM := (⟨"PieceTextsModel", "paste", "(III)I"⟩, prog_9_method_17_code, 5, some (.int), [])
abbrev m_M_copy : xM := (⟨"PieceTextsModel", "copy", "(IIII)I"⟩, prog_9_method_18_code, 5, some (.int), [])
abbrev m_M_tag : xM := (⟨"PieceTextsModel", "tag", "(IIIII)I"⟩, prog_9_method_19_code, 8, some (.int), [])
abbrev m_M_wipe : xM := (⟨"PieceTextsModel", "wipe", "(I)I"⟩, prog_9_method_20_code, 3, some (.int), [])
abbrev m_M_length : xM := (⟨"PieceTextsModel", "length", "(I)I"⟩, prog_9_method_21_code, 2, some (.int), [])
abbrev m_M_look : xM := (⟨"PieceTextsModel", "look", "(III)I"⟩, prog_9_method_22_code, 7, some (.int), [])
abbrev m_M_piece : xM := (⟨"PieceTextsModel", "piece", "(III)I"⟩, prog_9_method_23_code, 7, some (.int), [])
abbrev m_M_find : xM := (⟨"PieceTextsModel", "find", "(III)I"⟩, prog_9_method_24_code, 5, some (.int), [])
abbrev m_M_differ : xM := (⟨"PieceTextsModel", "differ", "(II)I"⟩, prog_9_method_25_code, 4, some (.int), [])
abbrev m_M_count : xM := (⟨"PieceTextsModel", "count", "(I)I"⟩, prog_9_method_26_code, 2, some (.int), [])
abbrev m_L_write : xM := (⟨"PieceTextsLaw", "write", "(LPieceTexts;J[J)I"⟩, method_3_code, 5, some (.int), [(0, 9, 12, 13), (0, 9, 16, 15)])
abbrev m_L_put : xM := (⟨"PieceTextsLaw", "put", "(LPieceTexts;IIIII[J)I"⟩, method_4_code, 8, some (.int), [(0, 16, 19, 21), (0, 16, 23, 15)])
abbrev m_L_cut : xM := (⟨"PieceTextsLaw", "cut", "(LPieceTexts;IIII[J)I"⟩, method_5_code, 7, some (.int), [(0, 14, 17, 21), (0, 14, 21, 13), (0, 14, 25, 15)])
abbrev m_L_paste : xM := (⟨"PieceTextsLaw", "paste", "(LPieceTexts;III[J)I"⟩, method_6_code, 6, some (.int), [(0, 12, 15, 21), (0, 12, 19, 13), (0, 12, 23, 15)])
abbrev m_L_copy : xM := (⟨"PieceTextsLaw", "copy", "(LPieceTexts;IIII[J)I"⟩, method_7_code, 7, some (.int), [(0, 14, 17, 21), (0, 14, 21, 13), (0, 14, 25, 15)])
abbrev m_L_tag : xM := (⟨"PieceTextsLaw", "tag", "(LPieceTexts;IIIII[J)I"⟩, method_8_code, 8, some (.int), [(0, 16, 19, 21), (0, 16, 23, 15)])
abbrev m_L_wipe : xM := (⟨"PieceTextsLaw", "wipe", "(LPieceTexts;I[J)I"⟩, method_9_code, 4, some (.int), [(0, 9, 12, 21)])
abbrev m_L_look : xM := (⟨"PieceTextsLaw", "look", "(LPieceTexts;III[J)I"⟩, method_10_code, 6, some (.int), [(0, 12, 15, 21), (0, 12, 19, 13)])
abbrev m_L_piece : xM := (⟨"PieceTextsLaw", "piece", "(LPieceTexts;III[J)I"⟩, method_11_code, 6, some (.int), [(0, 12, 15, 21), (0, 12, 19, 13)])
abbrev m_L_find : xM := (⟨"PieceTextsLaw", "find", "(LPieceTexts;III[J)I"⟩, method_12_code, 6, some (.int), [(0, 12, 15, 21)])
abbrev m_L_differ : xM := (⟨"PieceTextsLaw", "differ", "(LPieceTexts;II[J)I"⟩, method_13_code, 5, some (.int), [(0, 10, 13, 21)])
abbrev m_L_law : xM := (⟨"PieceTextsLaw", "law", "([I)Z"⟩, code, 7, some (.boolean), [])
set_option maxRecDepth 20000 in
theorem w_objI : Cond.instanceMethod objectInit ∈ xT := xT_in (List.mem_append_right _ (List.mem_of_getElem? (i := 22) rfl)) rfl
set_option maxRecDepth 20000 in
theorem w_objC : Cond.code objectInit ⟨#[0xb1]⟩ 1 none ∈ xT := xT_in (List.mem_append_right _ (List.mem_of_getElem? (i := 23) rfl)) rfl
set_option maxRecDepth 20000 in
theorem wO_T_3 : Cond.methodLink "PieceTexts$Trees" 3 objectInit ∈ xT := xT_in (List.mem_append_right _ (List.mem_of_getElem? (i := 31) rfl)) rfl
set_option maxRecDepth 20000 in
theorem wf_P_22p : Cond.fieldLink "PieceTexts" 22 (TX_0 3).1 (TX_0 3).2.1 (TX_0 3).2.2.1 ∈ xT := xT_in (List.mem_append_right _ (List.mem_of_getElem? (i := 40) rfl)) rfl
set_option maxRecDepth 20000 in
theorem wm_P_21 : xml "PieceTexts" 21 m_T_init.1 (some "PieceTexts") ∈ xT := xT_in (List.mem_append_right _ (List.mem_of_getElem? (i := 28) rfl)) rfl
set_option maxRecDepth 20000 in
theorem wi_T : Cond.initialized "PieceTexts$Trees" ∈ xT := xT_in (List.mem_append_right _ (List.mem_of_getElem? (i := 2) rfl)) rfl
set_option maxRecDepth 20000 in
theorem wx_T_init : xcode m_T_init ∈ xT := xT_in (List.mem_append_right _ (List.mem_of_getElem? (i := 30) rfl)) rfl
set_option maxRecDepth 20000 in
theorem wv_T_init : Cond.instanceMethod m_T_init.1 ∈ xT := xT_in (List.mem_append_right _ (List.mem_of_getElem? (i := 29) rfl)) rfl
theorem wc_T_init : xwI m_T_init 0 := ⟨wv_T_init, rfl, ⟨_, _, rfl⟩, wi_T, wx_T_init, ⟨by decide, by decide⟩, by decide +kernel, by decide⟩
set_option maxRecDepth 20000 in
theorem wk_P_19 : Cond.classLink "PieceTexts" 19 "PieceTexts$Trees" ∈ xT := xT_in (List.mem_append_right _ (List.mem_of_getElem? (i := 26) rfl)) rfl
set_option maxRecDepth 20000 in
theorem wn_4 : Cond.instantiable "PieceTexts$Trees" 1 ∈ xT := xT_in (List.mem_append_right _ (List.mem_of_getElem? (i := 27) rfl)) rfl
set_option maxRecDepth 20000 in
theorem wf_P_15p : Cond.fieldLink "PieceTexts" 15 (TX_0 2).1 (TX_0 2).2.1 (TX_0 2).2.2.1 ∈ xT := xT_in (List.mem_append_right _ (List.mem_of_getElem? (i := 39) rfl)) rfl
set_option maxRecDepth 20000 in
theorem wk_P_13 : Cond.classLink "PieceTexts" 13 "PieceTexts$Piece" ∈ xT := xT_in (List.mem_append_right _ (List.mem_of_getElem? (i := 24) rfl)) rfl
set_option maxRecDepth 20000 in
theorem wo_2 : Cond.arrayOver (.object "PieceTexts$Piece") ∈ xT := xT_in (List.mem_append_right _ (List.mem_of_getElem? (i := 25) rfl)) rfl
set_option maxRecDepth 20000 in
theorem wf_P_9p : Cond.fieldLink "PieceTexts" 9 (TX_0 0).1 (TX_0 0).2.1 (TX_0 0).2.2.1 ∈ xT := xT_in (List.mem_append_right _ (List.mem_of_getElem? (i := 37) rfl)) rfl
set_option maxRecDepth 20000 in
theorem wa_0 : Cond.arrayClass .byte ∈ xT := xT_in (List.mem_append_right _ (List.mem_of_getElem? (i := 36) rfl)) rfl
set_option maxRecDepth 20000 in
theorem wO_P_1 : Cond.methodLink "PieceTexts" 1 objectInit ∈ xT := xT_in (List.mem_append_right _ (List.mem_of_getElem? (i := 21) rfl)) rfl
set_option maxRecDepth 20000 in
theorem wf_P_37 : xfl "PieceTexts" 37 (TX_0 1) none ∈ xT := xT_in (List.mem_append_right _ (List.mem_of_getElem? (i := 38) rfl)) rfl
set_option maxRecDepth 20000 in
theorem wf_P_9 : xfl "PieceTexts" 9 (TX_0 0) none ∈ xT := xT_in (List.mem_append_right _ (List.mem_of_getElem? (i := 37) rfl)) rfl
set_option maxRecDepth 20000 in
theorem wl_P_210 : Cond.constantLong "PieceTexts" 210 255 ∈ xT := xT_in (List.mem_append_right _ (List.mem_of_getElem? (i := 103) rfl)) rfl
set_option maxRecDepth 20000 in
theorem wk_P_41 : Cond.classLink "PieceTexts" 41 "java/lang/IllegalStateException" ∈ xT := xT_in (List.mem_append_right _ (List.mem_of_getElem? (i := 171) rfl)) rfl
set_option maxRecDepth 20000 in
theorem wi_IllegalStateException : Cond.initialized "java/lang/IllegalStateException" ∈ xT := xT_in (List.mem_append_right _ (List.mem_of_getElem? (i := 8) rfl)) rfl
set_option maxRecDepth 20000 in
theorem wt_P_43 : Cond.stringRef "PieceTexts" 43 "too many bytes" ∈ xT := xT_in (List.mem_append_right _ (List.mem_of_getElem? (i := 180) rfl)) rfl
set_option maxRecDepth 20000 in
theorem wj_P_45 : ∀ w ∈ vx_atS "PieceTexts" 45 "java/lang/IllegalStateException" ["java/lang/RuntimeException", "java/lang/Exception"], w ∈ xT := xatS_in (by decide +kernel)
set_option maxRecDepth 20000 in
theorem wk_P_30 : Cond.classLink "PieceTexts" 30 "java/lang/IllegalArgumentException" ∈ xT := xT_in (List.mem_append_right _ (List.mem_of_getElem? (i := 104) rfl)) rfl
set_option maxRecDepth 20000 in
theorem wi_IllegalArgumentException : Cond.initialized "java/lang/IllegalArgumentException" ∈ xT := xT_in (List.mem_append_right _ (List.mem_of_getElem? (i := 7) rfl)) rfl
set_option maxRecDepth 20000 in
theorem wt_P_32 : Cond.stringRef "PieceTexts" 32 "the lowest byte is 0" ∈ xT := xT_in (List.mem_append_right _ (List.mem_of_getElem? (i := 145) rfl)) rfl
set_option maxRecDepth 20000 in
theorem wj_P_34 : ∀ w ∈ vx_atS "PieceTexts" 34 "java/lang/IllegalArgumentException" ["java/lang/RuntimeException", "java/lang/Exception"], w ∈ xT := xatS_in (by decide +kernel)
set_option maxRecDepth 20000 in
theorem wm_P_26 : xml "PieceTexts" 26 m_P_bytesOf.1 none ∈ xT := xT_in (List.mem_append_right _ (List.mem_of_getElem? (i := 100) rfl)) rfl
set_option maxRecDepth 20000 in
theorem wi_P : Cond.initialized "PieceTexts" ∈ xT := xT_in (List.mem_append_right _ (List.mem_of_getElem? (i := 1) rfl)) rfl
set_option maxRecDepth 20000 in
theorem wx_P_bytesOf : xcode m_P_bytesOf ∈ xT := xT_in (List.mem_append_right _ (List.mem_of_getElem? (i := 102) rfl)) rfl
set_option maxRecDepth 20000 in
theorem ws_P_bytesOf : Cond.static m_P_bytesOf.1 ∈ xT := xT_in (List.mem_append_right _ (List.mem_of_getElem? (i := 101) rfl)) rfl
theorem wc_P_bytesOf : xwS m_P_bytesOf 1 := ⟨ws_P_bytesOf, wi_P, wx_P_bytesOf, ⟨by decide, by decide⟩, by decide +kernel, by decide⟩
set_option maxRecDepth 20000 in
theorem wm_P_46 : xml "PieceTexts" 46 m_P_append.1 none ∈ xT := xT_in (List.mem_append_right _ (List.mem_of_getElem? (i := 187) rfl)) rfl
set_option maxRecDepth 20000 in
theorem wx_P_append : xcode m_P_append ∈ xT := xT_in (List.mem_append_right _ (List.mem_of_getElem? (i := 190) rfl)) rfl
set_option maxRecDepth 20000 in
theorem wv_P_append : Cond.instanceMethod m_P_append.1 ∈ xT := xT_in (List.mem_append_right _ (List.mem_of_getElem? (i := 189) rfl)) rfl
set_option maxRecDepth 20000 in
theorem wz_P_append : Cond.selects "PieceTexts" m_P_append.1 m_P_append.1 ∈ xT := xT_in (List.mem_append_left _ (List.mem_of_getElem? (i := 6) rfl)) rfl
theorem wc_P_append : xwV m_P_append "PieceTexts" 1 := ⟨wv_P_append, wz_P_append, wi_P, wx_P_append, ⟨by decide, by decide⟩, by decide +kernel, by decide⟩
set_option maxRecDepth 20000 in
theorem wf_R_18 : xfl "PieceTexts$Row" 18 (TX_2 7) (some "PieceTexts") ∈ xT := xT_in (List.mem_append_right _ (List.mem_of_getElem? (i := 340) rfl)) rfl
set_option maxRecDepth 20000 in
theorem wf_P_15 : xfl "PieceTexts" 15 (TX_0 2) none ∈ xT := xT_in (List.mem_append_right _ (List.mem_of_getElem? (i := 39) rfl)) rfl
set_option maxRecDepth 20000 in
theorem wm_P_137 : xml "PieceTexts" 137 m_R_charactersOf.1 (some "PieceTexts") ∈ xT := xT_in (List.mem_append_right _ (List.mem_of_getElem? (i := 62) rfl)) rfl
set_option maxRecDepth 20000 in
theorem wi_R : Cond.initialized "PieceTexts$Row" ∈ xT := xT_in (List.mem_append_right _ (List.mem_of_getElem? (i := 10) rfl)) rfl
set_option maxRecDepth 20000 in
theorem wx_R_charactersOf : xcode m_R_charactersOf ∈ xT := xT_in (List.mem_append_right _ (List.mem_of_getElem? (i := 64) rfl)) rfl
set_option maxRecDepth 20000 in
theorem ws_R_charactersOf : Cond.static m_R_charactersOf.1 ∈ xT := xT_in (List.mem_append_right _ (List.mem_of_getElem? (i := 63) rfl)) rfl
theorem wc_R_charactersOf : xwS m_R_charactersOf 1 := ⟨ws_R_charactersOf, wi_R, wx_R_charactersOf, ⟨by decide, by decide⟩, by decide +kernel, by decide⟩
set_option maxRecDepth 20000 in
theorem wk_P_54 : Cond.classLink "PieceTexts" 54 "java/lang/IndexOutOfBoundsException" ∈ xT := xT_in (List.mem_append_right _ (List.mem_of_getElem? (i := 207) rfl)) rfl
set_option maxRecDepth 20000 in
theorem wi_IndexOutOfBoundsException : Cond.initialized "java/lang/IndexOutOfBoundsException" ∈ xT := xT_in (List.mem_append_right _ (List.mem_of_getElem? (i := 9) rfl)) rfl
set_option maxRecDepth 20000 in
theorem wt_P_216 : Cond.stringRef "PieceTexts" 216 "no such text" ∈ xT := xT_in (List.mem_append_right _ (List.mem_of_getElem? (i := 216) rfl)) rfl
set_option maxRecDepth 20000 in
theorem wj_P_58 : ∀ w ∈ vx_atS "PieceTexts" 58 "java/lang/IndexOutOfBoundsException" ["java/lang/RuntimeException", "java/lang/Exception"], w ∈ xT := xatS_in (by decide +kernel)
set_option maxRecDepth 20000 in
theorem wm_P_144 : xml "PieceTexts" 144 m_P_isText.1 none ∈ xT := xT_in (List.mem_append_right _ (List.mem_of_getElem? (i := 54) rfl)) rfl
set_option maxRecDepth 20000 in
theorem wx_P_isText : xcode m_P_isText ∈ xT := xT_in (List.mem_append_right _ (List.mem_of_getElem? (i := 57) rfl)) rfl
set_option maxRecDepth 20000 in
theorem wv_P_isText : Cond.instanceMethod m_P_isText.1 ∈ xT := xT_in (List.mem_append_right _ (List.mem_of_getElem? (i := 56) rfl)) rfl
set_option maxRecDepth 20000 in
theorem wz_P_isText : Cond.selects "PieceTexts" m_P_isText.1 m_P_isText.1 ∈ xT := xT_in (List.mem_append_left _ (List.mem_of_getElem? (i := 0) rfl)) rfl
theorem wc_P_isText : xwV m_P_isText "PieceTexts" 1 := ⟨wv_P_isText, wz_P_isText, wi_P, wx_P_isText, ⟨by decide, by decide⟩, by decide +kernel, by decide⟩
set_option maxRecDepth 20000 in
theorem wm_P_59 : xml "PieceTexts" 59 m_P_rootOf.1 none ∈ xT := xT_in (List.mem_append_right _ (List.mem_of_getElem? (i := 58) rfl)) rfl
set_option maxRecDepth 20000 in
theorem wx_P_rootOf : xcode m_P_rootOf ∈ xT := xT_in (List.mem_append_right _ (List.mem_of_getElem? (i := 61) rfl)) rfl
set_option maxRecDepth 20000 in
theorem wv_P_rootOf : Cond.instanceMethod m_P_rootOf.1 ∈ xT := xT_in (List.mem_append_right _ (List.mem_of_getElem? (i := 60) rfl)) rfl
set_option maxRecDepth 20000 in
theorem wz_P_rootOf : Cond.selects "PieceTexts" m_P_rootOf.1 m_P_rootOf.1 ∈ xT := xT_in (List.mem_append_left _ (List.mem_of_getElem? (i := 1) rfl)) rfl
theorem wc_P_rootOf : xwV m_P_rootOf "PieceTexts" 1 := ⟨wv_P_rootOf, wz_P_rootOf, wi_P, wx_P_rootOf, ⟨by decide, by decide⟩, by decide +kernel, by decide⟩
set_option maxRecDepth 20000 in
theorem wm_P_107 : xml "PieceTexts" 107 m_P_demandText.1 none ∈ xT := xT_in (List.mem_append_right _ (List.mem_of_getElem? (i := 203) rfl)) rfl
set_option maxRecDepth 20000 in
theorem wx_P_demandText : xcode m_P_demandText ∈ xT := xT_in (List.mem_append_right _ (List.mem_of_getElem? (i := 206) rfl)) rfl
set_option maxRecDepth 20000 in
theorem wv_P_demandText : Cond.instanceMethod m_P_demandText.1 ∈ xT := xT_in (List.mem_append_right _ (List.mem_of_getElem? (i := 205) rfl)) rfl
set_option maxRecDepth 20000 in
theorem wz_P_demandText : Cond.selects "PieceTexts" m_P_demandText.1 m_P_demandText.1 ∈ xT := xT_in (List.mem_append_left _ (List.mem_of_getElem? (i := 8) rfl)) rfl
theorem wc_P_demandText : xwV m_P_demandText "PieceTexts" 1 := ⟨wv_P_demandText, wz_P_demandText, wi_P, wx_P_demandText, ⟨by decide, by decide⟩, by decide +kernel, by decide⟩
set_option maxRecDepth 20000 in
theorem wt_P_148 : Cond.stringRef "PieceTexts" 148 "no such place" ∈ xT := xT_in (List.mem_append_right _ (List.mem_of_getElem? (i := 223) rfl)) rfl
set_option maxRecDepth 20000 in
theorem wf_R_15 : xfl "PieceTexts$Row" 15 (TX_2 6) (some "PieceTexts") ∈ xT := xT_in (List.mem_append_right _ (List.mem_of_getElem? (i := 338) rfl)) rfl
set_option maxRecDepth 20000 in
theorem wm_P_69 : xml "PieceTexts" 69 m_R_piecesOf.1 (some "PieceTexts") ∈ xT := xT_in (List.mem_append_right _ (List.mem_of_getElem? (i := 77) rfl)) rfl
set_option maxRecDepth 20000 in
theorem wx_R_piecesOf : xcode m_R_piecesOf ∈ xT := xT_in (List.mem_append_right _ (List.mem_of_getElem? (i := 79) rfl)) rfl
set_option maxRecDepth 20000 in
theorem ws_R_piecesOf : Cond.static m_R_piecesOf.1 ∈ xT := xT_in (List.mem_append_right _ (List.mem_of_getElem? (i := 78) rfl)) rfl
theorem wc_R_piecesOf : xwS m_R_piecesOf 1 := ⟨ws_R_piecesOf, wi_R, wx_R_piecesOf, ⟨by decide, by decide⟩, by decide +kernel, by decide⟩
set_option maxRecDepth 20000 in
theorem wt_P_224 : Cond.stringRef "PieceTexts" 224 "too many pieces" ∈ xT := xT_in (List.mem_append_right _ (List.mem_of_getElem? (i := 264) rfl)) rfl
set_option maxRecDepth 20000 in
theorem wm_P_203 : xml "PieceTexts" 203 m_P_piecesInAll.1 none ∈ xT := xT_in (List.mem_append_right _ (List.mem_of_getElem? (i := 73) rfl)) rfl
set_option maxRecDepth 20000 in
theorem wx_P_piecesInAll : xcode m_P_piecesInAll ∈ xT := xT_in (List.mem_append_right _ (List.mem_of_getElem? (i := 76) rfl)) rfl
set_option maxRecDepth 20000 in
theorem wv_P_piecesInAll : Cond.instanceMethod m_P_piecesInAll.1 ∈ xT := xT_in (List.mem_append_right _ (List.mem_of_getElem? (i := 75) rfl)) rfl
set_option maxRecDepth 20000 in
theorem wz_P_piecesInAll : Cond.selects "PieceTexts" m_P_piecesInAll.1 m_P_piecesInAll.1 ∈ xT := xT_in (List.mem_append_left _ (List.mem_of_getElem? (i := 3) rfl)) rfl
theorem wc_P_piecesInAll : xwV m_P_piecesInAll "PieceTexts" 0 := ⟨wv_P_piecesInAll, wz_P_piecesInAll, wi_P, wx_P_piecesInAll, ⟨by decide, by decide⟩, by decide +kernel, by decide⟩
set_option maxRecDepth 20000 in
theorem wt_P_222 : Cond.stringRef "PieceTexts" 222 "too many characters" ∈ xT := xT_in (List.mem_append_right _ (List.mem_of_getElem? (i := 263) rfl)) rfl
set_option maxRecDepth 20000 in
theorem wm_P_200 : xml "PieceTexts" 200 m_P_charactersInAll.1 none ∈ xT := xT_in (List.mem_append_right _ (List.mem_of_getElem? (i := 69) rfl)) rfl
set_option maxRecDepth 20000 in
theorem wx_P_charactersInAll : xcode m_P_charactersInAll ∈ xT := xT_in (List.mem_append_right _ (List.mem_of_getElem? (i := 72) rfl)) rfl
set_option maxRecDepth 20000 in
theorem wv_P_charactersInAll : Cond.instanceMethod m_P_charactersInAll.1 ∈ xT := xT_in (List.mem_append_right _ (List.mem_of_getElem? (i := 71) rfl)) rfl
set_option maxRecDepth 20000 in
theorem wz_P_charactersInAll : Cond.selects "PieceTexts" m_P_charactersInAll.1 m_P_charactersInAll.1 ∈ xT := xT_in (List.mem_append_left _ (List.mem_of_getElem? (i := 2) rfl)) rfl
theorem wc_P_charactersInAll : xwV m_P_charactersInAll "PieceTexts" 0 := ⟨wv_P_charactersInAll, wz_P_charactersInAll, wi_P, wx_P_charactersInAll, ⟨by decide, by decide⟩, by decide +kernel, by decide⟩
set_option maxRecDepth 20000 in
theorem wf_R_37 : xfl "PieceTexts$Row" 37 (TX_2 4) (some "PieceTexts") ∈ xT := xT_in (List.mem_append_right _ (List.mem_of_getElem? (i := 335) rfl)) rfl
set_option maxRecDepth 20000 in
theorem wf_R_31 : xfl "PieceTexts$Row" 31 (TX_2 1) (some "PieceTexts") ∈ xT := xT_in (List.mem_append_right _ (List.mem_of_getElem? (i := 325) rfl)) rfl
set_option maxRecDepth 20000 in
theorem wm_R_34 : xml "PieceTexts$Row" 34 m_R_piecesOf.1 none ∈ xT := xT_in (List.mem_append_right _ (List.mem_of_getElem? (i := 90) rfl)) rfl
set_option maxRecDepth 20000 in
theorem wf_R_21 : xfl "PieceTexts$Row" 21 (TX_2 3) (some "PieceTexts") ∈ xT := xT_in (List.mem_append_right _ (List.mem_of_getElem? (i := 333) rfl)) rfl
set_option maxRecDepth 20000 in
theorem wm_R_25 : xml "PieceTexts$Row" 25 m_R_charactersOf.1 none ∈ xT := xT_in (List.mem_append_right _ (List.mem_of_getElem? (i := 234) rfl)) rfl
set_option maxRecDepth 20000 in
theorem wm_Y_46 : xml "PieceTexts$Tally" 46 m_R_orderAt.1 (some "PieceTexts") ∈ xT := xT_in (List.mem_append_right _ (List.mem_of_getElem? (i := 231) rfl)) rfl
set_option maxRecDepth 20000 in
theorem wx_R_orderAt : xcode m_R_orderAt ∈ xT := xT_in (List.mem_append_right _ (List.mem_of_getElem? (i := 233) rfl)) rfl
set_option maxRecDepth 20000 in
theorem ws_R_orderAt : Cond.static m_R_orderAt.1 ∈ xT := xT_in (List.mem_append_right _ (List.mem_of_getElem? (i := 232) rfl)) rfl
theorem wc_R_orderAt : xwS m_R_orderAt 2 := ⟨ws_R_orderAt, wi_R, wx_R_orderAt, ⟨by decide, by decide⟩, by decide +kernel, by decide⟩
set_option maxRecDepth 20000 in
theorem wm_Y_35 : xml "PieceTexts$Tally" 35 m_R_piecesOf.1 (some "PieceTexts") ∈ xT := xT_in (List.mem_append_right _ (List.mem_of_getElem? (i := 238) rfl)) rfl
set_option maxRecDepth 20000 in
theorem wm_R_51 : xml "PieceTexts$Row" 51 m_R_startOf.1 none ∈ xT := xT_in (List.mem_append_right _ (List.mem_of_getElem? (i := 249) rfl)) rfl
set_option maxRecDepth 20000 in
theorem wx_R_startOf : xcode m_R_startOf ∈ xT := xT_in (List.mem_append_right _ (List.mem_of_getElem? (i := 251) rfl)) rfl
set_option maxRecDepth 20000 in
theorem ws_R_startOf : Cond.static m_R_startOf.1 ∈ xT := xT_in (List.mem_append_right _ (List.mem_of_getElem? (i := 250) rfl)) rfl
theorem wc_R_startOf : xwS m_R_startOf 2 := ⟨ws_R_startOf, wi_R, wx_R_startOf, ⟨by decide, by decide⟩, by decide +kernel, by decide⟩
set_option maxRecDepth 20000 in
theorem wf_R_48 : xfl "PieceTexts$Row" 48 (TX_2 0) (some "PieceTexts") ∈ xT := xT_in (List.mem_append_right _ (List.mem_of_getElem? (i := 321) rfl)) rfl
set_option maxRecDepth 20000 in
theorem wm_R_44 : xml "PieceTexts$Row" 44 m_R_numbered.1 none ∈ xT := xT_in (List.mem_append_right _ (List.mem_of_getElem? (i := 246) rfl)) rfl
set_option maxRecDepth 20000 in
theorem wx_R_numbered : xcode m_R_numbered ∈ xT := xT_in (List.mem_append_right _ (List.mem_of_getElem? (i := 248) rfl)) rfl
set_option maxRecDepth 20000 in
theorem ws_R_numbered : Cond.static m_R_numbered.1 ∈ xT := xT_in (List.mem_append_right _ (List.mem_of_getElem? (i := 247) rfl)) rfl
theorem wc_R_numbered : xwS m_R_numbered 2 := ⟨ws_R_numbered, wi_R, wx_R_numbered, ⟨by decide, by decide⟩, by decide +kernel, by decide⟩
set_option maxRecDepth 20000 in
theorem wm_R_40 : xml "PieceTexts$Row" 40 m_R_orderAt.1 none ∈ xT := xT_in (List.mem_append_right _ (List.mem_of_getElem? (i := 245) rfl)) rfl
set_option maxRecDepth 20000 in
theorem wf_R_54 : xfl "PieceTexts$Row" 54 (TX_2 2) (some "PieceTexts") ∈ xT := xT_in (List.mem_append_right _ (List.mem_of_getElem? (i := 330) rfl)) rfl
set_option maxRecDepth 20000 in
theorem wm_Y_32 : xml "PieceTexts$Tally" 32 m_R_tagAt.1 (some "PieceTexts") ∈ xT := xT_in (List.mem_append_right _ (List.mem_of_getElem? (i := 252) rfl)) rfl
set_option maxRecDepth 20000 in
theorem wx_R_tagAt : xcode m_R_tagAt ∈ xT := xT_in (List.mem_append_right _ (List.mem_of_getElem? (i := 254) rfl)) rfl
set_option maxRecDepth 20000 in
theorem ws_R_tagAt : Cond.static m_R_tagAt.1 ∈ xT := xT_in (List.mem_append_right _ (List.mem_of_getElem? (i := 253) rfl)) rfl
theorem wc_R_tagAt : xwS m_R_tagAt 2 := ⟨ws_R_tagAt, wi_R, wx_R_tagAt, ⟨by decide, by decide⟩, by decide +kernel, by decide⟩
set_option maxRecDepth 20000 in
theorem wm_Y_29 : xml "PieceTexts$Tally" 29 m_R_sourceAt.1 (some "PieceTexts") ∈ xT := xT_in (List.mem_append_right _ (List.mem_of_getElem? (i := 242) rfl)) rfl
set_option maxRecDepth 20000 in
theorem wx_R_sourceAt : xcode m_R_sourceAt ∈ xT := xT_in (List.mem_append_right _ (List.mem_of_getElem? (i := 244) rfl)) rfl
set_option maxRecDepth 20000 in
theorem ws_R_sourceAt : Cond.static m_R_sourceAt.1 ∈ xT := xT_in (List.mem_append_right _ (List.mem_of_getElem? (i := 243) rfl)) rfl
theorem wc_R_sourceAt : xwS m_R_sourceAt 2 := ⟨ws_R_sourceAt, wi_R, wx_R_sourceAt, ⟨by decide, by decide⟩, by decide +kernel, by decide⟩
set_option maxRecDepth 20000 in
theorem wm_Y_23 : xml "PieceTexts$Tally" 23 m_R_charactersOf.1 (some "PieceTexts") ∈ xT := xT_in (List.mem_append_right _ (List.mem_of_getElem? (i := 258) rfl)) rfl
set_option maxRecDepth 20000 in
theorem wm_Y_20 : xml "PieceTexts$Tally" 20 m_Y_meldsRight.1 none ∈ xT := xT_in (List.mem_append_right _ (List.mem_of_getElem? (i := 255) rfl)) rfl
set_option maxRecDepth 20000 in
theorem wi_Y : Cond.initialized "PieceTexts$Tally" ∈ xT := xT_in (List.mem_append_right _ (List.mem_of_getElem? (i := 11) rfl)) rfl
set_option maxRecDepth 20000 in
theorem wx_Y_meldsRight : xcode m_Y_meldsRight ∈ xT := xT_in (List.mem_append_right _ (List.mem_of_getElem? (i := 257) rfl)) rfl
set_option maxRecDepth 20000 in
theorem ws_Y_meldsRight : Cond.static m_Y_meldsRight.1 ∈ xT := xT_in (List.mem_append_right _ (List.mem_of_getElem? (i := 256) rfl)) rfl
theorem wc_Y_meldsRight : xwS m_Y_meldsRight 4 := ⟨ws_Y_meldsRight, wi_Y, wx_Y_meldsRight, ⟨by decide, by decide⟩, by decide +kernel, by decide⟩
set_option maxRecDepth 20000 in
theorem wm_Y_16 : xml "PieceTexts$Tally" 16 m_Y_meldsLeft.1 none ∈ xT := xT_in (List.mem_append_right _ (List.mem_of_getElem? (i := 239) rfl)) rfl
set_option maxRecDepth 20000 in
theorem wx_Y_meldsLeft : xcode m_Y_meldsLeft ∈ xT := xT_in (List.mem_append_right _ (List.mem_of_getElem? (i := 241) rfl)) rfl
set_option maxRecDepth 20000 in
theorem ws_Y_meldsLeft : Cond.static m_Y_meldsLeft.1 ∈ xT := xT_in (List.mem_append_right _ (List.mem_of_getElem? (i := 240) rfl)) rfl
theorem wc_Y_meldsLeft : xwS m_Y_meldsLeft 4 := ⟨ws_Y_meldsLeft, wi_Y, wx_Y_meldsLeft, ⟨by decide, by decide⟩, by decide +kernel, by decide⟩
set_option maxRecDepth 20000 in
theorem wm_Y_13 : xml "PieceTexts$Tally" 13 m_Y_behind.1 none ∈ xT := xT_in (List.mem_append_right _ (List.mem_of_getElem? (i := 235) rfl)) rfl
set_option maxRecDepth 20000 in
theorem wx_Y_behind : xcode m_Y_behind ∈ xT := xT_in (List.mem_append_right _ (List.mem_of_getElem? (i := 237) rfl)) rfl
set_option maxRecDepth 20000 in
theorem ws_Y_behind : Cond.static m_Y_behind.1 ∈ xT := xT_in (List.mem_append_right _ (List.mem_of_getElem? (i := 236) rfl)) rfl
theorem wc_Y_behind : xwS m_Y_behind 2 := ⟨ws_Y_behind, wi_Y, wx_Y_behind, ⟨by decide, by decide⟩, by decide +kernel, by decide⟩
set_option maxRecDepth 20000 in
theorem wm_Y_7 : xml "PieceTexts$Tally" 7 m_Y_before.1 none ∈ xT := xT_in (List.mem_append_right _ (List.mem_of_getElem? (i := 228) rfl)) rfl
set_option maxRecDepth 20000 in
theorem wx_Y_before : xcode m_Y_before ∈ xT := xT_in (List.mem_append_right _ (List.mem_of_getElem? (i := 230) rfl)) rfl
set_option maxRecDepth 20000 in
theorem ws_Y_before : Cond.static m_Y_before.1 ∈ xT := xT_in (List.mem_append_right _ (List.mem_of_getElem? (i := 229) rfl)) rfl
theorem wc_Y_before : xwS m_Y_before 2 := ⟨ws_Y_before, wi_Y, wx_Y_before, ⟨by decide, by decide⟩, by decide +kernel, by decide⟩
set_option maxRecDepth 20000 in
theorem wf_T_35 : xfl "PieceTexts$Trees" 35 (TX_2 3) (some "PieceTexts") ∈ xT := xT_in (List.mem_append_right _ (List.mem_of_getElem? (i := 332) rfl)) rfl
set_option maxRecDepth 20000 in
theorem wf_T_9 : xfl "PieceTexts$Trees" 9 (TX_4 0) none ∈ xT := xT_in (List.mem_append_right _ (List.mem_of_getElem? (i := 32) rfl)) rfl
set_option maxRecDepth 20000 in
theorem wf_T_18 : xfl "PieceTexts$Trees" 18 (TX_2 4) (some "PieceTexts") ∈ xT := xT_in (List.mem_append_right _ (List.mem_of_getElem? (i := 334) rfl)) rfl
set_option maxRecDepth 20000 in
theorem wf_R_9 : xfl "PieceTexts$Row" 9 (TX_2 5) (some "PieceTexts") ∈ xT := xT_in (List.mem_append_right _ (List.mem_of_getElem? (i := 336) rfl)) rfl
set_option maxRecDepth 20000 in
theorem wf_T_129 : xfl "PieceTexts$Trees" 129 (TX_2 7) (some "PieceTexts") ∈ xT := xT_in (List.mem_append_right _ (List.mem_of_getElem? (i := 341) rfl)) rfl
set_option maxRecDepth 20000 in
theorem wf_T_126 : xfl "PieceTexts$Trees" 126 (TX_2 6) (some "PieceTexts") ∈ xT := xT_in (List.mem_append_right _ (List.mem_of_getElem? (i := 339) rfl)) rfl
set_option maxRecDepth 20000 in
theorem wf_T_123 : xfl "PieceTexts$Trees" 123 (TX_2 5) (some "PieceTexts") ∈ xT := xT_in (List.mem_append_right _ (List.mem_of_getElem? (i := 337) rfl)) rfl
set_option maxRecDepth 20000 in
theorem wf_T_25 : xfl "PieceTexts$Trees" 25 (TX_2 1) (some "PieceTexts") ∈ xT := xT_in (List.mem_append_right _ (List.mem_of_getElem? (i := 324) rfl)) rfl
set_option maxRecDepth 20000 in
theorem wh_T_92 : Cond.methodLink "PieceTexts$Trees" 92 Lib.Math.max.name ∈ xT := xT_in (List.mem_append_right _ (List.mem_of_getElem? (i := 299) rfl)) rfl
set_option maxRecDepth 20000 in
theorem whs_max : Cond.static Lib.Math.max.name ∈ xT := xT_in (List.mem_append_right _ (List.mem_of_getElem? (i := 300) rfl)) rfl
set_option maxRecDepth 20000 in
theorem wi_Math : Cond.initialized "java/lang/Math" ∈ xT := xT_in (List.mem_append_right _ (List.mem_of_getElem? (i := 13) rfl)) rfl
set_option maxRecDepth 20000 in
theorem whc_max : Cond.code Lib.Math.max.name Lib.Math.max.code 2 (some .int) ∈ xT := xT_in (List.mem_append_right _ (List.mem_of_getElem? (i := 301) rfl)) rfl
set_option maxRecDepth 20000 in
theorem wm_T_108 : xml "PieceTexts$Trees" 108 m_T_sum.1 none ∈ xT := xT_in (List.mem_append_right _ (List.mem_of_getElem? (i := 296) rfl)) rfl
set_option maxRecDepth 20000 in
theorem wx_T_sum : xcode m_T_sum ∈ xT := xT_in (List.mem_append_right _ (List.mem_of_getElem? (i := 298) rfl)) rfl
set_option maxRecDepth 20000 in
theorem ws_T_sum : Cond.static m_T_sum.1 ∈ xT := xT_in (List.mem_append_right _ (List.mem_of_getElem? (i := 297) rfl)) rfl
theorem wc_T_sum : xwS m_T_sum 1 := ⟨ws_T_sum, wi_T, wx_T_sum, ⟨by decide, by decide⟩, by decide +kernel, by decide⟩
set_option maxRecDepth 20000 in
theorem wm_T_117 : xml "PieceTexts$Trees" 117 m_T_raiseRight.1 none ∈ xT := xT_in (List.mem_append_right _ (List.mem_of_getElem? (i := 302) rfl)) rfl
set_option maxRecDepth 20000 in
theorem wx_T_raiseRight : xcode m_T_raiseRight ∈ xT := xT_in (List.mem_append_right _ (List.mem_of_getElem? (i := 304) rfl)) rfl
set_option maxRecDepth 20000 in
theorem ws_T_raiseRight : Cond.static m_T_raiseRight.1 ∈ xT := xT_in (List.mem_append_right _ (List.mem_of_getElem? (i := 303) rfl)) rfl
theorem wc_T_raiseRight : xwS m_T_raiseRight 1 := ⟨ws_T_raiseRight, wi_T, wx_T_raiseRight, ⟨by decide, by decide⟩, by decide +kernel, by decide⟩
set_option maxRecDepth 20000 in
theorem wm_T_114 : xml "PieceTexts$Trees" 114 m_R_heightOf.1 (some "PieceTexts") ∈ xT := xT_in (List.mem_append_right _ (List.mem_of_getElem? (i := 292) rfl)) rfl
set_option maxRecDepth 20000 in
theorem wx_R_heightOf : xcode m_R_heightOf ∈ xT := xT_in (List.mem_append_right _ (List.mem_of_getElem? (i := 89) rfl)) rfl
set_option maxRecDepth 20000 in
theorem ws_R_heightOf : Cond.static m_R_heightOf.1 ∈ xT := xT_in (List.mem_append_right _ (List.mem_of_getElem? (i := 88) rfl)) rfl
theorem wc_R_heightOf : xwS m_R_heightOf 1 := ⟨ws_R_heightOf, wi_R, wx_R_heightOf, ⟨by decide, by decide⟩, by decide +kernel, by decide⟩
set_option maxRecDepth 20000 in
theorem wm_T_120 : xml "PieceTexts$Trees" 120 m_T_raiseLeft.1 none ∈ xT := xT_in (List.mem_append_right _ (List.mem_of_getElem? (i := 305) rfl)) rfl
set_option maxRecDepth 20000 in
theorem wx_T_raiseLeft : xcode m_T_raiseLeft ∈ xT := xT_in (List.mem_append_right _ (List.mem_of_getElem? (i := 307) rfl)) rfl
set_option maxRecDepth 20000 in
theorem ws_T_raiseLeft : Cond.static m_T_raiseLeft.1 ∈ xT := xT_in (List.mem_append_right _ (List.mem_of_getElem? (i := 306) rfl)) rfl
theorem wc_T_raiseLeft : xwS m_T_raiseLeft 1 := ⟨ws_T_raiseLeft, wi_T, wx_T_raiseLeft, ⟨by decide, by decide⟩, by decide +kernel, by decide⟩
set_option maxRecDepth 20000 in
theorem wm_T_111 : xml "PieceTexts$Trees" 111 m_T_balance.1 none ∈ xT := xT_in (List.mem_append_right _ (List.mem_of_getElem? (i := 293) rfl)) rfl
set_option maxRecDepth 20000 in
theorem wx_T_balance : xcode m_T_balance ∈ xT := xT_in (List.mem_append_right _ (List.mem_of_getElem? (i := 295) rfl)) rfl
set_option maxRecDepth 20000 in
theorem ws_T_balance : Cond.static m_T_balance.1 ∈ xT := xT_in (List.mem_append_right _ (List.mem_of_getElem? (i := 294) rfl)) rfl
theorem wc_T_balance : xwS m_T_balance 1 := ⟨ws_T_balance, wi_T, wx_T_balance, ⟨by decide, by decide⟩, by decide +kernel, by decide⟩
set_option maxRecDepth 20000 in
theorem wm_T_61 : xml "PieceTexts$Trees" 61 m_T_join.1 none ∈ xT := xT_in (List.mem_append_right _ (List.mem_of_getElem? (i := 289) rfl)) rfl
set_option maxRecDepth 20000 in
theorem wx_T_join : xcode m_T_join ∈ xT := xT_in (List.mem_append_right _ (List.mem_of_getElem? (i := 291) rfl)) rfl
set_option maxRecDepth 20000 in
theorem ws_T_join : Cond.static m_T_join.1 ∈ xT := xT_in (List.mem_append_right _ (List.mem_of_getElem? (i := 290) rfl)) rfl
theorem wc_T_join : xwS m_T_join 4 := ⟨ws_T_join, wi_T, wx_T_join, ⟨by decide, by decide⟩, by decide +kernel, by decide⟩
set_option maxRecDepth 20000 in
theorem wm_T_75 : xml "PieceTexts$Trees" 75 m_T_withoutFirst.1 none ∈ xT := xT_in (List.mem_append_right _ (List.mem_of_getElem? (i := 373) rfl)) rfl
set_option maxRecDepth 20000 in
theorem wx_T_withoutFirst : xcode m_T_withoutFirst ∈ xT := xT_in (List.mem_append_right _ (List.mem_of_getElem? (i := 375) rfl)) rfl
set_option maxRecDepth 20000 in
theorem ws_T_withoutFirst : Cond.static m_T_withoutFirst.1 ∈ xT := xT_in (List.mem_append_right _ (List.mem_of_getElem? (i := 374) rfl)) rfl
theorem wc_T_withoutFirst : xwS m_T_withoutFirst 2 := ⟨ws_T_withoutFirst, wi_T, wx_T_withoutFirst, ⟨by decide, by decide⟩, by decide +kernel, by decide⟩
set_option maxRecDepth 20000 in
theorem wm_T_79 : xml "PieceTexts$Trees" 79 m_T_withoutLast.1 none ∈ xT := xT_in (List.mem_append_right _ (List.mem_of_getElem? (i := 380) rfl)) rfl
set_option maxRecDepth 20000 in
theorem wx_T_withoutLast : xcode m_T_withoutLast ∈ xT := xT_in (List.mem_append_right _ (List.mem_of_getElem? (i := 382) rfl)) rfl
set_option maxRecDepth 20000 in
theorem ws_T_withoutLast : Cond.static m_T_withoutLast.1 ∈ xT := xT_in (List.mem_append_right _ (List.mem_of_getElem? (i := 381) rfl)) rfl
theorem wc_T_withoutLast : xwS m_T_withoutLast 2 := ⟨ws_T_withoutLast, wi_T, wx_T_withoutLast, ⟨by decide, by decide⟩, by decide +kernel, by decide⟩
set_option maxRecDepth 20000 in
theorem wm_T_42 : xml "PieceTexts$Trees" 42 m_T_giveBack.1 none ∈ xT := xT_in (List.mem_append_right _ (List.mem_of_getElem? (i := 376) rfl)) rfl
set_option maxRecDepth 20000 in
theorem wx_T_giveBack : xcode m_T_giveBack ∈ xT := xT_in (List.mem_append_right _ (List.mem_of_getElem? (i := 379) rfl)) rfl
set_option maxRecDepth 20000 in
theorem wv_T_giveBack : Cond.instanceMethod m_T_giveBack.1 ∈ xT := xT_in (List.mem_append_right _ (List.mem_of_getElem? (i := 378) rfl)) rfl
set_option maxRecDepth 20000 in
theorem wz_T_giveBack : Cond.selects "PieceTexts$Trees" m_T_giveBack.1 m_T_giveBack.1 ∈ xT := xT_in (List.mem_append_left _ (List.mem_of_getElem? (i := 14) rfl)) rfl
theorem wc_T_giveBack : xwV m_T_giveBack "PieceTexts$Trees" 1 := ⟨wv_T_giveBack, wz_T_giveBack, wi_T, wx_T_giveBack, ⟨by decide, by decide⟩, by decide +kernel, by decide⟩
set_option maxRecDepth 20000 in
theorem wf_T_28 : xfl "PieceTexts$Trees" 28 (TX_2 2) (some "PieceTexts") ∈ xT := xT_in (List.mem_append_right _ (List.mem_of_getElem? (i := 328) rfl)) rfl
set_option maxRecDepth 20000 in
theorem wf_T_21 : xfl "PieceTexts$Trees" 21 (TX_2 0) (some "PieceTexts") ∈ xT := xT_in (List.mem_append_right _ (List.mem_of_getElem? (i := 319) rfl)) rfl
set_option maxRecDepth 20000 in
theorem wm_T_72 : xml "PieceTexts$Trees" 72 m_T_firstOf.1 none ∈ xT := xT_in (List.mem_append_right _ (List.mem_of_getElem? (i := 370) rfl)) rfl
set_option maxRecDepth 20000 in
theorem wx_T_firstOf : xcode m_T_firstOf ∈ xT := xT_in (List.mem_append_right _ (List.mem_of_getElem? (i := 372) rfl)) rfl
set_option maxRecDepth 20000 in
theorem ws_T_firstOf : Cond.static m_T_firstOf.1 ∈ xT := xT_in (List.mem_append_right _ (List.mem_of_getElem? (i := 371) rfl)) rfl
theorem wc_T_firstOf : xwS m_T_firstOf 1 := ⟨ws_T_firstOf, wi_T, wx_T_firstOf, ⟨by decide, by decide⟩, by decide +kernel, by decide⟩
set_option maxRecDepth 20000 in
theorem wm_T_69 : xml "PieceTexts$Trees" 69 m_T_lastOf.1 none ∈ xT := xT_in (List.mem_append_right _ (List.mem_of_getElem? (i := 367) rfl)) rfl
set_option maxRecDepth 20000 in
theorem wx_T_lastOf : xcode m_T_lastOf ∈ xT := xT_in (List.mem_append_right _ (List.mem_of_getElem? (i := 369) rfl)) rfl
set_option maxRecDepth 20000 in
theorem ws_T_lastOf : Cond.static m_T_lastOf.1 ∈ xT := xT_in (List.mem_append_right _ (List.mem_of_getElem? (i := 368) rfl)) rfl
theorem wc_T_lastOf : xwS m_T_lastOf 1 := ⟨ws_T_lastOf, wi_T, wx_T_lastOf, ⟨by decide, by decide⟩, by decide +kernel, by decide⟩
set_option maxRecDepth 20000 in
theorem wO_H_1 : Cond.methodLink "PieceTexts$Halves" 1 objectInit ∈ xT := xT_in (List.mem_append_right _ (List.mem_of_getElem? (i := 274) rfl)) rfl
set_option maxRecDepth 20000 in
theorem wO_N_1 : Cond.methodLink "PieceTexts$Piece" 1 objectInit ∈ xT := xT_in (List.mem_append_right _ (List.mem_of_getElem? (i := 317) rfl)) rfl
set_option maxRecDepth 20000 in
theorem wm_T_17 : xml "PieceTexts$Trees" 17 m_N_init.1 (some "PieceTexts") ∈ xT := xT_in (List.mem_append_right _ (List.mem_of_getElem? (i := 314) rfl)) rfl
set_option maxRecDepth 20000 in
theorem wi_N : Cond.initialized "PieceTexts$Piece" ∈ xT := xT_in (List.mem_append_right _ (List.mem_of_getElem? (i := 14) rfl)) rfl
set_option maxRecDepth 20000 in
theorem wx_N_init : xcode m_N_init ∈ xT := xT_in (List.mem_append_right _ (List.mem_of_getElem? (i := 316) rfl)) rfl
set_option maxRecDepth 20000 in
theorem wv_N_init : Cond.instanceMethod m_N_init.1 ∈ xT := xT_in (List.mem_append_right _ (List.mem_of_getElem? (i := 315) rfl)) rfl
theorem wc_N_init : xwI m_N_init 0 := ⟨wv_N_init, rfl, ⟨_, _, rfl⟩, wi_N, wx_N_init, ⟨by decide, by decide⟩, by decide +kernel, by decide⟩
set_option maxRecDepth 20000 in
theorem wk_T_15 : Cond.classLink "PieceTexts$Trees" 15 "PieceTexts$Piece" ∈ xT := xT_in (List.mem_append_right _ (List.mem_of_getElem? (i := 312) rfl)) rfl
set_option maxRecDepth 20000 in
theorem wn_2 : Cond.instantiable "PieceTexts$Piece" 8 ∈ xT := xT_in (List.mem_append_right _ (List.mem_of_getElem? (i := 313) rfl)) rfl
set_option maxRecDepth 20000 in
theorem wm_T_31 : xml "PieceTexts$Trees" 31 m_T_alone.1 none ∈ xT := xT_in (List.mem_append_right _ (List.mem_of_getElem? (i := 359) rfl)) rfl
set_option maxRecDepth 20000 in
theorem wx_T_alone : xcode m_T_alone ∈ xT := xT_in (List.mem_append_right _ (List.mem_of_getElem? (i := 361) rfl)) rfl
set_option maxRecDepth 20000 in
theorem ws_T_alone : Cond.static m_T_alone.1 ∈ xT := xT_in (List.mem_append_right _ (List.mem_of_getElem? (i := 360) rfl)) rfl
theorem wc_T_alone : xwS m_T_alone 1 := ⟨ws_T_alone, wi_T, wx_T_alone, ⟨by decide, by decide⟩, by decide +kernel, by decide⟩
set_option maxRecDepth 20000 in
theorem wf_T_54 : xfl "PieceTexts$Trees" 54 (TX_1 1) (some "PieceTexts") ∈ xT := xT_in (List.mem_append_right _ (List.mem_of_getElem? (i := 278) rfl)) rfl
set_option maxRecDepth 20000 in
theorem wf_T_53 : xfl "PieceTexts$Trees" 53 (TX_1 0) (some "PieceTexts") ∈ xT := xT_in (List.mem_append_right _ (List.mem_of_getElem? (i := 276) rfl)) rfl
set_option maxRecDepth 20000 in
theorem wm_T_65 : xml "PieceTexts$Trees" 65 m_T_take.1 none ∈ xT := xT_in (List.mem_append_right _ (List.mem_of_getElem? (i := 308) rfl)) rfl
set_option maxRecDepth 20000 in
theorem wx_T_take : xcode m_T_take ∈ xT := xT_in (List.mem_append_right _ (List.mem_of_getElem? (i := 311) rfl)) rfl
set_option maxRecDepth 20000 in
theorem wv_T_take : Cond.instanceMethod m_T_take.1 ∈ xT := xT_in (List.mem_append_right _ (List.mem_of_getElem? (i := 310) rfl)) rfl
set_option maxRecDepth 20000 in
theorem wz_T_take : Cond.selects "PieceTexts$Trees" m_T_take.1 m_T_take.1 ∈ xT := xT_in (List.mem_append_left _ (List.mem_of_getElem? (i := 12) rfl)) rfl
theorem wc_T_take : xwV m_T_take "PieceTexts$Trees" 3 := ⟨wv_T_take, wz_T_take, wi_T, wx_T_take, ⟨by decide, by decide⟩, by decide +kernel, by decide⟩
set_option maxRecDepth 20000 in
theorem wm_T_49 : xml "PieceTexts$Trees" 49 m_T_partInto.1 none ∈ xT := xT_in (List.mem_append_right _ (List.mem_of_getElem? (i := 284) rfl)) rfl
set_option maxRecDepth 20000 in
theorem wx_T_partInto : xcode m_T_partInto ∈ xT := xT_in (List.mem_append_right _ (List.mem_of_getElem? (i := 287) rfl)) rfl
set_option maxRecDepth 20000 in
theorem wv_T_partInto : Cond.instanceMethod m_T_partInto.1 ∈ xT := xT_in (List.mem_append_right _ (List.mem_of_getElem? (i := 286) rfl)) rfl
set_option maxRecDepth 20000 in
theorem wz_T_partInto : Cond.selects "PieceTexts$Trees" m_T_partInto.1 m_T_partInto.1 ∈ xT := xT_in (List.mem_append_left _ (List.mem_of_getElem? (i := 11) rfl)) rfl
theorem wc_T_partInto : xwV m_T_partInto "PieceTexts$Trees" 4 := ⟨wv_T_partInto, wz_T_partInto, wi_T, wx_T_partInto, ⟨by decide, by decide⟩, by decide +kernel, by decide⟩
set_option maxRecDepth 20000 in
theorem wm_T_55 : xml "PieceTexts$Trees" 55 m_R_charactersOf.1 (some "PieceTexts") ∈ xT := xT_in (List.mem_append_right _ (List.mem_of_getElem? (i := 288) rfl)) rfl
set_option maxRecDepth 20000 in
theorem wm_T_48 : xml "PieceTexts$Trees" 48 m_H_init.1 (some "PieceTexts") ∈ xT := xT_in (List.mem_append_right _ (List.mem_of_getElem? (i := 271) rfl)) rfl
set_option maxRecDepth 20000 in
theorem wi_H : Cond.initialized "PieceTexts$Halves" ∈ xT := xT_in (List.mem_append_right _ (List.mem_of_getElem? (i := 12) rfl)) rfl
set_option maxRecDepth 20000 in
theorem wx_H_init : xcode m_H_init ∈ xT := xT_in (List.mem_append_right _ (List.mem_of_getElem? (i := 273) rfl)) rfl
set_option maxRecDepth 20000 in
theorem wv_H_init : Cond.instanceMethod m_H_init.1 ∈ xT := xT_in (List.mem_append_right _ (List.mem_of_getElem? (i := 272) rfl)) rfl
theorem wc_H_init : xwI m_H_init 0 := ⟨wv_H_init, rfl, ⟨_, _, rfl⟩, wi_H, wx_H_init, ⟨by decide, by decide⟩, by decide +kernel, by decide⟩
set_option maxRecDepth 20000 in
theorem wk_T_46 : Cond.classLink "PieceTexts$Trees" 46 "PieceTexts$Halves" ∈ xT := xT_in (List.mem_append_right _ (List.mem_of_getElem? (i := 269) rfl)) rfl
set_option maxRecDepth 20000 in
theorem wn_1 : Cond.instantiable "PieceTexts$Halves" 2 ∈ xT := xT_in (List.mem_append_right _ (List.mem_of_getElem? (i := 270) rfl)) rfl
set_option maxRecDepth 20000 in
theorem wm_P_99 : xml "PieceTexts" 99 m_P_become.1 none ∈ xT := xT_in (List.mem_append_right _ (List.mem_of_getElem? (i := 383) rfl)) rfl
set_option maxRecDepth 20000 in
theorem wx_P_become : xcode m_P_become ∈ xT := xT_in (List.mem_append_right _ (List.mem_of_getElem? (i := 386) rfl)) rfl
set_option maxRecDepth 20000 in
theorem wv_P_become : Cond.instanceMethod m_P_become.1 ∈ xT := xT_in (List.mem_append_right _ (List.mem_of_getElem? (i := 385) rfl)) rfl
set_option maxRecDepth 20000 in
theorem wz_P_become : Cond.selects "PieceTexts" m_P_become.1 m_P_become.1 ∈ xT := xT_in (List.mem_append_left _ (List.mem_of_getElem? (i := 15) rfl)) rfl
theorem wc_P_become : xwV m_P_become "PieceTexts" 2 := ⟨wv_P_become, wz_P_become, wi_P, wx_P_become, ⟨by decide, by decide⟩, by decide +kernel, by decide⟩
set_option maxRecDepth 20000 in
theorem wm_P_92 : xml "PieceTexts" 92 m_T_meet.1 (some "PieceTexts") ∈ xT := xT_in (List.mem_append_right _ (List.mem_of_getElem? (i := 363) rfl)) rfl
set_option maxRecDepth 20000 in
theorem wx_T_meet : xcode m_T_meet ∈ xT := xT_in (List.mem_append_right _ (List.mem_of_getElem? (i := 366) rfl)) rfl
set_option maxRecDepth 20000 in
theorem wv_T_meet : Cond.instanceMethod m_T_meet.1 ∈ xT := xT_in (List.mem_append_right _ (List.mem_of_getElem? (i := 365) rfl)) rfl
set_option maxRecDepth 20000 in
theorem wz_T_meet : Cond.selects "PieceTexts$Trees" m_T_meet.1 m_T_meet.1 ∈ xT := xT_in (List.mem_append_left _ (List.mem_of_getElem? (i := 13) rfl)) rfl
theorem wc_T_meet : xwV m_T_meet "PieceTexts$Trees" 2 := ⟨wv_T_meet, wz_T_meet, wi_T, wx_T_meet, ⟨by decide, by decide⟩, by decide +kernel, by decide⟩
set_option maxRecDepth 20000 in
theorem wf_P_96 : xfl "PieceTexts" 96 (TX_1 1) (some "PieceTexts") ∈ xT := xT_in (List.mem_append_right _ (List.mem_of_getElem? (i := 277) rfl)) rfl
set_option maxRecDepth 20000 in
theorem wf_P_86 : xfl "PieceTexts" 86 (TX_1 0) (some "PieceTexts") ∈ xT := xT_in (List.mem_append_right _ (List.mem_of_getElem? (i := 275) rfl)) rfl
set_option maxRecDepth 20000 in
theorem wf_P_22 : xfl "PieceTexts" 22 (TX_0 3) none ∈ xT := xT_in (List.mem_append_right _ (List.mem_of_getElem? (i := 40) rfl)) rfl
set_option maxRecDepth 20000 in
theorem wm_P_82 : xml "PieceTexts" 82 m_T_take.1 (some "PieceTexts") ∈ xT := xT_in (List.mem_append_right _ (List.mem_of_getElem? (i := 362) rfl)) rfl
set_option maxRecDepth 20000 in
theorem wm_P_78 : xml "PieceTexts" 78 m_T_part.1 (some "PieceTexts") ∈ xT := xT_in (List.mem_append_right _ (List.mem_of_getElem? (i := 265) rfl)) rfl
set_option maxRecDepth 20000 in
theorem wx_T_part : xcode m_T_part ∈ xT := xT_in (List.mem_append_right _ (List.mem_of_getElem? (i := 268) rfl)) rfl
set_option maxRecDepth 20000 in
theorem wv_T_part : Cond.instanceMethod m_T_part.1 ∈ xT := xT_in (List.mem_append_right _ (List.mem_of_getElem? (i := 267) rfl)) rfl
set_option maxRecDepth 20000 in
theorem wz_T_part : Cond.selects "PieceTexts$Trees" m_T_part.1 m_T_part.1 ∈ xT := xT_in (List.mem_append_left _ (List.mem_of_getElem? (i := 10) rfl)) rfl
theorem wc_T_part : xwV m_T_part "PieceTexts$Trees" 2 := ⟨wv_T_part, wz_T_part, wi_T, wx_T_part, ⟨by decide, by decide⟩, by decide +kernel, by decide⟩
set_option maxRecDepth 20000 in
theorem wm_P_75 : xml "PieceTexts" 75 m_P_demandRoom.1 none ∈ xT := xT_in (List.mem_append_right _ (List.mem_of_getElem? (i := 259) rfl)) rfl
set_option maxRecDepth 20000 in
theorem wx_P_demandRoom : xcode m_P_demandRoom ∈ xT := xT_in (List.mem_append_right _ (List.mem_of_getElem? (i := 262) rfl)) rfl
set_option maxRecDepth 20000 in
theorem wv_P_demandRoom : Cond.instanceMethod m_P_demandRoom.1 ∈ xT := xT_in (List.mem_append_right _ (List.mem_of_getElem? (i := 261) rfl)) rfl
set_option maxRecDepth 20000 in
theorem wz_P_demandRoom : Cond.selects "PieceTexts" m_P_demandRoom.1 m_P_demandRoom.1 ∈ xT := xT_in (List.mem_append_left _ (List.mem_of_getElem? (i := 9) rfl)) rfl
theorem wc_P_demandRoom : xwV m_P_demandRoom "PieceTexts" 2 := ⟨wv_P_demandRoom, wz_P_demandRoom, wi_P, wx_P_demandRoom, ⟨by decide, by decide⟩, by decide +kernel, by decide⟩
set_option maxRecDepth 20000 in
theorem wm_P_63 : xml "PieceTexts" 63 m_Y_afterPut.1 (some "PieceTexts") ∈ xT := xT_in (List.mem_append_right _ (List.mem_of_getElem? (i := 225) rfl)) rfl
set_option maxRecDepth 20000 in
theorem wx_Y_afterPut : xcode m_Y_afterPut ∈ xT := xT_in (List.mem_append_right _ (List.mem_of_getElem? (i := 227) rfl)) rfl
set_option maxRecDepth 20000 in
theorem ws_Y_afterPut : Cond.static m_Y_afterPut.1 ∈ xT := xT_in (List.mem_append_right _ (List.mem_of_getElem? (i := 226) rfl)) rfl
theorem wc_Y_afterPut : xwS m_Y_afterPut 5 := ⟨ws_Y_afterPut, wi_Y, wx_Y_afterPut, ⟨by decide, by decide⟩, by decide +kernel, by decide⟩
set_option maxRecDepth 20000 in
theorem wm_P_50 : xml "PieceTexts" 50 m_P_demandEdge.1 none ∈ xT := xT_in (List.mem_append_right _ (List.mem_of_getElem? (i := 199) rfl)) rfl
set_option maxRecDepth 20000 in
theorem wx_P_demandEdge : xcode m_P_demandEdge ∈ xT := xT_in (List.mem_append_right _ (List.mem_of_getElem? (i := 202) rfl)) rfl
set_option maxRecDepth 20000 in
theorem wv_P_demandEdge : Cond.instanceMethod m_P_demandEdge.1 ∈ xT := xT_in (List.mem_append_right _ (List.mem_of_getElem? (i := 201) rfl)) rfl
set_option maxRecDepth 20000 in
theorem wz_P_demandEdge : Cond.selects "PieceTexts" m_P_demandEdge.1 m_P_demandEdge.1 ∈ xT := xT_in (List.mem_append_left _ (List.mem_of_getElem? (i := 7) rfl)) rfl
theorem wc_P_demandEdge : xwV m_P_demandEdge "PieceTexts" 2 := ⟨wv_P_demandEdge, wz_P_demandEdge, wi_P, wx_P_demandEdge, ⟨by decide, by decide⟩, by decide +kernel, by decide⟩
set_option maxRecDepth 20000 in
theorem wt_P_56 : Cond.stringRef "PieceTexts" 56 "no such bytes" ∈ xT := xT_in (List.mem_append_right _ (List.mem_of_getElem? (i := 224) rfl)) rfl
set_option maxRecDepth 20000 in
theorem wt_P_220 : Cond.stringRef "PieceTexts" 220 "not another text without characters" ∈ xT := xT_in (List.mem_append_right _ (List.mem_of_getElem? (i := 403) rfl)) rfl
set_option maxRecDepth 20000 in
theorem wt_P_218 : Cond.stringRef "PieceTexts" 218 "no such range" ∈ xT := xT_in (List.mem_append_right _ (List.mem_of_getElem? (i := 398) rfl)) rfl
set_option maxRecDepth 20000 in
theorem wm_P_118 : xml "PieceTexts" 118 m_Y_within.1 (some "PieceTexts") ∈ xT := xT_in (List.mem_append_right _ (List.mem_of_getElem? (i := 407) rfl)) rfl
set_option maxRecDepth 20000 in
theorem wx_Y_within : xcode m_Y_within ∈ xT := xT_in (List.mem_append_right _ (List.mem_of_getElem? (i := 409) rfl)) rfl
set_option maxRecDepth 20000 in
theorem ws_Y_within : Cond.static m_Y_within.1 ∈ xT := xT_in (List.mem_append_right _ (List.mem_of_getElem? (i := 408) rfl)) rfl
theorem wc_Y_within : xwS m_Y_within 3 := ⟨ws_Y_within, wi_Y, wx_Y_within, ⟨by decide, by decide⟩, by decide +kernel, by decide⟩
set_option maxRecDepth 20000 in
theorem wm_P_114 : xml "PieceTexts" 114 m_Y_afterCut.1 (some "PieceTexts") ∈ xT := xT_in (List.mem_append_right _ (List.mem_of_getElem? (i := 404) rfl)) rfl
set_option maxRecDepth 20000 in
theorem wx_Y_afterCut : xcode m_Y_afterCut ∈ xT := xT_in (List.mem_append_right _ (List.mem_of_getElem? (i := 406) rfl)) rfl
set_option maxRecDepth 20000 in
theorem ws_Y_afterCut : Cond.static m_Y_afterCut.1 ∈ xT := xT_in (List.mem_append_right _ (List.mem_of_getElem? (i := 405) rfl)) rfl
theorem wc_Y_afterCut : xwS m_Y_afterCut 3 := ⟨ws_Y_afterCut, wi_Y, wx_Y_afterCut, ⟨by decide, by decide⟩, by decide +kernel, by decide⟩
set_option maxRecDepth 20000 in
theorem wm_P_111 : xml "PieceTexts" 111 m_P_demandFree.1 none ∈ xT := xT_in (List.mem_append_right _ (List.mem_of_getElem? (i := 399) rfl)) rfl
set_option maxRecDepth 20000 in
theorem wx_P_demandFree : xcode m_P_demandFree ∈ xT := xT_in (List.mem_append_right _ (List.mem_of_getElem? (i := 402) rfl)) rfl
set_option maxRecDepth 20000 in
theorem wv_P_demandFree : Cond.instanceMethod m_P_demandFree.1 ∈ xT := xT_in (List.mem_append_right _ (List.mem_of_getElem? (i := 401) rfl)) rfl
set_option maxRecDepth 20000 in
theorem wz_P_demandFree : Cond.selects "PieceTexts" m_P_demandFree.1 m_P_demandFree.1 ∈ xT := xT_in (List.mem_append_left _ (List.mem_of_getElem? (i := 17) rfl)) rfl
theorem wc_P_demandFree : xwV m_P_demandFree "PieceTexts" 2 := ⟨wv_P_demandFree, wz_P_demandFree, wi_P, wx_P_demandFree, ⟨by decide, by decide⟩, by decide +kernel, by decide⟩
set_option maxRecDepth 20000 in
theorem wm_P_103 : xml "PieceTexts" 103 m_P_demandRange.1 none ∈ xT := xT_in (List.mem_append_right _ (List.mem_of_getElem? (i := 394) rfl)) rfl
set_option maxRecDepth 20000 in
theorem wx_P_demandRange : xcode m_P_demandRange ∈ xT := xT_in (List.mem_append_right _ (List.mem_of_getElem? (i := 397) rfl)) rfl
set_option maxRecDepth 20000 in
theorem wv_P_demandRange : Cond.instanceMethod m_P_demandRange.1 ∈ xT := xT_in (List.mem_append_right _ (List.mem_of_getElem? (i := 396) rfl)) rfl
set_option maxRecDepth 20000 in
theorem wz_P_demandRange : Cond.selects "PieceTexts" m_P_demandRange.1 m_P_demandRange.1 ∈ xT := xT_in (List.mem_append_left _ (List.mem_of_getElem? (i := 16) rfl)) rfl
theorem wc_P_demandRange : xwV m_P_demandRange "PieceTexts" 3 := ⟨wv_P_demandRange, wz_P_demandRange, wi_P, wx_P_demandRange, ⟨by decide, by decide⟩, by decide +kernel, by decide⟩
set_option maxRecDepth 20000 in
theorem wm_P_123 : xml "PieceTexts" 123 m_Y_afterPaste.1 (some "PieceTexts") ∈ xT := xT_in (List.mem_append_right _ (List.mem_of_getElem? (i := 418) rfl)) rfl
set_option maxRecDepth 20000 in
theorem wx_Y_afterPaste : xcode m_Y_afterPaste ∈ xT := xT_in (List.mem_append_right _ (List.mem_of_getElem? (i := 420) rfl)) rfl
set_option maxRecDepth 20000 in
theorem ws_Y_afterPaste : Cond.static m_Y_afterPaste.1 ∈ xT := xT_in (List.mem_append_right _ (List.mem_of_getElem? (i := 419) rfl)) rfl
theorem wc_Y_afterPaste : xwS m_Y_afterPaste 3 := ⟨ws_Y_afterPaste, wi_Y, wx_Y_afterPaste, ⟨by decide, by decide⟩, by decide +kernel, by decide⟩
set_option maxRecDepth 20000 in
theorem wt_P_121 : Cond.stringRef "PieceTexts" 121 "a text can't be pasted into itself" ∈ xT := xT_in (List.mem_append_right _ (List.mem_of_getElem? (i := 417) rfl)) rfl
set_option maxRecDepth 20000 in
theorem wh_T_82 : Cond.methodLink "PieceTexts$Trees" 82 Lib.Math.min.name ∈ xT := xT_in (List.mem_append_right _ (List.mem_of_getElem? (i := 432) rfl)) rfl
set_option maxRecDepth 20000 in
theorem whs_min : Cond.static Lib.Math.min.name ∈ xT := xT_in (List.mem_append_right _ (List.mem_of_getElem? (i := 433) rfl)) rfl
set_option maxRecDepth 20000 in
theorem whc_min : Cond.code Lib.Math.min.name Lib.Math.min.code 2 (some .int) ∈ xT := xT_in (List.mem_append_right _ (List.mem_of_getElem? (i := 434) rfl)) rfl
set_option maxRecDepth 20000 in
theorem wm_T_88 : xml "PieceTexts$Trees" 88 m_T_twin.1 none ∈ xT := xT_in (List.mem_append_right _ (List.mem_of_getElem? (i := 435) rfl)) rfl
set_option maxRecDepth 20000 in
theorem wx_T_twin : xcode m_T_twin ∈ xT := xT_in (List.mem_append_right _ (List.mem_of_getElem? (i := 431) rfl)) rfl
set_option maxRecDepth 20000 in
theorem wv_T_twin : Cond.instanceMethod m_T_twin.1 ∈ xT := xT_in (List.mem_append_right _ (List.mem_of_getElem? (i := 430) rfl)) rfl
set_option maxRecDepth 20000 in
theorem wz_T_twin : Cond.selects "PieceTexts$Trees" m_T_twin.1 m_T_twin.1 ∈ xT := xT_in (List.mem_append_left _ (List.mem_of_getElem? (i := 18) rfl)) rfl
theorem wc_T_twin : xwV m_T_twin "PieceTexts$Trees" 4 := ⟨wv_T_twin, wz_T_twin, wi_T, wx_T_twin, ⟨by decide, by decide⟩, by decide +kernel, by decide⟩
set_option maxRecDepth 20000 in
theorem wm_P_127 : xml "PieceTexts" 127 m_T_twin.1 (some "PieceTexts") ∈ xT := xT_in (List.mem_append_right _ (List.mem_of_getElem? (i := 428) rfl)) rfl
set_option maxRecDepth 20000 in
theorem wm_Y_49 : xml "PieceTexts$Tally" 49 m_R_numbered.1 (some "PieceTexts") ∈ xT := xT_in (List.mem_append_right _ (List.mem_of_getElem? (i := 452) rfl)) rfl
set_option maxRecDepth 20000 in
theorem wm_Y_38 : xml "PieceTexts$Tally" 38 m_Y_tagged.1 none ∈ xT := xT_in (List.mem_append_right _ (List.mem_of_getElem? (i := 446) rfl)) rfl
set_option maxRecDepth 20000 in
theorem wx_Y_tagged : xcode m_Y_tagged ∈ xT := xT_in (List.mem_append_right _ (List.mem_of_getElem? (i := 448) rfl)) rfl
set_option maxRecDepth 20000 in
theorem ws_Y_tagged : Cond.static m_Y_tagged.1 ∈ xT := xT_in (List.mem_append_right _ (List.mem_of_getElem? (i := 447) rfl)) rfl
theorem wc_Y_tagged : xwS m_Y_tagged 3 := ⟨ws_Y_tagged, wi_Y, wx_Y_tagged, ⟨by decide, by decide⟩, by decide +kernel, by decide⟩
set_option maxRecDepth 20000 in
theorem wf_Y_62 : xfl "PieceTexts$Tally" 62 (TX_2 2) (some "PieceTexts") ∈ xT := xT_in (List.mem_append_right _ (List.mem_of_getElem? (i := 329) rfl)) rfl
set_option maxRecDepth 20000 in
theorem wf_Y_53 : xfl "PieceTexts$Tally" 53 (TX_2 0) (some "PieceTexts") ∈ xT := xT_in (List.mem_append_right _ (List.mem_of_getElem? (i := 320) rfl)) rfl
set_option maxRecDepth 20000 in
theorem wf_Y_59 : xfl "PieceTexts$Tally" 59 (TX_2 1) (some "PieceTexts") ∈ xT := xT_in (List.mem_append_right _ (List.mem_of_getElem? (i := 326) rfl)) rfl
set_option maxRecDepth 20000 in
theorem wm_Y_42 : xml "PieceTexts$Tally" 42 m_Y_withinTagged.1 none ∈ xT := xT_in (List.mem_append_right _ (List.mem_of_getElem? (i := 449) rfl)) rfl
set_option maxRecDepth 20000 in
theorem wx_Y_withinTagged : xcode m_Y_withinTagged ∈ xT := xT_in (List.mem_append_right _ (List.mem_of_getElem? (i := 451) rfl)) rfl
set_option maxRecDepth 20000 in
theorem ws_Y_withinTagged : Cond.static m_Y_withinTagged.1 ∈ xT := xT_in (List.mem_append_right _ (List.mem_of_getElem? (i := 450) rfl)) rfl
theorem wc_Y_withinTagged : xwS m_Y_withinTagged 5 := ⟨ws_Y_withinTagged, wi_Y, wx_Y_withinTagged, ⟨by decide, by decide⟩, by decide +kernel, by decide⟩
set_option maxRecDepth 20000 in
theorem wm_T_104 : xml "PieceTexts$Trees" 104 m_T_meet.1 none ∈ xT := xT_in (List.mem_append_right _ (List.mem_of_getElem? (i := 459) rfl)) rfl
set_option maxRecDepth 20000 in
theorem wm_T_98 : xml "PieceTexts$Trees" 98 m_Y_tagged.1 (some "PieceTexts") ∈ xT := xT_in (List.mem_append_right _ (List.mem_of_getElem? (i := 458) rfl)) rfl
set_option maxRecDepth 20000 in
theorem wm_T_95 : xml "PieceTexts$Trees" 95 m_T_retag.1 none ∈ xT := xT_in (List.mem_append_right _ (List.mem_of_getElem? (i := 457) rfl)) rfl
set_option maxRecDepth 20000 in
theorem wx_T_retag : xcode m_T_retag ∈ xT := xT_in (List.mem_append_right _ (List.mem_of_getElem? (i := 456) rfl)) rfl
set_option maxRecDepth 20000 in
theorem wv_T_retag : Cond.instanceMethod m_T_retag.1 ∈ xT := xT_in (List.mem_append_right _ (List.mem_of_getElem? (i := 455) rfl)) rfl
set_option maxRecDepth 20000 in
theorem wz_T_retag : Cond.selects "PieceTexts$Trees" m_T_retag.1 m_T_retag.1 ∈ xT := xT_in (List.mem_append_left _ (List.mem_of_getElem? (i := 19) rfl)) rfl
theorem wc_T_retag : xwV m_T_retag "PieceTexts$Trees" 4 := ⟨wv_T_retag, wz_T_retag, wi_T, wx_T_retag, ⟨by decide, by decide⟩, by decide +kernel, by decide⟩
set_option maxRecDepth 20000 in
theorem wm_P_134 : xml "PieceTexts" 134 m_T_retag.1 (some "PieceTexts") ∈ xT := xT_in (List.mem_append_right _ (List.mem_of_getElem? (i := 453) rfl)) rfl
set_option maxRecDepth 20000 in
theorem wm_P_131 : xml "PieceTexts" 131 m_Y_afterTag.1 (some "PieceTexts") ∈ xT := xT_in (List.mem_append_right _ (List.mem_of_getElem? (i := 443) rfl)) rfl
set_option maxRecDepth 20000 in
theorem wx_Y_afterTag : xcode m_Y_afterTag ∈ xT := xT_in (List.mem_append_right _ (List.mem_of_getElem? (i := 445) rfl)) rfl
set_option maxRecDepth 20000 in
theorem ws_Y_afterTag : Cond.static m_Y_afterTag.1 ∈ xT := xT_in (List.mem_append_right _ (List.mem_of_getElem? (i := 444) rfl)) rfl
theorem wc_Y_afterTag : xwS m_Y_afterTag 5 := ⟨ws_Y_afterTag, wi_Y, wx_Y_afterTag, ⟨by decide, by decide⟩, by decide +kernel, by decide⟩
set_option maxRecDepth 20000 in
theorem wm_T_38 : xml "PieceTexts$Trees" 38 m_T_giveBackAll.1 none ∈ xT := xT_in (List.mem_append_right _ (List.mem_of_getElem? (i := 471) rfl)) rfl
set_option maxRecDepth 20000 in
theorem wx_T_giveBackAll : xcode m_T_giveBackAll ∈ xT := xT_in (List.mem_append_right _ (List.mem_of_getElem? (i := 470) rfl)) rfl
set_option maxRecDepth 20000 in
theorem wv_T_giveBackAll : Cond.instanceMethod m_T_giveBackAll.1 ∈ xT := xT_in (List.mem_append_right _ (List.mem_of_getElem? (i := 469) rfl)) rfl
set_option maxRecDepth 20000 in
theorem wz_T_giveBackAll : Cond.selects "PieceTexts$Trees" m_T_giveBackAll.1 m_T_giveBackAll.1 ∈ xT := xT_in (List.mem_append_left _ (List.mem_of_getElem? (i := 20) rfl)) rfl
theorem wc_T_giveBackAll : xwV m_T_giveBackAll "PieceTexts$Trees" 2 := ⟨wv_T_giveBackAll, wz_T_giveBackAll, wi_T, wx_T_giveBackAll, ⟨by decide, by decide⟩, by decide +kernel, by decide⟩
set_option maxRecDepth 20000 in
theorem wm_P_140 : xml "PieceTexts" 140 m_T_giveBackAll.1 (some "PieceTexts") ∈ xT := xT_in (List.mem_append_right _ (List.mem_of_getElem? (i := 467) rfl)) rfl
set_option maxRecDepth 20000 in
theorem wm_P_154 : xml "PieceTexts" 154 m_P_byteAt.1 none ∈ xT := xT_in (List.mem_append_right _ (List.mem_of_getElem? (i := 480) rfl)) rfl
set_option maxRecDepth 20000 in
theorem wx_P_byteAt : xcode m_P_byteAt ∈ xT := xT_in (List.mem_append_right _ (List.mem_of_getElem? (i := 483) rfl)) rfl
set_option maxRecDepth 20000 in
theorem wv_P_byteAt : Cond.instanceMethod m_P_byteAt.1 ∈ xT := xT_in (List.mem_append_right _ (List.mem_of_getElem? (i := 482) rfl)) rfl
set_option maxRecDepth 20000 in
theorem wz_P_byteAt : Cond.selects "PieceTexts" m_P_byteAt.1 m_P_byteAt.1 ∈ xT := xT_in (List.mem_append_left _ (List.mem_of_getElem? (i := 21) rfl)) rfl
theorem wc_P_byteAt : xwV m_P_byteAt "PieceTexts" 1 := ⟨wv_P_byteAt, wz_P_byteAt, wi_P, wx_P_byteAt, ⟨by decide, by decide⟩, by decide +kernel, by decide⟩
set_option maxRecDepth 20000 in
theorem wm_P_150 : xml "PieceTexts" 150 m_R_sourceAt.1 (some "PieceTexts") ∈ xT := xT_in (List.mem_append_right _ (List.mem_of_getElem? (i := 479) rfl)) rfl
set_option maxRecDepth 20000 in
theorem wm_P_158 : xml "PieceTexts" 158 m_R_tagAt.1 (some "PieceTexts") ∈ xT := xT_in (List.mem_append_right _ (List.mem_of_getElem? (i := 484) rfl)) rfl
set_option maxRecDepth 20000 in
theorem wm_P_161 : xml "PieceTexts" 161 m_R_orderAt.1 (some "PieceTexts") ∈ xT := xT_in (List.mem_append_right _ (List.mem_of_getElem? (i := 485) rfl)) rfl
set_option maxRecDepth 20000 in
theorem wt_P_164 : Cond.stringRef "PieceTexts" 164 "no such property of a character" ∈ xT := xT_in (List.mem_append_right _ (List.mem_of_getElem? (i := 486) rfl)) rfl
set_option maxRecDepth 20000 in
theorem wt_P_170 : Cond.stringRef "PieceTexts" 170 "no such piece" ∈ xT := xT_in (List.mem_append_right _ (List.mem_of_getElem? (i := 495) rfl)) rfl
set_option maxRecDepth 20000 in
theorem wm_P_172 : xml "PieceTexts" 172 m_R_startOf.1 (some "PieceTexts") ∈ xT := xT_in (List.mem_append_right _ (List.mem_of_getElem? (i := 496) rfl)) rfl
set_option maxRecDepth 20000 in
theorem wf_P_175 : xfl "PieceTexts" 175 (TX_2 0) (some "PieceTexts") ∈ xT := xT_in (List.mem_append_right _ (List.mem_of_getElem? (i := 322) rfl)) rfl
set_option maxRecDepth 20000 in
theorem wf_P_178 : xfl "PieceTexts" 178 (TX_2 1) (some "PieceTexts") ∈ xT := xT_in (List.mem_append_right _ (List.mem_of_getElem? (i := 327) rfl)) rfl
set_option maxRecDepth 20000 in
theorem wf_P_181 : xfl "PieceTexts" 181 (TX_2 2) (some "PieceTexts") ∈ xT := xT_in (List.mem_append_right _ (List.mem_of_getElem? (i := 331) rfl)) rfl
set_option maxRecDepth 20000 in
theorem wt_P_184 : Cond.stringRef "PieceTexts" 184 "no such property of a piece" ∈ xT := xT_in (List.mem_append_right _ (List.mem_of_getElem? (i := 497) rfl)) rfl
set_option maxRecDepth 20000 in
theorem wm_P_166 : xml "PieceTexts" 166 m_R_numbered.1 (some "PieceTexts") ∈ xT := xT_in (List.mem_append_right _ (List.mem_of_getElem? (i := 494) rfl)) rfl
set_option maxRecDepth 20000 in
theorem wf_D_33 : xfl "PieceTexts$Reader" 33 (TX_3 3) none ∈ xT := xT_in (List.mem_append_right _ (List.mem_of_getElem? (i := 517) rfl)) rfl
set_option maxRecDepth 20000 in
theorem wm_D_30 : xml "PieceTexts$Reader" 30 m_R_startOf.1 (some "PieceTexts") ∈ xT := xT_in (List.mem_append_right _ (List.mem_of_getElem? (i := 513) rfl)) rfl
set_option maxRecDepth 20000 in
theorem wf_D_19 : xfl "PieceTexts$Reader" 19 (TX_3 1) none ∈ xT := xT_in (List.mem_append_right _ (List.mem_of_getElem? (i := 515) rfl)) rfl
set_option maxRecDepth 20000 in
theorem wf_D_27 : xfl "PieceTexts$Reader" 27 (TX_3 2) none ∈ xT := xT_in (List.mem_append_right _ (List.mem_of_getElem? (i := 516) rfl)) rfl
set_option maxRecDepth 20000 in
theorem wm_D_23 : xml "PieceTexts$Reader" 23 m_R_numbered.1 (some "PieceTexts") ∈ xT := xT_in (List.mem_append_right _ (List.mem_of_getElem? (i := 512) rfl)) rfl
set_option maxRecDepth 20000 in
theorem wm_D_13 : xml "PieceTexts$Reader" 13 m_R_orderAt.1 (some "PieceTexts") ∈ xT := xT_in (List.mem_append_right _ (List.mem_of_getElem? (i := 511) rfl)) rfl
set_option maxRecDepth 20000 in
theorem wf_D_7p : Cond.fieldLink "PieceTexts$Reader" 7 (TX_3 0).1 (TX_3 0).2.1 (TX_3 0).2.2.1 ∈ xT := xT_in (List.mem_append_right _ (List.mem_of_getElem? (i := 514) rfl)) rfl
set_option maxRecDepth 20000 in
theorem wO_D_1 : Cond.methodLink "PieceTexts$Reader" 1 objectInit ∈ xT := xT_in (List.mem_append_right _ (List.mem_of_getElem? (i := 510) rfl)) rfl
set_option maxRecDepth 20000 in
theorem wf_D_7 : xfl "PieceTexts$Reader" 7 (TX_3 0) none ∈ xT := xT_in (List.mem_append_right _ (List.mem_of_getElem? (i := 514) rfl)) rfl
set_option maxRecDepth 20000 in
theorem wf_D_41 : xfl "PieceTexts$Reader" 41 (TX_2 1) (some "PieceTexts") ∈ xT := xT_in (List.mem_append_right _ (List.mem_of_getElem? (i := 323) rfl)) rfl
set_option maxRecDepth 20000 in
theorem wf_D_36 : xfl "PieceTexts$Reader" 36 (TX_2 0) (some "PieceTexts") ∈ xT := xT_in (List.mem_append_right _ (List.mem_of_getElem? (i := 318) rfl)) rfl
set_option maxRecDepth 20000 in
theorem wm_P_188 : xml "PieceTexts" 188 m_D_init.1 (some "PieceTexts") ∈ xT := xT_in (List.mem_append_right _ (List.mem_of_getElem? (i := 507) rfl)) rfl
set_option maxRecDepth 20000 in
theorem wi_D : Cond.initialized "PieceTexts$Reader" ∈ xT := xT_in (List.mem_append_right _ (List.mem_of_getElem? (i := 15) rfl)) rfl
set_option maxRecDepth 20000 in
theorem wx_D_init : xcode m_D_init ∈ xT := xT_in (List.mem_append_right _ (List.mem_of_getElem? (i := 509) rfl)) rfl
set_option maxRecDepth 20000 in
theorem wv_D_init : Cond.instanceMethod m_D_init.1 ∈ xT := xT_in (List.mem_append_right _ (List.mem_of_getElem? (i := 508) rfl)) rfl
theorem wc_D_init : xwI m_D_init 2 := ⟨wv_D_init, rfl, ⟨_, _, rfl⟩, wi_D, wx_D_init, ⟨by decide, by decide⟩, by decide +kernel, by decide⟩
set_option maxRecDepth 20000 in
theorem wk_P_186 : Cond.classLink "PieceTexts" 186 "PieceTexts$Reader" ∈ xT := xT_in (List.mem_append_right _ (List.mem_of_getElem? (i := 505) rfl)) rfl
set_option maxRecDepth 20000 in
theorem wn_3 : Cond.instantiable "PieceTexts$Reader" 4 ∈ xT := xT_in (List.mem_append_right _ (List.mem_of_getElem? (i := 506) rfl)) rfl
set_option maxRecDepth 20000 in
theorem wm_P_190 : xml "PieceTexts" 190 m_D_nextSource.1 (some "PieceTexts") ∈ xT := xT_in (List.mem_append_right _ (List.mem_of_getElem? (i := 527) rfl)) rfl
set_option maxRecDepth 20000 in
theorem wx_D_nextSource : xcode m_D_nextSource ∈ xT := xT_in (List.mem_append_right _ (List.mem_of_getElem? (i := 530) rfl)) rfl
set_option maxRecDepth 20000 in
theorem wv_D_nextSource : Cond.instanceMethod m_D_nextSource.1 ∈ xT := xT_in (List.mem_append_right _ (List.mem_of_getElem? (i := 529) rfl)) rfl
set_option maxRecDepth 20000 in
theorem wz_D_nextSource : Cond.selects "PieceTexts$Reader" m_D_nextSource.1 m_D_nextSource.1 ∈ xT := xT_in (List.mem_append_left _ (List.mem_of_getElem? (i := 22) rfl)) rfl
theorem wc_D_nextSource : xwV m_D_nextSource "PieceTexts$Reader" 0 := ⟨wv_D_nextSource, wz_D_nextSource, wi_D, wx_D_nextSource, ⟨by decide, by decide⟩, by decide +kernel, by decide⟩
set_option maxRecDepth 20000 in
theorem wh_P_194 : Cond.methodLink "PieceTexts" 194 Lib.Math.max.name ∈ xT := xT_in (List.mem_append_right _ (List.mem_of_getElem? (i := 538) rfl)) rfl
set_option maxRecDepth 20000 in
theorem wm_R_57 : xml "PieceTexts$Row" 57 m_R_heightOf.1 none ∈ xT := xT_in (List.mem_append_right _ (List.mem_of_getElem? (i := 87) rfl)) rfl
set_option maxRecDepth 20000 in
theorem wm_P_212 : xml "PieceTexts" 212 m_R_isShallow.1 (some "PieceTexts") ∈ xT := xT_in (List.mem_append_right _ (List.mem_of_getElem? (i := 84) rfl)) rfl
set_option maxRecDepth 20000 in
theorem wx_R_isShallow : xcode m_R_isShallow ∈ xT := xT_in (List.mem_append_right _ (List.mem_of_getElem? (i := 86) rfl)) rfl
set_option maxRecDepth 20000 in
theorem ws_R_isShallow : Cond.static m_R_isShallow.1 ∈ xT := xT_in (List.mem_append_right _ (List.mem_of_getElem? (i := 85) rfl)) rfl
theorem wc_R_isShallow : xwS m_R_isShallow 1 := ⟨ws_R_isShallow, wi_R, wx_R_isShallow, ⟨by decide, by decide⟩, by decide +kernel, by decide⟩
set_option maxRecDepth 20000 in
theorem wm_P_206 : xml "PieceTexts" 206 m_P_allShallow.1 none ∈ xT := xT_in (List.mem_append_right _ (List.mem_of_getElem? (i := 80) rfl)) rfl
set_option maxRecDepth 20000 in
theorem wx_P_allShallow : xcode m_P_allShallow ∈ xT := xT_in (List.mem_append_right _ (List.mem_of_getElem? (i := 83) rfl)) rfl
set_option maxRecDepth 20000 in
theorem wv_P_allShallow : Cond.instanceMethod m_P_allShallow.1 ∈ xT := xT_in (List.mem_append_right _ (List.mem_of_getElem? (i := 82) rfl)) rfl
set_option maxRecDepth 20000 in
theorem wz_P_allShallow : Cond.selects "PieceTexts" m_P_allShallow.1 m_P_allShallow.1 ∈ xT := xT_in (List.mem_append_left _ (List.mem_of_getElem? (i := 4) rfl)) rfl
theorem wc_P_allShallow : xwV m_P_allShallow "PieceTexts" 0 := ⟨wv_P_allShallow, wz_P_allShallow, wi_P, wx_P_allShallow, ⟨by decide, by decide⟩, by decide +kernel, by decide⟩
set_option maxRecDepth 20000 in
theorem wf_M_25p : Cond.fieldLink "PieceTextsModel" 25 (TX_5 7).1 (TX_5 7).2.1 (TX_5 7).2.2.1 ∈ xT := xT_in (List.mem_append_right _ (List.mem_of_getElem? (i := 552) rfl)) rfl
set_option maxRecDepth 20000 in
theorem wa_3 : Cond.arrayClass .int ∈ xT := xT_in (List.mem_append_right _ (List.mem_of_getElem? (i := 570) rfl)) rfl
set_option maxRecDepth 20000 in
theorem wf_M_22p : Cond.fieldLink "PieceTextsModel" 22 (TX_5 6).1 (TX_5 6).2.1 (TX_5 6).2.2.1 ∈ xT := xT_in (List.mem_append_right _ (List.mem_of_getElem? (i := 551) rfl)) rfl
set_option maxRecDepth 20000 in
theorem wf_M_19p : Cond.fieldLink "PieceTextsModel" 19 (TX_5 5).1 (TX_5 5).2.1 (TX_5 5).2.2.1 ∈ xT := xT_in (List.mem_append_right _ (List.mem_of_getElem? (i := 550) rfl)) rfl
set_option maxRecDepth 20000 in
theorem wf_M_16p : Cond.fieldLink "PieceTextsModel" 16 (TX_5 4).1 (TX_5 4).2.1 (TX_5 4).2.2.1 ∈ xT := xT_in (List.mem_append_right _ (List.mem_of_getElem? (i := 549) rfl)) rfl
set_option maxRecDepth 20000 in
theorem wf_M_13p : Cond.fieldLink "PieceTextsModel" 13 (TX_5 3).1 (TX_5 3).2.1 (TX_5 3).2.2.1 ∈ xT := xT_in (List.mem_append_right _ (List.mem_of_getElem? (i := 548) rfl)) rfl
set_option maxRecDepth 20000 in
theorem wf_M_7p : Cond.fieldLink "PieceTextsModel" 7 (TX_5 2).1 (TX_5 2).2.1 (TX_5 2).2.2.1 ∈ xT := xT_in (List.mem_append_right _ (List.mem_of_getElem? (i := 547) rfl)) rfl
set_option maxRecDepth 20000 in
theorem wO_M_1 : Cond.methodLink "PieceTextsModel" 1 objectInit ∈ xT := xT_in (List.mem_append_right _ (List.mem_of_getElem? (i := 544) rfl)) rfl
set_option maxRecDepth 20000 in
theorem wf_M_28 : xfl "PieceTextsModel" 28 (TX_5 0) none ∈ xT := xT_in (List.mem_append_right _ (List.mem_of_getElem? (i := 545) rfl)) rfl
set_option maxRecDepth 20000 in
theorem wf_M_13 : xfl "PieceTextsModel" 13 (TX_5 3) none ∈ xT := xT_in (List.mem_append_right _ (List.mem_of_getElem? (i := 548) rfl)) rfl
set_option maxRecDepth 20000 in
theorem wm_M_36 : xml "PieceTextsModel" 36 m_M_size.1 none ∈ xT := xT_in (List.mem_append_right _ (List.mem_of_getElem? (i := 595) rfl)) rfl
set_option maxRecDepth 20000 in
theorem wi_M : Cond.initialized "PieceTextsModel" ∈ xT := xT_in (List.mem_append_right _ (List.mem_of_getElem? (i := 3) rfl)) rfl
set_option maxRecDepth 20000 in
theorem wx_M_size : xcode m_M_size ∈ xT := xT_in (List.mem_append_right _ (List.mem_of_getElem? (i := 598) rfl)) rfl
set_option maxRecDepth 20000 in
theorem wv_M_size : Cond.instanceMethod m_M_size.1 ∈ xT := xT_in (List.mem_append_right _ (List.mem_of_getElem? (i := 597) rfl)) rfl
set_option maxRecDepth 20000 in
theorem wz_M_size : Cond.selects "PieceTextsModel" m_M_size.1 m_M_size.1 ∈ xT := xT_in (List.mem_append_left _ (List.mem_of_getElem? (i := 25) rfl)) rfl
theorem wc_M_size : xwV m_M_size "PieceTextsModel" 1 := ⟨wv_M_size, wz_M_size, wi_M, wx_M_size, ⟨by decide, by decide⟩, by decide +kernel, by decide⟩
set_option maxRecDepth 20000 in
theorem wm_M_32 : xml "PieceTextsModel" 32 m_M_isText.1 none ∈ xT := xT_in (List.mem_append_right _ (List.mem_of_getElem? (i := 592) rfl)) rfl
set_option maxRecDepth 20000 in
theorem wx_M_isText : xcode m_M_isText ∈ xT := xT_in (List.mem_append_right _ (List.mem_of_getElem? (i := 594) rfl)) rfl
set_option maxRecDepth 20000 in
theorem ws_M_isText : Cond.static m_M_isText.1 ∈ xT := xT_in (List.mem_append_right _ (List.mem_of_getElem? (i := 593) rfl)) rfl
theorem wc_M_isText : xwS m_M_isText 1 := ⟨ws_M_isText, wi_M, wx_M_isText, ⟨by decide, by decide⟩, by decide +kernel, by decide⟩
set_option maxRecDepth 20000 in
theorem wm_M_40 : xml "PieceTextsModel" 40 m_M_isPlace.1 none ∈ xT := xT_in (List.mem_append_right _ (List.mem_of_getElem? (i := 588) rfl)) rfl
set_option maxRecDepth 20000 in
theorem wx_M_isPlace : xcode m_M_isPlace ∈ xT := xT_in (List.mem_append_right _ (List.mem_of_getElem? (i := 591) rfl)) rfl
set_option maxRecDepth 20000 in
theorem wv_M_isPlace : Cond.instanceMethod m_M_isPlace.1 ∈ xT := xT_in (List.mem_append_right _ (List.mem_of_getElem? (i := 590) rfl)) rfl
set_option maxRecDepth 20000 in
theorem wz_M_isPlace : Cond.selects "PieceTextsModel" m_M_isPlace.1 m_M_isPlace.1 ∈ xT := xT_in (List.mem_append_left _ (List.mem_of_getElem? (i := 24) rfl)) rfl
theorem wc_M_isPlace : xwV m_M_isPlace "PieceTextsModel" 2 := ⟨wv_M_isPlace, wz_M_isPlace, wi_M, wx_M_isPlace, ⟨by decide, by decide⟩, by decide +kernel, by decide⟩
set_option maxRecDepth 20000 in
theorem wl_M_44 : Cond.constantLong "PieceTextsModel" 44 255 ∈ xT := xT_in (List.mem_append_right _ (List.mem_of_getElem? (i := 579) rfl)) rfl
set_option maxRecDepth 20000 in
theorem wm_M_49 : xml "PieceTextsModel" 49 m_M_raise.1 none ∈ xT := xT_in (List.mem_append_right _ (List.mem_of_getElem? (i := 580) rfl)) rfl
set_option maxRecDepth 20000 in
theorem wx_M_raise : xcode m_M_raise ∈ xT := xT_in (List.mem_append_right _ (List.mem_of_getElem? (i := 583) rfl)) rfl
set_option maxRecDepth 20000 in
theorem wv_M_raise : Cond.instanceMethod m_M_raise.1 ∈ xT := xT_in (List.mem_append_right _ (List.mem_of_getElem? (i := 582) rfl)) rfl
set_option maxRecDepth 20000 in
theorem wz_M_raise : Cond.selects "PieceTextsModel" m_M_raise.1 m_M_raise.1 ∈ xT := xT_in (List.mem_append_left _ (List.mem_of_getElem? (i := 23) rfl)) rfl
theorem wc_M_raise : xwV m_M_raise "PieceTextsModel" 1 := ⟨wv_M_raise, wz_M_raise, wi_M, wx_M_raise, ⟨by decide, by decide⟩, by decide +kernel, by decide⟩
set_option maxRecDepth 20000 in
theorem wf_M_46 : xfl "PieceTextsModel" 46 (TX_5 1) none ∈ xT := xT_in (List.mem_append_right _ (List.mem_of_getElem? (i := 546) rfl)) rfl
set_option maxRecDepth 20000 in
theorem wf_M_7 : xfl "PieceTextsModel" 7 (TX_5 2) none ∈ xT := xT_in (List.mem_append_right _ (List.mem_of_getElem? (i := 547) rfl)) rfl
set_option maxRecDepth 20000 in
theorem wf_M_19 : xfl "PieceTextsModel" 19 (TX_5 5) none ∈ xT := xT_in (List.mem_append_right _ (List.mem_of_getElem? (i := 550) rfl)) rfl
set_option maxRecDepth 20000 in
theorem wf_M_25 : xfl "PieceTextsModel" 25 (TX_5 7) none ∈ xT := xT_in (List.mem_append_right _ (List.mem_of_getElem? (i := 552) rfl)) rfl
set_option maxRecDepth 20000 in
theorem wf_M_16 : xfl "PieceTextsModel" 16 (TX_5 4) none ∈ xT := xT_in (List.mem_append_right _ (List.mem_of_getElem? (i := 549) rfl)) rfl
set_option maxRecDepth 20000 in
theorem wf_M_22 : xfl "PieceTextsModel" 22 (TX_5 6) none ∈ xT := xT_in (List.mem_append_right _ (List.mem_of_getElem? (i := 551) rfl)) rfl
set_option maxRecDepth 20000 in
theorem wm_M_52 : xml "PieceTextsModel" 52 m_M_parts.1 none ∈ xT := xT_in (List.mem_append_right _ (List.mem_of_getElem? (i := 611) rfl)) rfl
set_option maxRecDepth 20000 in
theorem wx_M_parts : xcode m_M_parts ∈ xT := xT_in (List.mem_append_right _ (List.mem_of_getElem? (i := 614) rfl)) rfl
set_option maxRecDepth 20000 in
theorem wv_M_parts : Cond.instanceMethod m_M_parts.1 ∈ xT := xT_in (List.mem_append_right _ (List.mem_of_getElem? (i := 613) rfl)) rfl
set_option maxRecDepth 20000 in
theorem wz_M_parts : Cond.selects "PieceTextsModel" m_M_parts.1 m_M_parts.1 ∈ xT := xT_in (List.mem_append_left _ (List.mem_of_getElem? (i := 29) rfl)) rfl
theorem wc_M_parts : xwV m_M_parts "PieceTextsModel" 2 := ⟨wv_M_parts, wz_M_parts, wi_M, wx_M_parts, ⟨by decide, by decide⟩, by decide +kernel, by decide⟩
set_option maxRecDepth 20000 in
theorem wm_M_55 : xml "PieceTextsModel" 55 m_M_pieces.1 none ∈ xT := xT_in (List.mem_append_right _ (List.mem_of_getElem? (i := 607) rfl)) rfl
set_option maxRecDepth 20000 in
theorem wx_M_pieces : xcode m_M_pieces ∈ xT := xT_in (List.mem_append_right _ (List.mem_of_getElem? (i := 610) rfl)) rfl
set_option maxRecDepth 20000 in
theorem wv_M_pieces : Cond.instanceMethod m_M_pieces.1 ∈ xT := xT_in (List.mem_append_right _ (List.mem_of_getElem? (i := 609) rfl)) rfl
set_option maxRecDepth 20000 in
theorem wz_M_pieces : Cond.selects "PieceTextsModel" m_M_pieces.1 m_M_pieces.1 ∈ xT := xT_in (List.mem_append_left _ (List.mem_of_getElem? (i := 28) rfl)) rfl
theorem wc_M_pieces : xwV m_M_pieces "PieceTextsModel" 1 := ⟨wv_M_pieces, wz_M_pieces, wi_M, wx_M_pieces, ⟨by decide, by decide⟩, by decide +kernel, by decide⟩
set_option maxRecDepth 20000 in
theorem wm_M_66 : xml "PieceTextsModel" 66 m_M_remove.1 none ∈ xT := xT_in (List.mem_append_right _ (List.mem_of_getElem? (i := 615) rfl)) rfl
set_option maxRecDepth 20000 in
theorem wx_M_remove : xcode m_M_remove ∈ xT := xT_in (List.mem_append_right _ (List.mem_of_getElem? (i := 618) rfl)) rfl
set_option maxRecDepth 20000 in
theorem wv_M_remove : Cond.instanceMethod m_M_remove.1 ∈ xT := xT_in (List.mem_append_right _ (List.mem_of_getElem? (i := 617) rfl)) rfl
set_option maxRecDepth 20000 in
theorem wz_M_remove : Cond.selects "PieceTextsModel" m_M_remove.1 m_M_remove.1 ∈ xT := xT_in (List.mem_append_left _ (List.mem_of_getElem? (i := 30) rfl)) rfl
theorem wc_M_remove : xwV m_M_remove "PieceTextsModel" 3 := ⟨wv_M_remove, wz_M_remove, wi_M, wx_M_remove, ⟨by decide, by decide⟩, by decide +kernel, by decide⟩
set_option maxRecDepth 20000 in
theorem wm_M_62 : xml "PieceTextsModel" 62 m_M_allPieces.1 none ∈ xT := xT_in (List.mem_append_right _ (List.mem_of_getElem? (i := 603) rfl)) rfl
set_option maxRecDepth 20000 in
theorem wx_M_allPieces : xcode m_M_allPieces ∈ xT := xT_in (List.mem_append_right _ (List.mem_of_getElem? (i := 606) rfl)) rfl
set_option maxRecDepth 20000 in
theorem wv_M_allPieces : Cond.instanceMethod m_M_allPieces.1 ∈ xT := xT_in (List.mem_append_right _ (List.mem_of_getElem? (i := 605) rfl)) rfl
set_option maxRecDepth 20000 in
theorem wz_M_allPieces : Cond.selects "PieceTextsModel" m_M_allPieces.1 m_M_allPieces.1 ∈ xT := xT_in (List.mem_append_left _ (List.mem_of_getElem? (i := 27) rfl)) rfl
theorem wc_M_allPieces : xwV m_M_allPieces "PieceTextsModel" 0 := ⟨wv_M_allPieces, wz_M_allPieces, wi_M, wx_M_allPieces, ⟨by decide, by decide⟩, by decide +kernel, by decide⟩
set_option maxRecDepth 20000 in
theorem wm_M_58 : xml "PieceTextsModel" 58 m_M_insert.1 none ∈ xT := xT_in (List.mem_append_right _ (List.mem_of_getElem? (i := 599) rfl)) rfl
set_option maxRecDepth 20000 in
theorem wx_M_insert : xcode m_M_insert ∈ xT := xT_in (List.mem_append_right _ (List.mem_of_getElem? (i := 602) rfl)) rfl
set_option maxRecDepth 20000 in
theorem wv_M_insert : Cond.instanceMethod m_M_insert.1 ∈ xT := xT_in (List.mem_append_right _ (List.mem_of_getElem? (i := 601) rfl)) rfl
set_option maxRecDepth 20000 in
theorem wz_M_insert : Cond.selects "PieceTextsModel" m_M_insert.1 m_M_insert.1 ∈ xT := xT_in (List.mem_append_left _ (List.mem_of_getElem? (i := 26) rfl)) rfl
theorem wc_M_insert : xwV m_M_insert "PieceTextsModel" 3 := ⟨wv_M_insert, wz_M_insert, wi_M, wx_M_insert, ⟨by decide, by decide⟩, by decide +kernel, by decide⟩
set_option maxRecDepth 20000 in
theorem wm_M_69 : xml "PieceTextsModel" 69 m_M_isRange.1 none ∈ xT := xT_in (List.mem_append_right _ (List.mem_of_getElem? (i := 623) rfl)) rfl
set_option maxRecDepth 20000 in
theorem wx_M_isRange : xcode m_M_isRange ∈ xT := xT_in (List.mem_append_right _ (List.mem_of_getElem? (i := 626) rfl)) rfl
set_option maxRecDepth 20000 in
theorem wv_M_isRange : Cond.instanceMethod m_M_isRange.1 ∈ xT := xT_in (List.mem_append_right _ (List.mem_of_getElem? (i := 625) rfl)) rfl
set_option maxRecDepth 20000 in
theorem wz_M_isRange : Cond.selects "PieceTextsModel" m_M_isRange.1 m_M_isRange.1 ∈ xT := xT_in (List.mem_append_left _ (List.mem_of_getElem? (i := 31) rfl)) rfl
theorem wc_M_isRange : xwV m_M_isRange "PieceTextsModel" 3 := ⟨wv_M_isRange, wz_M_isRange, wi_M, wx_M_isRange, ⟨by decide, by decide⟩, by decide +kernel, by decide⟩
set_option maxRecDepth 20000 in
theorem wm_M_73 : xml "PieceTextsModel" 73 m_M_keep.1 none ∈ xT := xT_in (List.mem_append_right _ (List.mem_of_getElem? (i := 627) rfl)) rfl
set_option maxRecDepth 20000 in
theorem wx_M_keep : xcode m_M_keep ∈ xT := xT_in (List.mem_append_right _ (List.mem_of_getElem? (i := 630) rfl)) rfl
set_option maxRecDepth 20000 in
theorem wv_M_keep : Cond.instanceMethod m_M_keep.1 ∈ xT := xT_in (List.mem_append_right _ (List.mem_of_getElem? (i := 629) rfl)) rfl
set_option maxRecDepth 20000 in
theorem wz_M_keep : Cond.selects "PieceTextsModel" m_M_keep.1 m_M_keep.1 ∈ xT := xT_in (List.mem_append_left _ (List.mem_of_getElem? (i := 32) rfl)) rfl
theorem wc_M_keep : xwV m_M_keep "PieceTextsModel" 3 := ⟨wv_M_keep, wz_M_keep, wi_M, wx_M_keep, ⟨by decide, by decide⟩, by decide +kernel, by decide⟩
set_option maxRecDepth 20000 in
theorem wq_0 : Cond.castable (xE 0) (xE 0) ∈ xT := xT_in (List.mem_append_right _ (List.mem_of_getElem? (i := 106) rfl)) rfl
set_option maxRecDepth 20000 in
theorem wg_L_13 : Cond.classLink "PieceTextsLaw" 13 (xE 0) ∈ xT := xT_in (List.mem_append_right _ (List.mem_of_getElem? (i := 94) rfl)) rfl
set_option maxRecDepth 20000 in
theorem wq_1 : Cond.castable (xE 1) (xE 1) ∈ xT := xT_in (List.mem_append_right _ (List.mem_of_getElem? (i := 173) rfl)) rfl
set_option maxRecDepth 20000 in
theorem wg_L_15 : Cond.classLink "PieceTextsLaw" 15 (xE 1) ∈ xT := xT_in (List.mem_append_right _ (List.mem_of_getElem? (i := 95) rfl)) rfl
set_option maxRecDepth 20000 in
theorem wm_L_7 : xml "PieceTextsLaw" 7 m_P_write.1 none ∈ xT := xT_in (List.mem_append_right _ (List.mem_of_getElem? (i := 96) rfl)) rfl
set_option maxRecDepth 20000 in
theorem wx_P_write : xcode m_P_write ∈ xT := xT_in (List.mem_append_right _ (List.mem_of_getElem? (i := 99) rfl)) rfl
set_option maxRecDepth 20000 in
theorem wv_P_write : Cond.instanceMethod m_P_write.1 ∈ xT := xT_in (List.mem_append_right _ (List.mem_of_getElem? (i := 97) rfl)) rfl
set_option maxRecDepth 20000 in
theorem wz_P_write : Cond.selects "PieceTexts" m_P_write.1 m_P_write.1 ∈ xT := xT_in (List.mem_append_right _ (List.mem_of_getElem? (i := 98) rfl)) rfl
theorem wc_P_write : xwV m_P_write "PieceTexts" 1 := ⟨wv_P_write, wz_P_write, wi_P, wx_P_write, ⟨by decide, by decide⟩, by decide +kernel, by decide⟩
set_option maxRecDepth 20000 in
theorem wq_2 : Cond.castable (xE 2) (xE 2) ∈ xT := xT_in (List.mem_append_right _ (List.mem_of_getElem? (i := 209) rfl)) rfl
set_option maxRecDepth 20000 in
theorem wg_L_21 : Cond.classLink "PieceTextsLaw" 21 (xE 2) ∈ xT := xT_in (List.mem_append_right _ (List.mem_of_getElem? (i := 194) rfl)) rfl
set_option maxRecDepth 20000 in
theorem wm_L_17 : xml "PieceTextsLaw" 17 m_P_put.1 none ∈ xT := xT_in (List.mem_append_right _ (List.mem_of_getElem? (i := 195) rfl)) rfl
set_option maxRecDepth 20000 in
theorem wx_P_put : xcode m_P_put ∈ xT := xT_in (List.mem_append_right _ (List.mem_of_getElem? (i := 198) rfl)) rfl
set_option maxRecDepth 20000 in
theorem wv_P_put : Cond.instanceMethod m_P_put.1 ∈ xT := xT_in (List.mem_append_right _ (List.mem_of_getElem? (i := 196) rfl)) rfl
set_option maxRecDepth 20000 in
theorem wz_P_put : Cond.selects "PieceTexts" m_P_put.1 m_P_put.1 ∈ xT := xT_in (List.mem_append_right _ (List.mem_of_getElem? (i := 197) rfl)) rfl
theorem wc_P_put : xwV m_P_put "PieceTexts" 5 := ⟨wv_P_put, wz_P_put, wi_P, wx_P_put, ⟨by decide, by decide⟩, by decide +kernel, by decide⟩
set_option maxRecDepth 20000 in
theorem wm_L_23 : xml "PieceTextsLaw" 23 m_P_cut.1 none ∈ xT := xT_in (List.mem_append_right _ (List.mem_of_getElem? (i := 390) rfl)) rfl
set_option maxRecDepth 20000 in
theorem wx_P_cut : xcode m_P_cut ∈ xT := xT_in (List.mem_append_right _ (List.mem_of_getElem? (i := 393) rfl)) rfl
set_option maxRecDepth 20000 in
theorem wv_P_cut : Cond.instanceMethod m_P_cut.1 ∈ xT := xT_in (List.mem_append_right _ (List.mem_of_getElem? (i := 391) rfl)) rfl
set_option maxRecDepth 20000 in
theorem wz_P_cut : Cond.selects "PieceTexts" m_P_cut.1 m_P_cut.1 ∈ xT := xT_in (List.mem_append_right _ (List.mem_of_getElem? (i := 392) rfl)) rfl
theorem wc_P_cut : xwV m_P_cut "PieceTexts" 4 := ⟨wv_P_cut, wz_P_cut, wi_P, wx_P_cut, ⟨by decide, by decide⟩, by decide +kernel, by decide⟩
set_option maxRecDepth 20000 in
theorem wm_L_27 : xml "PieceTextsLaw" 27 m_P_paste.1 none ∈ xT := xT_in (List.mem_append_right _ (List.mem_of_getElem? (i := 413) rfl)) rfl
set_option maxRecDepth 20000 in
theorem wx_P_paste : xcode m_P_paste ∈ xT := xT_in (List.mem_append_right _ (List.mem_of_getElem? (i := 416) rfl)) rfl
set_option maxRecDepth 20000 in
theorem wv_P_paste : Cond.instanceMethod m_P_paste.1 ∈ xT := xT_in (List.mem_append_right _ (List.mem_of_getElem? (i := 414) rfl)) rfl
set_option maxRecDepth 20000 in
theorem wz_P_paste : Cond.selects "PieceTexts" m_P_paste.1 m_P_paste.1 ∈ xT := xT_in (List.mem_append_right _ (List.mem_of_getElem? (i := 415) rfl)) rfl
theorem wc_P_paste : xwV m_P_paste "PieceTexts" 3 := ⟨wv_P_paste, wz_P_paste, wi_P, wx_P_paste, ⟨by decide, by decide⟩, by decide +kernel, by decide⟩
set_option maxRecDepth 20000 in
theorem wm_L_31 : xml "PieceTextsLaw" 31 m_P_copy.1 none ∈ xT := xT_in (List.mem_append_right _ (List.mem_of_getElem? (i := 424) rfl)) rfl
set_option maxRecDepth 20000 in
theorem wx_P_copy : xcode m_P_copy ∈ xT := xT_in (List.mem_append_right _ (List.mem_of_getElem? (i := 427) rfl)) rfl
set_option maxRecDepth 20000 in
theorem wv_P_copy : Cond.instanceMethod m_P_copy.1 ∈ xT := xT_in (List.mem_append_right _ (List.mem_of_getElem? (i := 425) rfl)) rfl
set_option maxRecDepth 20000 in
theorem wz_P_copy : Cond.selects "PieceTexts" m_P_copy.1 m_P_copy.1 ∈ xT := xT_in (List.mem_append_right _ (List.mem_of_getElem? (i := 426) rfl)) rfl
theorem wc_P_copy : xwV m_P_copy "PieceTexts" 4 := ⟨wv_P_copy, wz_P_copy, wi_P, wx_P_copy, ⟨by decide, by decide⟩, by decide +kernel, by decide⟩
set_option maxRecDepth 20000 in
theorem wm_L_34 : xml "PieceTextsLaw" 34 m_P_tag.1 none ∈ xT := xT_in (List.mem_append_right _ (List.mem_of_getElem? (i := 439) rfl)) rfl
set_option maxRecDepth 20000 in
theorem wx_P_tag : xcode m_P_tag ∈ xT := xT_in (List.mem_append_right _ (List.mem_of_getElem? (i := 442) rfl)) rfl
set_option maxRecDepth 20000 in
theorem wv_P_tag : Cond.instanceMethod m_P_tag.1 ∈ xT := xT_in (List.mem_append_right _ (List.mem_of_getElem? (i := 440) rfl)) rfl
set_option maxRecDepth 20000 in
theorem wz_P_tag : Cond.selects "PieceTexts" m_P_tag.1 m_P_tag.1 ∈ xT := xT_in (List.mem_append_right _ (List.mem_of_getElem? (i := 441) rfl)) rfl
theorem wc_P_tag : xwV m_P_tag "PieceTexts" 5 := ⟨wv_P_tag, wz_P_tag, wi_P, wx_P_tag, ⟨by decide, by decide⟩, by decide +kernel, by decide⟩
set_option maxRecDepth 20000 in
theorem wm_L_37 : xml "PieceTextsLaw" 37 m_P_wipe.1 none ∈ xT := xT_in (List.mem_append_right _ (List.mem_of_getElem? (i := 463) rfl)) rfl
set_option maxRecDepth 20000 in
theorem wx_P_wipe : xcode m_P_wipe ∈ xT := xT_in (List.mem_append_right _ (List.mem_of_getElem? (i := 466) rfl)) rfl
set_option maxRecDepth 20000 in
theorem wv_P_wipe : Cond.instanceMethod m_P_wipe.1 ∈ xT := xT_in (List.mem_append_right _ (List.mem_of_getElem? (i := 464) rfl)) rfl
set_option maxRecDepth 20000 in
theorem wz_P_wipe : Cond.selects "PieceTexts" m_P_wipe.1 m_P_wipe.1 ∈ xT := xT_in (List.mem_append_right _ (List.mem_of_getElem? (i := 465) rfl)) rfl
theorem wc_P_wipe : xwV m_P_wipe "PieceTexts" 1 := ⟨wv_P_wipe, wz_P_wipe, wi_P, wx_P_wipe, ⟨by decide, by decide⟩, by decide +kernel, by decide⟩
set_option maxRecDepth 20000 in
theorem wm_L_41 : xml "PieceTextsLaw" 41 m_P_look.1 none ∈ xT := xT_in (List.mem_append_right _ (List.mem_of_getElem? (i := 475) rfl)) rfl
set_option maxRecDepth 20000 in
theorem wx_P_look : xcode m_P_look ∈ xT := xT_in (List.mem_append_right _ (List.mem_of_getElem? (i := 478) rfl)) rfl
set_option maxRecDepth 20000 in
theorem wv_P_look : Cond.instanceMethod m_P_look.1 ∈ xT := xT_in (List.mem_append_right _ (List.mem_of_getElem? (i := 476) rfl)) rfl
set_option maxRecDepth 20000 in
theorem wz_P_look : Cond.selects "PieceTexts" m_P_look.1 m_P_look.1 ∈ xT := xT_in (List.mem_append_right _ (List.mem_of_getElem? (i := 477) rfl)) rfl
theorem wc_P_look : xwV m_P_look "PieceTexts" 3 := ⟨wv_P_look, wz_P_look, wi_P, wx_P_look, ⟨by decide, by decide⟩, by decide +kernel, by decide⟩
set_option maxRecDepth 20000 in
theorem wm_L_44 : xml "PieceTextsLaw" 44 m_P_piece.1 none ∈ xT := xT_in (List.mem_append_right _ (List.mem_of_getElem? (i := 490) rfl)) rfl
set_option maxRecDepth 20000 in
theorem wx_P_piece : xcode m_P_piece ∈ xT := xT_in (List.mem_append_right _ (List.mem_of_getElem? (i := 493) rfl)) rfl
set_option maxRecDepth 20000 in
theorem wv_P_piece : Cond.instanceMethod m_P_piece.1 ∈ xT := xT_in (List.mem_append_right _ (List.mem_of_getElem? (i := 491) rfl)) rfl
set_option maxRecDepth 20000 in
theorem wz_P_piece : Cond.selects "PieceTexts" m_P_piece.1 m_P_piece.1 ∈ xT := xT_in (List.mem_append_right _ (List.mem_of_getElem? (i := 492) rfl)) rfl
theorem wc_P_piece : xwV m_P_piece "PieceTexts" 3 := ⟨wv_P_piece, wz_P_piece, wi_P, wx_P_piece, ⟨by decide, by decide⟩, by decide +kernel, by decide⟩
set_option maxRecDepth 20000 in
theorem wm_L_47 : xml "PieceTextsLaw" 47 m_P_find.1 none ∈ xT := xT_in (List.mem_append_right _ (List.mem_of_getElem? (i := 501) rfl)) rfl
set_option maxRecDepth 20000 in
theorem wx_P_find : xcode m_P_find ∈ xT := xT_in (List.mem_append_right _ (List.mem_of_getElem? (i := 504) rfl)) rfl
set_option maxRecDepth 20000 in
theorem wv_P_find : Cond.instanceMethod m_P_find.1 ∈ xT := xT_in (List.mem_append_right _ (List.mem_of_getElem? (i := 502) rfl)) rfl
set_option maxRecDepth 20000 in
theorem wz_P_find : Cond.selects "PieceTexts" m_P_find.1 m_P_find.1 ∈ xT := xT_in (List.mem_append_right _ (List.mem_of_getElem? (i := 503) rfl)) rfl
theorem wc_P_find : xwV m_P_find "PieceTexts" 3 := ⟨wv_P_find, wz_P_find, wi_P, wx_P_find, ⟨by decide, by decide⟩, by decide +kernel, by decide⟩
set_option maxRecDepth 20000 in
theorem wm_L_50 : xml "PieceTextsLaw" 50 m_P_differ.1 none ∈ xT := xT_in (List.mem_append_right _ (List.mem_of_getElem? (i := 534) rfl)) rfl
set_option maxRecDepth 20000 in
theorem wx_P_differ : xcode m_P_differ ∈ xT := xT_in (List.mem_append_right _ (List.mem_of_getElem? (i := 537) rfl)) rfl
set_option maxRecDepth 20000 in
theorem wv_P_differ : Cond.instanceMethod m_P_differ.1 ∈ xT := xT_in (List.mem_append_right _ (List.mem_of_getElem? (i := 535) rfl)) rfl
set_option maxRecDepth 20000 in
theorem wz_P_differ : Cond.selects "PieceTexts" m_P_differ.1 m_P_differ.1 ∈ xT := xT_in (List.mem_append_right _ (List.mem_of_getElem? (i := 536) rfl)) rfl
theorem wc_P_differ : xwV m_P_differ "PieceTexts" 2 := ⟨wv_P_differ, wz_P_differ, wi_P, wx_P_differ, ⟨by decide, by decide⟩, by decide +kernel, by decide⟩
set_option maxRecDepth 20000 in
theorem wa_1 : Cond.arrayClass .long ∈ xT := xT_in (List.mem_append_right _ (List.mem_of_getElem? (i := 672) rfl)) rfl
set_option maxRecDepth 20000 in
theorem wm_L_57 : xml "PieceTextsLaw" 57 m_M_init.1 none ∈ xT := xT_in (List.mem_append_right _ (List.mem_of_getElem? (i := 541) rfl)) rfl
set_option maxRecDepth 20000 in
theorem wx_M_init : xcode m_M_init ∈ xT := xT_in (List.mem_append_right _ (List.mem_of_getElem? (i := 543) rfl)) rfl
set_option maxRecDepth 20000 in
theorem wv_M_init : Cond.instanceMethod m_M_init.1 ∈ xT := xT_in (List.mem_append_right _ (List.mem_of_getElem? (i := 542) rfl)) rfl
theorem wc_M_init : xwI m_M_init 0 := ⟨wv_M_init, rfl, ⟨_, _, rfl⟩, wi_M, wx_M_init, ⟨by decide, by decide⟩, by decide +kernel, by decide⟩
set_option maxRecDepth 20000 in
theorem wk_L_55 : Cond.classLink "PieceTextsLaw" 55 "PieceTextsModel" ∈ xT := xT_in (List.mem_append_right _ (List.mem_of_getElem? (i := 539) rfl)) rfl
set_option maxRecDepth 20000 in
theorem wn_5 : Cond.instantiable "PieceTextsModel" 8 ∈ xT := xT_in (List.mem_append_right _ (List.mem_of_getElem? (i := 540) rfl)) rfl
set_option maxRecDepth 20000 in
theorem wm_L_54 : xml "PieceTextsLaw" 54 m_P_init.1 none ∈ xT := xT_in (List.mem_append_right _ (List.mem_of_getElem? (i := 18) rfl)) rfl
set_option maxRecDepth 20000 in
theorem wx_P_init : xcode m_P_init ∈ xT := xT_in (List.mem_append_right _ (List.mem_of_getElem? (i := 20) rfl)) rfl
set_option maxRecDepth 20000 in
theorem wv_P_init : Cond.instanceMethod m_P_init.1 ∈ xT := xT_in (List.mem_append_right _ (List.mem_of_getElem? (i := 19) rfl)) rfl
theorem wc_P_init : xwI m_P_init 0 := ⟨wv_P_init, rfl, ⟨_, _, rfl⟩, wi_P, wx_P_init, ⟨by decide, by decide⟩, by decide +kernel, by decide⟩
set_option maxRecDepth 20000 in
theorem wk_L_8 : Cond.classLink "PieceTextsLaw" 8 "PieceTexts" ∈ xT := xT_in (List.mem_append_right _ (List.mem_of_getElem? (i := 16) rfl)) rfl
set_option maxRecDepth 20000 in
theorem wn_0 : Cond.instantiable "PieceTexts" 4 ∈ xT := xT_in (List.mem_append_right _ (List.mem_of_getElem? (i := 17) rfl)) rfl
set_option maxRecDepth 20000 in
theorem wl_L_58 : Cond.constantLong "PieceTextsLaw" 58 4294967295 ∈ xT := xT_in (List.mem_append_right _ (List.mem_of_getElem? (i := 671) rfl)) rfl
set_option maxRecDepth 20000 in
theorem wm_L_66 : xml "PieceTextsLaw" 66 m_M_thrown.1 none ∈ xT := xT_in (List.mem_append_right _ (List.mem_of_getElem? (i := 571) rfl)) rfl
set_option maxRecDepth 20000 in
theorem wx_M_thrown : xcode m_M_thrown ∈ xT := xT_in (List.mem_append_right _ (List.mem_of_getElem? (i := 574) rfl)) rfl
set_option maxRecDepth 20000 in
theorem wv_M_thrown : Cond.instanceMethod m_M_thrown.1 ∈ xT := xT_in (List.mem_append_right _ (List.mem_of_getElem? (i := 572) rfl)) rfl
set_option maxRecDepth 20000 in
theorem wz_M_thrown : Cond.selects "PieceTextsModel" m_M_thrown.1 m_M_thrown.1 ∈ xT := xT_in (List.mem_append_right _ (List.mem_of_getElem? (i := 573) rfl)) rfl
theorem wc_M_thrown : xwV m_M_thrown "PieceTextsModel" 0 := ⟨wv_M_thrown, wz_M_thrown, wi_M, wx_M_thrown, ⟨by decide, by decide⟩, by decide +kernel, by decide⟩
set_option maxRecDepth 20000 in
theorem wm_L_65 : xml "PieceTextsLaw" 65 m_M_write.1 none ∈ xT := xT_in (List.mem_append_right _ (List.mem_of_getElem? (i := 575) rfl)) rfl
set_option maxRecDepth 20000 in
theorem wx_M_write : xcode m_M_write ∈ xT := xT_in (List.mem_append_right _ (List.mem_of_getElem? (i := 578) rfl)) rfl
set_option maxRecDepth 20000 in
theorem wv_M_write : Cond.instanceMethod m_M_write.1 ∈ xT := xT_in (List.mem_append_right _ (List.mem_of_getElem? (i := 576) rfl)) rfl
set_option maxRecDepth 20000 in
theorem wz_M_write : Cond.selects "PieceTextsModel" m_M_write.1 m_M_write.1 ∈ xT := xT_in (List.mem_append_right _ (List.mem_of_getElem? (i := 577) rfl)) rfl
theorem wc_M_write : xwV m_M_write "PieceTextsModel" 1 := ⟨wv_M_write, wz_M_write, wi_M, wx_M_write, ⟨by decide, by decide⟩, by decide +kernel, by decide⟩
set_option maxRecDepth 20000 in
theorem wm_L_60 : xml "PieceTextsLaw" 60 m_L_write.1 none ∈ xT := xT_in (List.mem_append_right _ (List.mem_of_getElem? (i := 91) rfl)) rfl
set_option maxRecDepth 20000 in
theorem wi_L : Cond.initialized "PieceTextsLaw" ∈ xT := xT_in (List.mem_append_right _ (List.mem_of_getElem? (i := 0) rfl)) rfl
set_option maxRecDepth 20000 in
theorem wx_L_write : xcode m_L_write ∈ xT := xT_in (List.mem_append_right _ (List.mem_of_getElem? (i := 93) rfl)) rfl
set_option maxRecDepth 20000 in
theorem ws_L_write : Cond.static m_L_write.1 ∈ xT := xT_in (List.mem_append_right _ (List.mem_of_getElem? (i := 92) rfl)) rfl
theorem wc_L_write : xwS m_L_write 3 := ⟨ws_L_write, wi_L, wx_L_write, ⟨by decide, by decide⟩, by decide +kernel, by decide⟩
set_option maxRecDepth 20000 in
theorem wm_L_73 : xml "PieceTextsLaw" 73 m_M_put.1 none ∈ xT := xT_in (List.mem_append_right _ (List.mem_of_getElem? (i := 584) rfl)) rfl
set_option maxRecDepth 20000 in
theorem wx_M_put : xcode m_M_put ∈ xT := xT_in (List.mem_append_right _ (List.mem_of_getElem? (i := 587) rfl)) rfl
set_option maxRecDepth 20000 in
theorem wv_M_put : Cond.instanceMethod m_M_put.1 ∈ xT := xT_in (List.mem_append_right _ (List.mem_of_getElem? (i := 585) rfl)) rfl
set_option maxRecDepth 20000 in
theorem wz_M_put : Cond.selects "PieceTextsModel" m_M_put.1 m_M_put.1 ∈ xT := xT_in (List.mem_append_right _ (List.mem_of_getElem? (i := 586) rfl)) rfl
theorem wc_M_put : xwV m_M_put "PieceTextsModel" 5 := ⟨wv_M_put, wz_M_put, wi_M, wx_M_put, ⟨by decide, by decide⟩, by decide +kernel, by decide⟩
set_option maxRecDepth 20000 in
theorem wm_L_70 : xml "PieceTextsLaw" 70 m_L_put.1 none ∈ xT := xT_in (List.mem_append_right _ (List.mem_of_getElem? (i := 191) rfl)) rfl
set_option maxRecDepth 20000 in
theorem wx_L_put : xcode m_L_put ∈ xT := xT_in (List.mem_append_right _ (List.mem_of_getElem? (i := 193) rfl)) rfl
set_option maxRecDepth 20000 in
theorem ws_L_put : Cond.static m_L_put.1 ∈ xT := xT_in (List.mem_append_right _ (List.mem_of_getElem? (i := 192) rfl)) rfl
theorem wc_L_put : xwS m_L_put 7 := ⟨ws_L_put, wi_L, wx_L_put, ⟨by decide, by decide⟩, by decide +kernel, by decide⟩
set_option maxRecDepth 20000 in
theorem wm_L_77 : xml "PieceTextsLaw" 77 m_M_cut.1 none ∈ xT := xT_in (List.mem_append_right _ (List.mem_of_getElem? (i := 619) rfl)) rfl
set_option maxRecDepth 20000 in
theorem wx_M_cut : xcode m_M_cut ∈ xT := xT_in (List.mem_append_right _ (List.mem_of_getElem? (i := 622) rfl)) rfl
set_option maxRecDepth 20000 in
theorem wv_M_cut : Cond.instanceMethod m_M_cut.1 ∈ xT := xT_in (List.mem_append_right _ (List.mem_of_getElem? (i := 620) rfl)) rfl
set_option maxRecDepth 20000 in
theorem wz_M_cut : Cond.selects "PieceTextsModel" m_M_cut.1 m_M_cut.1 ∈ xT := xT_in (List.mem_append_right _ (List.mem_of_getElem? (i := 621) rfl)) rfl
theorem wc_M_cut : xwV m_M_cut "PieceTextsModel" 4 := ⟨wv_M_cut, wz_M_cut, wi_M, wx_M_cut, ⟨by decide, by decide⟩, by decide +kernel, by decide⟩
set_option maxRecDepth 20000 in
theorem wm_L_74 : xml "PieceTextsLaw" 74 m_L_cut.1 none ∈ xT := xT_in (List.mem_append_right _ (List.mem_of_getElem? (i := 387) rfl)) rfl
set_option maxRecDepth 20000 in
theorem wx_L_cut : xcode m_L_cut ∈ xT := xT_in (List.mem_append_right _ (List.mem_of_getElem? (i := 389) rfl)) rfl
set_option maxRecDepth 20000 in
theorem ws_L_cut : Cond.static m_L_cut.1 ∈ xT := xT_in (List.mem_append_right _ (List.mem_of_getElem? (i := 388) rfl)) rfl
theorem wc_L_cut : xwS m_L_cut 6 := ⟨ws_L_cut, wi_L, wx_L_cut, ⟨by decide, by decide⟩, by decide +kernel, by decide⟩
set_option maxRecDepth 20000 in
theorem wm_L_81 : xml "PieceTextsLaw" 81 m_M_paste.1 none ∈ xT := xT_in (List.mem_append_right _ (List.mem_of_getElem? (i := 631) rfl)) rfl
set_option maxRecDepth 20000 in
theorem wx_M_paste : xcode m_M_paste ∈ xT := xT_in (List.mem_append_right _ (List.mem_of_getElem? (i := 634) rfl)) rfl
set_option maxRecDepth 20000 in
theorem wv_M_paste : Cond.instanceMethod m_M_paste.1 ∈ xT := xT_in (List.mem_append_right _ (List.mem_of_getElem? (i := 632) rfl)) rfl
set_option maxRecDepth 20000 in
theorem wz_M_paste : Cond.selects "PieceTextsModel" m_M_paste.1 m_M_paste.1 ∈ xT := xT_in (List.mem_append_right _ (List.mem_of_getElem? (i := 633) rfl)) rfl
theorem wc_M_paste : xwV m_M_paste "PieceTextsModel" 3 := ⟨wv_M_paste, wz_M_paste, wi_M, wx_M_paste, ⟨by decide, by decide⟩, by decide +kernel, by decide⟩
set_option maxRecDepth 20000 in
theorem wm_L_78 : xml "PieceTextsLaw" 78 m_L_paste.1 none ∈ xT := xT_in (List.mem_append_right _ (List.mem_of_getElem? (i := 410) rfl)) rfl
set_option maxRecDepth 20000 in
theorem wx_L_paste : xcode m_L_paste ∈ xT := xT_in (List.mem_append_right _ (List.mem_of_getElem? (i := 412) rfl)) rfl
set_option maxRecDepth 20000 in
theorem ws_L_paste : Cond.static m_L_paste.1 ∈ xT := xT_in (List.mem_append_right _ (List.mem_of_getElem? (i := 411) rfl)) rfl
theorem wc_L_paste : xwS m_L_paste 5 := ⟨ws_L_paste, wi_L, wx_L_paste, ⟨by decide, by decide⟩, by decide +kernel, by decide⟩
set_option maxRecDepth 20000 in
theorem wm_L_84 : xml "PieceTextsLaw" 84 m_M_copy.1 none ∈ xT := xT_in (List.mem_append_right _ (List.mem_of_getElem? (i := 635) rfl)) rfl
set_option maxRecDepth 20000 in
theorem wx_M_copy : xcode m_M_copy ∈ xT := xT_in (List.mem_append_right _ (List.mem_of_getElem? (i := 638) rfl)) rfl
set_option maxRecDepth 20000 in
theorem wv_M_copy : Cond.instanceMethod m_M_copy.1 ∈ xT := xT_in (List.mem_append_right _ (List.mem_of_getElem? (i := 636) rfl)) rfl
set_option maxRecDepth 20000 in
theorem wz_M_copy : Cond.selects "PieceTextsModel" m_M_copy.1 m_M_copy.1 ∈ xT := xT_in (List.mem_append_right _ (List.mem_of_getElem? (i := 637) rfl)) rfl
theorem wc_M_copy : xwV m_M_copy "PieceTextsModel" 4 := ⟨wv_M_copy, wz_M_copy, wi_M, wx_M_copy, ⟨by decide, by decide⟩, by decide +kernel, by decide⟩
set_option maxRecDepth 20000 in
theorem wm_L_82 : xml "PieceTextsLaw" 82 m_L_copy.1 none ∈ xT := xT_in (List.mem_append_right _ (List.mem_of_getElem? (i := 421) rfl)) rfl
set_option maxRecDepth 20000 in
theorem wx_L_copy : xcode m_L_copy ∈ xT := xT_in (List.mem_append_right _ (List.mem_of_getElem? (i := 423) rfl)) rfl
set_option maxRecDepth 20000 in
theorem ws_L_copy : Cond.static m_L_copy.1 ∈ xT := xT_in (List.mem_append_right _ (List.mem_of_getElem? (i := 422) rfl)) rfl
theorem wc_L_copy : xwS m_L_copy 6 := ⟨ws_L_copy, wi_L, wx_L_copy, ⟨by decide, by decide⟩, by decide +kernel, by decide⟩
set_option maxRecDepth 20000 in
theorem wm_L_87 : xml "PieceTextsLaw" 87 m_M_tag.1 none ∈ xT := xT_in (List.mem_append_right _ (List.mem_of_getElem? (i := 639) rfl)) rfl
set_option maxRecDepth 20000 in
theorem wx_M_tag : xcode m_M_tag ∈ xT := xT_in (List.mem_append_right _ (List.mem_of_getElem? (i := 642) rfl)) rfl
set_option maxRecDepth 20000 in
theorem wv_M_tag : Cond.instanceMethod m_M_tag.1 ∈ xT := xT_in (List.mem_append_right _ (List.mem_of_getElem? (i := 640) rfl)) rfl
set_option maxRecDepth 20000 in
theorem wz_M_tag : Cond.selects "PieceTextsModel" m_M_tag.1 m_M_tag.1 ∈ xT := xT_in (List.mem_append_right _ (List.mem_of_getElem? (i := 641) rfl)) rfl
theorem wc_M_tag : xwV m_M_tag "PieceTextsModel" 5 := ⟨wv_M_tag, wz_M_tag, wi_M, wx_M_tag, ⟨by decide, by decide⟩, by decide +kernel, by decide⟩
set_option maxRecDepth 20000 in
theorem wm_L_85 : xml "PieceTextsLaw" 85 m_L_tag.1 none ∈ xT := xT_in (List.mem_append_right _ (List.mem_of_getElem? (i := 436) rfl)) rfl
set_option maxRecDepth 20000 in
theorem wx_L_tag : xcode m_L_tag ∈ xT := xT_in (List.mem_append_right _ (List.mem_of_getElem? (i := 438) rfl)) rfl
set_option maxRecDepth 20000 in
theorem ws_L_tag : Cond.static m_L_tag.1 ∈ xT := xT_in (List.mem_append_right _ (List.mem_of_getElem? (i := 437) rfl)) rfl
theorem wc_L_tag : xwS m_L_tag 7 := ⟨ws_L_tag, wi_L, wx_L_tag, ⟨by decide, by decide⟩, by decide +kernel, by decide⟩
set_option maxRecDepth 20000 in
theorem wm_L_91 : xml "PieceTextsLaw" 91 m_M_wipe.1 none ∈ xT := xT_in (List.mem_append_right _ (List.mem_of_getElem? (i := 643) rfl)) rfl
set_option maxRecDepth 20000 in
theorem wx_M_wipe : xcode m_M_wipe ∈ xT := xT_in (List.mem_append_right _ (List.mem_of_getElem? (i := 646) rfl)) rfl
set_option maxRecDepth 20000 in
theorem wv_M_wipe : Cond.instanceMethod m_M_wipe.1 ∈ xT := xT_in (List.mem_append_right _ (List.mem_of_getElem? (i := 644) rfl)) rfl
set_option maxRecDepth 20000 in
theorem wz_M_wipe : Cond.selects "PieceTextsModel" m_M_wipe.1 m_M_wipe.1 ∈ xT := xT_in (List.mem_append_right _ (List.mem_of_getElem? (i := 645) rfl)) rfl
theorem wc_M_wipe : xwV m_M_wipe "PieceTextsModel" 1 := ⟨wv_M_wipe, wz_M_wipe, wi_M, wx_M_wipe, ⟨by decide, by decide⟩, by decide +kernel, by decide⟩
set_option maxRecDepth 20000 in
theorem wm_L_88 : xml "PieceTextsLaw" 88 m_L_wipe.1 none ∈ xT := xT_in (List.mem_append_right _ (List.mem_of_getElem? (i := 460) rfl)) rfl
set_option maxRecDepth 20000 in
theorem wx_L_wipe : xcode m_L_wipe ∈ xT := xT_in (List.mem_append_right _ (List.mem_of_getElem? (i := 462) rfl)) rfl
set_option maxRecDepth 20000 in
theorem ws_L_wipe : Cond.static m_L_wipe.1 ∈ xT := xT_in (List.mem_append_right _ (List.mem_of_getElem? (i := 461) rfl)) rfl
theorem wc_L_wipe : xwS m_L_wipe 3 := ⟨ws_L_wipe, wi_L, wx_L_wipe, ⟨by decide, by decide⟩, by decide +kernel, by decide⟩
set_option maxRecDepth 20000 in
theorem wm_L_95 : xml "PieceTextsLaw" 95 m_M_length.1 none ∈ xT := xT_in (List.mem_append_right _ (List.mem_of_getElem? (i := 647) rfl)) rfl
set_option maxRecDepth 20000 in
theorem wx_M_length : xcode m_M_length ∈ xT := xT_in (List.mem_append_right _ (List.mem_of_getElem? (i := 650) rfl)) rfl
set_option maxRecDepth 20000 in
theorem wv_M_length : Cond.instanceMethod m_M_length.1 ∈ xT := xT_in (List.mem_append_right _ (List.mem_of_getElem? (i := 648) rfl)) rfl
set_option maxRecDepth 20000 in
theorem wz_M_length : Cond.selects "PieceTextsModel" m_M_length.1 m_M_length.1 ∈ xT := xT_in (List.mem_append_right _ (List.mem_of_getElem? (i := 649) rfl)) rfl
theorem wc_M_length : xwV m_M_length "PieceTextsModel" 1 := ⟨wv_M_length, wz_M_length, wi_M, wx_M_length, ⟨by decide, by decide⟩, by decide +kernel, by decide⟩
set_option maxRecDepth 20000 in
theorem wm_L_92 : xml "PieceTextsLaw" 92 m_P_length.1 none ∈ xT := xT_in (List.mem_append_right _ (List.mem_of_getElem? (i := 50) rfl)) rfl
set_option maxRecDepth 20000 in
theorem wx_P_length : xcode m_P_length ∈ xT := xT_in (List.mem_append_right _ (List.mem_of_getElem? (i := 53) rfl)) rfl
set_option maxRecDepth 20000 in
theorem wv_P_length : Cond.instanceMethod m_P_length.1 ∈ xT := xT_in (List.mem_append_right _ (List.mem_of_getElem? (i := 51) rfl)) rfl
set_option maxRecDepth 20000 in
theorem wz_P_length : Cond.selects "PieceTexts" m_P_length.1 m_P_length.1 ∈ xT := xT_in (List.mem_append_right _ (List.mem_of_getElem? (i := 52) rfl)) rfl
theorem wc_P_length : xwV m_P_length "PieceTexts" 1 := ⟨wv_P_length, wz_P_length, wi_P, wx_P_length, ⟨by decide, by decide⟩, by decide +kernel, by decide⟩
set_option maxRecDepth 20000 in
theorem wm_L_98 : xml "PieceTextsLaw" 98 m_M_look.1 none ∈ xT := xT_in (List.mem_append_right _ (List.mem_of_getElem? (i := 651) rfl)) rfl
set_option maxRecDepth 20000 in
theorem wx_M_look : xcode m_M_look ∈ xT := xT_in (List.mem_append_right _ (List.mem_of_getElem? (i := 654) rfl)) rfl
set_option maxRecDepth 20000 in
theorem wv_M_look : Cond.instanceMethod m_M_look.1 ∈ xT := xT_in (List.mem_append_right _ (List.mem_of_getElem? (i := 652) rfl)) rfl
set_option maxRecDepth 20000 in
theorem wz_M_look : Cond.selects "PieceTextsModel" m_M_look.1 m_M_look.1 ∈ xT := xT_in (List.mem_append_right _ (List.mem_of_getElem? (i := 653) rfl)) rfl
theorem wc_M_look : xwV m_M_look "PieceTextsModel" 3 := ⟨wv_M_look, wz_M_look, wi_M, wx_M_look, ⟨by decide, by decide⟩, by decide +kernel, by decide⟩
set_option maxRecDepth 20000 in
theorem wm_L_96 : xml "PieceTextsLaw" 96 m_L_look.1 none ∈ xT := xT_in (List.mem_append_right _ (List.mem_of_getElem? (i := 472) rfl)) rfl
set_option maxRecDepth 20000 in
theorem wx_L_look : xcode m_L_look ∈ xT := xT_in (List.mem_append_right _ (List.mem_of_getElem? (i := 474) rfl)) rfl
set_option maxRecDepth 20000 in
theorem ws_L_look : Cond.static m_L_look.1 ∈ xT := xT_in (List.mem_append_right _ (List.mem_of_getElem? (i := 473) rfl)) rfl
theorem wc_L_look : xwS m_L_look 5 := ⟨ws_L_look, wi_L, wx_L_look, ⟨by decide, by decide⟩, by decide +kernel, by decide⟩
set_option maxRecDepth 20000 in
theorem wm_L_101 : xml "PieceTextsLaw" 101 m_M_piece.1 none ∈ xT := xT_in (List.mem_append_right _ (List.mem_of_getElem? (i := 655) rfl)) rfl
set_option maxRecDepth 20000 in
theorem wx_M_piece : xcode m_M_piece ∈ xT := xT_in (List.mem_append_right _ (List.mem_of_getElem? (i := 658) rfl)) rfl
set_option maxRecDepth 20000 in
theorem wv_M_piece : Cond.instanceMethod m_M_piece.1 ∈ xT := xT_in (List.mem_append_right _ (List.mem_of_getElem? (i := 656) rfl)) rfl
set_option maxRecDepth 20000 in
theorem wz_M_piece : Cond.selects "PieceTextsModel" m_M_piece.1 m_M_piece.1 ∈ xT := xT_in (List.mem_append_right _ (List.mem_of_getElem? (i := 657) rfl)) rfl
theorem wc_M_piece : xwV m_M_piece "PieceTextsModel" 3 := ⟨wv_M_piece, wz_M_piece, wi_M, wx_M_piece, ⟨by decide, by decide⟩, by decide +kernel, by decide⟩
set_option maxRecDepth 20000 in
theorem wm_L_99 : xml "PieceTextsLaw" 99 m_L_piece.1 none ∈ xT := xT_in (List.mem_append_right _ (List.mem_of_getElem? (i := 487) rfl)) rfl
set_option maxRecDepth 20000 in
theorem wx_L_piece : xcode m_L_piece ∈ xT := xT_in (List.mem_append_right _ (List.mem_of_getElem? (i := 489) rfl)) rfl
set_option maxRecDepth 20000 in
theorem ws_L_piece : Cond.static m_L_piece.1 ∈ xT := xT_in (List.mem_append_right _ (List.mem_of_getElem? (i := 488) rfl)) rfl
theorem wc_L_piece : xwS m_L_piece 5 := ⟨ws_L_piece, wi_L, wx_L_piece, ⟨by decide, by decide⟩, by decide +kernel, by decide⟩
set_option maxRecDepth 20000 in
theorem wm_L_104 : xml "PieceTextsLaw" 104 m_M_find.1 none ∈ xT := xT_in (List.mem_append_right _ (List.mem_of_getElem? (i := 659) rfl)) rfl
set_option maxRecDepth 20000 in
theorem wx_M_find : xcode m_M_find ∈ xT := xT_in (List.mem_append_right _ (List.mem_of_getElem? (i := 662) rfl)) rfl
set_option maxRecDepth 20000 in
theorem wv_M_find : Cond.instanceMethod m_M_find.1 ∈ xT := xT_in (List.mem_append_right _ (List.mem_of_getElem? (i := 660) rfl)) rfl
set_option maxRecDepth 20000 in
theorem wz_M_find : Cond.selects "PieceTextsModel" m_M_find.1 m_M_find.1 ∈ xT := xT_in (List.mem_append_right _ (List.mem_of_getElem? (i := 661) rfl)) rfl
theorem wc_M_find : xwV m_M_find "PieceTextsModel" 3 := ⟨wv_M_find, wz_M_find, wi_M, wx_M_find, ⟨by decide, by decide⟩, by decide +kernel, by decide⟩
set_option maxRecDepth 20000 in
theorem wm_L_102 : xml "PieceTextsLaw" 102 m_L_find.1 none ∈ xT := xT_in (List.mem_append_right _ (List.mem_of_getElem? (i := 498) rfl)) rfl
set_option maxRecDepth 20000 in
theorem wx_L_find : xcode m_L_find ∈ xT := xT_in (List.mem_append_right _ (List.mem_of_getElem? (i := 500) rfl)) rfl
set_option maxRecDepth 20000 in
theorem ws_L_find : Cond.static m_L_find.1 ∈ xT := xT_in (List.mem_append_right _ (List.mem_of_getElem? (i := 499) rfl)) rfl
theorem wc_L_find : xwS m_L_find 5 := ⟨ws_L_find, wi_L, wx_L_find, ⟨by decide, by decide⟩, by decide +kernel, by decide⟩
set_option maxRecDepth 20000 in
theorem wm_L_108 : xml "PieceTextsLaw" 108 m_M_differ.1 none ∈ xT := xT_in (List.mem_append_right _ (List.mem_of_getElem? (i := 663) rfl)) rfl
set_option maxRecDepth 20000 in
theorem wx_M_differ : xcode m_M_differ ∈ xT := xT_in (List.mem_append_right _ (List.mem_of_getElem? (i := 666) rfl)) rfl
set_option maxRecDepth 20000 in
theorem wv_M_differ : Cond.instanceMethod m_M_differ.1 ∈ xT := xT_in (List.mem_append_right _ (List.mem_of_getElem? (i := 664) rfl)) rfl
set_option maxRecDepth 20000 in
theorem wz_M_differ : Cond.selects "PieceTextsModel" m_M_differ.1 m_M_differ.1 ∈ xT := xT_in (List.mem_append_right _ (List.mem_of_getElem? (i := 665) rfl)) rfl
theorem wc_M_differ : xwV m_M_differ "PieceTextsModel" 2 := ⟨wv_M_differ, wz_M_differ, wi_M, wx_M_differ, ⟨by decide, by decide⟩, by decide +kernel, by decide⟩
set_option maxRecDepth 20000 in
theorem wm_L_105 : xml "PieceTextsLaw" 105 m_L_differ.1 none ∈ xT := xT_in (List.mem_append_right _ (List.mem_of_getElem? (i := 531) rfl)) rfl
set_option maxRecDepth 20000 in
theorem wx_L_differ : xcode m_L_differ ∈ xT := xT_in (List.mem_append_right _ (List.mem_of_getElem? (i := 533) rfl)) rfl
set_option maxRecDepth 20000 in
theorem ws_L_differ : Cond.static m_L_differ.1 ∈ xT := xT_in (List.mem_append_right _ (List.mem_of_getElem? (i := 532) rfl)) rfl
theorem wc_L_differ : xwS m_L_differ 4 := ⟨ws_L_differ, wi_L, wx_L_differ, ⟨by decide, by decide⟩, by decide +kernel, by decide⟩
set_option maxRecDepth 20000 in
theorem wm_L_112 : xml "PieceTextsLaw" 112 m_M_count.1 none ∈ xT := xT_in (List.mem_append_right _ (List.mem_of_getElem? (i := 667) rfl)) rfl
set_option maxRecDepth 20000 in
theorem wx_M_count : xcode m_M_count ∈ xT := xT_in (List.mem_append_right _ (List.mem_of_getElem? (i := 670) rfl)) rfl
set_option maxRecDepth 20000 in
theorem wv_M_count : Cond.instanceMethod m_M_count.1 ∈ xT := xT_in (List.mem_append_right _ (List.mem_of_getElem? (i := 668) rfl)) rfl
set_option maxRecDepth 20000 in
theorem wz_M_count : Cond.selects "PieceTextsModel" m_M_count.1 m_M_count.1 ∈ xT := xT_in (List.mem_append_right _ (List.mem_of_getElem? (i := 669) rfl)) rfl
theorem wc_M_count : xwV m_M_count "PieceTextsModel" 1 := ⟨wv_M_count, wz_M_count, wi_M, wx_M_count, ⟨by decide, by decide⟩, by decide +kernel, by decide⟩
set_option maxRecDepth 20000 in
theorem wm_L_109 : xml "PieceTextsLaw" 109 m_P_count.1 none ∈ xT := xT_in (List.mem_append_right _ (List.mem_of_getElem? (i := 65) rfl)) rfl
set_option maxRecDepth 20000 in
theorem wx_P_count : xcode m_P_count ∈ xT := xT_in (List.mem_append_right _ (List.mem_of_getElem? (i := 68) rfl)) rfl
set_option maxRecDepth 20000 in
theorem wv_P_count : Cond.instanceMethod m_P_count.1 ∈ xT := xT_in (List.mem_append_right _ (List.mem_of_getElem? (i := 66) rfl)) rfl
set_option maxRecDepth 20000 in
theorem wz_P_count : Cond.selects "PieceTexts" m_P_count.1 m_P_count.1 ∈ xT := xT_in (List.mem_append_right _ (List.mem_of_getElem? (i := 67) rfl)) rfl
theorem wc_P_count : xwV m_P_count "PieceTexts" 1 := ⟨wv_P_count, wz_P_count, wi_P, wx_P_count, ⟨by decide, by decide⟩, by decide +kernel, by decide⟩
